/-! step rules of each method, printed by program -/
set_option maxRecDepth 20000 in
set_option maxHeartbeats 8000000 in
theorem kX0_init (d n : Nat) (I L : mm_I) (P : mm_P) :
  (∀ (st : List mm_V) z, mm_E d 0 0 [(.inr (.inr z))] [] st n I L P = mm_E d 0 1 [(.inr (.inr z))] [] ((.inr (.inr z)) :: st) n I L P) ∧
  (∀ (lv : List mm_V) a, (a < n) → mm_E d 0 1 lv [] (.inr (.inr (some a)) :: []) n I L P = mm_E d 0 4 lv [] [] n I L P) ∧
  (∀ (st : List mm_V) z, mm_E d 0 4 [(.inr (.inr z))] [] st n I L P = mm_E d 0 5 [(.inr (.inr z))] [] ((.inr (.inr z)) :: st) n I L P) ∧
  (∀ (lv : List mm_V) (st : List mm_V), (n < mm_NC ∧ (mm_ty n).1 = 5) → mm_E d 0 5 lv [] st n I L P = mm_E d 0 8 lv [] (.inr (.inr (some n)) :: st) (n + 1) (mm_zi I n) (mm_zi L n) (mm_zp P n)) ∧
  (∀ (lv : List mm_V) (st : List mm_V) a, mm_E d 0 8 lv [] ((.inr (.inr a)) :: st) n I L P = mm_E d 0 9 lv [] ((.inr (.inr a)) :: (.inr (.inr a)) :: st) n I L P) ∧
  (∀ (lv : List mm_V) a w0 w1, (a < n) → mm_E d 0 9 lv [] (.inr (.inr (some a)) :: [.inr (.inr w0), .inr (.inr w1)]) n I L P = mm_kv d 0 12 lv [] [.inr (.inr w0), .inr (.inr w1)] n (mm_rn d 39 [.inr (.inr (some a))] n I L P)) ∧
  (∀ (lv : List mm_V) (st : List mm_V) a z, (mm_ok n a 0) → mm_E d 0 12 lv [] (.inr (.inr z) :: .inr (.inr (some a)) :: st) n I L P = mm_E d 0 15 lv [] st n I L (mm_up P a 0 z)) ∧
  (∀ (st : List mm_V) z, mm_E d 0 15 [(.inr (.inr z))] [] st n I L P = mm_E d 0 16 [(.inr (.inr z))] [] ((.inr (.inr z)) :: st) n I L P) ∧
  (∀ (lv : List mm_V) (st : List mm_V), (n < mm_NC ∧ (mm_ty n).1 = 5) → mm_E d 0 16 lv [] st n I L P = mm_E d 0 19 lv [] (.inr (.inr (some n)) :: st) (n + 1) (mm_zi I n) (mm_zi L n) (mm_zp P n)) ∧
  (∀ (lv : List mm_V) (st : List mm_V) a, mm_E d 0 19 lv [] ((.inr (.inr a)) :: st) n I L P = mm_E d 0 20 lv [] ((.inr (.inr a)) :: (.inr (.inr a)) :: st) n I L P) ∧
  (∀ (lv : List mm_V) a w0 w1, (a < n) → mm_E d 0 20 lv [] (.inr (.inr (some a)) :: [.inr (.inr w0), .inr (.inr w1)]) n I L P = mm_kv d 0 23 lv [] [.inr (.inr w0), .inr (.inr w1)] n (mm_rn d 39 [.inr (.inr (some a))] n I L P)) ∧
  (∀ (lv : List mm_V) (st : List mm_V) a z, (mm_ok n a 0) → mm_E d 0 23 lv [] (.inr (.inr z) :: .inr (.inr (some a)) :: st) n I L P = mm_E d 0 26 lv [] st n I L (mm_up P a 1 z)) ∧
  (∀ (lv : List mm_V), mm_E d 0 26 lv [] [] n I L P = some (none, n, I, L, P)) :=
  ⟨fun _ _ => mq_al (i := 0) rfl rfl,
   fun _ _ h0 => mq_oi rfl h0 (Nat.le_of_ble_eq_true rfl),
   fun _ _ => mq_al (i := 0) rfl rfl,
   fun _ _ h0 => mq_new rfl h0,
   fun _ _ _ => mq_dup rfl rfl,
   fun _ _ _ _ h0 => mq_cI (na := 0) rfl rfl (Nat.le_of_ble_eq_true rfl) (Nat.le_of_ble_eq_true rfl) h0,
   fun _ _ _ _ h0 => mq_putR rfl h0,
   fun _ _ => mq_al (i := 0) rfl rfl,
   fun _ _ h0 => mq_new rfl h0,
   fun _ _ _ => mq_dup rfl rfl,
   fun _ _ _ _ h0 => mq_cI (na := 0) rfl rfl (Nat.le_of_ble_eq_true rfl) (Nat.le_of_ble_eq_true rfl) h0,
   fun _ _ _ _ h0 => mq_putR rfl h0,
   fun _ => mq_rv rfl⟩
theorem eX0_init (d n : Nat) (I L : mm_I) (P : mm_P) (x0 : Option Nat) : mm_rn (d + 1) 0 [.inr (.inr x0)] n I L P = mm_E d 0 0 [.inr (.inr x0)] [] [] n I L P := rfl

set_option maxRecDepth 20000 in
set_option maxHeartbeats 8000000 in
theorem kX0_lostWithin (d n : Nat) (I L : mm_I) (P : mm_P) :
  (∀ (st : List mm_V) z (l1 : mm_V) (l2 : mm_V) (l3 : mm_V) (l4 : mm_V), mm_E d 1 0 [(.inr (.inr z)), l1, l2, l3, l4] [] st n I L P = mm_E d 1 1 [(.inr (.inr z)), l1, l2, l3, l4] [] ((.inr (.inr z)) :: st) n I L P) ∧
  (∀ (lv : List mm_V) (st : List mm_V) a, (mm_ok n a 0) → mm_E d 1 1 lv [] (.inr (.inr (some a)) :: st) n I L P = mm_E d 1 4 lv [] (.inr (.inr (P a 0)) :: st) n I L P) ∧
  (∀ (st : List mm_V) z (l0 : mm_V) (l2 : mm_V) (l3 : mm_V) (l4 : mm_V), mm_E d 1 4 [l0, (.inr (.inr z)), l2, l3, l4] [] st n I L P = mm_E d 1 5 [l0, (.inr (.inr z)), l2, l3, l4] [] ((.inr (.inr z)) :: st) n I L P) ∧
  (∀ (lv : List mm_V) a x0, (mm_ok n a 5) → mm_E d 1 5 lv [] (.inr (.inr x0) :: .inr (.inr (some a)) :: []) n I L P = mm_kv d 1 8 lv [] [] n (mm_rn d 41 [.inr (.inr (some a)), .inr (.inr x0)] n I L P)) ∧
  (∀ (st : List mm_V) z (l1 : mm_V) (l2 : mm_V) (l3 : mm_V) (l4 : mm_V), mm_E d 1 8 [(.inr (.inr z)), l1, l2, l3, l4] [] st n I L P = mm_E d 1 9 [(.inr (.inr z)), l1, l2, l3, l4] [] ((.inr (.inr z)) :: st) n I L P) ∧
  (∀ (lv : List mm_V) (st : List mm_V) a, (mm_ok n a 0) → mm_E d 1 9 lv [] (.inr (.inr (some a)) :: st) n I L P = mm_E d 1 12 lv [] (.inr (.inr (P a 0)) :: st) n I L P) ∧
  (∀ (st : List mm_V) z (l0 : mm_V) (l1 : mm_V) (l3 : mm_V) (l4 : mm_V), mm_E d 1 12 [l0, l1, (.inr (.inr z)), l3, l4] [] st n I L P = mm_E d 1 13 [l0, l1, (.inr (.inr z)), l3, l4] [] ((.inr (.inr z)) :: st) n I L P) ∧
  (∀ (st : List mm_V) z (l0 : mm_V) (l1 : mm_V) (l2 : mm_V) (l4 : mm_V), mm_E d 1 13 [l0, l1, l2, (.inr (.inr z)), l4] [] st n I L P = mm_E d 1 14 [l0, l1, l2, (.inr (.inr z)), l4] [] ((.inr (.inr z)) :: st) n I L P) ∧
  (∀ (st : List mm_V) z (l0 : mm_V) (l1 : mm_V) (l2 : mm_V) (l3 : mm_V), mm_E d 1 14 [l0, l1, l2, l3, (.inl z)] [] st n I L P = mm_E d 1 16 [l0, l1, l2, l3, (.inl z)] [] ((.inl z) :: st) n I L P) ∧
  (∀ (lv : List mm_V) x0 x1 x2 x3, mm_E d 1 16 lv [] (.inl x3 :: .inr (.inr x2) :: .inr (.inr x1) :: .inr (.inr x0) :: []) n I L P = mm_kr d 1 19 lv [] [] n (mm_rn d 2 [.inr (.inr x0), .inr (.inr x1), .inr (.inr x2), .inl x3] n I L P)) ∧
  (∀ (lv : List mm_V) z, mm_E d 1 19 lv [] [.inl z] n I L P = some (some (.inl z), n, I, L, P)) :=
  ⟨fun _ _ _ _ _ _ => mq_al (i := 0) rfl rfl,
   fun _ _ _ h0 => mq_getR rfl h0,
   fun _ _ _ _ _ _ => mq_al (i := 1) rfl rfl,
   fun _ _ _ h0 => mq_cVv (na := 1) rfl rfl (Nat.le_of_ble_eq_true rfl) (Nat.le_of_ble_eq_true rfl) h0,
   fun _ _ _ _ _ _ => mq_al (i := 0) rfl rfl,
   fun _ _ _ h0 => mq_getR rfl h0,
   fun _ _ _ _ _ _ => mq_al (i := 2) rfl rfl,
   fun _ _ _ _ _ _ => mq_al (i := 3) rfl rfl,
   fun _ _ _ _ _ _ => mq_il (i := 4) rfl rfl,
   fun _ _ _ _ _ => mq_cSr (na := 4) rfl (Nat.le_of_ble_eq_true rfl) (Nat.le_of_ble_eq_true rfl),
   fun _ _ => mq_ri rfl⟩
theorem eX0_lostWithin (d n : Nat) (I L : mm_I) (P : mm_P) (x0 : Option Nat) (x1 : Option Nat) (x2 : Option Nat) (x3 : Option Nat) (x4 : Int) : mm_rn (d + 1) 1 [.inr (.inr x0), .inr (.inr x1), .inr (.inr x2), .inr (.inr x3), .inl x4] n I L P = mm_E d 1 0 [.inr (.inr x0), .inr (.inr x1), .inr (.inr x2), .inr (.inr x3), .inl x4] [] [] n I L P := rfl

set_option maxRecDepth 20000 in
set_option maxHeartbeats 8000000 in
theorem kX0_passHours (d n : Nat) (I L : mm_I) (P : mm_P) :
  (∀ (lv : List mm_V) (st : List mm_V), mm_E d 2 0 lv [] st n I L P = mm_E d 2 1 lv [] (.inl 0 :: st) n I L P) ∧
  (∀ (st : List mm_V) z (l0 : mm_V) (l1 : mm_V) (l2 : mm_V) (l3 : mm_V) (l4 : mm_V) (l5 : mm_V), mm_E d 2 1 [l0, l1, l2, l3, l4, l5] [] ((.inl z) :: st) n I L P = mm_E d 2 3 [l0, l1, l2, l3, (.inl z), l5] [] st n I L P) ∧
  (∀ (lv : List mm_V) (st : List mm_V), mm_E d 2 3 lv [] st n I L P = mm_E d 2 4 lv [] (.inl 0 :: st) n I L P) ∧
  (∀ (st : List mm_V) z (l0 : mm_V) (l1 : mm_V) (l2 : mm_V) (l3 : mm_V) (l4 : mm_V) (l5 : mm_V), mm_E d 2 4 [l0, l1, l2, l3, l4, l5] [] ((.inl z) :: st) n I L P = mm_E d 2 6 [l0, l1, l2, l3, l4, (.inl z)] [] st n I L P) ∧
  (∀ (st : List mm_V) z (l0 : mm_V) (l1 : mm_V) (l2 : mm_V) (l4 : mm_V) (l5 : mm_V), mm_E d 2 8 [l0, l1, l2, (.inl z), l4, l5] [] st n I L P = mm_E d 2 9 [l0, l1, l2, (.inl z), l4, l5] [] ((.inl z) :: st) n I L P) ∧
  (∀ (lv : List mm_V) (st : List mm_V) a b, mm_E d 2 9 lv [] (.inl b :: .inl a :: st) n I L P = if b ≤ a then mm_E d 2 29 lv [] st n I L P else mm_E d 2 12 lv [] st n I L P) ∧
  (∀ (st : List mm_V) z (l0 : mm_V) (l1 : mm_V) (l2 : mm_V) (l3 : mm_V) (l5 : mm_V), mm_E d 2 12 [l0, l1, l2, l3, (.inl z), l5] [] st n I L P = mm_E d 2 14 [l0, l1, l2, l3, (.inl z), l5] [] ((.inl z) :: st) n I L P) ∧
  (∀ (st : List mm_V) z (l1 : mm_V) (l2 : mm_V) (l3 : mm_V) (l4 : mm_V) (l5 : mm_V), mm_E d 2 14 [(.inr (.inr z)), l1, l2, l3, l4, l5] [] st n I L P = mm_E d 2 15 [(.inr (.inr z)), l1, l2, l3, l4, l5] [] ((.inr (.inr z)) :: st) n I L P) ∧
  (∀ (st : List mm_V) z (l0 : mm_V) (l2 : mm_V) (l3 : mm_V) (l4 : mm_V) (l5 : mm_V), mm_E d 2 15 [l0, (.inr (.inr z)), l2, l3, l4, l5] [] st n I L P = mm_E d 2 16 [l0, (.inr (.inr z)), l2, l3, l4, l5] [] ((.inr (.inr z)) :: st) n I L P) ∧
  (∀ (st : List mm_V) z (l0 : mm_V) (l1 : mm_V) (l3 : mm_V) (l4 : mm_V) (l5 : mm_V), mm_E d 2 16 [l0, l1, (.inr (.inr z)), l3, l4, l5] [] st n I L P = mm_E d 2 17 [l0, l1, (.inr (.inr z)), l3, l4, l5] [] ((.inr (.inr z)) :: st) n I L P) ∧
  (∀ (lv : List mm_V) a x0 x1 w0, (mm_ok n a 5) → mm_E d 2 17 lv [] (.inr (.inr x1) :: .inr (.inr x0) :: .inr (.inr (some a)) :: [.inl w0]) n I L P = mm_kr d 2 20 lv [] [.inl w0] n (mm_rn d 47 [.inr (.inr (some a)), .inr (.inr x0), .inr (.inr x1)] n I L P)) ∧
  (∀ (lv : List mm_V) (st : List mm_V) a b, mm_E d 2 20 lv [] (.inl b :: .inl a :: st) n I L P = mm_E d 2 21 lv [] (.inl (mm_add a b) :: st) n I L P) ∧
  (∀ (st : List mm_V) z (l0 : mm_V) (l1 : mm_V) (l2 : mm_V) (l3 : mm_V) (l4 : mm_V) (l5 : mm_V), mm_E d 2 21 [l0, l1, l2, l3, l4, l5] [] ((.inl z) :: st) n I L P = mm_E d 2 23 [l0, l1, l2, l3, (.inl z), l5] [] st n I L P) ∧
  (∀ (st : List mm_V) z (l0 : mm_V) (l1 : mm_V) (l2 : mm_V) (l3 : mm_V) (l4 : mm_V), mm_E d 2 23 [l0, l1, l2, l3, l4, (.inl z)] [] st n I L P = mm_E d 2 26 [l0, l1, l2, l3, l4, (.inl (mm_add z 1))] [] st n I L P) ∧
  (∀ (lv : List mm_V) (st : List mm_V), mm_E d 2 26 lv [] st n I L P = mm_E d 2 6 lv [] st n I L P) ∧
  (∀ (st : List mm_V) z (l0 : mm_V) (l1 : mm_V) (l2 : mm_V) (l3 : mm_V) (l5 : mm_V), mm_E d 2 29 [l0, l1, l2, l3, (.inl z), l5] [] st n I L P = mm_E d 2 31 [l0, l1, l2, l3, (.inl z), l5] [] ((.inl z) :: st) n I L P) ∧
  (∀ (lv : List mm_V) z, mm_E d 2 31 lv [] [.inl z] n I L P = some (some (.inl z), n, I, L, P)) :=
  ⟨fun _ _ => mq_push rfl,
   fun _ _ _ _ _ _ _ _ => mq_is (i := 4) rfl rfl rfl,
   fun _ _ => mq_push rfl,
   fun _ _ _ _ _ _ _ _ => mq_is (i := 5) rfl rfl rfl,
   fun _ _ _ _ _ _ _ => mq_il (i := 3) rfl rfl,
   fun _ _ _ _ => mq_ic_ge rfl,
   fun _ _ _ _ _ _ _ => mq_il (i := 4) rfl rfl,
   fun _ _ _ _ _ _ _ => mq_al (i := 0) rfl rfl,
   fun _ _ _ _ _ _ _ => mq_al (i := 1) rfl rfl,
   fun _ _ _ _ _ _ _ => mq_al (i := 2) rfl rfl,
   fun _ _ _ _ _ h0 => mq_cVr (na := 2) rfl rfl (Nat.le_of_ble_eq_true rfl) (Nat.le_of_ble_eq_true rfl) h0,
   fun _ _ _ _ => mq_bi rfl,
   fun _ _ _ _ _ _ _ _ => mq_is (i := 4) rfl rfl rfl,
   fun _ _ _ _ _ _ _ => mq_iinc (i := 5) rfl rfl rfl rfl,
   fun _ _ => mq_go rfl,
   fun _ _ _ _ _ _ _ => mq_il (i := 4) rfl rfl,
   fun _ _ => mq_ri rfl⟩
theorem hX0_passHours_6 (d n : Nat) (I L : mm_I) (P : mm_P) : ∀ (st : List mm_V) z (l0 : mm_V) (l1 : mm_V) (l2 : mm_V) (l3 : mm_V) (l4 : mm_V), mm_E d 2 6 [l0, l1, l2, l3, l4, (.inl z)] [] st n I L P = mm_E d 2 8 [l0, l1, l2, l3, l4, (.inl z)] [] ((.inl z) :: st) n I L P := fun _ _ _ _ _ _ _ => mq_il (i := 5) rfl rfl
theorem eX0_passHours (d n : Nat) (I L : mm_I) (P : mm_P) (x0 : Option Nat) (x1 : Option Nat) (x2 : Option Nat) (x3 : Int) : mm_rn (d + 1) 2 [.inr (.inr x0), .inr (.inr x1), .inr (.inr x2), .inl x3] n I L P = mm_E d 2 0 [.inr (.inr x0), .inr (.inr x1), .inr (.inr x2), .inl x3, mm_junk, mm_junk] [] [] n I L P := rfl

set_option maxRecDepth 20000 in
set_option maxHeartbeats 8000000 in
theorem kX0_lostBehindCry (d n : Nat) (I L : mm_I) (P : mm_P) :
  (∀ (st : List mm_V) z (l1 : mm_V) (l2 : mm_V) (l3 : mm_V) (l4 : mm_V), mm_E d 3 0 [(.inr (.inr z)), l1, l2, l3, l4] [] st n I L P = mm_E d 3 1 [(.inr (.inr z)), l1, l2, l3, l4] [] ((.inr (.inr z)) :: st) n I L P) ∧
  (∀ (lv : List mm_V) (st : List mm_V) a, (mm_ok n a 0) → mm_E d 3 1 lv [] (.inr (.inr (some a)) :: st) n I L P = mm_E d 3 4 lv [] (.inr (.inr (P a 1)) :: st) n I L P) ∧
  (∀ (st : List mm_V) z (l0 : mm_V) (l2 : mm_V) (l3 : mm_V) (l4 : mm_V), mm_E d 3 4 [l0, (.inr (.inr z)), l2, l3, l4] [] st n I L P = mm_E d 3 5 [l0, (.inr (.inr z)), l2, l3, l4] [] ((.inr (.inr z)) :: st) n I L P) ∧
  (∀ (lv : List mm_V) a x0, (mm_ok n a 5) → mm_E d 3 5 lv [] (.inr (.inr x0) :: .inr (.inr (some a)) :: []) n I L P = mm_kv d 3 8 lv [] [] n (mm_rn d 41 [.inr (.inr (some a)), .inr (.inr x0)] n I L P)) ∧
  (∀ (st : List mm_V) z (l1 : mm_V) (l2 : mm_V) (l3 : mm_V) (l4 : mm_V), mm_E d 3 8 [(.inr (.inr z)), l1, l2, l3, l4] [] st n I L P = mm_E d 3 9 [(.inr (.inr z)), l1, l2, l3, l4] [] ((.inr (.inr z)) :: st) n I L P) ∧
  (∀ (lv : List mm_V) (st : List mm_V) a, (mm_ok n a 0) → mm_E d 3 9 lv [] (.inr (.inr (some a)) :: st) n I L P = mm_E d 3 12 lv [] (.inr (.inr (P a 1)) :: st) n I L P) ∧
  (∀ (st : List mm_V) z (l0 : mm_V) (l1 : mm_V) (l3 : mm_V) (l4 : mm_V), mm_E d 3 12 [l0, l1, (.inr (.inr z)), l3, l4] [] st n I L P = mm_E d 3 13 [l0, l1, (.inr (.inr z)), l3, l4] [] ((.inr (.inr z)) :: st) n I L P) ∧
  (∀ (lv : List mm_V) a x0, (mm_ok n a 5) → mm_E d 3 13 lv [] (.inr (.inr x0) :: .inr (.inr (some a)) :: []) n I L P = mm_kr d 3 16 lv [] [] n (mm_rn d 46 [.inr (.inr (some a)), .inr (.inr x0)] n I L P)) ∧
  (∀ (lv : List mm_V) (st : List mm_V) a, mm_E d 3 16 lv [] ((.inl a) :: st) n I L P = mm_E d 3 17 lv [] st n I L P) ∧
  (∀ (st : List mm_V) z (l1 : mm_V) (l2 : mm_V) (l3 : mm_V) (l4 : mm_V), mm_E d 3 17 [(.inr (.inr z)), l1, l2, l3, l4] [] st n I L P = mm_E d 3 18 [(.inr (.inr z)), l1, l2, l3, l4] [] ((.inr (.inr z)) :: st) n I L P) ∧
  (∀ (lv : List mm_V) (st : List mm_V) a, (mm_ok n a 0) → mm_E d 3 18 lv [] (.inr (.inr (some a)) :: st) n I L P = mm_E d 3 21 lv [] (.inr (.inr (P a 1)) :: st) n I L P) ∧
  (∀ (st : List mm_V) z (l0 : mm_V) (l1 : mm_V) (l3 : mm_V) (l4 : mm_V), mm_E d 3 21 [l0, l1, (.inr (.inr z)), l3, l4] [] st n I L P = mm_E d 3 22 [l0, l1, (.inr (.inr z)), l3, l4] [] ((.inr (.inr z)) :: st) n I L P) ∧
  (∀ (st : List mm_V) z (l0 : mm_V) (l1 : mm_V) (l2 : mm_V) (l4 : mm_V), mm_E d 3 22 [l0, l1, l2, (.inr (.inr z)), l4] [] st n I L P = mm_E d 3 23 [l0, l1, l2, (.inr (.inr z)), l4] [] ((.inr (.inr z)) :: st) n I L P) ∧
  (∀ (st : List mm_V) z (l0 : mm_V) (l1 : mm_V) (l2 : mm_V) (l3 : mm_V), mm_E d 3 23 [l0, l1, l2, l3, (.inl z)] [] st n I L P = mm_E d 3 25 [l0, l1, l2, l3, (.inl z)] [] ((.inl z) :: st) n I L P) ∧
  (∀ (lv : List mm_V) x0 x1 x2 x3, mm_E d 3 25 lv [] (.inl x3 :: .inr (.inr x2) :: .inr (.inr x1) :: .inr (.inr x0) :: []) n I L P = mm_kr d 3 28 lv [] [] n (mm_rn d 2 [.inr (.inr x0), .inr (.inr x1), .inr (.inr x2), .inl x3] n I L P)) ∧
  (∀ (lv : List mm_V) z, mm_E d 3 28 lv [] [.inl z] n I L P = some (some (.inl z), n, I, L, P)) :=
  ⟨fun _ _ _ _ _ _ => mq_al (i := 0) rfl rfl,
   fun _ _ _ h0 => mq_getR rfl h0,
   fun _ _ _ _ _ _ => mq_al (i := 1) rfl rfl,
   fun _ _ _ h0 => mq_cVv (na := 1) rfl rfl (Nat.le_of_ble_eq_true rfl) (Nat.le_of_ble_eq_true rfl) h0,
   fun _ _ _ _ _ _ => mq_al (i := 0) rfl rfl,
   fun _ _ _ h0 => mq_getR rfl h0,
   fun _ _ _ _ _ _ => mq_al (i := 2) rfl rfl,
   fun _ _ _ h0 => mq_cVr (na := 1) rfl rfl (Nat.le_of_ble_eq_true rfl) (Nat.le_of_ble_eq_true rfl) h0,
   fun _ _ _ => mq_pop rfl rfl,
   fun _ _ _ _ _ _ => mq_al (i := 0) rfl rfl,
   fun _ _ _ h0 => mq_getR rfl h0,
   fun _ _ _ _ _ _ => mq_al (i := 2) rfl rfl,
   fun _ _ _ _ _ _ => mq_al (i := 3) rfl rfl,
   fun _ _ _ _ _ _ => mq_il (i := 4) rfl rfl,
   fun _ _ _ _ _ => mq_cSr (na := 4) rfl (Nat.le_of_ble_eq_true rfl) (Nat.le_of_ble_eq_true rfl),
   fun _ _ => mq_ri rfl⟩
theorem eX0_lostBehindCry (d n : Nat) (I L : mm_I) (P : mm_P) (x0 : Option Nat) (x1 : Option Nat) (x2 : Option Nat) (x3 : Option Nat) (x4 : Int) : mm_rn (d + 1) 3 [.inr (.inr x0), .inr (.inr x1), .inr (.inr x2), .inr (.inr x3), .inl x4] n I L P = mm_E d 3 0 [.inr (.inr x0), .inr (.inr x1), .inr (.inr x2), .inr (.inr x3), .inl x4] [] [] n I L P := rfl

set_option maxRecDepth 20000 in
set_option maxHeartbeats 8000000 in
theorem kX0_findCryHour (d n : Nat) (I L : mm_I) (P : mm_P) :
  (∀ (st : List mm_V) z (l1 : mm_V) (l2 : mm_V) (l3 : mm_V) (l4 : mm_V) (l5 : mm_V) (l6 : mm_V) (l7 : mm_V), mm_E d 4 0 [(.inr (.inr z)), l1, l2, l3, l4, l5, l6, l7] [] st n I L P = mm_E d 4 1 [(.inr (.inr z)), l1, l2, l3, l4, l5, l6, l7] [] ((.inr (.inr z)) :: st) n I L P) ∧
  (∀ (lv : List mm_V) (st : List mm_V) a, (mm_ok n a 0) → mm_E d 4 1 lv [] (.inr (.inr (some a)) :: st) n I L P = mm_E d 4 4 lv [] (.inr (.inr (P a 0)) :: st) n I L P) ∧
  (∀ (st : List mm_V) z (l0 : mm_V) (l2 : mm_V) (l3 : mm_V) (l4 : mm_V) (l5 : mm_V) (l6 : mm_V) (l7 : mm_V), mm_E d 4 4 [l0, (.inr (.inr z)), l2, l3, l4, l5, l6, l7] [] st n I L P = mm_E d 4 5 [l0, (.inr (.inr z)), l2, l3, l4, l5, l6, l7] [] ((.inr (.inr z)) :: st) n I L P) ∧
  (∀ (lv : List mm_V) a x0, (mm_ok n a 5) → mm_E d 4 5 lv [] (.inr (.inr x0) :: .inr (.inr (some a)) :: []) n I L P = mm_kv d 4 8 lv [] [] n (mm_rn d 41 [.inr (.inr (some a)), .inr (.inr x0)] n I L P)) ∧
  (∀ (lv : List mm_V) (st : List mm_V), mm_E d 4 8 lv [] st n I L P = mm_E d 4 9 lv [] (.inl 0 :: st) n I L P) ∧
  (∀ (st : List mm_V) z (l0 : mm_V) (l1 : mm_V) (l2 : mm_V) (l3 : mm_V) (l4 : mm_V) (l5 : mm_V) (l6 : mm_V) (l7 : mm_V), mm_E d 4 9 [l0, l1, l2, l3, l4, l5, l6, l7] [] ((.inl z) :: st) n I L P = mm_E d 4 11 [l0, l1, l2, l3, l4, (.inl z), l6, l7] [] st n I L P) ∧
  (∀ (lv : List mm_V) (st : List mm_V), mm_E d 4 11 lv [] st n I L P = mm_E d 4 12 lv [] (.inl 0 :: st) n I L P) ∧
  (∀ (st : List mm_V) z (l0 : mm_V) (l1 : mm_V) (l2 : mm_V) (l3 : mm_V) (l4 : mm_V) (l5 : mm_V) (l6 : mm_V) (l7 : mm_V), mm_E d 4 12 [l0, l1, l2, l3, l4, l5, l6, l7] [] ((.inl z) :: st) n I L P = mm_E d 4 14 [l0, l1, l2, l3, l4, l5, (.inl z), l7] [] st n I L P) ∧
  (∀ (st : List mm_V) z (l0 : mm_V) (l1 : mm_V) (l2 : mm_V) (l3 : mm_V) (l5 : mm_V) (l6 : mm_V) (l7 : mm_V), mm_E d 4 16 [l0, l1, l2, l3, (.inl z), l5, l6, l7] [] st n I L P = mm_E d 4 18 [l0, l1, l2, l3, (.inl z), l5, l6, l7] [] ((.inl z) :: st) n I L P) ∧
  (∀ (lv : List mm_V) (st : List mm_V) a b, mm_E d 4 18 lv [] (.inl b :: .inl a :: st) n I L P = if b < a then mm_E d 4 87 lv [] st n I L P else mm_E d 4 21 lv [] st n I L P) ∧
  (∀ (st : List mm_V) z (l0 : mm_V) (l1 : mm_V) (l2 : mm_V) (l3 : mm_V) (l4 : mm_V) (l6 : mm_V) (l7 : mm_V), mm_E d 4 21 [l0, l1, l2, l3, l4, (.inl z), l6, l7] [] st n I L P = mm_E d 4 23 [l0, l1, l2, l3, l4, (.inl z), l6, l7] [] ((.inl z) :: st) n I L P) ∧
  (∀ (st : List mm_V) z (l1 : mm_V) (l2 : mm_V) (l3 : mm_V) (l4 : mm_V) (l5 : mm_V) (l6 : mm_V) (l7 : mm_V), mm_E d 4 23 [(.inr (.inr z)), l1, l2, l3, l4, l5, l6, l7] [] st n I L P = mm_E d 4 24 [(.inr (.inr z)), l1, l2, l3, l4, l5, l6, l7] [] ((.inr (.inr z)) :: st) n I L P) ∧
  (∀ (st : List mm_V) z (l1 : mm_V) (l2 : mm_V) (l3 : mm_V) (l4 : mm_V) (l5 : mm_V) (l6 : mm_V) (l7 : mm_V), mm_E d 4 24 [(.inr (.inr z)), l1, l2, l3, l4, l5, l6, l7] [] st n I L P = mm_E d 4 25 [(.inr (.inr z)), l1, l2, l3, l4, l5, l6, l7] [] ((.inr (.inr z)) :: st) n I L P) ∧
  (∀ (lv : List mm_V) (st : List mm_V) a, (mm_ok n a 0) → mm_E d 4 25 lv [] (.inr (.inr (some a)) :: st) n I L P = mm_E d 4 28 lv [] (.inr (.inr (P a 0)) :: st) n I L P) ∧
  (∀ (st : List mm_V) z (l0 : mm_V) (l1 : mm_V) (l3 : mm_V) (l4 : mm_V) (l5 : mm_V) (l6 : mm_V) (l7 : mm_V), mm_E d 4 28 [l0, l1, (.inr (.inr z)), l3, l4, l5, l6, l7] [] st n I L P = mm_E d 4 29 [l0, l1, (.inr (.inr z)), l3, l4, l5, l6, l7] [] ((.inr (.inr z)) :: st) n I L P) ∧
  (∀ (st : List mm_V) z (l0 : mm_V) (l1 : mm_V) (l2 : mm_V) (l4 : mm_V) (l5 : mm_V) (l6 : mm_V) (l7 : mm_V), mm_E d 4 29 [l0, l1, l2, (.inr (.inr z)), l4, l5, l6, l7] [] st n I L P = mm_E d 4 30 [l0, l1, l2, (.inr (.inr z)), l4, l5, l6, l7] [] ((.inr (.inr z)) :: st) n I L P) ∧
  (∀ (st : List mm_V) z (l0 : mm_V) (l1 : mm_V) (l2 : mm_V) (l3 : mm_V) (l5 : mm_V) (l6 : mm_V) (l7 : mm_V), mm_E d 4 30 [l0, l1, l2, l3, (.inl z), l5, l6, l7] [] st n I L P = mm_E d 4 32 [l0, l1, l2, l3, (.inl z), l5, l6, l7] [] ((.inl z) :: st) n I L P) ∧
  (∀ (st : List mm_V) z (l0 : mm_V) (l1 : mm_V) (l2 : mm_V) (l3 : mm_V) (l4 : mm_V) (l5 : mm_V) (l7 : mm_V), mm_E d 4 32 [l0, l1, l2, l3, l4, l5, (.inl z), l7] [] st n I L P = mm_E d 4 34 [l0, l1, l2, l3, l4, l5, (.inl z), l7] [] ((.inl z) :: st) n I L P) ∧
  (∀ (lv : List mm_V) (st : List mm_V) a b, mm_E d 4 34 lv [] (.inl b :: .inl a :: st) n I L P = mm_E d 4 35 lv [] (.inl (mm_sub a b) :: st) n I L P) ∧
  (∀ (lv : List mm_V) a x0 x1 x2 x3 w0, (mm_ok n a 0) → mm_E d 4 35 lv [] (.inl x3 :: .inr (.inr x2) :: .inr (.inr x1) :: .inr (.inr x0) :: .inr (.inr (some a)) :: [.inl w0]) n I L P = mm_kr d 4 38 lv [] [.inl w0] n (mm_rn d 3 [.inr (.inr (some a)), .inr (.inr x0), .inr (.inr x1), .inr (.inr x2), .inl x3] n I L P)) ∧
  (∀ (lv : List mm_V) (st : List mm_V) a b, mm_E d 4 38 lv [] (.inl b :: .inl a :: st) n I L P = mm_E d 4 39 lv [] (.inl (mm_add a b) :: st) n I L P) ∧
  (∀ (st : List mm_V) z (l0 : mm_V) (l1 : mm_V) (l2 : mm_V) (l3 : mm_V) (l4 : mm_V) (l5 : mm_V) (l6 : mm_V) (l7 : mm_V), mm_E d 4 39 [l0, l1, l2, l3, l4, l5, l6, l7] [] ((.inl z) :: st) n I L P = mm_E d 4 41 [l0, l1, l2, l3, l4, l5, l6, (.inl z)] [] st n I L P) ∧
  (∀ (st : List mm_V) z (l0 : mm_V) (l1 : mm_V) (l2 : mm_V) (l3 : mm_V) (l4 : mm_V) (l5 : mm_V) (l7 : mm_V), mm_E d 4 41 [l0, l1, l2, l3, l4, l5, (.inl z), l7] [] st n I L P = mm_E d 4 43 [l0, l1, l2, l3, l4, l5, (.inl z), l7] [] ((.inl z) :: st) n I L P) ∧
  (∀ (lv : List mm_V) (st : List mm_V) a, mm_E d 4 43 lv [] (.inl a :: st) n I L P = if a = 0 then mm_E d 4 55 lv [] st n I L P else mm_E d 4 46 lv [] st n I L P) ∧
  (∀ (st : List mm_V) z (l0 : mm_V) (l1 : mm_V) (l2 : mm_V) (l3 : mm_V) (l4 : mm_V) (l5 : mm_V) (l6 : mm_V), mm_E d 4 46 [l0, l1, l2, l3, l4, l5, l6, (.inl z)] [] st n I L P = mm_E d 4 48 [l0, l1, l2, l3, l4, l5, l6, (.inl z)] [] ((.inl z) :: st) n I L P) ∧
  (∀ (st : List mm_V) z (l1 : mm_V) (l2 : mm_V) (l3 : mm_V) (l4 : mm_V) (l5 : mm_V) (l6 : mm_V) (l7 : mm_V), mm_E d 4 48 [(.inr (.inr z)), l1, l2, l3, l4, l5, l6, l7] [] st n I L P = mm_E d 4 49 [(.inr (.inr z)), l1, l2, l3, l4, l5, l6, l7] [] ((.inr (.inr z)) :: st) n I L P) ∧
  (∀ (lv : List mm_V) (st : List mm_V) a, (mm_ok n a 0) → mm_E d 4 49 lv [] (.inr (.inr (some a)) :: st) n I L P = mm_E d 4 52 lv [] (.inl (I a 3) :: st) n I L P) ∧
  (∀ (lv : List mm_V) (st : List mm_V) a b, mm_E d 4 52 lv [] (.inl b :: .inl a :: st) n I L P = if b ≤ a then mm_E d 4 67 lv [] st n I L P else mm_E d 4 55 lv [] st n I L P) ∧
  (∀ (st : List mm_V) z (l1 : mm_V) (l2 : mm_V) (l3 : mm_V) (l4 : mm_V) (l5 : mm_V) (l6 : mm_V) (l7 : mm_V), mm_E d 4 55 [(.inr (.inr z)), l1, l2, l3, l4, l5, l6, l7] [] st n I L P = mm_E d 4 56 [(.inr (.inr z)), l1, l2, l3, l4, l5, l6, l7] [] ((.inr (.inr z)) :: st) n I L P) ∧
  (∀ (st : List mm_V) z (l0 : mm_V) (l1 : mm_V) (l2 : mm_V) (l3 : mm_V) (l4 : mm_V) (l5 : mm_V) (l7 : mm_V), mm_E d 4 56 [l0, l1, l2, l3, l4, l5, (.inl z), l7] [] st n I L P = mm_E d 4 58 [l0, l1, l2, l3, l4, l5, (.inl z), l7] [] ((.inl z) :: st) n I L P) ∧
  (∀ (lv : List mm_V) (st : List mm_V) a z, (mm_ok n a 0) → mm_E d 4 58 lv [] (.inl z :: .inr (.inr (some a)) :: st) n I L P = mm_E d 4 61 lv [] st n (mm_ui I a 2 z) L P) ∧
  (∀ (st : List mm_V) z (l1 : mm_V) (l2 : mm_V) (l3 : mm_V) (l4 : mm_V) (l5 : mm_V) (l6 : mm_V) (l7 : mm_V), mm_E d 4 61 [(.inr (.inr z)), l1, l2, l3, l4, l5, l6, l7] [] st n I L P = mm_E d 4 62 [(.inr (.inr z)), l1, l2, l3, l4, l5, l6, l7] [] ((.inr (.inr z)) :: st) n I L P) ∧
  (∀ (st : List mm_V) z (l0 : mm_V) (l1 : mm_V) (l2 : mm_V) (l3 : mm_V) (l4 : mm_V) (l5 : mm_V) (l6 : mm_V), mm_E d 4 62 [l0, l1, l2, l3, l4, l5, l6, (.inl z)] [] st n I L P = mm_E d 4 64 [l0, l1, l2, l3, l4, l5, l6, (.inl z)] [] ((.inl z) :: st) n I L P) ∧
  (∀ (lv : List mm_V) (st : List mm_V) a z, (mm_ok n a 0) → mm_E d 4 64 lv [] (.inl z :: .inr (.inr (some a)) :: st) n I L P = mm_E d 4 67 lv [] st n (mm_ui I a 3 z) L P) ∧
  (∀ (st : List mm_V) z (l0 : mm_V) (l1 : mm_V) (l2 : mm_V) (l3 : mm_V) (l4 : mm_V) (l6 : mm_V) (l7 : mm_V), mm_E d 4 67 [l0, l1, l2, l3, l4, (.inl z), l6, l7] [] st n I L P = mm_E d 4 69 [l0, l1, l2, l3, l4, (.inl z), l6, l7] [] ((.inl z) :: st) n I L P) ∧
  (∀ (st : List mm_V) z (l1 : mm_V) (l2 : mm_V) (l3 : mm_V) (l4 : mm_V) (l5 : mm_V) (l6 : mm_V) (l7 : mm_V), mm_E d 4 69 [(.inr (.inr z)), l1, l2, l3, l4, l5, l6, l7] [] st n I L P = mm_E d 4 70 [(.inr (.inr z)), l1, l2, l3, l4, l5, l6, l7] [] ((.inr (.inr z)) :: st) n I L P) ∧
  (∀ (lv : List mm_V) (st : List mm_V) a, (mm_ok n a 0) → mm_E d 4 70 lv [] (.inr (.inr (some a)) :: st) n I L P = mm_E d 4 73 lv [] (.inr (.inr (P a 0)) :: st) n I L P) ∧
  (∀ (st : List mm_V) z (l0 : mm_V) (l1 : mm_V) (l3 : mm_V) (l4 : mm_V) (l5 : mm_V) (l6 : mm_V) (l7 : mm_V), mm_E d 4 73 [l0, l1, (.inr (.inr z)), l3, l4, l5, l6, l7] [] st n I L P = mm_E d 4 74 [l0, l1, (.inr (.inr z)), l3, l4, l5, l6, l7] [] ((.inr (.inr z)) :: st) n I L P) ∧
  (∀ (st : List mm_V) z (l0 : mm_V) (l1 : mm_V) (l2 : mm_V) (l4 : mm_V) (l5 : mm_V) (l6 : mm_V) (l7 : mm_V), mm_E d 4 74 [l0, l1, l2, (.inr (.inr z)), l4, l5, l6, l7] [] st n I L P = mm_E d 4 75 [l0, l1, l2, (.inr (.inr z)), l4, l5, l6, l7] [] ((.inr (.inr z)) :: st) n I L P) ∧
  (∀ (lv : List mm_V) a x0 x1 w0, (mm_ok n a 5) → mm_E d 4 75 lv [] (.inr (.inr x1) :: .inr (.inr x0) :: .inr (.inr (some a)) :: [.inl w0]) n I L P = mm_kr d 4 78 lv [] [.inl w0] n (mm_rn d 47 [.inr (.inr (some a)), .inr (.inr x0), .inr (.inr x1)] n I L P)) ∧
  (∀ (lv : List mm_V) (st : List mm_V) a b, mm_E d 4 78 lv [] (.inl b :: .inl a :: st) n I L P = mm_E d 4 79 lv [] (.inl (mm_add a b) :: st) n I L P) ∧
  (∀ (st : List mm_V) z (l0 : mm_V) (l1 : mm_V) (l2 : mm_V) (l3 : mm_V) (l4 : mm_V) (l5 : mm_V) (l6 : mm_V) (l7 : mm_V), mm_E d 4 79 [l0, l1, l2, l3, l4, l5, l6, l7] [] ((.inl z) :: st) n I L P = mm_E d 4 81 [l0, l1, l2, l3, l4, (.inl z), l6, l7] [] st n I L P) ∧
  (∀ (st : List mm_V) z (l0 : mm_V) (l1 : mm_V) (l2 : mm_V) (l3 : mm_V) (l4 : mm_V) (l5 : mm_V) (l7 : mm_V), mm_E d 4 81 [l0, l1, l2, l3, l4, l5, (.inl z), l7] [] st n I L P = mm_E d 4 84 [l0, l1, l2, l3, l4, l5, (.inl (mm_add z 1)), l7] [] st n I L P) ∧
  (∀ (lv : List mm_V) (st : List mm_V), mm_E d 4 84 lv [] st n I L P = mm_E d 4 14 lv [] st n I L P) ∧
  (∀ (lv : List mm_V), mm_E d 4 87 lv [] [] n I L P = some (none, n, I, L, P)) :=
  ⟨fun _ _ _ _ _ _ _ _ _ => mq_al (i := 0) rfl rfl,
   fun _ _ _ h0 => mq_getR rfl h0,
   fun _ _ _ _ _ _ _ _ _ => mq_al (i := 1) rfl rfl,
   fun _ _ _ h0 => mq_cVv (na := 1) rfl rfl (Nat.le_of_ble_eq_true rfl) (Nat.le_of_ble_eq_true rfl) h0,
   fun _ _ => mq_push rfl,
   fun _ _ _ _ _ _ _ _ _ _ => mq_is (i := 5) rfl rfl rfl,
   fun _ _ => mq_push rfl,
   fun _ _ _ _ _ _ _ _ _ _ => mq_is (i := 6) rfl rfl rfl,
   fun _ _ _ _ _ _ _ _ _ => mq_il (i := 4) rfl rfl,
   fun _ _ _ _ => mq_ic_gt rfl,
   fun _ _ _ _ _ _ _ _ _ => mq_il (i := 5) rfl rfl,
   fun _ _ _ _ _ _ _ _ _ => mq_al (i := 0) rfl rfl,
   fun _ _ _ _ _ _ _ _ _ => mq_al (i := 0) rfl rfl,
   fun _ _ _ h0 => mq_getR rfl h0,
   fun _ _ _ _ _ _ _ _ _ => mq_al (i := 2) rfl rfl,
   fun _ _ _ _ _ _ _ _ _ => mq_al (i := 3) rfl rfl,
   fun _ _ _ _ _ _ _ _ _ => mq_il (i := 4) rfl rfl,
   fun _ _ _ _ _ _ _ _ _ => mq_il (i := 6) rfl rfl,
   fun _ _ _ _ => mq_bi rfl,
   fun _ _ _ _ _ _ _ h0 => mq_cVr (na := 4) rfl rfl (Nat.le_of_ble_eq_true rfl) (Nat.le_of_ble_eq_true rfl) h0,
   fun _ _ _ _ => mq_bi rfl,
   fun _ _ _ _ _ _ _ _ _ _ => mq_is (i := 7) rfl rfl rfl,
   fun _ _ _ _ _ _ _ _ _ => mq_il (i := 6) rfl rfl,
   fun _ _ _ => mq_if_eq rfl,
   fun _ _ _ _ _ _ _ _ _ => mq_il (i := 7) rfl rfl,
   fun _ _ _ _ _ _ _ _ _ => mq_al (i := 0) rfl rfl,
   fun _ _ _ h0 => mq_getI rfl h0,
   fun _ _ _ _ => mq_ic_ge rfl,
   fun _ _ _ _ _ _ _ _ _ => mq_al (i := 0) rfl rfl,
   fun _ _ _ _ _ _ _ _ _ => mq_il (i := 6) rfl rfl,
   fun _ _ _ _ h0 => mq_putI rfl h0,
   fun _ _ _ _ _ _ _ _ _ => mq_al (i := 0) rfl rfl,
   fun _ _ _ _ _ _ _ _ _ => mq_il (i := 7) rfl rfl,
   fun _ _ _ _ h0 => mq_putI rfl h0,
   fun _ _ _ _ _ _ _ _ _ => mq_il (i := 5) rfl rfl,
   fun _ _ _ _ _ _ _ _ _ => mq_al (i := 0) rfl rfl,
   fun _ _ _ h0 => mq_getR rfl h0,
   fun _ _ _ _ _ _ _ _ _ => mq_al (i := 2) rfl rfl,
   fun _ _ _ _ _ _ _ _ _ => mq_al (i := 3) rfl rfl,
   fun _ _ _ _ _ h0 => mq_cVr (na := 2) rfl rfl (Nat.le_of_ble_eq_true rfl) (Nat.le_of_ble_eq_true rfl) h0,
   fun _ _ _ _ => mq_bi rfl,
   fun _ _ _ _ _ _ _ _ _ _ => mq_is (i := 5) rfl rfl rfl,
   fun _ _ _ _ _ _ _ _ _ => mq_iinc (i := 6) rfl rfl rfl rfl,
   fun _ _ => mq_go rfl,
   fun _ => mq_rv rfl⟩
theorem hX0_findCryHour_14 (d n : Nat) (I L : mm_I) (P : mm_P) : ∀ (st : List mm_V) z (l0 : mm_V) (l1 : mm_V) (l2 : mm_V) (l3 : mm_V) (l4 : mm_V) (l5 : mm_V) (l7 : mm_V), mm_E d 4 14 [l0, l1, l2, l3, l4, l5, (.inl z), l7] [] st n I L P = mm_E d 4 16 [l0, l1, l2, l3, l4, l5, (.inl z), l7] [] ((.inl z) :: st) n I L P := fun _ _ _ _ _ _ _ _ _ => mq_il (i := 6) rfl rfl
theorem eX0_findCryHour (d n : Nat) (I L : mm_I) (P : mm_P) (x0 : Option Nat) (x1 : Option Nat) (x2 : Option Nat) (x3 : Option Nat) (x4 : Int) : mm_rn (d + 1) 4 [.inr (.inr x0), .inr (.inr x1), .inr (.inr x2), .inr (.inr x3), .inl x4] n I L P = mm_E d 4 0 [.inr (.inr x0), .inr (.inr x1), .inr (.inr x2), .inr (.inr x3), .inl x4, mm_junk, mm_junk, mm_junk] [] [] n I L P := rfl

set_option maxRecDepth 20000 in
set_option maxHeartbeats 8000000 in
theorem kX0_quietHour (d n : Nat) (I L : mm_I) (P : mm_P) :
  (∀ (st : List mm_V) z (l1 : mm_V) (l2 : mm_V) (l3 : mm_V) (l4 : mm_V), mm_E d 5 0 [(.inr (.inr z)), l1, l2, l3, l4] [] st n I L P = mm_E d 5 1 [(.inr (.inr z)), l1, l2, l3, l4] [] ((.inr (.inr z)) :: st) n I L P) ∧
  (∀ (lv : List mm_V) (st : List mm_V) a, (mm_ok n a 0) → mm_E d 5 1 lv [] (.inr (.inr (some a)) :: st) n I L P = mm_E d 5 4 lv [] (.inr (.inr (P a 0)) :: st) n I L P) ∧
  (∀ (st : List mm_V) z (l0 : mm_V) (l2 : mm_V) (l3 : mm_V) (l4 : mm_V), mm_E d 5 4 [l0, (.inr (.inr z)), l2, l3, l4] [] st n I L P = mm_E d 5 5 [l0, (.inr (.inr z)), l2, l3, l4] [] ((.inr (.inr z)) :: st) n I L P) ∧
  (∀ (lv : List mm_V) a x0, (mm_ok n a 5) → mm_E d 5 5 lv [] (.inr (.inr x0) :: .inr (.inr (some a)) :: []) n I L P = mm_kv d 5 8 lv [] [] n (mm_rn d 41 [.inr (.inr (some a)), .inr (.inr x0)] n I L P)) ∧
  (∀ (lv : List mm_V) (st : List mm_V), mm_E d 5 8 lv [] st n I L P = mm_E d 5 9 lv [] (.inl 0 :: st) n I L P) ∧
  (∀ (st : List mm_V) z (l0 : mm_V) (l1 : mm_V) (l2 : mm_V) (l3 : mm_V) (l4 : mm_V), mm_E d 5 9 [l0, l1, l2, l3, l4] [] ((.inl z) :: st) n I L P = mm_E d 5 11 [l0, l1, l2, l3, (.inl z)] [] st n I L P) ∧
  (∀ (lv : List mm_V) (st : List mm_V), mm_E d 5 13 lv [] st n I L P = mm_E d 5 15 lv [] (.inl 99 :: st) n I L P) ∧
  (∀ (lv : List mm_V) (st : List mm_V) a b, mm_E d 5 15 lv [] (.inl b :: .inl a :: st) n I L P = if b < a then mm_E d 5 47 lv [] st n I L P else mm_E d 5 18 lv [] st n I L P) ∧
  (∀ (st : List mm_V) z (l1 : mm_V) (l2 : mm_V) (l3 : mm_V) (l4 : mm_V), mm_E d 5 18 [(.inr (.inr z)), l1, l2, l3, l4] [] st n I L P = mm_E d 5 19 [(.inr (.inr z)), l1, l2, l3, l4] [] ((.inr (.inr z)) :: st) n I L P) ∧
  (∀ (lv : List mm_V) (st : List mm_V) a, (mm_ok n a 0) → mm_E d 5 19 lv [] (.inr (.inr (some a)) :: st) n I L P = mm_E d 5 22 lv [] (.inr (.inr (P a 0)) :: st) n I L P) ∧
  (∀ (lv : List mm_V) a, (mm_ok n a 5) → mm_E d 5 22 lv [] (.inr (.inr (some a)) :: []) n I L P = mm_kr d 5 25 lv [] [] n (mm_rn d 42 [.inr (.inr (some a))] n I L P)) ∧
  (∀ (lv : List mm_V) (st : List mm_V) a, mm_E d 5 25 lv [] (.inl a :: st) n I L P = if a = 0 then mm_E d 5 28 lv [] st n I L P else mm_E d 5 31 lv [] st n I L P) ∧
  (∀ (st : List mm_V) z (l0 : mm_V) (l1 : mm_V) (l2 : mm_V) (l3 : mm_V), mm_E d 5 28 [l0, l1, l2, l3, (.inl z)] [] st n I L P = mm_E d 5 30 [l0, l1, l2, l3, (.inl z)] [] ((.inl z) :: st) n I L P) ∧
  (∀ (lv : List mm_V) z, mm_E d 5 30 lv [] [.inl z] n I L P = some (some (.inl z), n, I, L, P)) ∧
  (∀ (st : List mm_V) z (l1 : mm_V) (l2 : mm_V) (l3 : mm_V) (l4 : mm_V), mm_E d 5 31 [(.inr (.inr z)), l1, l2, l3, l4] [] st n I L P = mm_E d 5 32 [(.inr (.inr z)), l1, l2, l3, l4] [] ((.inr (.inr z)) :: st) n I L P) ∧
  (∀ (lv : List mm_V) (st : List mm_V) a, (mm_ok n a 0) → mm_E d 5 32 lv [] (.inr (.inr (some a)) :: st) n I L P = mm_E d 5 35 lv [] (.inr (.inr (P a 0)) :: st) n I L P) ∧
  (∀ (st : List mm_V) z (l0 : mm_V) (l1 : mm_V) (l3 : mm_V) (l4 : mm_V), mm_E d 5 35 [l0, l1, (.inr (.inr z)), l3, l4] [] st n I L P = mm_E d 5 36 [l0, l1, (.inr (.inr z)), l3, l4] [] ((.inr (.inr z)) :: st) n I L P) ∧
  (∀ (st : List mm_V) z (l0 : mm_V) (l1 : mm_V) (l2 : mm_V) (l4 : mm_V), mm_E d 5 36 [l0, l1, l2, (.inr (.inr z)), l4] [] st n I L P = mm_E d 5 37 [l0, l1, l2, (.inr (.inr z)), l4] [] ((.inr (.inr z)) :: st) n I L P) ∧
  (∀ (lv : List mm_V) a x0 x1, (mm_ok n a 5) → mm_E d 5 37 lv [] (.inr (.inr x1) :: .inr (.inr x0) :: .inr (.inr (some a)) :: []) n I L P = mm_kr d 5 40 lv [] [] n (mm_rn d 47 [.inr (.inr (some a)), .inr (.inr x0), .inr (.inr x1)] n I L P)) ∧
  (∀ (lv : List mm_V) (st : List mm_V) a, mm_E d 5 40 lv [] ((.inl a) :: st) n I L P = mm_E d 5 41 lv [] st n I L P) ∧
  (∀ (st : List mm_V) z (l0 : mm_V) (l1 : mm_V) (l2 : mm_V) (l3 : mm_V), mm_E d 5 41 [l0, l1, l2, l3, (.inl z)] [] st n I L P = mm_E d 5 44 [l0, l1, l2, l3, (.inl (mm_add z 1))] [] st n I L P) ∧
  (∀ (lv : List mm_V) (st : List mm_V), mm_E d 5 44 lv [] st n I L P = mm_E d 5 11 lv [] st n I L P) ∧
  (∀ (lv : List mm_V) (st : List mm_V), mm_E d 5 47 lv [] st n I L P = mm_E d 5 48 lv [] (.inl (-1) :: st) n I L P) ∧
  (∀ (lv : List mm_V) z, mm_E d 5 48 lv [] [.inl z] n I L P = some (some (.inl z), n, I, L, P)) :=
  ⟨fun _ _ _ _ _ _ => mq_al (i := 0) rfl rfl,
   fun _ _ _ h0 => mq_getR rfl h0,
   fun _ _ _ _ _ _ => mq_al (i := 1) rfl rfl,
   fun _ _ _ h0 => mq_cVv (na := 1) rfl rfl (Nat.le_of_ble_eq_true rfl) (Nat.le_of_ble_eq_true rfl) h0,
   fun _ _ => mq_push rfl,
   fun _ _ _ _ _ _ _ => mq_is (i := 4) rfl rfl rfl,
   fun _ _ => mq_push rfl,
   fun _ _ _ _ => mq_ic_gt rfl,
   fun _ _ _ _ _ _ => mq_al (i := 0) rfl rfl,
   fun _ _ _ h0 => mq_getR rfl h0,
   fun _ _ h0 => mq_cVr (na := 0) rfl rfl (Nat.le_of_ble_eq_true rfl) (Nat.le_of_ble_eq_true rfl) h0,
   fun _ _ _ => mq_if_ne rfl,
   fun _ _ _ _ _ _ => mq_il (i := 4) rfl rfl,
   fun _ _ => mq_ri rfl,
   fun _ _ _ _ _ _ => mq_al (i := 0) rfl rfl,
   fun _ _ _ h0 => mq_getR rfl h0,
   fun _ _ _ _ _ _ => mq_al (i := 2) rfl rfl,
   fun _ _ _ _ _ _ => mq_al (i := 3) rfl rfl,
   fun _ _ _ _ h0 => mq_cVr (na := 2) rfl rfl (Nat.le_of_ble_eq_true rfl) (Nat.le_of_ble_eq_true rfl) h0,
   fun _ _ _ => mq_pop rfl rfl,
   fun _ _ _ _ _ _ => mq_iinc (i := 4) rfl rfl rfl rfl,
   fun _ _ => mq_go rfl,
   fun _ _ => mq_push rfl,
   fun _ _ => mq_ri rfl⟩
theorem hX0_quietHour_11 (d n : Nat) (I L : mm_I) (P : mm_P) : ∀ (st : List mm_V) z (l0 : mm_V) (l1 : mm_V) (l2 : mm_V) (l3 : mm_V), mm_E d 5 11 [l0, l1, l2, l3, (.inl z)] [] st n I L P = mm_E d 5 13 [l0, l1, l2, l3, (.inl z)] [] ((.inl z) :: st) n I L P := fun _ _ _ _ _ _ => mq_il (i := 4) rfl rfl
theorem eX0_quietHour (d n : Nat) (I L : mm_I) (P : mm_P) (x0 : Option Nat) (x1 : Option Nat) (x2 : Option Nat) (x3 : Option Nat) : mm_rn (d + 1) 5 [.inr (.inr x0), .inr (.inr x1), .inr (.inr x2), .inr (.inr x3)] n I L P = mm_E d 5 0 [.inr (.inr x0), .inr (.inr x1), .inr (.inr x2), .inr (.inr x3), mm_junk] [] [] n I L P := rfl

set_option maxRecDepth 20000 in
set_option maxHeartbeats 8000000 in
theorem kX0_lostByFires (d n : Nat) (I L : mm_I) (P : mm_P) :
  (∀ (st : List mm_V) z (l1 : mm_V) (l2 : mm_V) (l3 : mm_V) (l4 : mm_V) (l5 : mm_V) (l6 : mm_V) (l7 : mm_V) (l8 : mm_V), mm_E d 6 0 [(.inr (.inr z)), l1, l2, l3, l4, l5, l6, l7, l8] [] st n I L P = mm_E d 6 1 [(.inr (.inr z)), l1, l2, l3, l4, l5, l6, l7, l8] [] ((.inr (.inr z)) :: st) n I L P) ∧
  (∀ (lv : List mm_V) (st : List mm_V) a, (mm_ok n a 0) → mm_E d 6 1 lv [] (.inr (.inr (some a)) :: st) n I L P = mm_E d 6 4 lv [] (.inr (.inr (P a 0)) :: st) n I L P) ∧
  (∀ (st : List mm_V) z (l0 : mm_V) (l2 : mm_V) (l3 : mm_V) (l4 : mm_V) (l5 : mm_V) (l6 : mm_V) (l7 : mm_V) (l8 : mm_V), mm_E d 6 4 [l0, (.inr (.inr z)), l2, l3, l4, l5, l6, l7, l8] [] st n I L P = mm_E d 6 5 [l0, (.inr (.inr z)), l2, l3, l4, l5, l6, l7, l8] [] ((.inr (.inr z)) :: st) n I L P) ∧
  (∀ (lv : List mm_V) a x0, (mm_ok n a 5) → mm_E d 6 5 lv [] (.inr (.inr x0) :: .inr (.inr (some a)) :: []) n I L P = mm_kv d 6 8 lv [] [] n (mm_rn d 41 [.inr (.inr (some a)), .inr (.inr x0)] n I L P)) ∧
  (∀ (lv : List mm_V) (st : List mm_V), mm_E d 6 8 lv [] st n I L P = mm_E d 6 9 lv [] (.inl 0 :: st) n I L P) ∧
  (∀ (st : List mm_V) z (l0 : mm_V) (l1 : mm_V) (l2 : mm_V) (l3 : mm_V) (l4 : mm_V) (l5 : mm_V) (l6 : mm_V) (l7 : mm_V) (l8 : mm_V), mm_E d 6 9 [l0, l1, l2, l3, l4, l5, l6, l7, l8] [] ((.inl z) :: st) n I L P = mm_E d 6 11 [l0, l1, l2, l3, l4, l5, l6, (.inl z), l8] [] st n I L P) ∧
  (∀ (lv : List mm_V) (st : List mm_V), mm_E d 6 11 lv [] st n I L P = mm_E d 6 12 lv [] (.inl 0 :: st) n I L P) ∧
  (∀ (st : List mm_V) z (l0 : mm_V) (l1 : mm_V) (l2 : mm_V) (l3 : mm_V) (l4 : mm_V) (l5 : mm_V) (l6 : mm_V) (l7 : mm_V) (l8 : mm_V), mm_E d 6 12 [l0, l1, l2, l3, l4, l5, l6, l7, l8] [] ((.inl z) :: st) n I L P = mm_E d 6 14 [l0, l1, l2, l3, l4, l5, l6, l7, (.inl z)] [] st n I L P) ∧
  (∀ (st : List mm_V) z (l0 : mm_V) (l1 : mm_V) (l2 : mm_V) (l3 : mm_V) (l4 : mm_V) (l6 : mm_V) (l7 : mm_V) (l8 : mm_V), mm_E d 6 16 [l0, l1, l2, l3, l4, (.inl z), l6, l7, l8] [] st n I L P = mm_E d 6 18 [l0, l1, l2, l3, l4, (.inl z), l6, l7, l8] [] ((.inl z) :: st) n I L P) ∧
  (∀ (lv : List mm_V) (st : List mm_V) a b, mm_E d 6 18 lv [] (.inl b :: .inl a :: st) n I L P = if b ≤ a then mm_E d 6 63 lv [] st n I L P else mm_E d 6 21 lv [] st n I L P) ∧
  (∀ (st : List mm_V) z (l0 : mm_V) (l1 : mm_V) (l2 : mm_V) (l3 : mm_V) (l4 : mm_V) (l5 : mm_V) (l7 : mm_V) (l8 : mm_V), mm_E d 6 21 [l0, l1, l2, l3, l4, l5, (.inl z), l7, l8] [] st n I L P = mm_E d 6 23 [l0, l1, l2, l3, l4, l5, (.inl z), l7, l8] [] ((.inl z) :: st) n I L P) ∧
  (∀ (st : List mm_V) z (l0 : mm_V) (l1 : mm_V) (l2 : mm_V) (l3 : mm_V) (l4 : mm_V) (l5 : mm_V) (l6 : mm_V) (l7 : mm_V), mm_E d 6 23 [l0, l1, l2, l3, l4, l5, l6, l7, (.inl z)] [] st n I L P = mm_E d 6 25 [l0, l1, l2, l3, l4, l5, l6, l7, (.inl z)] [] ((.inl z) :: st) n I L P) ∧
  (∀ (lv : List mm_V) (st : List mm_V) a b, mm_E d 6 25 lv [] (.inl b :: .inl a :: st) n I L P = mm_E d 6 26 lv [] (.inl (mm_shr a b) :: st) n I L P) ∧
  (∀ (lv : List mm_V) (st : List mm_V), mm_E d 6 26 lv [] st n I L P = mm_E d 6 27 lv [] (.inl 1 :: st) n I L P) ∧
  (∀ (lv : List mm_V) (st : List mm_V) a b, mm_E d 6 27 lv [] (.inl b :: .inl a :: st) n I L P = mm_E d 6 28 lv [] (.inl (mm_and a b) :: st) n I L P) ∧
  (∀ (lv : List mm_V) (st : List mm_V), mm_E d 6 28 lv [] st n I L P = mm_E d 6 29 lv [] (.inl 1 :: st) n I L P) ∧
  (∀ (lv : List mm_V) (st : List mm_V) a b, mm_E d 6 29 lv [] (.inl b :: .inl a :: st) n I L P = if a = b then mm_E d 6 32 lv [] st n I L P else mm_E d 6 43 lv [] st n I L P) ∧
  (∀ (st : List mm_V) z (l1 : mm_V) (l2 : mm_V) (l3 : mm_V) (l4 : mm_V) (l5 : mm_V) (l6 : mm_V) (l7 : mm_V) (l8 : mm_V), mm_E d 6 32 [(.inr (.inr z)), l1, l2, l3, l4, l5, l6, l7, l8] [] st n I L P = mm_E d 6 33 [(.inr (.inr z)), l1, l2, l3, l4, l5, l6, l7, l8] [] ((.inr (.inr z)) :: st) n I L P) ∧
  (∀ (lv : List mm_V) (st : List mm_V) a, (mm_ok n a 0) → mm_E d 6 33 lv [] (.inr (.inr (some a)) :: st) n I L P = mm_E d 6 36 lv [] (.inr (.inr (P a 0)) :: st) n I L P) ∧
  (∀ (st : List mm_V) z (l0 : mm_V) (l1 : mm_V) (l2 : mm_V) (l3 : mm_V) (l5 : mm_V) (l6 : mm_V) (l7 : mm_V) (l8 : mm_V), mm_E d 6 36 [l0, l1, l2, l3, (.inl z), l5, l6, l7, l8] [] st n I L P = mm_E d 6 38 [l0, l1, l2, l3, (.inl z), l5, l6, l7, l8] [] ((.inl z) :: st) n I L P) ∧
  (∀ (lv : List mm_V) (st : List mm_V), mm_E d 6 38 lv [] st n I L P = mm_E d 6 39 lv [] (.inl 0 :: st) n I L P) ∧
  (∀ (lv : List mm_V) (st : List mm_V), mm_E d 6 39 lv [] st n I L P = mm_E d 6 40 lv [] (.inl 1 :: st) n I L P) ∧
  (∀ (lv : List mm_V) a x0 x1 x2, (mm_ok n a 5) → mm_E d 6 40 lv [] (.inl x2 :: .inl x1 :: .inl x0 :: .inr (.inr (some a)) :: []) n I L P = mm_kv d 6 43 lv [] [] n (mm_rn d 45 [.inr (.inr (some a)), .inl x0, .inl x1, .inl x2] n I L P)) ∧
  (∀ (st : List mm_V) z (l0 : mm_V) (l1 : mm_V) (l2 : mm_V) (l3 : mm_V) (l4 : mm_V) (l5 : mm_V) (l6 : mm_V) (l8 : mm_V), mm_E d 6 43 [l0, l1, l2, l3, l4, l5, l6, (.inl z), l8] [] st n I L P = mm_E d 6 45 [l0, l1, l2, l3, l4, l5, l6, (.inl z), l8] [] ((.inl z) :: st) n I L P) ∧
  (∀ (st : List mm_V) z (l1 : mm_V) (l2 : mm_V) (l3 : mm_V) (l4 : mm_V) (l5 : mm_V) (l6 : mm_V) (l7 : mm_V) (l8 : mm_V), mm_E d 6 45 [(.inr (.inr z)), l1, l2, l3, l4, l5, l6, l7, l8] [] st n I L P = mm_E d 6 46 [(.inr (.inr z)), l1, l2, l3, l4, l5, l6, l7, l8] [] ((.inr (.inr z)) :: st) n I L P) ∧
  (∀ (lv : List mm_V) (st : List mm_V) a, (mm_ok n a 0) → mm_E d 6 46 lv [] (.inr (.inr (some a)) :: st) n I L P = mm_E d 6 49 lv [] (.inr (.inr (P a 0)) :: st) n I L P) ∧
  (∀ (st : List mm_V) z (l0 : mm_V) (l1 : mm_V) (l3 : mm_V) (l4 : mm_V) (l5 : mm_V) (l6 : mm_V) (l7 : mm_V) (l8 : mm_V), mm_E d 6 49 [l0, l1, (.inr (.inr z)), l3, l4, l5, l6, l7, l8] [] st n I L P = mm_E d 6 50 [l0, l1, (.inr (.inr z)), l3, l4, l5, l6, l7, l8] [] ((.inr (.inr z)) :: st) n I L P) ∧
  (∀ (st : List mm_V) z (l0 : mm_V) (l1 : mm_V) (l2 : mm_V) (l4 : mm_V) (l5 : mm_V) (l6 : mm_V) (l7 : mm_V) (l8 : mm_V), mm_E d 6 50 [l0, l1, l2, (.inr (.inr z)), l4, l5, l6, l7, l8] [] st n I L P = mm_E d 6 51 [l0, l1, l2, (.inr (.inr z)), l4, l5, l6, l7, l8] [] ((.inr (.inr z)) :: st) n I L P) ∧
  (∀ (lv : List mm_V) a x0 x1 w0, (mm_ok n a 5) → mm_E d 6 51 lv [] (.inr (.inr x1) :: .inr (.inr x0) :: .inr (.inr (some a)) :: [.inl w0]) n I L P = mm_kr d 6 54 lv [] [.inl w0] n (mm_rn d 47 [.inr (.inr (some a)), .inr (.inr x0), .inr (.inr x1)] n I L P)) ∧
  (∀ (lv : List mm_V) (st : List mm_V) a b, mm_E d 6 54 lv [] (.inl b :: .inl a :: st) n I L P = mm_E d 6 55 lv [] (.inl (mm_add a b) :: st) n I L P) ∧
  (∀ (st : List mm_V) z (l0 : mm_V) (l1 : mm_V) (l2 : mm_V) (l3 : mm_V) (l4 : mm_V) (l5 : mm_V) (l6 : mm_V) (l7 : mm_V) (l8 : mm_V), mm_E d 6 55 [l0, l1, l2, l3, l4, l5, l6, l7, l8] [] ((.inl z) :: st) n I L P = mm_E d 6 57 [l0, l1, l2, l3, l4, l5, l6, (.inl z), l8] [] st n I L P) ∧
  (∀ (st : List mm_V) z (l0 : mm_V) (l1 : mm_V) (l2 : mm_V) (l3 : mm_V) (l4 : mm_V) (l5 : mm_V) (l6 : mm_V) (l7 : mm_V), mm_E d 6 57 [l0, l1, l2, l3, l4, l5, l6, l7, (.inl z)] [] st n I L P = mm_E d 6 60 [l0, l1, l2, l3, l4, l5, l6, l7, (.inl (mm_add z 1))] [] st n I L P) ∧
  (∀ (lv : List mm_V) (st : List mm_V), mm_E d 6 60 lv [] st n I L P = mm_E d 6 14 lv [] st n I L P) ∧
  (∀ (st : List mm_V) z (l0 : mm_V) (l1 : mm_V) (l2 : mm_V) (l3 : mm_V) (l4 : mm_V) (l5 : mm_V) (l6 : mm_V) (l8 : mm_V), mm_E d 6 63 [l0, l1, l2, l3, l4, l5, l6, (.inl z), l8] [] st n I L P = mm_E d 6 65 [l0, l1, l2, l3, l4, l5, l6, (.inl z), l8] [] ((.inl z) :: st) n I L P) ∧
  (∀ (lv : List mm_V) z, mm_E d 6 65 lv [] [.inl z] n I L P = some (some (.inl z), n, I, L, P)) :=
  ⟨fun _ _ _ _ _ _ _ _ _ _ => mq_al (i := 0) rfl rfl,
   fun _ _ _ h0 => mq_getR rfl h0,
   fun _ _ _ _ _ _ _ _ _ _ => mq_al (i := 1) rfl rfl,
   fun _ _ _ h0 => mq_cVv (na := 1) rfl rfl (Nat.le_of_ble_eq_true rfl) (Nat.le_of_ble_eq_true rfl) h0,
   fun _ _ => mq_push rfl,
   fun _ _ _ _ _ _ _ _ _ _ _ => mq_is (i := 7) rfl rfl rfl,
   fun _ _ => mq_push rfl,
   fun _ _ _ _ _ _ _ _ _ _ _ => mq_is (i := 8) rfl rfl rfl,
   fun _ _ _ _ _ _ _ _ _ _ => mq_il (i := 5) rfl rfl,
   fun _ _ _ _ => mq_ic_ge rfl,
   fun _ _ _ _ _ _ _ _ _ _ => mq_il (i := 6) rfl rfl,
   fun _ _ _ _ _ _ _ _ _ _ => mq_il (i := 8) rfl rfl,
   fun _ _ _ _ => mq_bi rfl,
   fun _ _ => mq_push rfl,
   fun _ _ _ _ => mq_bi rfl,
   fun _ _ => mq_push rfl,
   fun _ _ _ _ => mq_ic_ne rfl,
   fun _ _ _ _ _ _ _ _ _ _ => mq_al (i := 0) rfl rfl,
   fun _ _ _ h0 => mq_getR rfl h0,
   fun _ _ _ _ _ _ _ _ _ _ => mq_il (i := 4) rfl rfl,
   fun _ _ => mq_push rfl,
   fun _ _ => mq_push rfl,
   fun _ _ _ _ _ h0 => mq_cVv (na := 3) rfl rfl (Nat.le_of_ble_eq_true rfl) (Nat.le_of_ble_eq_true rfl) h0,
   fun _ _ _ _ _ _ _ _ _ _ => mq_il (i := 7) rfl rfl,
   fun _ _ _ _ _ _ _ _ _ _ => mq_al (i := 0) rfl rfl,
   fun _ _ _ h0 => mq_getR rfl h0,
   fun _ _ _ _ _ _ _ _ _ _ => mq_al (i := 2) rfl rfl,
   fun _ _ _ _ _ _ _ _ _ _ => mq_al (i := 3) rfl rfl,
   fun _ _ _ _ _ h0 => mq_cVr (na := 2) rfl rfl (Nat.le_of_ble_eq_true rfl) (Nat.le_of_ble_eq_true rfl) h0,
   fun _ _ _ _ => mq_bi rfl,
   fun _ _ _ _ _ _ _ _ _ _ _ => mq_is (i := 7) rfl rfl rfl,
   fun _ _ _ _ _ _ _ _ _ _ => mq_iinc (i := 8) rfl rfl rfl rfl,
   fun _ _ => mq_go rfl,
   fun _ _ _ _ _ _ _ _ _ _ => mq_il (i := 7) rfl rfl,
   fun _ _ => mq_ri rfl⟩
theorem hX0_lostByFires_14 (d n : Nat) (I L : mm_I) (P : mm_P) : ∀ (st : List mm_V) z (l0 : mm_V) (l1 : mm_V) (l2 : mm_V) (l3 : mm_V) (l4 : mm_V) (l5 : mm_V) (l6 : mm_V) (l7 : mm_V), mm_E d 6 14 [l0, l1, l2, l3, l4, l5, l6, l7, (.inl z)] [] st n I L P = mm_E d 6 16 [l0, l1, l2, l3, l4, l5, l6, l7, (.inl z)] [] ((.inl z) :: st) n I L P := fun _ _ _ _ _ _ _ _ _ _ => mq_il (i := 8) rfl rfl
theorem eX0_lostByFires (d n : Nat) (I L : mm_I) (P : mm_P) (x0 : Option Nat) (x1 : Option Nat) (x2 : Option Nat) (x3 : Option Nat) (x4 : Int) (x5 : Int) (x6 : Int) : mm_rn (d + 1) 6 [.inr (.inr x0), .inr (.inr x1), .inr (.inr x2), .inr (.inr x3), .inl x4, .inl x5, .inl x6] n I L P = mm_E d 6 0 [.inr (.inr x0), .inr (.inr x1), .inr (.inr x2), .inr (.inr x3), .inl x4, .inl x5, .inl x6, mm_junk, mm_junk] [] [] n I L P := rfl

set_option maxRecDepth 20000 in
set_option maxHeartbeats 8000000 in
theorem kX1_init (d n : Nat) (I L : mm_I) (P : mm_P) :
  (∀ (st : List mm_V) z, mm_E d 7 0 [(.inr (.inr z))] [] st n I L P = mm_E d 7 1 [(.inr (.inr z))] [] ((.inr (.inr z)) :: st) n I L P) ∧
  (∀ (lv : List mm_V) a, (a < n) → mm_E d 7 1 lv [] (.inr (.inr (some a)) :: []) n I L P = mm_E d 7 4 lv [] [] n I L P) ∧
  (∀ (st : List mm_V) z, mm_E d 7 4 [(.inr (.inr z))] [] st n I L P = mm_E d 7 5 [(.inr (.inr z))] [] ((.inr (.inr z)) :: st) n I L P) ∧
  (∀ (lv : List mm_V) (st : List mm_V), mm_E d 7 5 lv [] st n I L P = mm_E d 7 7 lv [] (.inl 100 :: st) n I L P) ∧
  (∀ (lv : List mm_V) (st : List mm_V) z, (n < mm_NC ∧ mm_ty n = (20, z.toNat) ∧ 0 ≤ z) → mm_E d 7 7 lv [] (.inl z :: st) n I L P = mm_E d 7 9 lv [] (.inr (.inr (some n)) :: st) (n + 1) (mm_zi I n) (mm_zi L n) (mm_zp P n)) ∧
  (∀ (lv : List mm_V) (st : List mm_V) a z, (mm_ok n a 1) → mm_E d 7 9 lv [] (.inr (.inr z) :: .inr (.inr (some a)) :: st) n I L P = mm_E d 7 12 lv [] st n I L (mm_up P a 0 z)) ∧
  (∀ (st : List mm_V) z, mm_E d 7 12 [(.inr (.inr z))] [] st n I L P = mm_E d 7 13 [(.inr (.inr z))] [] ((.inr (.inr z)) :: st) n I L P) ∧
  (∀ (lv : List mm_V) (st : List mm_V), mm_E d 7 13 lv [] st n I L P = mm_E d 7 15 lv [] (.inl 100 :: st) n I L P) ∧
  (∀ (lv : List mm_V) (st : List mm_V) z, (n < mm_NC ∧ mm_ty n = (20, z.toNat) ∧ 0 ≤ z) → mm_E d 7 15 lv [] (.inl z :: st) n I L P = mm_E d 7 17 lv [] (.inr (.inr (some n)) :: st) (n + 1) (mm_zi I n) (mm_zi L n) (mm_zp P n)) ∧
  (∀ (lv : List mm_V) (st : List mm_V) a z, (mm_ok n a 1) → mm_E d 7 17 lv [] (.inr (.inr z) :: .inr (.inr (some a)) :: st) n I L P = mm_E d 7 20 lv [] st n I L (mm_up P a 1 z)) ∧
  (∀ (st : List mm_V) z, mm_E d 7 20 [(.inr (.inr z))] [] st n I L P = mm_E d 7 21 [(.inr (.inr z))] [] ((.inr (.inr z)) :: st) n I L P) ∧
  (∀ (lv : List mm_V) (st : List mm_V), mm_E d 7 21 lv [] st n I L P = mm_E d 7 23 lv [] (.inl 100 :: st) n I L P) ∧
  (∀ (lv : List mm_V) (st : List mm_V) z, (n < mm_NC ∧ mm_ty n = (20, z.toNat) ∧ 0 ≤ z) → mm_E d 7 23 lv [] (.inl z :: st) n I L P = mm_E d 7 25 lv [] (.inr (.inr (some n)) :: st) (n + 1) (mm_zi I n) (mm_zi L n) (mm_zp P n)) ∧
  (∀ (lv : List mm_V) (st : List mm_V) a z, (mm_ok n a 1) → mm_E d 7 25 lv [] (.inr (.inr z) :: .inr (.inr (some a)) :: st) n I L P = mm_E d 7 28 lv [] st n I L (mm_up P a 2 z)) ∧
  (∀ (lv : List mm_V), mm_E d 7 28 lv [] [] n I L P = some (none, n, I, L, P)) :=
  ⟨fun _ _ => mq_al (i := 0) rfl rfl,
   fun _ _ h0 => mq_oi rfl h0 (Nat.le_of_ble_eq_true rfl),
   fun _ _ => mq_al (i := 0) rfl rfl,
   fun _ _ => mq_push rfl,
   fun _ _ _ h0 => mq_newa rfl h0,
   fun _ _ _ _ h0 => mq_putR rfl h0,
   fun _ _ => mq_al (i := 0) rfl rfl,
   fun _ _ => mq_push rfl,
   fun _ _ _ h0 => mq_newa rfl h0,
   fun _ _ _ _ h0 => mq_putR rfl h0,
   fun _ _ => mq_al (i := 0) rfl rfl,
   fun _ _ => mq_push rfl,
   fun _ _ _ h0 => mq_newa rfl h0,
   fun _ _ _ _ h0 => mq_putR rfl h0,
   fun _ => mq_rv rfl⟩
theorem eX1_init (d n : Nat) (I L : mm_I) (P : mm_P) (x0 : Option Nat) : mm_rn (d + 1) 7 [.inr (.inr x0)] n I L P = mm_E d 7 0 [.inr (.inr x0)] [] [] n I L P := rfl

set_option maxRecDepth 20000 in
set_option maxHeartbeats 8000000 in
theorem kX1_write (d n : Nat) (I L : mm_I) (P : mm_P) :
  (∀ (st : List mm_V) z (l0 : mm_V) (l2 : mm_V) (l3 : mm_V) (l4 : mm_V) (l5 : mm_V), mm_E d 8 0 [l0, (.inl z), l2, l3, l4, l5] [] st n I L P = mm_E d 8 1 [l0, (.inl z), l2, l3, l4, l5] [] ((.inl z) :: st) n I L P) ∧
  (∀ (lv : List mm_V) (st : List mm_V), mm_E d 8 1 lv [] st n I L P = mm_E d 8 3 lv [] (.inl 100 :: st) n I L P) ∧
  (∀ (lv : List mm_V) x0 x1, mm_E d 8 3 lv [] (.inl x1 :: .inl x0 :: []) n I L P = mm_kr d 8 6 lv [] [] n (mm_rn d 264 [.inl x0, .inl x1] n I L P)) ∧
  (∀ (st : List mm_V) z (l0 : mm_V) (l1 : mm_V) (l2 : mm_V) (l3 : mm_V) (l4 : mm_V) (l5 : mm_V), mm_E d 8 6 [l0, l1, l2, l3, l4, l5] [] ((.inl z) :: st) n I L P = mm_E d 8 8 [l0, l1, l2, l3, l4, (.inl z)] [] st n I L P) ∧
  (∀ (st : List mm_V) z (l1 : mm_V) (l2 : mm_V) (l3 : mm_V) (l4 : mm_V) (l5 : mm_V), mm_E d 8 8 [(.inr (.inr z)), l1, l2, l3, l4, l5] [] st n I L P = mm_E d 8 9 [(.inr (.inr z)), l1, l2, l3, l4, l5] [] ((.inr (.inr z)) :: st) n I L P) ∧
  (∀ (lv : List mm_V) (st : List mm_V) a, (mm_ok n a 1) → mm_E d 8 9 lv [] (.inr (.inr (some a)) :: st) n I L P = mm_E d 8 12 lv [] (.inr (.inr (P a 0)) :: st) n I L P) ∧
  (∀ (st : List mm_V) z (l0 : mm_V) (l1 : mm_V) (l2 : mm_V) (l3 : mm_V) (l4 : mm_V), mm_E d 8 12 [l0, l1, l2, l3, l4, (.inl z)] [] st n I L P = mm_E d 8 14 [l0, l1, l2, l3, l4, (.inl z)] [] ((.inl z) :: st) n I L P) ∧
  (∀ (st : List mm_V) z (l0 : mm_V) (l1 : mm_V) (l3 : mm_V) (l4 : mm_V) (l5 : mm_V), mm_E d 8 14 [l0, l1, (.inl z), l3, l4, l5] [] st n I L P = mm_E d 8 15 [l0, l1, (.inl z), l3, l4, l5] [] ((.inl z) :: st) n I L P) ∧
  (∀ (lv : List mm_V) (st : List mm_V) a i z, (mm_ix n a 20 i) → mm_E d 8 15 lv [] (.inl z :: .inl i :: .inr (.inr (some a)) :: st) n I L P = mm_E d 8 16 lv [] st n (mm_ui I a i.toNat z) L P) ∧
  (∀ (st : List mm_V) z (l1 : mm_V) (l2 : mm_V) (l3 : mm_V) (l4 : mm_V) (l5 : mm_V), mm_E d 8 16 [(.inr (.inr z)), l1, l2, l3, l4, l5] [] st n I L P = mm_E d 8 17 [(.inr (.inr z)), l1, l2, l3, l4, l5] [] ((.inr (.inr z)) :: st) n I L P) ∧
  (∀ (lv : List mm_V) (st : List mm_V) a, (mm_ok n a 1) → mm_E d 8 17 lv [] (.inr (.inr (some a)) :: st) n I L P = mm_E d 8 20 lv [] (.inr (.inr (P a 1)) :: st) n I L P) ∧
  (∀ (st : List mm_V) z (l0 : mm_V) (l1 : mm_V) (l2 : mm_V) (l3 : mm_V) (l4 : mm_V), mm_E d 8 20 [l0, l1, l2, l3, l4, (.inl z)] [] st n I L P = mm_E d 8 22 [l0, l1, l2, l3, l4, (.inl z)] [] ((.inl z) :: st) n I L P) ∧
  (∀ (st : List mm_V) z (l0 : mm_V) (l1 : mm_V) (l2 : mm_V) (l4 : mm_V) (l5 : mm_V), mm_E d 8 22 [l0, l1, l2, (.inl z), l4, l5] [] st n I L P = mm_E d 8 23 [l0, l1, l2, (.inl z), l4, l5] [] ((.inl z) :: st) n I L P) ∧
  (∀ (lv : List mm_V) (st : List mm_V) a i z, (mm_ix n a 20 i) → mm_E d 8 23 lv [] (.inl z :: .inl i :: .inr (.inr (some a)) :: st) n I L P = mm_E d 8 24 lv [] st n (mm_ui I a i.toNat z) L P) ∧
  (∀ (st : List mm_V) z (l1 : mm_V) (l2 : mm_V) (l3 : mm_V) (l4 : mm_V) (l5 : mm_V), mm_E d 8 24 [(.inr (.inr z)), l1, l2, l3, l4, l5] [] st n I L P = mm_E d 8 25 [(.inr (.inr z)), l1, l2, l3, l4, l5] [] ((.inr (.inr z)) :: st) n I L P) ∧
  (∀ (lv : List mm_V) (st : List mm_V) a, (mm_ok n a 1) → mm_E d 8 25 lv [] (.inr (.inr (some a)) :: st) n I L P = mm_E d 8 28 lv [] (.inr (.inr (P a 2)) :: st) n I L P) ∧
  (∀ (st : List mm_V) z (l0 : mm_V) (l1 : mm_V) (l2 : mm_V) (l3 : mm_V) (l4 : mm_V), mm_E d 8 28 [l0, l1, l2, l3, l4, (.inl z)] [] st n I L P = mm_E d 8 30 [l0, l1, l2, l3, l4, (.inl z)] [] ((.inl z) :: st) n I L P) ∧
  (∀ (st : List mm_V) z (l0 : mm_V) (l1 : mm_V) (l2 : mm_V) (l3 : mm_V) (l5 : mm_V), mm_E d 8 30 [l0, l1, l2, l3, (.inl z), l5] [] st n I L P = mm_E d 8 32 [l0, l1, l2, l3, (.inl z), l5] [] ((.inl z) :: st) n I L P) ∧
  (∀ (lv : List mm_V) (st : List mm_V) a i z, (mm_ix n a 20 i) → mm_E d 8 32 lv [] (.inl z :: .inl i :: .inr (.inr (some a)) :: st) n I L P = mm_E d 8 33 lv [] st n (mm_ui I a i.toNat z) L P) ∧
  (∀ (lv : List mm_V), mm_E d 8 33 lv [] [] n I L P = some (none, n, I, L, P)) :=
  ⟨fun _ _ _ _ _ _ _ => mq_il (i := 1) rfl rfl,
   fun _ _ => mq_push rfl,
   fun _ _ _ => mq_cSr (na := 2) rfl (Nat.le_of_ble_eq_true rfl) (Nat.le_of_ble_eq_true rfl),
   fun _ _ _ _ _ _ _ _ => mq_is (i := 5) rfl rfl rfl,
   fun _ _ _ _ _ _ _ => mq_al (i := 0) rfl rfl,
   fun _ _ _ h0 => mq_getR rfl h0,
   fun _ _ _ _ _ _ _ => mq_il (i := 5) rfl rfl,
   fun _ _ _ _ _ _ _ => mq_il (i := 2) rfl rfl,
   fun _ _ _ _ _ h0 => mq_iast rfl h0,
   fun _ _ _ _ _ _ _ => mq_al (i := 0) rfl rfl,
   fun _ _ _ h0 => mq_getR rfl h0,
   fun _ _ _ _ _ _ _ => mq_il (i := 5) rfl rfl,
   fun _ _ _ _ _ _ _ => mq_il (i := 3) rfl rfl,
   fun _ _ _ _ _ h0 => mq_iast rfl h0,
   fun _ _ _ _ _ _ _ => mq_al (i := 0) rfl rfl,
   fun _ _ _ h0 => mq_getR rfl h0,
   fun _ _ _ _ _ _ _ => mq_il (i := 5) rfl rfl,
   fun _ _ _ _ _ _ _ => mq_il (i := 4) rfl rfl,
   fun _ _ _ _ _ h0 => mq_iast rfl h0,
   fun _ => mq_rv rfl⟩
theorem eX1_write (d n : Nat) (I L : mm_I) (P : mm_P) (x0 : Option Nat) (x1 : Int) (x2 : Int) (x3 : Int) (x4 : Int) : mm_rn (d + 1) 8 [.inr (.inr x0), .inl x1, .inl x2, .inl x3, .inl x4] n I L P = mm_E d 8 0 [.inr (.inr x0), .inl x1, .inl x2, .inl x3, .inl x4, mm_junk] [] [] n I L P := rfl

set_option maxRecDepth 20000 in
set_option maxHeartbeats 8000000 in
theorem kX1_read (d n : Nat) (I L : mm_I) (P : mm_P) :
  (∀ (st : List mm_V) z (l0 : mm_V) (l2 : mm_V) (l3 : mm_V), mm_E d 9 0 [l0, (.inl z), l2, l3] [] st n I L P = mm_E d 9 1 [l0, (.inl z), l2, l3] [] ((.inl z) :: st) n I L P) ∧
  (∀ (lv : List mm_V) (st : List mm_V), mm_E d 9 1 lv [] st n I L P = mm_E d 9 3 lv [] (.inl 100 :: st) n I L P) ∧
  (∀ (lv : List mm_V) x0 x1, mm_E d 9 3 lv [] (.inl x1 :: .inl x0 :: []) n I L P = mm_kr d 9 6 lv [] [] n (mm_rn d 264 [.inl x0, .inl x1] n I L P)) ∧
  (∀ (st : List mm_V) z (l0 : mm_V) (l1 : mm_V) (l2 : mm_V) (l3 : mm_V), mm_E d 9 6 [l0, l1, l2, l3] [] ((.inl z) :: st) n I L P = mm_E d 9 7 [l0, l1, l2, (.inl z)] [] st n I L P) ∧
  (∀ (st : List mm_V) z (l0 : mm_V) (l1 : mm_V) (l3 : mm_V), mm_E d 9 7 [l0, l1, (.inl z), l3] [] st n I L P = mm_E d 9 8 [l0, l1, (.inl z), l3] [] ((.inl z) :: st) n I L P) ∧
  (∀ (lv : List mm_V) (st : List mm_V) a, mm_E d 9 8 lv [] (.inl a :: st) n I L P = if a = 0 then mm_E d 9 36 lv [] st n I L P else if a = 1 then mm_E d 9 43 lv [] st n I L P else if a = 2 then mm_E d 9 50 lv [] st n I L P else mm_E d 9 57 lv [] st n I L P) ∧
  (∀ (st : List mm_V) z (l1 : mm_V) (l2 : mm_V) (l3 : mm_V), mm_E d 9 36 [(.inr (.inr z)), l1, l2, l3] [] st n I L P = mm_E d 9 37 [(.inr (.inr z)), l1, l2, l3] [] ((.inr (.inr z)) :: st) n I L P) ∧
  (∀ (lv : List mm_V) (st : List mm_V) a, (mm_ok n a 1) → mm_E d 9 37 lv [] (.inr (.inr (some a)) :: st) n I L P = mm_E d 9 40 lv [] (.inr (.inr (P a 0)) :: st) n I L P) ∧
  (∀ (st : List mm_V) z (l0 : mm_V) (l1 : mm_V) (l2 : mm_V), mm_E d 9 40 [l0, l1, l2, (.inl z)] [] st n I L P = mm_E d 9 41 [l0, l1, l2, (.inl z)] [] ((.inl z) :: st) n I L P) ∧
  (∀ (lv : List mm_V) (st : List mm_V) a i, (mm_ix n a 20 i) → mm_E d 9 41 lv [] (.inl i :: .inr (.inr (some a)) :: st) n I L P = mm_E d 9 42 lv [] (.inl (I a i.toNat) :: st) n I L P) ∧
  (∀ (lv : List mm_V) z, mm_E d 9 42 lv [] [.inl z] n I L P = some (some (.inl z), n, I, L, P)) ∧
  (∀ (st : List mm_V) z (l1 : mm_V) (l2 : mm_V) (l3 : mm_V), mm_E d 9 43 [(.inr (.inr z)), l1, l2, l3] [] st n I L P = mm_E d 9 44 [(.inr (.inr z)), l1, l2, l3] [] ((.inr (.inr z)) :: st) n I L P) ∧
  (∀ (lv : List mm_V) (st : List mm_V) a, (mm_ok n a 1) → mm_E d 9 44 lv [] (.inr (.inr (some a)) :: st) n I L P = mm_E d 9 47 lv [] (.inr (.inr (P a 1)) :: st) n I L P) ∧
  (∀ (st : List mm_V) z (l0 : mm_V) (l1 : mm_V) (l2 : mm_V), mm_E d 9 47 [l0, l1, l2, (.inl z)] [] st n I L P = mm_E d 9 48 [l0, l1, l2, (.inl z)] [] ((.inl z) :: st) n I L P) ∧
  (∀ (lv : List mm_V) (st : List mm_V) a i, (mm_ix n a 20 i) → mm_E d 9 48 lv [] (.inl i :: .inr (.inr (some a)) :: st) n I L P = mm_E d 9 49 lv [] (.inl (I a i.toNat) :: st) n I L P) ∧
  (∀ (lv : List mm_V) z, mm_E d 9 49 lv [] [.inl z] n I L P = some (some (.inl z), n, I, L, P)) ∧
  (∀ (st : List mm_V) z (l1 : mm_V) (l2 : mm_V) (l3 : mm_V), mm_E d 9 50 [(.inr (.inr z)), l1, l2, l3] [] st n I L P = mm_E d 9 51 [(.inr (.inr z)), l1, l2, l3] [] ((.inr (.inr z)) :: st) n I L P) ∧
  (∀ (lv : List mm_V) (st : List mm_V) a, (mm_ok n a 1) → mm_E d 9 51 lv [] (.inr (.inr (some a)) :: st) n I L P = mm_E d 9 54 lv [] (.inr (.inr (P a 2)) :: st) n I L P) ∧
  (∀ (st : List mm_V) z (l0 : mm_V) (l1 : mm_V) (l2 : mm_V), mm_E d 9 54 [l0, l1, l2, (.inl z)] [] st n I L P = mm_E d 9 55 [l0, l1, l2, (.inl z)] [] ((.inl z) :: st) n I L P) ∧
  (∀ (lv : List mm_V) (st : List mm_V) a i, (mm_ix n a 20 i) → mm_E d 9 55 lv [] (.inl i :: .inr (.inr (some a)) :: st) n I L P = mm_E d 9 56 lv [] (.inl (I a i.toNat) :: st) n I L P) ∧
  (∀ (lv : List mm_V) z, mm_E d 9 56 lv [] [.inl z] n I L P = some (some (.inl z), n, I, L, P)) ∧
  (∀ (lv : List mm_V) (st : List mm_V), mm_E d 9 57 lv [] st n I L P = mm_E d 9 58 lv [] (.inl (-1) :: st) n I L P) ∧
  (∀ (lv : List mm_V) z, mm_E d 9 58 lv [] [.inl z] n I L P = some (some (.inl z), n, I, L, P)) :=
  ⟨fun _ _ _ _ _ => mq_il (i := 1) rfl rfl,
   fun _ _ => mq_push rfl,
   fun _ _ _ => mq_cSr (na := 2) rfl (Nat.le_of_ble_eq_true rfl) (Nat.le_of_ble_eq_true rfl),
   fun _ _ _ _ _ _ => mq_is (i := 3) rfl rfl rfl,
   fun _ _ _ _ _ => mq_il (i := 2) rfl rfl,
   fun _ _ _ => mq_sw (l := [(0, 36), (1, 43), (2, 50)]) (df := 57) rfl,
   fun _ _ _ _ _ => mq_al (i := 0) rfl rfl,
   fun _ _ _ h0 => mq_getR rfl h0,
   fun _ _ _ _ _ => mq_il (i := 3) rfl rfl,
   fun _ _ _ _ h0 => mq_iald rfl h0,
   fun _ _ => mq_ri rfl,
   fun _ _ _ _ _ => mq_al (i := 0) rfl rfl,
   fun _ _ _ h0 => mq_getR rfl h0,
   fun _ _ _ _ _ => mq_il (i := 3) rfl rfl,
   fun _ _ _ _ h0 => mq_iald rfl h0,
   fun _ _ => mq_ri rfl,
   fun _ _ _ _ _ => mq_al (i := 0) rfl rfl,
   fun _ _ _ h0 => mq_getR rfl h0,
   fun _ _ _ _ _ => mq_il (i := 3) rfl rfl,
   fun _ _ _ _ h0 => mq_iald rfl h0,
   fun _ _ => mq_ri rfl,
   fun _ _ => mq_push rfl,
   fun _ _ => mq_ri rfl⟩
theorem eX1_read (d n : Nat) (I L : mm_I) (P : mm_P) (x0 : Option Nat) (x1 : Int) (x2 : Int) : mm_rn (d + 1) 9 [.inr (.inr x0), .inl x1, .inl x2] n I L P = mm_E d 9 0 [.inr (.inr x0), .inl x1, .inl x2, mm_junk] [] [] n I L P := rfl

set_option maxRecDepth 20000 in
set_option maxHeartbeats 8000000 in
theorem kX1_copyFrom (d n : Nat) (I L : mm_I) (P : mm_P) :
  (∀ (st : List mm_V) z (l0 : mm_V), mm_E d 10 0 [l0, (.inr (.inr z))] [] st n I L P = mm_E d 10 1 [l0, (.inr (.inr z))] [] ((.inr (.inr z)) :: st) n I L P) ∧
  (∀ (lv : List mm_V) (st : List mm_V) a, (mm_ok n a 1) → mm_E d 10 1 lv [] (.inr (.inr (some a)) :: st) n I L P = mm_E d 10 4 lv [] (.inr (.inr (P a 0)) :: st) n I L P) ∧
  (∀ (lv : List mm_V) (st : List mm_V), mm_E d 10 4 lv [] st n I L P = mm_E d 10 5 lv [] (.inl 0 :: st) n I L P) ∧
  (∀ (st : List mm_V) z (l1 : mm_V), mm_E d 10 5 [(.inr (.inr z)), l1] [] st n I L P = mm_E d 10 6 [(.inr (.inr z)), l1] [] ((.inr (.inr z)) :: st) n I L P) ∧
  (∀ (lv : List mm_V) (st : List mm_V) a, (mm_ok n a 1) → mm_E d 10 6 lv [] (.inr (.inr (some a)) :: st) n I L P = mm_E d 10 9 lv [] (.inr (.inr (P a 0)) :: st) n I L P) ∧
  (∀ (lv : List mm_V) (st : List mm_V), mm_E d 10 9 lv [] st n I L P = mm_E d 10 10 lv [] (.inl 0 :: st) n I L P) ∧
  (∀ (lv : List mm_V) (st : List mm_V), mm_E d 10 10 lv [] st n I L P = mm_E d 10 12 lv [] (.inl 100 :: st) n I L P) ∧
  (∀ (lv : List mm_V) s t k u v, (s < n ∧ t < n ∧ s ≠ t ∧ (mm_ty s).1 = 20 ∧ (mm_ty t).1 = 20 ∧ 0 ≤ k ∧ 0 ≤ v ∧ 0 ≤ u ∧ v + k ≤ ((mm_ty s).2 : Int) ∧ u + k ≤ ((mm_ty t).2 : Int)) → mm_E d 10 12 lv [] (.inl k :: .inl u :: .inr (.inr (some t)) :: .inl v :: .inr (.inr (some s)) :: []) n I L P = mm_E d 10 15 lv [] [] n (mm_cpy I s v.toNat t u.toNat k.toNat) L P) ∧
  (∀ (st : List mm_V) z (l0 : mm_V), mm_E d 10 15 [l0, (.inr (.inr z))] [] st n I L P = mm_E d 10 16 [l0, (.inr (.inr z))] [] ((.inr (.inr z)) :: st) n I L P) ∧
  (∀ (lv : List mm_V) (st : List mm_V) a, (mm_ok n a 1) → mm_E d 10 16 lv [] (.inr (.inr (some a)) :: st) n I L P = mm_E d 10 19 lv [] (.inr (.inr (P a 1)) :: st) n I L P) ∧
  (∀ (lv : List mm_V) (st : List mm_V), mm_E d 10 19 lv [] st n I L P = mm_E d 10 20 lv [] (.inl 0 :: st) n I L P) ∧
  (∀ (st : List mm_V) z (l1 : mm_V), mm_E d 10 20 [(.inr (.inr z)), l1] [] st n I L P = mm_E d 10 21 [(.inr (.inr z)), l1] [] ((.inr (.inr z)) :: st) n I L P) ∧
  (∀ (lv : List mm_V) (st : List mm_V) a, (mm_ok n a 1) → mm_E d 10 21 lv [] (.inr (.inr (some a)) :: st) n I L P = mm_E d 10 24 lv [] (.inr (.inr (P a 1)) :: st) n I L P) ∧
  (∀ (lv : List mm_V) (st : List mm_V), mm_E d 10 24 lv [] st n I L P = mm_E d 10 25 lv [] (.inl 0 :: st) n I L P) ∧
  (∀ (lv : List mm_V) (st : List mm_V), mm_E d 10 25 lv [] st n I L P = mm_E d 10 27 lv [] (.inl 100 :: st) n I L P) ∧
  (∀ (lv : List mm_V) s t k u v, (s < n ∧ t < n ∧ s ≠ t ∧ (mm_ty s).1 = 20 ∧ (mm_ty t).1 = 20 ∧ 0 ≤ k ∧ 0 ≤ v ∧ 0 ≤ u ∧ v + k ≤ ((mm_ty s).2 : Int) ∧ u + k ≤ ((mm_ty t).2 : Int)) → mm_E d 10 27 lv [] (.inl k :: .inl u :: .inr (.inr (some t)) :: .inl v :: .inr (.inr (some s)) :: []) n I L P = mm_E d 10 30 lv [] [] n (mm_cpy I s v.toNat t u.toNat k.toNat) L P) ∧
  (∀ (st : List mm_V) z (l0 : mm_V), mm_E d 10 30 [l0, (.inr (.inr z))] [] st n I L P = mm_E d 10 31 [l0, (.inr (.inr z))] [] ((.inr (.inr z)) :: st) n I L P) ∧
  (∀ (lv : List mm_V) (st : List mm_V) a, (mm_ok n a 1) → mm_E d 10 31 lv [] (.inr (.inr (some a)) :: st) n I L P = mm_E d 10 34 lv [] (.inr (.inr (P a 2)) :: st) n I L P) ∧
  (∀ (lv : List mm_V) (st : List mm_V), mm_E d 10 34 lv [] st n I L P = mm_E d 10 35 lv [] (.inl 0 :: st) n I L P) ∧
  (∀ (st : List mm_V) z (l1 : mm_V), mm_E d 10 35 [(.inr (.inr z)), l1] [] st n I L P = mm_E d 10 36 [(.inr (.inr z)), l1] [] ((.inr (.inr z)) :: st) n I L P) ∧
  (∀ (lv : List mm_V) (st : List mm_V) a, (mm_ok n a 1) → mm_E d 10 36 lv [] (.inr (.inr (some a)) :: st) n I L P = mm_E d 10 39 lv [] (.inr (.inr (P a 2)) :: st) n I L P) ∧
  (∀ (lv : List mm_V) (st : List mm_V), mm_E d 10 39 lv [] st n I L P = mm_E d 10 40 lv [] (.inl 0 :: st) n I L P) ∧
  (∀ (lv : List mm_V) (st : List mm_V), mm_E d 10 40 lv [] st n I L P = mm_E d 10 42 lv [] (.inl 100 :: st) n I L P) ∧
  (∀ (lv : List mm_V) s t k u v, (s < n ∧ t < n ∧ s ≠ t ∧ (mm_ty s).1 = 20 ∧ (mm_ty t).1 = 20 ∧ 0 ≤ k ∧ 0 ≤ v ∧ 0 ≤ u ∧ v + k ≤ ((mm_ty s).2 : Int) ∧ u + k ≤ ((mm_ty t).2 : Int)) → mm_E d 10 42 lv [] (.inl k :: .inl u :: .inr (.inr (some t)) :: .inl v :: .inr (.inr (some s)) :: []) n I L P = mm_E d 10 45 lv [] [] n (mm_cpy I s v.toNat t u.toNat k.toNat) L P) ∧
  (∀ (lv : List mm_V), mm_E d 10 45 lv [] [] n I L P = some (none, n, I, L, P)) :=
  ⟨fun _ _ _ => mq_al (i := 1) rfl rfl,
   fun _ _ _ h0 => mq_getR rfl h0,
   fun _ _ => mq_push rfl,
   fun _ _ _ => mq_al (i := 0) rfl rfl,
   fun _ _ _ h0 => mq_getR rfl h0,
   fun _ _ => mq_push rfl,
   fun _ _ => mq_push rfl,
   fun _ _ _ _ _ _ h0 => mq_acp rfl h0 (Nat.le_of_ble_eq_true rfl),
   fun _ _ _ => mq_al (i := 1) rfl rfl,
   fun _ _ _ h0 => mq_getR rfl h0,
   fun _ _ => mq_push rfl,
   fun _ _ _ => mq_al (i := 0) rfl rfl,
   fun _ _ _ h0 => mq_getR rfl h0,
   fun _ _ => mq_push rfl,
   fun _ _ => mq_push rfl,
   fun _ _ _ _ _ _ h0 => mq_acp rfl h0 (Nat.le_of_ble_eq_true rfl),
   fun _ _ _ => mq_al (i := 1) rfl rfl,
   fun _ _ _ h0 => mq_getR rfl h0,
   fun _ _ => mq_push rfl,
   fun _ _ _ => mq_al (i := 0) rfl rfl,
   fun _ _ _ h0 => mq_getR rfl h0,
   fun _ _ => mq_push rfl,
   fun _ _ => mq_push rfl,
   fun _ _ _ _ _ _ h0 => mq_acp rfl h0 (Nat.le_of_ble_eq_true rfl),
   fun _ => mq_rv rfl⟩
theorem eX1_copyFrom (d n : Nat) (I L : mm_I) (P : mm_P) (x0 : Option Nat) (x1 : Option Nat) : mm_rn (d + 1) 10 [.inr (.inr x0), .inr (.inr x1)] n I L P = mm_E d 10 0 [.inr (.inr x0), .inr (.inr x1)] [] [] n I L P := rfl

set_option maxRecDepth 20000 in
set_option maxHeartbeats 8000000 in
theorem kX2_init (d n : Nat) (I L : mm_I) (P : mm_P) :
  (∀ (st : List mm_V) z, mm_E d 11 0 [(.inr (.inr z))] [] st n I L P = mm_E d 11 1 [(.inr (.inr z))] [] ((.inr (.inr z)) :: st) n I L P) ∧
  (∀ (lv : List mm_V) a, (a < n) → mm_E d 11 1 lv [] (.inr (.inr (some a)) :: []) n I L P = mm_E d 11 4 lv [] [] n I L P) ∧
  (∀ (st : List mm_V) z, mm_E d 11 4 [(.inr (.inr z))] [] st n I L P = mm_E d 11 5 [(.inr (.inr z))] [] ((.inr (.inr z)) :: st) n I L P) ∧
  (∀ (lv : List mm_V) (st : List mm_V), mm_E d 11 5 lv [] st n I L P = mm_E d 11 7 lv [] (.inl 10 :: st) n I L P) ∧
  (∀ (lv : List mm_V) (st : List mm_V) z, (n < mm_NC ∧ mm_ty n = (20, z.toNat) ∧ 0 ≤ z) → mm_E d 11 7 lv [] (.inl z :: st) n I L P = mm_E d 11 9 lv [] (.inr (.inr (some n)) :: st) (n + 1) (mm_zi I n) (mm_zi L n) (mm_zp P n)) ∧
  (∀ (lv : List mm_V) (st : List mm_V) a z, (mm_ok n a 2) → mm_E d 11 9 lv [] (.inr (.inr z) :: .inr (.inr (some a)) :: st) n I L P = mm_E d 11 12 lv [] st n I L (mm_up P a 0 z)) ∧
  (∀ (st : List mm_V) z, mm_E d 11 12 [(.inr (.inr z))] [] st n I L P = mm_E d 11 13 [(.inr (.inr z))] [] ((.inr (.inr z)) :: st) n I L P) ∧
  (∀ (lv : List mm_V) (st : List mm_V), mm_E d 11 13 lv [] st n I L P = mm_E d 11 15 lv [] (.inl 10 :: st) n I L P) ∧
  (∀ (lv : List mm_V) (st : List mm_V) z, (n < mm_NC ∧ mm_ty n = (20, z.toNat) ∧ 0 ≤ z) → mm_E d 11 15 lv [] (.inl z :: st) n I L P = mm_E d 11 17 lv [] (.inr (.inr (some n)) :: st) (n + 1) (mm_zi I n) (mm_zi L n) (mm_zp P n)) ∧
  (∀ (lv : List mm_V) (st : List mm_V) a z, (mm_ok n a 2) → mm_E d 11 17 lv [] (.inr (.inr z) :: .inr (.inr (some a)) :: st) n I L P = mm_E d 11 20 lv [] st n I L (mm_up P a 1 z)) ∧
  (∀ (st : List mm_V) z, mm_E d 11 20 [(.inr (.inr z))] [] st n I L P = mm_E d 11 21 [(.inr (.inr z))] [] ((.inr (.inr z)) :: st) n I L P) ∧
  (∀ (lv : List mm_V) (st : List mm_V), mm_E d 11 21 lv [] st n I L P = mm_E d 11 23 lv [] (.inl 10 :: st) n I L P) ∧
  (∀ (lv : List mm_V) (st : List mm_V) z, (n < mm_NC ∧ mm_ty n = (20, z.toNat) ∧ 0 ≤ z) → mm_E d 11 23 lv [] (.inl z :: st) n I L P = mm_E d 11 25 lv [] (.inr (.inr (some n)) :: st) (n + 1) (mm_zi I n) (mm_zi L n) (mm_zp P n)) ∧
  (∀ (lv : List mm_V) (st : List mm_V) a z, (mm_ok n a 2) → mm_E d 11 25 lv [] (.inr (.inr z) :: .inr (.inr (some a)) :: st) n I L P = mm_E d 11 28 lv [] st n I L (mm_up P a 2 z)) ∧
  (∀ (st : List mm_V) z, mm_E d 11 28 [(.inr (.inr z))] [] st n I L P = mm_E d 11 29 [(.inr (.inr z))] [] ((.inr (.inr z)) :: st) n I L P) ∧
  (∀ (lv : List mm_V) (st : List mm_V), mm_E d 11 29 lv [] st n I L P = mm_E d 11 31 lv [] (.inl 10 :: st) n I L P) ∧
  (∀ (lv : List mm_V) (st : List mm_V) z, (n < mm_NC ∧ mm_ty n = (21, z.toNat) ∧ 0 ≤ z) → mm_E d 11 31 lv [] (.inl z :: st) n I L P = mm_E d 11 33 lv [] (.inr (.inr (some n)) :: st) (n + 1) (mm_zi I n) (mm_zi L n) (mm_zp P n)) ∧
  (∀ (lv : List mm_V) (st : List mm_V) a z, (mm_ok n a 2) → mm_E d 11 33 lv [] (.inr (.inr z) :: .inr (.inr (some a)) :: st) n I L P = mm_E d 11 36 lv [] st n I L (mm_up P a 3 z)) ∧
  (∀ (st : List mm_V) z, mm_E d 11 36 [(.inr (.inr z))] [] st n I L P = mm_E d 11 37 [(.inr (.inr z))] [] ((.inr (.inr z)) :: st) n I L P) ∧
  (∀ (lv : List mm_V) (st : List mm_V), (n < mm_NC ∧ (mm_ty n).1 = 5) → mm_E d 11 37 lv [] st n I L P = mm_E d 11 40 lv [] (.inr (.inr (some n)) :: st) (n + 1) (mm_zi I n) (mm_zi L n) (mm_zp P n)) ∧
  (∀ (lv : List mm_V) (st : List mm_V) a, mm_E d 11 40 lv [] ((.inr (.inr a)) :: st) n I L P = mm_E d 11 41 lv [] ((.inr (.inr a)) :: (.inr (.inr a)) :: st) n I L P) ∧
  (∀ (lv : List mm_V) a w0 w1, (a < n) → mm_E d 11 41 lv [] (.inr (.inr (some a)) :: [.inr (.inr w0), .inr (.inr w1)]) n I L P = mm_kv d 11 44 lv [] [.inr (.inr w0), .inr (.inr w1)] n (mm_rn d 39 [.inr (.inr (some a))] n I L P)) ∧
  (∀ (lv : List mm_V) (st : List mm_V) a z, (mm_ok n a 2) → mm_E d 11 44 lv [] (.inr (.inr z) :: .inr (.inr (some a)) :: st) n I L P = mm_E d 11 47 lv [] st n I L (mm_up P a 5 z)) ∧
  (∀ (st : List mm_V) z, mm_E d 11 47 [(.inr (.inr z))] [] st n I L P = mm_E d 11 48 [(.inr (.inr z))] [] ((.inr (.inr z)) :: st) n I L P) ∧
  (∀ (lv : List mm_V) (st : List mm_V), mm_E d 11 48 lv [] st n I L P = mm_E d 11 51 lv [] (.inl 1300 :: st) n I L P) ∧
  (∀ (lv : List mm_V) (st : List mm_V) z, (n < mm_NC ∧ mm_ty n = (20, z.toNat) ∧ 0 ≤ z) → mm_E d 11 51 lv [] (.inl z :: st) n I L P = mm_E d 11 53 lv [] (.inr (.inr (some n)) :: st) (n + 1) (mm_zi I n) (mm_zi L n) (mm_zp P n)) ∧
  (∀ (lv : List mm_V) (st : List mm_V) a z, (mm_ok n a 2) → mm_E d 11 53 lv [] (.inr (.inr z) :: .inr (.inr (some a)) :: st) n I L P = mm_E d 11 56 lv [] st n I L (mm_up P a 6 z)) ∧
  (∀ (lv : List mm_V), mm_E d 11 56 lv [] [] n I L P = some (none, n, I, L, P)) :=
  ⟨fun _ _ => mq_al (i := 0) rfl rfl,
   fun _ _ h0 => mq_oi rfl h0 (Nat.le_of_ble_eq_true rfl),
   fun _ _ => mq_al (i := 0) rfl rfl,
   fun _ _ => mq_push rfl,
   fun _ _ _ h0 => mq_newa rfl h0,
   fun _ _ _ _ h0 => mq_putR rfl h0,
   fun _ _ => mq_al (i := 0) rfl rfl,
   fun _ _ => mq_push rfl,
   fun _ _ _ h0 => mq_newa rfl h0,
   fun _ _ _ _ h0 => mq_putR rfl h0,
   fun _ _ => mq_al (i := 0) rfl rfl,
   fun _ _ => mq_push rfl,
   fun _ _ _ h0 => mq_newa rfl h0,
   fun _ _ _ _ h0 => mq_putR rfl h0,
   fun _ _ => mq_al (i := 0) rfl rfl,
   fun _ _ => mq_push rfl,
   fun _ _ _ h0 => mq_newa rfl h0,
   fun _ _ _ _ h0 => mq_putR rfl h0,
   fun _ _ => mq_al (i := 0) rfl rfl,
   fun _ _ h0 => mq_new rfl h0,
   fun _ _ _ => mq_dup rfl rfl,
   fun _ _ _ _ h0 => mq_cI (na := 0) rfl rfl (Nat.le_of_ble_eq_true rfl) (Nat.le_of_ble_eq_true rfl) h0,
   fun _ _ _ _ h0 => mq_putR rfl h0,
   fun _ _ => mq_al (i := 0) rfl rfl,
   fun _ _ => mq_push rfl,
   fun _ _ _ h0 => mq_newa rfl h0,
   fun _ _ _ _ h0 => mq_putR rfl h0,
   fun _ => mq_rv rfl⟩
theorem eX2_init (d n : Nat) (I L : mm_I) (P : mm_P) (x0 : Option Nat) : mm_rn (d + 1) 11 [.inr (.inr x0)] n I L P = mm_E d 11 0 [.inr (.inr x0)] [] [] n I L P := rfl

set_option maxRecDepth 20000 in
set_option maxHeartbeats 8000000 in
theorem kX2_add (d n : Nat) (I L : mm_I) (P : mm_P) :
  (∀ (st : List mm_V) z (l1 : mm_V) (l2 : mm_V) (l3 : mm_V) (l4 : mm_V), mm_E d 12 0 [(.inr (.inr z)), l1, l2, l3, l4] [] st n I L P = mm_E d 12 1 [(.inr (.inr z)), l1, l2, l3, l4] [] ((.inr (.inr z)) :: st) n I L P) ∧
  (∀ (lv : List mm_V) (st : List mm_V) a, (mm_ok n a 2) → mm_E d 12 1 lv [] (.inr (.inr (some a)) :: st) n I L P = mm_E d 12 4 lv [] (.inl (I a 4) :: st) n I L P) ∧
  (∀ (lv : List mm_V) (st : List mm_V), mm_E d 12 4 lv [] st n I L P = mm_E d 12 6 lv [] (.inl 10 :: st) n I L P) ∧
  (∀ (lv : List mm_V) (st : List mm_V) a b, mm_E d 12 6 lv [] (.inl b :: .inl a :: st) n I L P = if b ≤ a then mm_E d 12 60 lv [] st n I L P else mm_E d 12 9 lv [] st n I L P) ∧
  (∀ (st : List mm_V) z (l1 : mm_V) (l2 : mm_V) (l3 : mm_V) (l4 : mm_V), mm_E d 12 9 [(.inr (.inr z)), l1, l2, l3, l4] [] st n I L P = mm_E d 12 10 [(.inr (.inr z)), l1, l2, l3, l4] [] ((.inr (.inr z)) :: st) n I L P) ∧
  (∀ (lv : List mm_V) (st : List mm_V) a, (mm_ok n a 2) → mm_E d 12 10 lv [] (.inr (.inr (some a)) :: st) n I L P = mm_E d 12 13 lv [] (.inr (.inr (P a 0)) :: st) n I L P) ∧
  (∀ (st : List mm_V) z (l1 : mm_V) (l2 : mm_V) (l3 : mm_V) (l4 : mm_V), mm_E d 12 13 [(.inr (.inr z)), l1, l2, l3, l4] [] st n I L P = mm_E d 12 14 [(.inr (.inr z)), l1, l2, l3, l4] [] ((.inr (.inr z)) :: st) n I L P) ∧
  (∀ (lv : List mm_V) (st : List mm_V) a, (mm_ok n a 2) → mm_E d 12 14 lv [] (.inr (.inr (some a)) :: st) n I L P = mm_E d 12 17 lv [] (.inl (I a 4) :: st) n I L P) ∧
  (∀ (st : List mm_V) z (l0 : mm_V) (l2 : mm_V) (l3 : mm_V) (l4 : mm_V), mm_E d 12 17 [l0, (.inl z), l2, l3, l4] [] st n I L P = mm_E d 12 18 [l0, (.inl z), l2, l3, l4] [] ((.inl z) :: st) n I L P) ∧
  (∀ (lv : List mm_V) (st : List mm_V) a i z, (mm_ix n a 20 i) → mm_E d 12 18 lv [] (.inl z :: .inl i :: .inr (.inr (some a)) :: st) n I L P = mm_E d 12 19 lv [] st n (mm_ui I a i.toNat z) L P) ∧
  (∀ (st : List mm_V) z (l1 : mm_V) (l2 : mm_V) (l3 : mm_V) (l4 : mm_V), mm_E d 12 19 [(.inr (.inr z)), l1, l2, l3, l4] [] st n I L P = mm_E d 12 20 [(.inr (.inr z)), l1, l2, l3, l4] [] ((.inr (.inr z)) :: st) n I L P) ∧
  (∀ (lv : List mm_V) (st : List mm_V) a, (mm_ok n a 2) → mm_E d 12 20 lv [] (.inr (.inr (some a)) :: st) n I L P = mm_E d 12 23 lv [] (.inr (.inr (P a 1)) :: st) n I L P) ∧
  (∀ (st : List mm_V) z (l1 : mm_V) (l2 : mm_V) (l3 : mm_V) (l4 : mm_V), mm_E d 12 23 [(.inr (.inr z)), l1, l2, l3, l4] [] st n I L P = mm_E d 12 24 [(.inr (.inr z)), l1, l2, l3, l4] [] ((.inr (.inr z)) :: st) n I L P) ∧
  (∀ (lv : List mm_V) (st : List mm_V) a, (mm_ok n a 2) → mm_E d 12 24 lv [] (.inr (.inr (some a)) :: st) n I L P = mm_E d 12 27 lv [] (.inl (I a 4) :: st) n I L P) ∧
  (∀ (st : List mm_V) z (l0 : mm_V) (l1 : mm_V) (l3 : mm_V) (l4 : mm_V), mm_E d 12 27 [l0, l1, (.inl z), l3, l4] [] st n I L P = mm_E d 12 28 [l0, l1, (.inl z), l3, l4] [] ((.inl z) :: st) n I L P) ∧
  (∀ (lv : List mm_V) (st : List mm_V) a i z, (mm_ix n a 20 i) → mm_E d 12 28 lv [] (.inl z :: .inl i :: .inr (.inr (some a)) :: st) n I L P = mm_E d 12 29 lv [] st n (mm_ui I a i.toNat z) L P) ∧
  (∀ (st : List mm_V) z (l1 : mm_V) (l2 : mm_V) (l3 : mm_V) (l4 : mm_V), mm_E d 12 29 [(.inr (.inr z)), l1, l2, l3, l4] [] st n I L P = mm_E d 12 30 [(.inr (.inr z)), l1, l2, l3, l4] [] ((.inr (.inr z)) :: st) n I L P) ∧
  (∀ (lv : List mm_V) (st : List mm_V) a, (mm_ok n a 2) → mm_E d 12 30 lv [] (.inr (.inr (some a)) :: st) n I L P = mm_E d 12 33 lv [] (.inr (.inr (P a 2)) :: st) n I L P) ∧
  (∀ (st : List mm_V) z (l1 : mm_V) (l2 : mm_V) (l3 : mm_V) (l4 : mm_V), mm_E d 12 33 [(.inr (.inr z)), l1, l2, l3, l4] [] st n I L P = mm_E d 12 34 [(.inr (.inr z)), l1, l2, l3, l4] [] ((.inr (.inr z)) :: st) n I L P) ∧
  (∀ (lv : List mm_V) (st : List mm_V) a, (mm_ok n a 2) → mm_E d 12 34 lv [] (.inr (.inr (some a)) :: st) n I L P = mm_E d 12 37 lv [] (.inl (I a 4) :: st) n I L P) ∧
  (∀ (st : List mm_V) z (l0 : mm_V) (l1 : mm_V) (l2 : mm_V) (l4 : mm_V), mm_E d 12 37 [l0, l1, l2, (.inl z), l4] [] st n I L P = mm_E d 12 38 [l0, l1, l2, (.inl z), l4] [] ((.inl z) :: st) n I L P) ∧
  (∀ (lv : List mm_V) (st : List mm_V) a i z, (mm_ix n a 20 i) → mm_E d 12 38 lv [] (.inl z :: .inl i :: .inr (.inr (some a)) :: st) n I L P = mm_E d 12 39 lv [] st n (mm_ui I a i.toNat z) L P) ∧
  (∀ (st : List mm_V) z (l1 : mm_V) (l2 : mm_V) (l3 : mm_V) (l4 : mm_V), mm_E d 12 39 [(.inr (.inr z)), l1, l2, l3, l4] [] st n I L P = mm_E d 12 40 [(.inr (.inr z)), l1, l2, l3, l4] [] ((.inr (.inr z)) :: st) n I L P) ∧
  (∀ (lv : List mm_V) (st : List mm_V) a, (mm_ok n a 2) → mm_E d 12 40 lv [] (.inr (.inr (some a)) :: st) n I L P = mm_E d 12 43 lv [] (.inr (.inr (P a 3)) :: st) n I L P) ∧
  (∀ (st : List mm_V) z (l1 : mm_V) (l2 : mm_V) (l3 : mm_V) (l4 : mm_V), mm_E d 12 43 [(.inr (.inr z)), l1, l2, l3, l4] [] st n I L P = mm_E d 12 44 [(.inr (.inr z)), l1, l2, l3, l4] [] ((.inr (.inr z)) :: st) n I L P) ∧
  (∀ (lv : List mm_V) (st : List mm_V) a, (mm_ok n a 2) → mm_E d 12 44 lv [] (.inr (.inr (some a)) :: st) n I L P = mm_E d 12 47 lv [] (.inl (I a 4) :: st) n I L P) ∧
  (∀ (st : List mm_V) z (l0 : mm_V) (l1 : mm_V) (l2 : mm_V) (l3 : mm_V), mm_E d 12 47 [l0, l1, l2, l3, (.inl z)] [] st n I L P = mm_E d 12 49 [l0, l1, l2, l3, (.inl z)] [] ((.inl z) :: st) n I L P) ∧
  (∀ (lv : List mm_V) (st : List mm_V) a i z, (mm_ix n a 21 i) → (z = 0 ∨ z = 1) → mm_E d 12 49 lv [] (.inl z :: .inl i :: .inr (.inr (some a)) :: st) n I L P = mm_E d 12 50 lv [] st n (mm_ui I a i.toNat z) L P) ∧
  (∀ (st : List mm_V) z (l1 : mm_V) (l2 : mm_V) (l3 : mm_V) (l4 : mm_V), mm_E d 12 50 [(.inr (.inr z)), l1, l2, l3, l4] [] st n I L P = mm_E d 12 51 [(.inr (.inr z)), l1, l2, l3, l4] [] ((.inr (.inr z)) :: st) n I L P) ∧
  (∀ (lv : List mm_V) (st : List mm_V) a, mm_E d 12 51 lv [] ((.inr (.inr a)) :: st) n I L P = mm_E d 12 52 lv [] ((.inr (.inr a)) :: (.inr (.inr a)) :: st) n I L P) ∧
  (∀ (lv : List mm_V) (st : List mm_V) a, (mm_ok n a 2) → mm_E d 12 52 lv [] (.inr (.inr (some a)) :: st) n I L P = mm_E d 12 55 lv [] (.inl (I a 4) :: st) n I L P) ∧
  (∀ (lv : List mm_V) (st : List mm_V), mm_E d 12 55 lv [] st n I L P = mm_E d 12 56 lv [] (.inl 1 :: st) n I L P) ∧
  (∀ (lv : List mm_V) (st : List mm_V) a b, mm_E d 12 56 lv [] (.inl b :: .inl a :: st) n I L P = mm_E d 12 57 lv [] (.inl (mm_add a b) :: st) n I L P) ∧
  (∀ (lv : List mm_V) (st : List mm_V) a z, (mm_ok n a 2) → mm_E d 12 57 lv [] (.inl z :: .inr (.inr (some a)) :: st) n I L P = mm_E d 12 60 lv [] st n (mm_ui I a 4 z) L P) ∧
  (∀ (lv : List mm_V), mm_E d 12 60 lv [] [] n I L P = some (none, n, I, L, P)) :=
  ⟨fun _ _ _ _ _ _ => mq_al (i := 0) rfl rfl,
   fun _ _ _ h0 => mq_getI rfl h0,
   fun _ _ => mq_push rfl,
   fun _ _ _ _ => mq_ic_ge rfl,
   fun _ _ _ _ _ _ => mq_al (i := 0) rfl rfl,
   fun _ _ _ h0 => mq_getR rfl h0,
   fun _ _ _ _ _ _ => mq_al (i := 0) rfl rfl,
   fun _ _ _ h0 => mq_getI rfl h0,
   fun _ _ _ _ _ _ => mq_il (i := 1) rfl rfl,
   fun _ _ _ _ _ h0 => mq_iast rfl h0,
   fun _ _ _ _ _ _ => mq_al (i := 0) rfl rfl,
   fun _ _ _ h0 => mq_getR rfl h0,
   fun _ _ _ _ _ _ => mq_al (i := 0) rfl rfl,
   fun _ _ _ h0 => mq_getI rfl h0,
   fun _ _ _ _ _ _ => mq_il (i := 2) rfl rfl,
   fun _ _ _ _ _ h0 => mq_iast rfl h0,
   fun _ _ _ _ _ _ => mq_al (i := 0) rfl rfl,
   fun _ _ _ h0 => mq_getR rfl h0,
   fun _ _ _ _ _ _ => mq_al (i := 0) rfl rfl,
   fun _ _ _ h0 => mq_getI rfl h0,
   fun _ _ _ _ _ _ => mq_il (i := 3) rfl rfl,
   fun _ _ _ _ _ h0 => mq_iast rfl h0,
   fun _ _ _ _ _ _ => mq_al (i := 0) rfl rfl,
   fun _ _ _ h0 => mq_getR rfl h0,
   fun _ _ _ _ _ _ => mq_al (i := 0) rfl rfl,
   fun _ _ _ h0 => mq_getI rfl h0,
   fun _ _ _ _ _ _ => mq_il (i := 4) rfl rfl,
   fun _ _ _ _ _ h0 h1 => mq_bast rfl h0 h1,
   fun _ _ _ _ _ _ => mq_al (i := 0) rfl rfl,
   fun _ _ _ => mq_dup rfl rfl,
   fun _ _ _ h0 => mq_getI rfl h0,
   fun _ _ => mq_push rfl,
   fun _ _ _ _ => mq_bi rfl,
   fun _ _ _ _ h0 => mq_putI rfl h0,
   fun _ => mq_rv rfl⟩
theorem eX2_add (d n : Nat) (I L : mm_I) (P : mm_P) (x0 : Option Nat) (x1 : Int) (x2 : Int) (x3 : Int) (x4 : Int) : mm_rn (d + 1) 12 [.inr (.inr x0), .inl x1, .inl x2, .inl x3, .inl x4] n I L P = mm_E d 12 0 [.inr (.inr x0), .inl x1, .inl x2, .inl x3, .inl x4] [] [] n I L P := rfl

set_option maxRecDepth 20000 in
set_option maxHeartbeats 8000000 in
theorem kX2_fitting (d n : Nat) (I L : mm_I) (P : mm_P) :
  (∀ (lv : List mm_V) (st : List mm_V), mm_E d 13 0 lv [] st n I L P = mm_E d 13 1 lv [] (.inl 0 :: st) n I L P) ∧
  (∀ (st : List mm_V) z (l0 : mm_V) (l1 : mm_V) (l2 : mm_V) (l3 : mm_V) (l4 : mm_V) (l5 : mm_V) (l6 : mm_V), mm_E d 13 1 [l0, l1, l2, l3, l4, l5, l6] [] ((.inl z) :: st) n I L P = mm_E d 13 3 [l0, l1, l2, l3, (.inl z), l5, l6] [] st n I L P) ∧
  (∀ (lv : List mm_V) (st : List mm_V), mm_E d 13 3 lv [] st n I L P = mm_E d 13 4 lv [] (.inl 0 :: st) n I L P) ∧
  (∀ (st : List mm_V) z (l0 : mm_V) (l1 : mm_V) (l2 : mm_V) (l3 : mm_V) (l4 : mm_V) (l5 : mm_V) (l6 : mm_V), mm_E d 13 4 [l0, l1, l2, l3, l4, l5, l6] [] ((.inl z) :: st) n I L P = mm_E d 13 6 [l0, l1, l2, l3, l4, (.inl z), l6] [] st n I L P) ∧
  (∀ (st : List mm_V) z (l0 : mm_V) (l2 : mm_V) (l3 : mm_V) (l4 : mm_V) (l5 : mm_V) (l6 : mm_V), mm_E d 13 8 [l0, (.inr (.inr z)), l2, l3, l4, l5, l6] [] st n I L P = mm_E d 13 9 [l0, (.inr (.inr z)), l2, l3, l4, l5, l6] [] ((.inr (.inr z)) :: st) n I L P) ∧
  (∀ (lv : List mm_V) (st : List mm_V) a, (mm_ok n a 9) → mm_E d 13 9 lv [] (.inr (.inr (some a)) :: st) n I L P = mm_E d 13 12 lv [] (.inl (I a 0) :: st) n I L P) ∧
  (∀ (lv : List mm_V) (st : List mm_V), mm_E d 13 12 lv [] st n I L P = mm_E d 13 14 lv [] (.inl 27 :: st) n I L P) ∧
  (∀ (lv : List mm_V) (st : List mm_V) a b, mm_E d 13 14 lv [] (.inl b :: .inl a :: st) n I L P = mm_E d 13 15 lv [] (.inl (mm_mul a b) :: st) n I L P) ∧
  (∀ (lv : List mm_V) (st : List mm_V) a b, mm_E d 13 15 lv [] (.inl b :: .inl a :: st) n I L P = if b ≤ a then mm_E d 13 80 lv [] st n I L P else mm_E d 13 18 lv [] st n I L P) ∧
  (∀ (st : List mm_V) z (l1 : mm_V) (l2 : mm_V) (l3 : mm_V) (l4 : mm_V) (l5 : mm_V) (l6 : mm_V), mm_E d 13 18 [(.inr (.inr z)), l1, l2, l3, l4, l5, l6] [] st n I L P = mm_E d 13 19 [(.inr (.inr z)), l1, l2, l3, l4, l5, l6] [] ((.inr (.inr z)) :: st) n I L P) ∧
  (∀ (st : List mm_V) z (l0 : mm_V) (l2 : mm_V) (l3 : mm_V) (l4 : mm_V) (l5 : mm_V) (l6 : mm_V), mm_E d 13 19 [l0, (.inr (.inr z)), l2, l3, l4, l5, l6] [] st n I L P = mm_E d 13 20 [l0, (.inr (.inr z)), l2, l3, l4, l5, l6] [] ((.inr (.inr z)) :: st) n I L P) ∧
  (∀ (st : List mm_V) z (l0 : mm_V) (l1 : mm_V) (l3 : mm_V) (l4 : mm_V) (l5 : mm_V) (l6 : mm_V), mm_E d 13 20 [l0, l1, (.inr (.inr z)), l3, l4, l5, l6] [] st n I L P = mm_E d 13 21 [l0, l1, (.inr (.inr z)), l3, l4, l5, l6] [] ((.inr (.inr z)) :: st) n I L P) ∧
  (∀ (st : List mm_V) z (l0 : mm_V) (l1 : mm_V) (l2 : mm_V) (l3 : mm_V) (l4 : mm_V) (l6 : mm_V), mm_E d 13 21 [l0, l1, l2, l3, l4, (.inl z), l6] [] st n I L P = mm_E d 13 23 [l0, l1, l2, l3, l4, (.inl z), l6] [] ((.inl z) :: st) n I L P) ∧
  (∀ (lv : List mm_V) a x0 x1 x2, (mm_ok n a 2) → mm_E d 13 23 lv [] (.inl x2 :: .inr (.inr x1) :: .inr (.inr x0) :: .inr (.inr (some a)) :: []) n I L P = mm_kr d 13 26 lv [] [] n (mm_rn d 15 [.inr (.inr (some a)), .inr (.inr x0), .inr (.inr x1), .inl x2] n I L P)) ∧
  (∀ (lv : List mm_V) (st : List mm_V) a, mm_E d 13 26 lv [] (.inl a :: st) n I L P = if a = 0 then mm_E d 13 29 lv [] st n I L P else mm_E d 13 32 lv [] st n I L P) ∧
  (∀ (lv : List mm_V) (st : List mm_V), mm_E d 13 29 lv [] st n I L P = mm_E d 13 74 lv [] st n I L P) ∧
  (∀ (st : List mm_V) z (l0 : mm_V) (l1 : mm_V) (l2 : mm_V) (l3 : mm_V) (l5 : mm_V) (l6 : mm_V), mm_E d 13 32 [l0, l1, l2, l3, (.inl z), l5, l6] [] st n I L P = mm_E d 13 34 [l0, l1, l2, l3, (.inl z), l5, l6] [] ((.inl z) :: st) n I L P) ∧
  (∀ (st : List mm_V) z (l0 : mm_V) (l1 : mm_V) (l2 : mm_V) (l4 : mm_V) (l5 : mm_V) (l6 : mm_V), mm_E d 13 34 [l0, l1, l2, (.inl z), l4, l5, l6] [] st n I L P = mm_E d 13 35 [l0, l1, l2, (.inl z), l4, l5, l6] [] ((.inl z) :: st) n I L P) ∧
  (∀ (lv : List mm_V) (st : List mm_V) a b, mm_E d 13 35 lv [] (.inl b :: .inl a :: st) n I L P = if a = b then mm_E d 13 38 lv [] st n I L P else mm_E d 13 71 lv [] st n I L P) ∧
  (∀ (st : List mm_V) z (l0 : mm_V) (l1 : mm_V) (l2 : mm_V) (l3 : mm_V) (l4 : mm_V) (l6 : mm_V), mm_E d 13 38 [l0, l1, l2, l3, l4, (.inl z), l6] [] st n I L P = mm_E d 13 40 [l0, l1, l2, l3, l4, (.inl z), l6] [] ((.inl z) :: st) n I L P) ∧
  (∀ (lv : List mm_V) (st : List mm_V), mm_E d 13 40 lv [] st n I L P = mm_E d 13 42 lv [] (.inl 27 :: st) n I L P) ∧
  (∀ (lv : List mm_V) (st : List mm_V) a b, (¬ b = 0) → mm_E d 13 42 lv [] (.inl b :: .inl a :: st) n I L P = mm_E d 13 43 lv [] (.inl (mm_w (Int.tmod a b)) :: st) n I L P) ∧
  (∀ (st : List mm_V) z (l0 : mm_V) (l1 : mm_V) (l2 : mm_V) (l3 : mm_V) (l4 : mm_V) (l5 : mm_V) (l6 : mm_V), mm_E d 13 43 [l0, l1, l2, l3, l4, l5, l6] [] ((.inl z) :: st) n I L P = mm_E d 13 45 [l0, l1, l2, l3, l4, l5, (.inl z)] [] st n I L P) ∧
  (∀ (lv : List mm_V) (st : List mm_V), mm_E d 13 45 lv [] st n I L P = mm_E d 13 47 lv [] (.inl 100 :: st) n I L P) ∧
  (∀ (st : List mm_V) z (l0 : mm_V) (l1 : mm_V) (l2 : mm_V) (l3 : mm_V) (l4 : mm_V) (l6 : mm_V), mm_E d 13 47 [l0, l1, l2, l3, l4, (.inl z), l6] [] st n I L P = mm_E d 13 49 [l0, l1, l2, l3, l4, (.inl z), l6] [] ((.inl z) :: st) n I L P) ∧
  (∀ (lv : List mm_V) (st : List mm_V), mm_E d 13 49 lv [] st n I L P = mm_E d 13 51 lv [] (.inl 27 :: st) n I L P) ∧
  (∀ (lv : List mm_V) (st : List mm_V) a b, (¬ b = 0) → mm_E d 13 51 lv [] (.inl b :: .inl a :: st) n I L P = mm_E d 13 52 lv [] (.inl (mm_w (Int.tdiv a b)) :: st) n I L P) ∧
  (∀ (lv : List mm_V) (st : List mm_V) a b, mm_E d 13 52 lv [] (.inl b :: .inl a :: st) n I L P = mm_E d 13 53 lv [] (.inl (mm_mul a b) :: st) n I L P) ∧
  (∀ (lv : List mm_V) (st : List mm_V), mm_E d 13 53 lv [] st n I L P = mm_E d 13 55 lv [] (.inl 10 :: st) n I L P) ∧
  (∀ (st : List mm_V) z (l0 : mm_V) (l1 : mm_V) (l2 : mm_V) (l3 : mm_V) (l4 : mm_V) (l5 : mm_V), mm_E d 13 55 [l0, l1, l2, l3, l4, l5, (.inl z)] [] st n I L P = mm_E d 13 57 [l0, l1, l2, l3, l4, l5, (.inl z)] [] ((.inl z) :: st) n I L P) ∧
  (∀ (lv : List mm_V) (st : List mm_V), mm_E d 13 57 lv [] st n I L P = mm_E d 13 59 lv [] (.inl 9 :: st) n I L P) ∧
  (∀ (lv : List mm_V) (st : List mm_V) a b, (¬ b = 0) → mm_E d 13 59 lv [] (.inl b :: .inl a :: st) n I L P = mm_E d 13 60 lv [] (.inl (mm_w (Int.tdiv a b)) :: st) n I L P) ∧
  (∀ (lv : List mm_V) (st : List mm_V) a b, mm_E d 13 60 lv [] (.inl b :: .inl a :: st) n I L P = mm_E d 13 61 lv [] (.inl (mm_mul a b) :: st) n I L P) ∧
  (∀ (lv : List mm_V) (st : List mm_V) a b, mm_E d 13 61 lv [] (.inl b :: .inl a :: st) n I L P = mm_E d 13 62 lv [] (.inl (mm_add a b) :: st) n I L P) ∧
  (∀ (st : List mm_V) z (l0 : mm_V) (l1 : mm_V) (l2 : mm_V) (l3 : mm_V) (l4 : mm_V) (l5 : mm_V), mm_E d 13 62 [l0, l1, l2, l3, l4, l5, (.inl z)] [] st n I L P = mm_E d 13 64 [l0, l1, l2, l3, l4, l5, (.inl z)] [] ((.inl z) :: st) n I L P) ∧
  (∀ (lv : List mm_V) (st : List mm_V), mm_E d 13 64 lv [] st n I L P = mm_E d 13 66 lv [] (.inl 9 :: st) n I L P) ∧
  (∀ (lv : List mm_V) (st : List mm_V) a b, (¬ b = 0) → mm_E d 13 66 lv [] (.inl b :: .inl a :: st) n I L P = mm_E d 13 67 lv [] (.inl (mm_w (Int.tmod a b)) :: st) n I L P) ∧
  (∀ (lv : List mm_V) (st : List mm_V) a b, mm_E d 13 67 lv [] (.inl b :: .inl a :: st) n I L P = mm_E d 13 68 lv [] (.inl (mm_add a b) :: st) n I L P) ∧
  (∀ (lv : List mm_V) (st : List mm_V), mm_E d 13 68 lv [] st n I L P = mm_E d 13 69 lv [] (.inl 1 :: st) n I L P) ∧
  (∀ (lv : List mm_V) (st : List mm_V) a b, mm_E d 13 69 lv [] (.inl b :: .inl a :: st) n I L P = mm_E d 13 70 lv [] (.inl (mm_add a b) :: st) n I L P) ∧
  (∀ (lv : List mm_V) z, mm_E d 13 70 lv [] [.inl z] n I L P = some (some (.inl z), n, I, L, P)) ∧
  (∀ (st : List mm_V) z (l0 : mm_V) (l1 : mm_V) (l2 : mm_V) (l3 : mm_V) (l5 : mm_V) (l6 : mm_V), mm_E d 13 71 [l0, l1, l2, l3, (.inl z), l5, l6] [] st n I L P = mm_E d 13 74 [l0, l1, l2, l3, (.inl (mm_add z 1)), l5, l6] [] st n I L P) ∧
  (∀ (st : List mm_V) z (l0 : mm_V) (l1 : mm_V) (l2 : mm_V) (l3 : mm_V) (l4 : mm_V) (l6 : mm_V), mm_E d 13 74 [l0, l1, l2, l3, l4, (.inl z), l6] [] st n I L P = mm_E d 13 77 [l0, l1, l2, l3, l4, (.inl (mm_add z 1)), l6] [] st n I L P) ∧
  (∀ (lv : List mm_V) (st : List mm_V), mm_E d 13 77 lv [] st n I L P = mm_E d 13 6 lv [] st n I L P) ∧
  (∀ (st : List mm_V) z (l0 : mm_V) (l1 : mm_V) (l2 : mm_V) (l4 : mm_V) (l5 : mm_V) (l6 : mm_V), mm_E d 13 80 [l0, l1, l2, (.inl z), l4, l5, l6] [] st n I L P = mm_E d 13 81 [l0, l1, l2, (.inl z), l4, l5, l6] [] ((.inl z) :: st) n I L P) ∧
  (∀ (lv : List mm_V) (st : List mm_V), mm_E d 13 81 lv [] st n I L P = mm_E d 13 82 lv [] (.inl (-1) :: st) n I L P) ∧
  (∀ (lv : List mm_V) (st : List mm_V) a b, mm_E d 13 82 lv [] (.inl b :: .inl a :: st) n I L P = if a = b then mm_E d 13 85 lv [] st n I L P else mm_E d 13 90 lv [] st n I L P) ∧
  (∀ (st : List mm_V) z (l0 : mm_V) (l1 : mm_V) (l2 : mm_V) (l3 : mm_V) (l5 : mm_V) (l6 : mm_V), mm_E d 13 85 [l0, l1, l2, l3, (.inl z), l5, l6] [] st n I L P = mm_E d 13 87 [l0, l1, l2, l3, (.inl z), l5, l6] [] ((.inl z) :: st) n I L P) ∧
  (∀ (lv : List mm_V) (st : List mm_V), mm_E d 13 87 lv [] st n I L P = mm_E d 13 91 lv [] st n I L P) ∧
  (∀ (lv : List mm_V) (st : List mm_V), mm_E d 13 90 lv [] st n I L P = mm_E d 13 91 lv [] (.inl (-1) :: st) n I L P) ∧
  (∀ (lv : List mm_V) z, mm_E d 13 91 lv [] [.inl z] n I L P = some (some (.inl z), n, I, L, P)) :=
  ⟨fun _ _ => mq_push rfl,
   fun _ _ _ _ _ _ _ _ _ => mq_is (i := 4) rfl rfl rfl,
   fun _ _ => mq_push rfl,
   fun _ _ _ _ _ _ _ _ _ => mq_is (i := 5) rfl rfl rfl,
   fun _ _ _ _ _ _ _ _ => mq_al (i := 1) rfl rfl,
   fun _ _ _ h0 => mq_getI rfl h0,
   fun _ _ => mq_push rfl,
   fun _ _ _ _ => mq_bi rfl,
   fun _ _ _ _ => mq_ic_ge rfl,
   fun _ _ _ _ _ _ _ _ => mq_al (i := 0) rfl rfl,
   fun _ _ _ _ _ _ _ _ => mq_al (i := 1) rfl rfl,
   fun _ _ _ _ _ _ _ _ => mq_al (i := 2) rfl rfl,
   fun _ _ _ _ _ _ _ _ => mq_il (i := 5) rfl rfl,
   fun _ _ _ _ _ h0 => mq_cVr (na := 3) rfl rfl (Nat.le_of_ble_eq_true rfl) (Nat.le_of_ble_eq_true rfl) h0,
   fun _ _ _ => mq_if_ne rfl,
   fun _ _ => mq_go rfl,
   fun _ _ _ _ _ _ _ _ => mq_il (i := 4) rfl rfl,
   fun _ _ _ _ _ _ _ _ => mq_il (i := 3) rfl rfl,
   fun _ _ _ _ => mq_ic_ne rfl,
   fun _ _ _ _ _ _ _ _ => mq_il (i := 5) rfl rfl,
   fun _ _ => mq_push rfl,
   fun _ _ _ _ h0 => mq_di rfl h0,
   fun _ _ _ _ _ _ _ _ _ => mq_is (i := 6) rfl rfl rfl,
   fun _ _ => mq_push rfl,
   fun _ _ _ _ _ _ _ _ => mq_il (i := 5) rfl rfl,
   fun _ _ => mq_push rfl,
   fun _ _ _ _ h0 => mq_di rfl h0,
   fun _ _ _ _ => mq_bi rfl,
   fun _ _ => mq_push rfl,
   fun _ _ _ _ _ _ _ _ => mq_il (i := 6) rfl rfl,
   fun _ _ => mq_push rfl,
   fun _ _ _ _ h0 => mq_di rfl h0,
   fun _ _ _ _ => mq_bi rfl,
   fun _ _ _ _ => mq_bi rfl,
   fun _ _ _ _ _ _ _ _ => mq_il (i := 6) rfl rfl,
   fun _ _ => mq_push rfl,
   fun _ _ _ _ h0 => mq_di rfl h0,
   fun _ _ _ _ => mq_bi rfl,
   fun _ _ => mq_push rfl,
   fun _ _ _ _ => mq_bi rfl,
   fun _ _ => mq_ri rfl,
   fun _ _ _ _ _ _ _ _ => mq_iinc (i := 4) rfl rfl rfl rfl,
   fun _ _ _ _ _ _ _ _ => mq_iinc (i := 5) rfl rfl rfl rfl,
   fun _ _ => mq_go rfl,
   fun _ _ _ _ _ _ _ _ => mq_il (i := 3) rfl rfl,
   fun _ _ => mq_push rfl,
   fun _ _ _ _ => mq_ic_ne rfl,
   fun _ _ _ _ _ _ _ _ => mq_il (i := 4) rfl rfl,
   fun _ _ => mq_go rfl,
   fun _ _ => mq_push rfl,
   fun _ _ => mq_ri rfl⟩
theorem hX2_fitting_6 (d n : Nat) (I L : mm_I) (P : mm_P) : ∀ (st : List mm_V) z (l0 : mm_V) (l1 : mm_V) (l2 : mm_V) (l3 : mm_V) (l4 : mm_V) (l6 : mm_V), mm_E d 13 6 [l0, l1, l2, l3, l4, (.inl z), l6] [] st n I L P = mm_E d 13 8 [l0, l1, l2, l3, l4, (.inl z), l6] [] ((.inl z) :: st) n I L P := fun _ _ _ _ _ _ _ _ => mq_il (i := 5) rfl rfl
theorem eX2_fitting (d n : Nat) (I L : mm_I) (P : mm_P) (x0 : Option Nat) (x1 : Option Nat) (x2 : Option Nat) (x3 : Int) : mm_rn (d + 1) 13 [.inr (.inr x0), .inr (.inr x1), .inr (.inr x2), .inl x3] n I L P = mm_E d 13 0 [.inr (.inr x0), .inr (.inr x1), .inr (.inr x2), .inl x3, mm_junk, mm_junk, mm_junk] [] [] n I L P := rfl

set_option maxRecDepth 20000 in
set_option maxHeartbeats 8000000 in
theorem kX2_startSort (d n : Nat) (I L : mm_I) (P : mm_P) :
  (∀ (st : List mm_V) z (l0 : mm_V) (l1 : mm_V) (l3 : mm_V), mm_E d 14 0 [l0, l1, (.inl z), l3] [] st n I L P = mm_E d 14 1 [l0, l1, (.inl z), l3] [] ((.inl z) :: st) n I L P) ∧
  (∀ (lv : List mm_V) (st : List mm_V), mm_E d 14 1 lv [] st n I L P = mm_E d 14 3 lv [] (.inl 27 :: st) n I L P) ∧
  (∀ (lv : List mm_V) (st : List mm_V) a b, (¬ b = 0) → mm_E d 14 3 lv [] (.inl b :: .inl a :: st) n I L P = mm_E d 14 4 lv [] (.inl (mm_w (Int.tmod a b)) :: st) n I L P) ∧
  (∀ (st : List mm_V) z (l0 : mm_V) (l1 : mm_V) (l2 : mm_V) (l3 : mm_V), mm_E d 14 4 [l0, l1, l2, l3] [] ((.inl z) :: st) n I L P = mm_E d 14 5 [l0, l1, l2, (.inl z)] [] st n I L P) ∧
  (∀ (st : List mm_V) z (l1 : mm_V) (l2 : mm_V) (l3 : mm_V), mm_E d 14 5 [(.inr (.inr z)), l1, l2, l3] [] st n I L P = mm_E d 14 6 [(.inr (.inr z)), l1, l2, l3] [] ((.inr (.inr z)) :: st) n I L P) ∧
  (∀ (lv : List mm_V) (st : List mm_V) a, (mm_ok n a 2) → mm_E d 14 6 lv [] (.inr (.inr (some a)) :: st) n I L P = mm_E d 14 9 lv [] (.inr (.inr (P a 5)) :: st) n I L P) ∧
  (∀ (st : List mm_V) z (l0 : mm_V) (l2 : mm_V) (l3 : mm_V), mm_E d 14 9 [l0, (.inr (.inr z)), l2, l3] [] st n I L P = mm_E d 14 10 [l0, (.inr (.inr z)), l2, l3] [] ((.inr (.inr z)) :: st) n I L P) ∧
  (∀ (lv : List mm_V) a x0, (mm_ok n a 5) → mm_E d 14 10 lv [] (.inr (.inr x0) :: .inr (.inr (some a)) :: []) n I L P = mm_kv d 14 13 lv [] [] n (mm_rn d 40 [.inr (.inr (some a)), .inr (.inr x0)] n I L P)) ∧
  (∀ (st : List mm_V) z (l1 : mm_V) (l2 : mm_V) (l3 : mm_V), mm_E d 14 13 [(.inr (.inr z)), l1, l2, l3] [] st n I L P = mm_E d 14 14 [(.inr (.inr z)), l1, l2, l3] [] ((.inr (.inr z)) :: st) n I L P) ∧
  (∀ (lv : List mm_V) (st : List mm_V) a, (mm_ok n a 2) → mm_E d 14 14 lv [] (.inr (.inr (some a)) :: st) n I L P = mm_E d 14 17 lv [] (.inr (.inr (P a 5)) :: st) n I L P) ∧
  (∀ (st : List mm_V) z (l0 : mm_V) (l1 : mm_V) (l3 : mm_V), mm_E d 14 17 [l0, l1, (.inl z), l3] [] st n I L P = mm_E d 14 18 [l0, l1, (.inl z), l3] [] ((.inl z) :: st) n I L P) ∧
  (∀ (lv : List mm_V) (st : List mm_V), mm_E d 14 18 lv [] st n I L P = mm_E d 14 20 lv [] (.inl 27 :: st) n I L P) ∧
  (∀ (lv : List mm_V) (st : List mm_V) a b, (¬ b = 0) → mm_E d 14 20 lv [] (.inl b :: .inl a :: st) n I L P = mm_E d 14 21 lv [] (.inl (mm_w (Int.tdiv a b)) :: st) n I L P) ∧
  (∀ (st : List mm_V) z (l0 : mm_V) (l1 : mm_V) (l2 : mm_V), mm_E d 14 21 [l0, l1, l2, (.inl z)] [] st n I L P = mm_E d 14 22 [l0, l1, l2, (.inl z)] [] ((.inl z) :: st) n I L P) ∧
  (∀ (lv : List mm_V) (st : List mm_V), mm_E d 14 22 lv [] st n I L P = mm_E d 14 24 lv [] (.inl 9 :: st) n I L P) ∧
  (∀ (lv : List mm_V) (st : List mm_V) a b, (¬ b = 0) → mm_E d 14 24 lv [] (.inl b :: .inl a :: st) n I L P = mm_E d 14 25 lv [] (.inl (mm_w (Int.tdiv a b)) :: st) n I L P) ∧
  (∀ (st : List mm_V) z (l0 : mm_V) (l1 : mm_V) (l2 : mm_V), mm_E d 14 25 [l0, l1, l2, (.inl z)] [] st n I L P = mm_E d 14 26 [l0, l1, l2, (.inl z)] [] ((.inl z) :: st) n I L P) ∧
  (∀ (lv : List mm_V) (st : List mm_V), mm_E d 14 26 lv [] st n I L P = mm_E d 14 28 lv [] (.inl 9 :: st) n I L P) ∧
  (∀ (lv : List mm_V) (st : List mm_V) a b, (¬ b = 0) → mm_E d 14 28 lv [] (.inl b :: .inl a :: st) n I L P = mm_E d 14 29 lv [] (.inl (mm_w (Int.tmod a b)) :: st) n I L P) ∧
  (∀ (lv : List mm_V) (st : List mm_V), mm_E d 14 29 lv [] st n I L P = mm_E d 14 30 lv [] (.inl 1 :: st) n I L P) ∧
  (∀ (lv : List mm_V) (st : List mm_V) a b, mm_E d 14 30 lv [] (.inl b :: .inl a :: st) n I L P = mm_E d 14 31 lv [] (.inl (mm_add a b) :: st) n I L P) ∧
  (∀ (lv : List mm_V) a x0 x1 x2, (mm_ok n a 5) → mm_E d 14 31 lv [] (.inl x2 :: .inl x1 :: .inl x0 :: .inr (.inr (some a)) :: []) n I L P = mm_kv d 14 34 lv [] [] n (mm_rn d 45 [.inr (.inr (some a)), .inl x0, .inl x1, .inl x2] n I L P)) ∧
  (∀ (lv : List mm_V), mm_E d 14 34 lv [] [] n I L P = some (none, n, I, L, P)) :=
  ⟨fun _ _ _ _ _ => mq_il (i := 2) rfl rfl,
   fun _ _ => mq_push rfl,
   fun _ _ _ _ h0 => mq_di rfl h0,
   fun _ _ _ _ _ _ => mq_is (i := 3) rfl rfl rfl,
   fun _ _ _ _ _ => mq_al (i := 0) rfl rfl,
   fun _ _ _ h0 => mq_getR rfl h0,
   fun _ _ _ _ _ => mq_al (i := 1) rfl rfl,
   fun _ _ _ h0 => mq_cVv (na := 1) rfl rfl (Nat.le_of_ble_eq_true rfl) (Nat.le_of_ble_eq_true rfl) h0,
   fun _ _ _ _ _ => mq_al (i := 0) rfl rfl,
   fun _ _ _ h0 => mq_getR rfl h0,
   fun _ _ _ _ _ => mq_il (i := 2) rfl rfl,
   fun _ _ => mq_push rfl,
   fun _ _ _ _ h0 => mq_di rfl h0,
   fun _ _ _ _ _ => mq_il (i := 3) rfl rfl,
   fun _ _ => mq_push rfl,
   fun _ _ _ _ h0 => mq_di rfl h0,
   fun _ _ _ _ _ => mq_il (i := 3) rfl rfl,
   fun _ _ => mq_push rfl,
   fun _ _ _ _ h0 => mq_di rfl h0,
   fun _ _ => mq_push rfl,
   fun _ _ _ _ => mq_bi rfl,
   fun _ _ _ _ _ h0 => mq_cVv (na := 3) rfl rfl (Nat.le_of_ble_eq_true rfl) (Nat.le_of_ble_eq_true rfl) h0,
   fun _ => mq_rv rfl⟩
theorem eX2_startSort (d n : Nat) (I L : mm_I) (P : mm_P) (x0 : Option Nat) (x1 : Option Nat) (x2 : Int) : mm_rn (d + 1) 14 [.inr (.inr x0), .inr (.inr x1), .inl x2] n I L P = mm_E d 14 0 [.inr (.inr x0), .inr (.inr x1), .inl x2, mm_junk] [] [] n I L P := rfl

set_option maxRecDepth 20000 in
set_option maxHeartbeats 8000000 in
theorem kX2_fitsAll (d n : Nat) (I L : mm_I) (P : mm_P) :
  (∀ (lv : List mm_V) (st : List mm_V), mm_E d 15 0 lv [] st n I L P = mm_E d 15 1 lv [] (.inl 0 :: st) n I L P) ∧
  (∀ (st : List mm_V) z (l0 : mm_V) (l1 : mm_V) (l2 : mm_V) (l3 : mm_V) (l4 : mm_V) (l5 : mm_V), mm_E d 15 1 [l0, l1, l2, l3, l4, l5] [] ((.inl z) :: st) n I L P = mm_E d 15 3 [l0, l1, l2, l3, (.inl z), l5] [] st n I L P) ∧
  (∀ (lv : List mm_V) (st : List mm_V), mm_E d 15 3 lv [] st n I L P = mm_E d 15 4 lv [] (.inl 0 :: st) n I L P) ∧
  (∀ (st : List mm_V) z (l0 : mm_V) (l1 : mm_V) (l2 : mm_V) (l3 : mm_V) (l4 : mm_V) (l5 : mm_V), mm_E d 15 4 [l0, l1, l2, l3, l4, l5] [] ((.inl z) :: st) n I L P = mm_E d 15 6 [l0, l1, l2, l3, l4, (.inl z)] [] st n I L P) ∧
  (∀ (st : List mm_V) z (l1 : mm_V) (l2 : mm_V) (l3 : mm_V) (l4 : mm_V) (l5 : mm_V), mm_E d 15 8 [(.inr (.inr z)), l1, l2, l3, l4, l5] [] st n I L P = mm_E d 15 9 [(.inr (.inr z)), l1, l2, l3, l4, l5] [] ((.inr (.inr z)) :: st) n I L P) ∧
  (∀ (lv : List mm_V) (st : List mm_V) a, (mm_ok n a 2) → mm_E d 15 9 lv [] (.inr (.inr (some a)) :: st) n I L P = mm_E d 15 12 lv [] (.inl (I a 4) :: st) n I L P) ∧
  (∀ (lv : List mm_V) (st : List mm_V) a b, mm_E d 15 12 lv [] (.inl b :: .inl a :: st) n I L P = if b ≤ a then mm_E d 15 35 lv [] st n I L P else mm_E d 15 15 lv [] st n I L P) ∧
  (∀ (st : List mm_V) z (l0 : mm_V) (l1 : mm_V) (l2 : mm_V) (l3 : mm_V) (l5 : mm_V), mm_E d 15 15 [l0, l1, l2, l3, (.inl z), l5] [] st n I L P = mm_E d 15 17 [l0, l1, l2, l3, (.inl z), l5] [] ((.inl z) :: st) n I L P) ∧
  (∀ (st : List mm_V) z (l1 : mm_V) (l2 : mm_V) (l3 : mm_V) (l4 : mm_V) (l5 : mm_V), mm_E d 15 17 [(.inr (.inr z)), l1, l2, l3, l4, l5] [] st n I L P = mm_E d 15 18 [(.inr (.inr z)), l1, l2, l3, l4, l5] [] ((.inr (.inr z)) :: st) n I L P) ∧
  (∀ (lv : List mm_V) (st : List mm_V) a, (mm_ok n a 2) → mm_E d 15 18 lv [] (.inr (.inr (some a)) :: st) n I L P = mm_E d 15 21 lv [] (.inr (.inr (P a 1)) :: st) n I L P) ∧
  (∀ (st : List mm_V) z (l0 : mm_V) (l1 : mm_V) (l2 : mm_V) (l3 : mm_V) (l4 : mm_V), mm_E d 15 21 [l0, l1, l2, l3, l4, (.inl z)] [] st n I L P = mm_E d 15 23 [l0, l1, l2, l3, l4, (.inl z)] [] ((.inl z) :: st) n I L P) ∧
  (∀ (lv : List mm_V) (st : List mm_V) a i, (mm_ix n a 20 i) → mm_E d 15 23 lv [] (.inl i :: .inr (.inr (some a)) :: st) n I L P = mm_E d 15 24 lv [] (.inl (I a i.toNat) :: st) n I L P) ∧
  (∀ (lv : List mm_V) x0 x1, mm_E d 15 24 lv [] (.inl x1 :: .inl x0 :: []) n I L P = mm_kr d 15 27 lv [] [] n (mm_rn d 265 [.inl x0, .inl x1] n I L P)) ∧
  (∀ (st : List mm_V) z (l0 : mm_V) (l1 : mm_V) (l2 : mm_V) (l3 : mm_V) (l4 : mm_V) (l5 : mm_V), mm_E d 15 27 [l0, l1, l2, l3, l4, l5] [] ((.inl z) :: st) n I L P = mm_E d 15 29 [l0, l1, l2, l3, (.inl z), l5] [] st n I L P) ∧
  (∀ (st : List mm_V) z (l0 : mm_V) (l1 : mm_V) (l2 : mm_V) (l3 : mm_V) (l4 : mm_V), mm_E d 15 29 [l0, l1, l2, l3, l4, (.inl z)] [] st n I L P = mm_E d 15 32 [l0, l1, l2, l3, l4, (.inl (mm_add z 1))] [] st n I L P) ∧
  (∀ (lv : List mm_V) (st : List mm_V), mm_E d 15 32 lv [] st n I L P = mm_E d 15 6 lv [] st n I L P) ∧
  (∀ (st : List mm_V) z (l1 : mm_V) (l2 : mm_V) (l3 : mm_V) (l4 : mm_V) (l5 : mm_V), mm_E d 15 35 [(.inr (.inr z)), l1, l2, l3, l4, l5] [] st n I L P = mm_E d 15 36 [(.inr (.inr z)), l1, l2, l3, l4, l5] [] ((.inr (.inr z)) :: st) n I L P) ∧
  (∀ (st : List mm_V) z (l0 : mm_V) (l2 : mm_V) (l3 : mm_V) (l4 : mm_V) (l5 : mm_V), mm_E d 15 36 [l0, (.inr (.inr z)), l2, l3, l4, l5] [] st n I L P = mm_E d 15 37 [l0, (.inr (.inr z)), l2, l3, l4, l5] [] ((.inr (.inr z)) :: st) n I L P) ∧
  (∀ (st : List mm_V) z (l0 : mm_V) (l1 : mm_V) (l2 : mm_V) (l4 : mm_V) (l5 : mm_V), mm_E d 15 37 [l0, l1, l2, (.inl z), l4, l5] [] st n I L P = mm_E d 15 38 [l0, l1, l2, (.inl z), l4, l5] [] ((.inl z) :: st) n I L P) ∧
  (∀ (lv : List mm_V) a x0 x1, (mm_ok n a 2) → mm_E d 15 38 lv [] (.inl x1 :: .inr (.inr x0) :: .inr (.inr (some a)) :: []) n I L P = mm_kv d 15 41 lv [] [] n (mm_rn d 14 [.inr (.inr (some a)), .inr (.inr x0), .inl x1] n I L P)) ∧
  (∀ (lv : List mm_V) (st : List mm_V), mm_E d 15 41 lv [] st n I L P = mm_E d 15 42 lv [] (.inl 1 :: st) n I L P) ∧
  (∀ (st : List mm_V) z (l0 : mm_V) (l1 : mm_V) (l2 : mm_V) (l3 : mm_V) (l4 : mm_V) (l5 : mm_V), mm_E d 15 42 [l0, l1, l2, l3, l4, l5] [] ((.inl z) :: st) n I L P = mm_E d 15 44 [l0, l1, l2, l3, l4, (.inl z)] [] st n I L P) ∧
  (∀ (st : List mm_V) z (l0 : mm_V) (l1 : mm_V) (l2 : mm_V) (l3 : mm_V) (l5 : mm_V), mm_E d 15 46 [l0, l1, l2, l3, (.inl z), l5] [] st n I L P = mm_E d 15 48 [l0, l1, l2, l3, (.inl z), l5] [] ((.inl z) :: st) n I L P) ∧
  (∀ (lv : List mm_V) (st : List mm_V) a b, mm_E d 15 48 lv [] (.inl b :: .inl a :: st) n I L P = if b < a then mm_E d 15 78 lv [] st n I L P else mm_E d 15 51 lv [] st n I L P) ∧
  (∀ (st : List mm_V) z (l1 : mm_V) (l2 : mm_V) (l3 : mm_V) (l4 : mm_V) (l5 : mm_V), mm_E d 15 51 [(.inr (.inr z)), l1, l2, l3, l4, l5] [] st n I L P = mm_E d 15 52 [(.inr (.inr z)), l1, l2, l3, l4, l5] [] ((.inr (.inr z)) :: st) n I L P) ∧
  (∀ (lv : List mm_V) (st : List mm_V) a, (mm_ok n a 2) → mm_E d 15 52 lv [] (.inr (.inr (some a)) :: st) n I L P = mm_E d 15 55 lv [] (.inr (.inr (P a 5)) :: st) n I L P) ∧
  (∀ (st : List mm_V) z (l0 : mm_V) (l2 : mm_V) (l3 : mm_V) (l4 : mm_V) (l5 : mm_V), mm_E d 15 55 [l0, (.inr (.inr z)), l2, l3, l4, l5] [] st n I L P = mm_E d 15 56 [l0, (.inr (.inr z)), l2, l3, l4, l5] [] ((.inr (.inr z)) :: st) n I L P) ∧
  (∀ (st : List mm_V) z (l0 : mm_V) (l1 : mm_V) (l3 : mm_V) (l4 : mm_V) (l5 : mm_V), mm_E d 15 56 [l0, l1, (.inr (.inr z)), l3, l4, l5] [] st n I L P = mm_E d 15 57 [l0, l1, (.inr (.inr z)), l3, l4, l5] [] ((.inr (.inr z)) :: st) n I L P) ∧
  (∀ (lv : List mm_V) a x0 x1, (mm_ok n a 5) → mm_E d 15 57 lv [] (.inr (.inr x1) :: .inr (.inr x0) :: .inr (.inr (some a)) :: []) n I L P = mm_kr d 15 60 lv [] [] n (mm_rn d 47 [.inr (.inr (some a)), .inr (.inr x0), .inr (.inr x1)] n I L P)) ∧
  (∀ (lv : List mm_V) (st : List mm_V) a, mm_E d 15 60 lv [] ((.inl a) :: st) n I L P = mm_E d 15 61 lv [] st n I L P) ∧
  (∀ (st : List mm_V) z (l1 : mm_V) (l2 : mm_V) (l3 : mm_V) (l4 : mm_V) (l5 : mm_V), mm_E d 15 61 [(.inr (.inr z)), l1, l2, l3, l4, l5] [] st n I L P = mm_E d 15 62 [(.inr (.inr z)), l1, l2, l3, l4, l5] [] ((.inr (.inr z)) :: st) n I L P) ∧
  (∀ (st : List mm_V) z (l0 : mm_V) (l1 : mm_V) (l2 : mm_V) (l3 : mm_V) (l4 : mm_V), mm_E d 15 62 [l0, l1, l2, l3, l4, (.inl z)] [] st n I L P = mm_E d 15 64 [l0, l1, l2, l3, l4, (.inl z)] [] ((.inl z) :: st) n I L P) ∧
  (∀ (lv : List mm_V) a x0, (mm_ok n a 2) → mm_E d 15 64 lv [] (.inl x0 :: .inr (.inr (some a)) :: []) n I L P = mm_kr d 15 67 lv [] [] n (mm_rn d 16 [.inr (.inr (some a)), .inl x0] n I L P)) ∧
  (∀ (lv : List mm_V) (st : List mm_V) a, mm_E d 15 67 lv [] (.inl a :: st) n I L P = if a = 0 then mm_E d 15 70 lv [] st n I L P else mm_E d 15 72 lv [] st n I L P) ∧
  (∀ (lv : List mm_V) (st : List mm_V), mm_E d 15 70 lv [] st n I L P = mm_E d 15 71 lv [] (.inl 0 :: st) n I L P) ∧
  (∀ (lv : List mm_V) z, (0 ≤ z ∧ z < 2) → mm_E d 15 71 lv [] [.inl z] n I L P = some (some (.inl z), n, I, L, P)) ∧
  (∀ (st : List mm_V) z (l0 : mm_V) (l1 : mm_V) (l2 : mm_V) (l3 : mm_V) (l4 : mm_V), mm_E d 15 72 [l0, l1, l2, l3, l4, (.inl z)] [] st n I L P = mm_E d 15 75 [l0, l1, l2, l3, l4, (.inl (mm_add z 1))] [] st n I L P) ∧
  (∀ (lv : List mm_V) (st : List mm_V), mm_E d 15 75 lv [] st n I L P = mm_E d 15 44 lv [] st n I L P) ∧
  (∀ (lv : List mm_V) (st : List mm_V), mm_E d 15 78 lv [] st n I L P = mm_E d 15 79 lv [] (.inl 1 :: st) n I L P) ∧
  (∀ (lv : List mm_V) z, (0 ≤ z ∧ z < 2) → mm_E d 15 79 lv [] [.inl z] n I L P = some (some (.inl z), n, I, L, P)) :=
  ⟨fun _ _ => mq_push rfl,
   fun _ _ _ _ _ _ _ _ => mq_is (i := 4) rfl rfl rfl,
   fun _ _ => mq_push rfl,
   fun _ _ _ _ _ _ _ _ => mq_is (i := 5) rfl rfl rfl,
   fun _ _ _ _ _ _ _ => mq_al (i := 0) rfl rfl,
   fun _ _ _ h0 => mq_getI rfl h0,
   fun _ _ _ _ => mq_ic_ge rfl,
   fun _ _ _ _ _ _ _ => mq_il (i := 4) rfl rfl,
   fun _ _ _ _ _ _ _ => mq_al (i := 0) rfl rfl,
   fun _ _ _ h0 => mq_getR rfl h0,
   fun _ _ _ _ _ _ _ => mq_il (i := 5) rfl rfl,
   fun _ _ _ _ h0 => mq_iald rfl h0,
   fun _ _ _ => mq_cSr (na := 2) rfl (Nat.le_of_ble_eq_true rfl) (Nat.le_of_ble_eq_true rfl),
   fun _ _ _ _ _ _ _ _ => mq_is (i := 4) rfl rfl rfl,
   fun _ _ _ _ _ _ _ => mq_iinc (i := 5) rfl rfl rfl rfl,
   fun _ _ => mq_go rfl,
   fun _ _ _ _ _ _ _ => mq_al (i := 0) rfl rfl,
   fun _ _ _ _ _ _ _ => mq_al (i := 1) rfl rfl,
   fun _ _ _ _ _ _ _ => mq_il (i := 3) rfl rfl,
   fun _ _ _ _ h0 => mq_cVv (na := 2) rfl rfl (Nat.le_of_ble_eq_true rfl) (Nat.le_of_ble_eq_true rfl) h0,
   fun _ _ => mq_push rfl,
   fun _ _ _ _ _ _ _ _ => mq_is (i := 5) rfl rfl rfl,
   fun _ _ _ _ _ _ _ => mq_il (i := 4) rfl rfl,
   fun _ _ _ _ => mq_ic_gt rfl,
   fun _ _ _ _ _ _ _ => mq_al (i := 0) rfl rfl,
   fun _ _ _ h0 => mq_getR rfl h0,
   fun _ _ _ _ _ _ _ => mq_al (i := 1) rfl rfl,
   fun _ _ _ _ _ _ _ => mq_al (i := 2) rfl rfl,
   fun _ _ _ _ h0 => mq_cVr (na := 2) rfl rfl (Nat.le_of_ble_eq_true rfl) (Nat.le_of_ble_eq_true rfl) h0,
   fun _ _ _ => mq_pop rfl rfl,
   fun _ _ _ _ _ _ _ => mq_al (i := 0) rfl rfl,
   fun _ _ _ _ _ _ _ => mq_il (i := 5) rfl rfl,
   fun _ _ _ h0 => mq_cVr (na := 1) rfl rfl (Nat.le_of_ble_eq_true rfl) (Nat.le_of_ble_eq_true rfl) h0,
   fun _ _ _ => mq_if_ne rfl,
   fun _ _ => mq_push rfl,
   fun _ _ h0 => mq_rz rfl h0,
   fun _ _ _ _ _ _ _ => mq_iinc (i := 5) rfl rfl rfl rfl,
   fun _ _ => mq_go rfl,
   fun _ _ => mq_push rfl,
   fun _ _ h0 => mq_rz rfl h0⟩
theorem hX2_fitsAll_6 (d n : Nat) (I L : mm_I) (P : mm_P) : ∀ (st : List mm_V) z (l0 : mm_V) (l1 : mm_V) (l2 : mm_V) (l3 : mm_V) (l4 : mm_V), mm_E d 15 6 [l0, l1, l2, l3, l4, (.inl z)] [] st n I L P = mm_E d 15 8 [l0, l1, l2, l3, l4, (.inl z)] [] ((.inl z) :: st) n I L P := fun _ _ _ _ _ _ _ => mq_il (i := 5) rfl rfl
theorem hX2_fitsAll_44 (d n : Nat) (I L : mm_I) (P : mm_P) : ∀ (st : List mm_V) z (l0 : mm_V) (l1 : mm_V) (l2 : mm_V) (l3 : mm_V) (l4 : mm_V), mm_E d 15 44 [l0, l1, l2, l3, l4, (.inl z)] [] st n I L P = mm_E d 15 46 [l0, l1, l2, l3, l4, (.inl z)] [] ((.inl z) :: st) n I L P := fun _ _ _ _ _ _ _ => mq_il (i := 5) rfl rfl
theorem eX2_fitsAll (d n : Nat) (I L : mm_I) (P : mm_P) (x0 : Option Nat) (x1 : Option Nat) (x2 : Option Nat) (x3 : Int) : mm_rn (d + 1) 15 [.inr (.inr x0), .inr (.inr x1), .inr (.inr x2), .inl x3] n I L P = mm_E d 15 0 [.inr (.inr x0), .inr (.inr x1), .inr (.inr x2), .inl x3, mm_junk, mm_junk] [] [] n I L P := rfl

set_option maxRecDepth 20000 in
set_option maxHeartbeats 8000000 in
theorem kX2_holdsBehind (d n : Nat) (I L : mm_I) (P : mm_P) :
  (∀ (lv : List mm_V) (st : List mm_V), mm_E d 16 0 lv [] st n I L P = mm_E d 16 1 lv [] (.inl 0 :: st) n I L P) ∧
  (∀ (st : List mm_V) z (l0 : mm_V) (l1 : mm_V) (l2 : mm_V), mm_E d 16 1 [l0, l1, l2] [] ((.inl z) :: st) n I L P = mm_E d 16 2 [l0, l1, (.inl z)] [] st n I L P) ∧
  (∀ (st : List mm_V) z (l1 : mm_V) (l2 : mm_V), mm_E d 16 3 [(.inr (.inr z)), l1, l2] [] st n I L P = mm_E d 16 4 [(.inr (.inr z)), l1, l2] [] ((.inr (.inr z)) :: st) n I L P) ∧
  (∀ (lv : List mm_V) (st : List mm_V) a, (mm_ok n a 2) → mm_E d 16 4 lv [] (.inr (.inr (some a)) :: st) n I L P = mm_E d 16 7 lv [] (.inl (I a 4) :: st) n I L P) ∧
  (∀ (lv : List mm_V) (st : List mm_V) a b, mm_E d 16 7 lv [] (.inl b :: .inl a :: st) n I L P = if b ≤ a then mm_E d 16 64 lv [] st n I L P else mm_E d 16 10 lv [] st n I L P) ∧
  (∀ (st : List mm_V) z (l1 : mm_V) (l2 : mm_V), mm_E d 16 10 [(.inr (.inr z)), l1, l2] [] st n I L P = mm_E d 16 11 [(.inr (.inr z)), l1, l2] [] ((.inr (.inr z)) :: st) n I L P) ∧
  (∀ (lv : List mm_V) (st : List mm_V) a, (mm_ok n a 2) → mm_E d 16 11 lv [] (.inr (.inr (some a)) :: st) n I L P = mm_E d 16 14 lv [] (.inr (.inr (P a 1)) :: st) n I L P) ∧
  (∀ (st : List mm_V) z (l0 : mm_V) (l1 : mm_V), mm_E d 16 14 [l0, l1, (.inl z)] [] st n I L P = mm_E d 16 15 [l0, l1, (.inl z)] [] ((.inl z) :: st) n I L P) ∧
  (∀ (lv : List mm_V) (st : List mm_V) a i, (mm_ix n a 20 i) → mm_E d 16 15 lv [] (.inl i :: .inr (.inr (some a)) :: st) n I L P = mm_E d 16 16 lv [] (.inl (I a i.toNat) :: st) n I L P) ∧
  (∀ (st : List mm_V) z (l0 : mm_V) (l2 : mm_V), mm_E d 16 16 [l0, (.inl z), l2] [] st n I L P = mm_E d 16 17 [l0, (.inl z), l2] [] ((.inl z) :: st) n I L P) ∧
  (∀ (lv : List mm_V) (st : List mm_V) a b, mm_E d 16 17 lv [] (.inl b :: .inl a :: st) n I L P = if a = b then mm_E d 16 20 lv [] st n I L P else mm_E d 16 58 lv [] st n I L P) ∧
  (∀ (st : List mm_V) z (l1 : mm_V) (l2 : mm_V), mm_E d 16 20 [(.inr (.inr z)), l1, l2] [] st n I L P = mm_E d 16 21 [(.inr (.inr z)), l1, l2] [] ((.inr (.inr z)) :: st) n I L P) ∧
  (∀ (lv : List mm_V) (st : List mm_V) a, (mm_ok n a 2) → mm_E d 16 21 lv [] (.inr (.inr (some a)) :: st) n I L P = mm_E d 16 24 lv [] (.inr (.inr (P a 5)) :: st) n I L P) ∧
  (∀ (st : List mm_V) z (l1 : mm_V) (l2 : mm_V), mm_E d 16 24 [(.inr (.inr z)), l1, l2] [] st n I L P = mm_E d 16 25 [(.inr (.inr z)), l1, l2] [] ((.inr (.inr z)) :: st) n I L P) ∧
  (∀ (lv : List mm_V) (st : List mm_V) a, (mm_ok n a 2) → mm_E d 16 25 lv [] (.inr (.inr (some a)) :: st) n I L P = mm_E d 16 28 lv [] (.inr (.inr (P a 0)) :: st) n I L P) ∧
  (∀ (st : List mm_V) z (l0 : mm_V) (l1 : mm_V), mm_E d 16 28 [l0, l1, (.inl z)] [] st n I L P = mm_E d 16 29 [l0, l1, (.inl z)] [] ((.inl z) :: st) n I L P) ∧
  (∀ (lv : List mm_V) (st : List mm_V) a i, (mm_ix n a 20 i) → mm_E d 16 29 lv [] (.inl i :: .inr (.inr (some a)) :: st) n I L P = mm_E d 16 30 lv [] (.inl (I a i.toNat) :: st) n I L P) ∧
  (∀ (lv : List mm_V) a x0, (mm_ok n a 5) → mm_E d 16 30 lv [] (.inl x0 :: .inr (.inr (some a)) :: []) n I L P = mm_kr d 16 33 lv [] [] n (mm_rn d 284 [.inr (.inr (some a)), .inl x0] n I L P)) ∧
  (∀ (st : List mm_V) z (l1 : mm_V) (l2 : mm_V), mm_E d 16 33 [(.inr (.inr z)), l1, l2] [] st n I L P = mm_E d 16 34 [(.inr (.inr z)), l1, l2] [] ((.inr (.inr z)) :: st) n I L P) ∧
  (∀ (lv : List mm_V) (st : List mm_V) a, (mm_ok n a 2) → mm_E d 16 34 lv [] (.inr (.inr (some a)) :: st) n I L P = mm_E d 16 37 lv [] (.inr (.inr (P a 2)) :: st) n I L P) ∧
  (∀ (st : List mm_V) z (l0 : mm_V) (l1 : mm_V), mm_E d 16 37 [l0, l1, (.inl z)] [] st n I L P = mm_E d 16 38 [l0, l1, (.inl z)] [] ((.inl z) :: st) n I L P) ∧
  (∀ (lv : List mm_V) (st : List mm_V) a i, (mm_ix n a 20 i) → mm_E d 16 38 lv [] (.inl i :: .inr (.inr (some a)) :: st) n I L P = mm_E d 16 39 lv [] (.inl (I a i.toNat) :: st) n I L P) ∧
  (∀ (lv : List mm_V) (st : List mm_V) a b, mm_E d 16 39 lv [] (.inl b :: .inl a :: st) n I L P = if a < b then mm_E d 16 46 lv [] st n I L P else mm_E d 16 42 lv [] st n I L P) ∧
  (∀ (lv : List mm_V) (st : List mm_V), mm_E d 16 42 lv [] st n I L P = mm_E d 16 43 lv [] (.inl 1 :: st) n I L P) ∧
  (∀ (lv : List mm_V) (st : List mm_V), mm_E d 16 43 lv [] st n I L P = mm_E d 16 47 lv [] st n I L P) ∧
  (∀ (lv : List mm_V) (st : List mm_V), mm_E d 16 46 lv [] st n I L P = mm_E d 16 47 lv [] (.inl 0 :: st) n I L P) ∧
  (∀ (st : List mm_V) z (l1 : mm_V) (l2 : mm_V), mm_E d 16 47 [(.inr (.inr z)), l1, l2] [] st n I L P = mm_E d 16 48 [(.inr (.inr z)), l1, l2] [] ((.inr (.inr z)) :: st) n I L P) ∧
  (∀ (lv : List mm_V) (st : List mm_V) a, (mm_ok n a 2) → mm_E d 16 48 lv [] (.inr (.inr (some a)) :: st) n I L P = mm_E d 16 51 lv [] (.inr (.inr (P a 3)) :: st) n I L P) ∧
  (∀ (st : List mm_V) z (l0 : mm_V) (l1 : mm_V), mm_E d 16 51 [l0, l1, (.inl z)] [] st n I L P = mm_E d 16 52 [l0, l1, (.inl z)] [] ((.inl z) :: st) n I L P) ∧
  (∀ (lv : List mm_V) (st : List mm_V) a i, (mm_ix n a 21 i) → mm_E d 16 52 lv [] (.inl i :: .inr (.inr (some a)) :: st) n I L P = mm_E d 16 53 lv [] (.inl (I a i.toNat) :: st) n I L P) ∧
  (∀ (lv : List mm_V) (st : List mm_V) a b, mm_E d 16 53 lv [] (.inl b :: .inl a :: st) n I L P = if a = b then mm_E d 16 58 lv [] st n I L P else mm_E d 16 56 lv [] st n I L P) ∧
  (∀ (lv : List mm_V) (st : List mm_V), mm_E d 16 56 lv [] st n I L P = mm_E d 16 57 lv [] (.inl 0 :: st) n I L P) ∧
  (∀ (lv : List mm_V) z, (0 ≤ z ∧ z < 2) → mm_E d 16 57 lv [] [.inl z] n I L P = some (some (.inl z), n, I, L, P)) ∧
  (∀ (st : List mm_V) z (l0 : mm_V) (l1 : mm_V), mm_E d 16 58 [l0, l1, (.inl z)] [] st n I L P = mm_E d 16 61 [l0, l1, (.inl (mm_add z 1))] [] st n I L P) ∧
  (∀ (lv : List mm_V) (st : List mm_V), mm_E d 16 61 lv [] st n I L P = mm_E d 16 2 lv [] st n I L P) ∧
  (∀ (lv : List mm_V) (st : List mm_V), mm_E d 16 64 lv [] st n I L P = mm_E d 16 65 lv [] (.inl 1 :: st) n I L P) ∧
  (∀ (lv : List mm_V) z, (0 ≤ z ∧ z < 2) → mm_E d 16 65 lv [] [.inl z] n I L P = some (some (.inl z), n, I, L, P)) :=
  ⟨fun _ _ => mq_push rfl,
   fun _ _ _ _ _ => mq_is (i := 2) rfl rfl rfl,
   fun _ _ _ _ => mq_al (i := 0) rfl rfl,
   fun _ _ _ h0 => mq_getI rfl h0,
   fun _ _ _ _ => mq_ic_ge rfl,
   fun _ _ _ _ => mq_al (i := 0) rfl rfl,
   fun _ _ _ h0 => mq_getR rfl h0,
   fun _ _ _ _ => mq_il (i := 2) rfl rfl,
   fun _ _ _ _ h0 => mq_iald rfl h0,
   fun _ _ _ _ => mq_il (i := 1) rfl rfl,
   fun _ _ _ _ => mq_ic_ne rfl,
   fun _ _ _ _ => mq_al (i := 0) rfl rfl,
   fun _ _ _ h0 => mq_getR rfl h0,
   fun _ _ _ _ => mq_al (i := 0) rfl rfl,
   fun _ _ _ h0 => mq_getR rfl h0,
   fun _ _ _ _ => mq_il (i := 2) rfl rfl,
   fun _ _ _ _ h0 => mq_iald rfl h0,
   fun _ _ _ h0 => mq_cVr (na := 1) rfl rfl (Nat.le_of_ble_eq_true rfl) (Nat.le_of_ble_eq_true rfl) h0,
   fun _ _ _ _ => mq_al (i := 0) rfl rfl,
   fun _ _ _ h0 => mq_getR rfl h0,
   fun _ _ _ _ => mq_il (i := 2) rfl rfl,
   fun _ _ _ _ h0 => mq_iald rfl h0,
   fun _ _ _ _ => mq_ic_lt rfl,
   fun _ _ => mq_push rfl,
   fun _ _ => mq_go rfl,
   fun _ _ => mq_push rfl,
   fun _ _ _ _ => mq_al (i := 0) rfl rfl,
   fun _ _ _ h0 => mq_getR rfl h0,
   fun _ _ _ _ => mq_il (i := 2) rfl rfl,
   fun _ _ _ _ h0 => mq_iald rfl h0,
   fun _ _ _ _ => mq_ic_eq rfl,
   fun _ _ => mq_push rfl,
   fun _ _ h0 => mq_rz rfl h0,
   fun _ _ _ _ => mq_iinc (i := 2) rfl rfl rfl rfl,
   fun _ _ => mq_go rfl,
   fun _ _ => mq_push rfl,
   fun _ _ h0 => mq_rz rfl h0⟩
theorem hX2_holdsBehind_2 (d n : Nat) (I L : mm_I) (P : mm_P) : ∀ (st : List mm_V) z (l0 : mm_V) (l1 : mm_V), mm_E d 16 2 [l0, l1, (.inl z)] [] st n I L P = mm_E d 16 3 [l0, l1, (.inl z)] [] ((.inl z) :: st) n I L P := fun _ _ _ _ => mq_il (i := 2) rfl rfl
theorem eX2_holdsBehind (d n : Nat) (I L : mm_I) (P : mm_P) (x0 : Option Nat) (x1 : Int) : mm_rn (d + 1) 16 [.inr (.inr x0), .inl x1] n I L P = mm_E d 16 0 [.inr (.inr x0), .inl x1, mm_junk] [] [] n I L P := rfl

set_option maxRecDepth 20000 in
set_option maxHeartbeats 8000000 in
theorem kX2_bestQuestion (d n : Nat) (I L : mm_I) (P : mm_P) :
  (∀ (st : List mm_V) z (l1 : mm_V) (l2 : mm_V) (l3 : mm_V) (l4 : mm_V) (l5 : mm_V), mm_E d 17 0 [(.inr (.inr z)), l1, l2, l3, l4, l5] [] st n I L P = mm_E d 17 1 [(.inr (.inr z)), l1, l2, l3, l4, l5] [] ((.inr (.inr z)) :: st) n I L P) ∧
  (∀ (lv : List mm_V) (st : List mm_V) a, (mm_ok n a 2) → mm_E d 17 1 lv [] (.inr (.inr (some a)) :: st) n I L P = mm_E d 17 4 lv [] (.inr (.inr (P a 6)) :: st) n I L P) ∧
  (∀ (lv : List mm_V) (st : List mm_V), mm_E d 17 4 lv [] st n I L P = mm_E d 17 5 lv [] (.inl 0 :: st) n I L P) ∧
  (∀ (lv : List mm_V) x0 x1, mm_E d 17 5 lv [] (.inl x1 :: .inr (.inr x0) :: []) n I L P = mm_kv d 17 8 lv [] [] n (mm_rn d 279 [.inr (.inr x0), .inl x1] n I L P)) ∧
  (∀ (lv : List mm_V) (st : List mm_V), mm_E d 17 8 lv [] st n I L P = mm_E d 17 9 lv [] (.inl 0 :: st) n I L P) ∧
  (∀ (st : List mm_V) z (l0 : mm_V) (l1 : mm_V) (l2 : mm_V) (l3 : mm_V) (l4 : mm_V) (l5 : mm_V), mm_E d 17 9 [l0, l1, l2, l3, l4, l5] [] ((.inl z) :: st) n I L P = mm_E d 17 11 [l0, l1, l2, l3, (.inl z), l5] [] st n I L P) ∧
  (∀ (lv : List mm_V) (st : List mm_V), mm_E d 17 11 lv [] st n I L P = mm_E d 17 12 lv [] (.inl 0 :: st) n I L P) ∧
  (∀ (st : List mm_V) z (l0 : mm_V) (l1 : mm_V) (l2 : mm_V) (l3 : mm_V) (l4 : mm_V) (l5 : mm_V), mm_E d 17 12 [l0, l1, l2, l3, l4, l5] [] ((.inl z) :: st) n I L P = mm_E d 17 14 [l0, l1, l2, l3, l4, (.inl z)] [] st n I L P) ∧
  (∀ (st : List mm_V) z (l0 : mm_V) (l2 : mm_V) (l3 : mm_V) (l4 : mm_V) (l5 : mm_V), mm_E d 17 16 [l0, (.inr (.inr z)), l2, l3, l4, l5] [] st n I L P = mm_E d 17 17 [l0, (.inr (.inr z)), l2, l3, l4, l5] [] ((.inr (.inr z)) :: st) n I L P) ∧
  (∀ (lv : List mm_V) (st : List mm_V) a, (mm_ok n a 9) → mm_E d 17 17 lv [] (.inr (.inr (some a)) :: st) n I L P = mm_E d 17 20 lv [] (.inl (I a 0) :: st) n I L P) ∧
  (∀ (lv : List mm_V) (st : List mm_V), mm_E d 17 20 lv [] st n I L P = mm_E d 17 22 lv [] (.inl 27 :: st) n I L P) ∧
  (∀ (lv : List mm_V) (st : List mm_V) a b, mm_E d 17 22 lv [] (.inl b :: .inl a :: st) n I L P = mm_E d 17 23 lv [] (.inl (mm_mul a b) :: st) n I L P) ∧
  (∀ (lv : List mm_V) (st : List mm_V) a b, mm_E d 17 23 lv [] (.inl b :: .inl a :: st) n I L P = if b ≤ a then mm_E d 17 55 lv [] st n I L P else mm_E d 17 26 lv [] st n I L P) ∧
  (∀ (st : List mm_V) z (l1 : mm_V) (l2 : mm_V) (l3 : mm_V) (l4 : mm_V) (l5 : mm_V), mm_E d 17 26 [(.inr (.inr z)), l1, l2, l3, l4, l5] [] st n I L P = mm_E d 17 27 [(.inr (.inr z)), l1, l2, l3, l4, l5] [] ((.inr (.inr z)) :: st) n I L P) ∧
  (∀ (st : List mm_V) z (l0 : mm_V) (l2 : mm_V) (l3 : mm_V) (l4 : mm_V) (l5 : mm_V), mm_E d 17 27 [l0, (.inr (.inr z)), l2, l3, l4, l5] [] st n I L P = mm_E d 17 28 [l0, (.inr (.inr z)), l2, l3, l4, l5] [] ((.inr (.inr z)) :: st) n I L P) ∧
  (∀ (st : List mm_V) z (l0 : mm_V) (l1 : mm_V) (l3 : mm_V) (l4 : mm_V) (l5 : mm_V), mm_E d 17 28 [l0, l1, (.inr (.inr z)), l3, l4, l5] [] st n I L P = mm_E d 17 29 [l0, l1, (.inr (.inr z)), l3, l4, l5] [] ((.inr (.inr z)) :: st) n I L P) ∧
  (∀ (st : List mm_V) z (l0 : mm_V) (l1 : mm_V) (l2 : mm_V) (l3 : mm_V) (l4 : mm_V), mm_E d 17 29 [l0, l1, l2, l3, l4, (.inl z)] [] st n I L P = mm_E d 17 31 [l0, l1, l2, l3, l4, (.inl z)] [] ((.inl z) :: st) n I L P) ∧
  (∀ (lv : List mm_V) a x0 x1 x2, (mm_ok n a 2) → mm_E d 17 31 lv [] (.inl x2 :: .inr (.inr x1) :: .inr (.inr x0) :: .inr (.inr (some a)) :: []) n I L P = mm_kr d 17 34 lv [] [] n (mm_rn d 15 [.inr (.inr (some a)), .inr (.inr x0), .inr (.inr x1), .inl x2] n I L P)) ∧
  (∀ (lv : List mm_V) (st : List mm_V) a, mm_E d 17 34 lv [] (.inl a :: st) n I L P = if a = 0 then mm_E d 17 49 lv [] st n I L P else mm_E d 17 37 lv [] st n I L P) ∧
  (∀ (st : List mm_V) z (l0 : mm_V) (l1 : mm_V) (l2 : mm_V) (l3 : mm_V) (l5 : mm_V), mm_E d 17 37 [l0, l1, l2, l3, (.inl z), l5] [] st n I L P = mm_E d 17 40 [l0, l1, l2, l3, (.inl (mm_add z 1)), l5] [] st n I L P) ∧
  (∀ (st : List mm_V) z (l1 : mm_V) (l2 : mm_V) (l3 : mm_V) (l4 : mm_V) (l5 : mm_V), mm_E d 17 40 [(.inr (.inr z)), l1, l2, l3, l4, l5] [] st n I L P = mm_E d 17 41 [(.inr (.inr z)), l1, l2, l3, l4, l5] [] ((.inr (.inr z)) :: st) n I L P) ∧
  (∀ (st : List mm_V) z (l0 : mm_V) (l2 : mm_V) (l3 : mm_V) (l4 : mm_V) (l5 : mm_V), mm_E d 17 41 [l0, (.inr (.inr z)), l2, l3, l4, l5] [] st n I L P = mm_E d 17 42 [l0, (.inr (.inr z)), l2, l3, l4, l5] [] ((.inr (.inr z)) :: st) n I L P) ∧
  (∀ (st : List mm_V) z (l0 : mm_V) (l1 : mm_V) (l3 : mm_V) (l4 : mm_V) (l5 : mm_V), mm_E d 17 42 [l0, l1, (.inr (.inr z)), l3, l4, l5] [] st n I L P = mm_E d 17 43 [l0, l1, (.inr (.inr z)), l3, l4, l5] [] ((.inr (.inr z)) :: st) n I L P) ∧
  (∀ (st : List mm_V) z (l0 : mm_V) (l1 : mm_V) (l2 : mm_V) (l3 : mm_V) (l4 : mm_V), mm_E d 17 43 [l0, l1, l2, l3, l4, (.inl z)] [] st n I L P = mm_E d 17 45 [l0, l1, l2, l3, l4, (.inl z)] [] ((.inl z) :: st) n I L P) ∧
  (∀ (st : List mm_V) z (l0 : mm_V) (l1 : mm_V) (l2 : mm_V) (l4 : mm_V) (l5 : mm_V), mm_E d 17 45 [l0, l1, l2, (.inl z), l4, l5] [] st n I L P = mm_E d 17 46 [l0, l1, l2, (.inl z), l4, l5] [] ((.inl z) :: st) n I L P) ∧
  (∀ (lv : List mm_V) a x0 x1 x2 x3, (mm_ok n a 2) → mm_E d 17 46 lv [] (.inl x3 :: .inl x2 :: .inr (.inr x1) :: .inr (.inr x0) :: .inr (.inr (some a)) :: []) n I L P = mm_kv d 17 49 lv [] [] n (mm_rn d 18 [.inr (.inr (some a)), .inr (.inr x0), .inr (.inr x1), .inl x2, .inl x3] n I L P)) ∧
  (∀ (st : List mm_V) z (l0 : mm_V) (l1 : mm_V) (l2 : mm_V) (l3 : mm_V) (l4 : mm_V), mm_E d 17 49 [l0, l1, l2, l3, l4, (.inl z)] [] st n I L P = mm_E d 17 52 [l0, l1, l2, l3, l4, (.inl (mm_add z 1))] [] st n I L P) ∧
  (∀ (lv : List mm_V) (st : List mm_V), mm_E d 17 52 lv [] st n I L P = mm_E d 17 14 lv [] st n I L P) ∧
  (∀ (st : List mm_V) z (l0 : mm_V) (l1 : mm_V) (l2 : mm_V) (l3 : mm_V) (l5 : mm_V), mm_E d 17 55 [l0, l1, l2, l3, (.inl z), l5] [] st n I L P = mm_E d 17 57 [l0, l1, l2, l3, (.inl z), l5] [] ((.inl z) :: st) n I L P) ∧
  (∀ (lv : List mm_V) (st : List mm_V) a, mm_E d 17 57 lv [] (.inl a :: st) n I L P = if a = 0 then mm_E d 17 60 lv [] st n I L P else mm_E d 17 64 lv [] st n I L P) ∧
  (∀ (lv : List mm_V) (st : List mm_V), mm_E d 17 60 lv [] st n I L P = mm_E d 17 61 lv [] (.inl (-1) :: st) n I L P) ∧
  (∀ (lv : List mm_V) (st : List mm_V), mm_E d 17 61 lv [] st n I L P = mm_E d 17 68 lv [] st n I L P) ∧
  (∀ (st : List mm_V) z (l1 : mm_V) (l2 : mm_V) (l3 : mm_V) (l4 : mm_V) (l5 : mm_V), mm_E d 17 64 [(.inr (.inr z)), l1, l2, l3, l4, l5] [] st n I L P = mm_E d 17 65 [(.inr (.inr z)), l1, l2, l3, l4, l5] [] ((.inr (.inr z)) :: st) n I L P) ∧
  (∀ (lv : List mm_V) a, (mm_ok n a 2) → mm_E d 17 65 lv [] (.inr (.inr (some a)) :: []) n I L P = mm_kr d 17 68 lv [] [] n (mm_rn d 19 [.inr (.inr (some a))] n I L P)) ∧
  (∀ (lv : List mm_V) z, mm_E d 17 68 lv [] [.inl z] n I L P = some (some (.inl z), n, I, L, P)) :=
  ⟨fun _ _ _ _ _ _ _ => mq_al (i := 0) rfl rfl,
   fun _ _ _ h0 => mq_getR rfl h0,
   fun _ _ => mq_push rfl,
   fun _ _ _ => mq_cSv (na := 2) rfl (Nat.le_of_ble_eq_true rfl) (Nat.le_of_ble_eq_true rfl),
   fun _ _ => mq_push rfl,
   fun _ _ _ _ _ _ _ _ => mq_is (i := 4) rfl rfl rfl,
   fun _ _ => mq_push rfl,
   fun _ _ _ _ _ _ _ _ => mq_is (i := 5) rfl rfl rfl,
   fun _ _ _ _ _ _ _ => mq_al (i := 1) rfl rfl,
   fun _ _ _ h0 => mq_getI rfl h0,
   fun _ _ => mq_push rfl,
   fun _ _ _ _ => mq_bi rfl,
   fun _ _ _ _ => mq_ic_ge rfl,
   fun _ _ _ _ _ _ _ => mq_al (i := 0) rfl rfl,
   fun _ _ _ _ _ _ _ => mq_al (i := 1) rfl rfl,
   fun _ _ _ _ _ _ _ => mq_al (i := 2) rfl rfl,
   fun _ _ _ _ _ _ _ => mq_il (i := 5) rfl rfl,
   fun _ _ _ _ _ h0 => mq_cVr (na := 3) rfl rfl (Nat.le_of_ble_eq_true rfl) (Nat.le_of_ble_eq_true rfl) h0,
   fun _ _ _ => mq_if_eq rfl,
   fun _ _ _ _ _ _ _ => mq_iinc (i := 4) rfl rfl rfl rfl,
   fun _ _ _ _ _ _ _ => mq_al (i := 0) rfl rfl,
   fun _ _ _ _ _ _ _ => mq_al (i := 1) rfl rfl,
   fun _ _ _ _ _ _ _ => mq_al (i := 2) rfl rfl,
   fun _ _ _ _ _ _ _ => mq_il (i := 5) rfl rfl,
   fun _ _ _ _ _ _ _ => mq_il (i := 3) rfl rfl,
   fun _ _ _ _ _ _ h0 => mq_cVv (na := 4) rfl rfl (Nat.le_of_ble_eq_true rfl) (Nat.le_of_ble_eq_true rfl) h0,
   fun _ _ _ _ _ _ _ => mq_iinc (i := 5) rfl rfl rfl rfl,
   fun _ _ => mq_go rfl,
   fun _ _ _ _ _ _ _ => mq_il (i := 4) rfl rfl,
   fun _ _ _ => mq_if_ne rfl,
   fun _ _ => mq_push rfl,
   fun _ _ => mq_go rfl,
   fun _ _ _ _ _ _ _ => mq_al (i := 0) rfl rfl,
   fun _ _ h0 => mq_cVr (na := 0) rfl rfl (Nat.le_of_ble_eq_true rfl) (Nat.le_of_ble_eq_true rfl) h0,
   fun _ _ => mq_ri rfl⟩
theorem hX2_bestQuestion_14 (d n : Nat) (I L : mm_I) (P : mm_P) : ∀ (st : List mm_V) z (l0 : mm_V) (l1 : mm_V) (l2 : mm_V) (l3 : mm_V) (l4 : mm_V), mm_E d 17 14 [l0, l1, l2, l3, l4, (.inl z)] [] st n I L P = mm_E d 17 16 [l0, l1, l2, l3, l4, (.inl z)] [] ((.inl z) :: st) n I L P := fun _ _ _ _ _ _ _ => mq_il (i := 5) rfl rfl
theorem eX2_bestQuestion (d n : Nat) (I L : mm_I) (P : mm_P) (x0 : Option Nat) (x1 : Option Nat) (x2 : Option Nat) (x3 : Int) : mm_rn (d + 1) 17 [.inr (.inr x0), .inr (.inr x1), .inr (.inr x2), .inl x3] n I L P = mm_E d 17 0 [.inr (.inr x0), .inr (.inr x1), .inr (.inr x2), .inl x3, mm_junk, mm_junk] [] [] n I L P := rfl

set_option maxRecDepth 20000 in
set_option maxHeartbeats 8000000 in
theorem kX2_countLeft (d n : Nat) (I L : mm_I) (P : mm_P) :
  (∀ (st : List mm_V) z (l1 : mm_V) (l2 : mm_V) (l3 : mm_V) (l4 : mm_V) (l5 : mm_V) (l6 : mm_V), mm_E d 18 0 [(.inr (.inr z)), l1, l2, l3, l4, l5, l6] [] st n I L P = mm_E d 18 1 [(.inr (.inr z)), l1, l2, l3, l4, l5, l6] [] ((.inr (.inr z)) :: st) n I L P) ∧
  (∀ (st : List mm_V) z (l0 : mm_V) (l2 : mm_V) (l3 : mm_V) (l4 : mm_V) (l5 : mm_V) (l6 : mm_V), mm_E d 18 1 [l0, (.inr (.inr z)), l2, l3, l4, l5, l6] [] st n I L P = mm_E d 18 2 [l0, (.inr (.inr z)), l2, l3, l4, l5, l6] [] ((.inr (.inr z)) :: st) n I L P) ∧
  (∀ (st : List mm_V) z (l0 : mm_V) (l1 : mm_V) (l2 : mm_V) (l4 : mm_V) (l5 : mm_V) (l6 : mm_V), mm_E d 18 2 [l0, l1, l2, (.inl z), l4, l5, l6] [] st n I L P = mm_E d 18 3 [l0, l1, l2, (.inl z), l4, l5, l6] [] ((.inl z) :: st) n I L P) ∧
  (∀ (lv : List mm_V) a x0 x1, (mm_ok n a 2) → mm_E d 18 3 lv [] (.inl x1 :: .inr (.inr x0) :: .inr (.inr (some a)) :: []) n I L P = mm_kv d 18 6 lv [] [] n (mm_rn d 14 [.inr (.inr (some a)), .inr (.inr x0), .inl x1] n I L P)) ∧
  (∀ (lv : List mm_V) (st : List mm_V), mm_E d 18 6 lv [] st n I L P = mm_E d 18 7 lv [] (.inl 1 :: st) n I L P) ∧
  (∀ (st : List mm_V) z (l0 : mm_V) (l1 : mm_V) (l2 : mm_V) (l3 : mm_V) (l4 : mm_V) (l5 : mm_V) (l6 : mm_V), mm_E d 18 7 [l0, l1, l2, l3, l4, l5, l6] [] ((.inl z) :: st) n I L P = mm_E d 18 9 [l0, l1, l2, l3, l4, (.inl z), l6] [] st n I L P) ∧
  (∀ (lv : List mm_V) (st : List mm_V), mm_E d 18 11 lv [] st n I L P = mm_E d 18 13 lv [] (.inl 12 :: st) n I L P) ∧
  (∀ (lv : List mm_V) (st : List mm_V) a b, mm_E d 18 13 lv [] (.inl b :: .inl a :: st) n I L P = if b < a then mm_E d 18 72 lv [] st n I L P else mm_E d 18 16 lv [] st n I L P) ∧
  (∀ (st : List mm_V) z (l1 : mm_V) (l2 : mm_V) (l3 : mm_V) (l4 : mm_V) (l5 : mm_V) (l6 : mm_V), mm_E d 18 16 [(.inr (.inr z)), l1, l2, l3, l4, l5, l6] [] st n I L P = mm_E d 18 17 [(.inr (.inr z)), l1, l2, l3, l4, l5, l6] [] ((.inr (.inr z)) :: st) n I L P) ∧
  (∀ (lv : List mm_V) (st : List mm_V) a, (mm_ok n a 2) → mm_E d 18 17 lv [] (.inr (.inr (some a)) :: st) n I L P = mm_E d 18 20 lv [] (.inr (.inr (P a 5)) :: st) n I L P) ∧
  (∀ (st : List mm_V) z (l0 : mm_V) (l2 : mm_V) (l3 : mm_V) (l4 : mm_V) (l5 : mm_V) (l6 : mm_V), mm_E d 18 20 [l0, (.inr (.inr z)), l2, l3, l4, l5, l6] [] st n I L P = mm_E d 18 21 [l0, (.inr (.inr z)), l2, l3, l4, l5, l6] [] ((.inr (.inr z)) :: st) n I L P) ∧
  (∀ (st : List mm_V) z (l0 : mm_V) (l1 : mm_V) (l3 : mm_V) (l4 : mm_V) (l5 : mm_V) (l6 : mm_V), mm_E d 18 21 [l0, l1, (.inr (.inr z)), l3, l4, l5, l6] [] st n I L P = mm_E d 18 22 [l0, l1, (.inr (.inr z)), l3, l4, l5, l6] [] ((.inr (.inr z)) :: st) n I L P) ∧
  (∀ (lv : List mm_V) a x0 x1, (mm_ok n a 5) → mm_E d 18 22 lv [] (.inr (.inr x1) :: .inr (.inr x0) :: .inr (.inr (some a)) :: []) n I L P = mm_kr d 18 25 lv [] [] n (mm_rn d 47 [.inr (.inr (some a)), .inr (.inr x0), .inr (.inr x1)] n I L P)) ∧
  (∀ (lv : List mm_V) (st : List mm_V) a, mm_E d 18 25 lv [] ((.inl a) :: st) n I L P = mm_E d 18 26 lv [] st n I L P) ∧
  (∀ (st : List mm_V) z (l1 : mm_V) (l2 : mm_V) (l3 : mm_V) (l4 : mm_V) (l5 : mm_V) (l6 : mm_V), mm_E d 18 26 [(.inr (.inr z)), l1, l2, l3, l4, l5, l6] [] st n I L P = mm_E d 18 27 [(.inr (.inr z)), l1, l2, l3, l4, l5, l6] [] ((.inr (.inr z)) :: st) n I L P) ∧
  (∀ (lv : List mm_V) (st : List mm_V) a, (mm_ok n a 2) → mm_E d 18 27 lv [] (.inr (.inr (some a)) :: st) n I L P = mm_E d 18 30 lv [] (.inr (.inr (P a 5)) :: st) n I L P) ∧
  (∀ (st : List mm_V) z (l0 : mm_V) (l1 : mm_V) (l2 : mm_V) (l3 : mm_V) (l5 : mm_V) (l6 : mm_V), mm_E d 18 30 [l0, l1, l2, l3, (.inl z), l5, l6] [] st n I L P = mm_E d 18 32 [l0, l1, l2, l3, (.inl z), l5, l6] [] ((.inl z) :: st) n I L P) ∧
  (∀ (lv : List mm_V) a x0, (mm_ok n a 5) → mm_E d 18 32 lv [] (.inl x0 :: .inr (.inr (some a)) :: []) n I L P = mm_kr d 18 35 lv [] [] n (mm_rn d 284 [.inr (.inr (some a)), .inl x0] n I L P)) ∧
  (∀ (st : List mm_V) z (l0 : mm_V) (l1 : mm_V) (l2 : mm_V) (l3 : mm_V) (l4 : mm_V) (l5 : mm_V) (l6 : mm_V), mm_E d 18 35 [l0, l1, l2, l3, l4, l5, l6] [] ((.inl z) :: st) n I L P = mm_E d 18 37 [l0, l1, l2, l3, l4, l5, (.inl z)] [] st n I L P) ∧
  (∀ (st : List mm_V) z (l0 : mm_V) (l1 : mm_V) (l2 : mm_V) (l3 : mm_V) (l4 : mm_V) (l5 : mm_V), mm_E d 18 37 [l0, l1, l2, l3, l4, l5, (.inl z)] [] st n I L P = mm_E d 18 39 [l0, l1, l2, l3, l4, l5, (.inl z)] [] ((.inl z) :: st) n I L P) ∧
  (∀ (lv : List mm_V) (st : List mm_V) a, mm_E d 18 39 lv [] (.inl a :: st) n I L P = if a < 0 then mm_E d 18 66 lv [] st n I L P else mm_E d 18 42 lv [] st n I L P) ∧
  (∀ (st : List mm_V) z (l0 : mm_V) (l1 : mm_V) (l2 : mm_V) (l3 : mm_V) (l4 : mm_V) (l5 : mm_V), mm_E d 18 42 [l0, l1, l2, l3, l4, l5, (.inl z)] [] st n I L P = mm_E d 18 44 [l0, l1, l2, l3, l4, l5, (.inl z)] [] ((.inl z) :: st) n I L P) ∧
  (∀ (lv : List mm_V) (st : List mm_V), mm_E d 18 44 lv [] st n I L P = mm_E d 18 46 lv [] (.inl 100 :: st) n I L P) ∧
  (∀ (lv : List mm_V) (st : List mm_V) a b, mm_E d 18 46 lv [] (.inl b :: .inl a :: st) n I L P = if b ≤ a then mm_E d 18 66 lv [] st n I L P else mm_E d 18 49 lv [] st n I L P) ∧
  (∀ (st : List mm_V) z (l1 : mm_V) (l2 : mm_V) (l3 : mm_V) (l4 : mm_V) (l5 : mm_V) (l6 : mm_V), mm_E d 18 49 [(.inr (.inr z)), l1, l2, l3, l4, l5, l6] [] st n I L P = mm_E d 18 50 [(.inr (.inr z)), l1, l2, l3, l4, l5, l6] [] ((.inr (.inr z)) :: st) n I L P) ∧
  (∀ (lv : List mm_V) (st : List mm_V) a, (mm_ok n a 2) → mm_E d 18 50 lv [] (.inr (.inr (some a)) :: st) n I L P = mm_E d 18 53 lv [] (.inr (.inr (P a 6)) :: st) n I L P) ∧
  (∀ (st : List mm_V) z (l0 : mm_V) (l1 : mm_V) (l2 : mm_V) (l3 : mm_V) (l4 : mm_V) (l6 : mm_V), mm_E d 18 53 [l0, l1, l2, l3, l4, (.inl z), l6] [] st n I L P = mm_E d 18 55 [l0, l1, l2, l3, l4, (.inl z), l6] [] ((.inl z) :: st) n I L P) ∧
  (∀ (lv : List mm_V) (st : List mm_V), mm_E d 18 55 lv [] st n I L P = mm_E d 18 57 lv [] (.inl 100 :: st) n I L P) ∧
  (∀ (lv : List mm_V) (st : List mm_V) a b, mm_E d 18 57 lv [] (.inl b :: .inl a :: st) n I L P = mm_E d 18 58 lv [] (.inl (mm_mul a b) :: st) n I L P) ∧
  (∀ (st : List mm_V) z (l0 : mm_V) (l1 : mm_V) (l2 : mm_V) (l3 : mm_V) (l4 : mm_V) (l5 : mm_V), mm_E d 18 58 [l0, l1, l2, l3, l4, l5, (.inl z)] [] st n I L P = mm_E d 18 60 [l0, l1, l2, l3, l4, l5, (.inl z)] [] ((.inl z) :: st) n I L P) ∧
  (∀ (lv : List mm_V) (st : List mm_V) a b, mm_E d 18 60 lv [] (.inl b :: .inl a :: st) n I L P = mm_E d 18 61 lv [] (.inl (mm_add a b) :: st) n I L P) ∧
  (∀ (lv : List mm_V) (st : List mm_V) a b, mm_E d 18 61 lv [] ((.inl a) :: (.inr (.inr b)) :: st) n I L P = mm_E d 18 62 lv [] ((.inl a) :: (.inr (.inr b)) :: (.inl a) :: (.inr (.inr b)) :: st) n I L P) ∧
  (∀ (lv : List mm_V) (st : List mm_V) a i, (mm_ix n a 20 i) → mm_E d 18 62 lv [] (.inl i :: .inr (.inr (some a)) :: st) n I L P = mm_E d 18 63 lv [] (.inl (I a i.toNat) :: st) n I L P) ∧
  (∀ (lv : List mm_V) (st : List mm_V), mm_E d 18 63 lv [] st n I L P = mm_E d 18 64 lv [] (.inl 1 :: st) n I L P) ∧
  (∀ (lv : List mm_V) (st : List mm_V) a b, mm_E d 18 64 lv [] (.inl b :: .inl a :: st) n I L P = mm_E d 18 65 lv [] (.inl (mm_add a b) :: st) n I L P) ∧
  (∀ (lv : List mm_V) (st : List mm_V) a i z, (mm_ix n a 20 i) → mm_E d 18 65 lv [] (.inl z :: .inl i :: .inr (.inr (some a)) :: st) n I L P = mm_E d 18 66 lv [] st n (mm_ui I a i.toNat z) L P) ∧
  (∀ (st : List mm_V) z (l0 : mm_V) (l1 : mm_V) (l2 : mm_V) (l3 : mm_V) (l4 : mm_V) (l6 : mm_V), mm_E d 18 66 [l0, l1, l2, l3, l4, (.inl z), l6] [] st n I L P = mm_E d 18 69 [l0, l1, l2, l3, l4, (.inl (mm_add z 1)), l6] [] st n I L P) ∧
  (∀ (lv : List mm_V) (st : List mm_V), mm_E d 18 69 lv [] st n I L P = mm_E d 18 9 lv [] st n I L P) ∧
  (∀ (lv : List mm_V), mm_E d 18 72 lv [] [] n I L P = some (none, n, I, L, P)) :=
  ⟨fun _ _ _ _ _ _ _ _ => mq_al (i := 0) rfl rfl,
   fun _ _ _ _ _ _ _ _ => mq_al (i := 1) rfl rfl,
   fun _ _ _ _ _ _ _ _ => mq_il (i := 3) rfl rfl,
   fun _ _ _ _ h0 => mq_cVv (na := 2) rfl rfl (Nat.le_of_ble_eq_true rfl) (Nat.le_of_ble_eq_true rfl) h0,
   fun _ _ => mq_push rfl,
   fun _ _ _ _ _ _ _ _ _ => mq_is (i := 5) rfl rfl rfl,
   fun _ _ => mq_push rfl,
   fun _ _ _ _ => mq_ic_gt rfl,
   fun _ _ _ _ _ _ _ _ => mq_al (i := 0) rfl rfl,
   fun _ _ _ h0 => mq_getR rfl h0,
   fun _ _ _ _ _ _ _ _ => mq_al (i := 1) rfl rfl,
   fun _ _ _ _ _ _ _ _ => mq_al (i := 2) rfl rfl,
   fun _ _ _ _ h0 => mq_cVr (na := 2) rfl rfl (Nat.le_of_ble_eq_true rfl) (Nat.le_of_ble_eq_true rfl) h0,
   fun _ _ _ => mq_pop rfl rfl,
   fun _ _ _ _ _ _ _ _ => mq_al (i := 0) rfl rfl,
   fun _ _ _ h0 => mq_getR rfl h0,
   fun _ _ _ _ _ _ _ _ => mq_il (i := 4) rfl rfl,
   fun _ _ _ h0 => mq_cVr (na := 1) rfl rfl (Nat.le_of_ble_eq_true rfl) (Nat.le_of_ble_eq_true rfl) h0,
   fun _ _ _ _ _ _ _ _ _ => mq_is (i := 6) rfl rfl rfl,
   fun _ _ _ _ _ _ _ _ => mq_il (i := 6) rfl rfl,
   fun _ _ _ => mq_if_lt rfl,
   fun _ _ _ _ _ _ _ _ => mq_il (i := 6) rfl rfl,
   fun _ _ => mq_push rfl,
   fun _ _ _ _ => mq_ic_ge rfl,
   fun _ _ _ _ _ _ _ _ => mq_al (i := 0) rfl rfl,
   fun _ _ _ h0 => mq_getR rfl h0,
   fun _ _ _ _ _ _ _ _ => mq_il (i := 5) rfl rfl,
   fun _ _ => mq_push rfl,
   fun _ _ _ _ => mq_bi rfl,
   fun _ _ _ _ _ _ _ _ => mq_il (i := 6) rfl rfl,
   fun _ _ _ _ => mq_bi rfl,
   fun _ _ _ _ => mq_dup2 rfl rfl rfl,
   fun _ _ _ _ h0 => mq_iald rfl h0,
   fun _ _ => mq_push rfl,
   fun _ _ _ _ => mq_bi rfl,
   fun _ _ _ _ _ h0 => mq_iast rfl h0,
   fun _ _ _ _ _ _ _ _ => mq_iinc (i := 5) rfl rfl rfl rfl,
   fun _ _ => mq_go rfl,
   fun _ => mq_rv rfl⟩
theorem hX2_countLeft_9 (d n : Nat) (I L : mm_I) (P : mm_P) : ∀ (st : List mm_V) z (l0 : mm_V) (l1 : mm_V) (l2 : mm_V) (l3 : mm_V) (l4 : mm_V) (l6 : mm_V), mm_E d 18 9 [l0, l1, l2, l3, l4, (.inl z), l6] [] st n I L P = mm_E d 18 11 [l0, l1, l2, l3, l4, (.inl z), l6] [] ((.inl z) :: st) n I L P := fun _ _ _ _ _ _ _ _ => mq_il (i := 5) rfl rfl
theorem eX2_countLeft (d n : Nat) (I L : mm_I) (P : mm_P) (x0 : Option Nat) (x1 : Option Nat) (x2 : Option Nat) (x3 : Int) (x4 : Int) : mm_rn (d + 1) 18 [.inr (.inr x0), .inr (.inr x1), .inr (.inr x2), .inl x3, .inl x4] n I L P = mm_E d 18 0 [.inr (.inr x0), .inr (.inr x1), .inr (.inr x2), .inl x3, .inl x4, mm_junk, mm_junk] [] [] n I L P := rfl

set_option maxRecDepth 20000 in
set_option maxHeartbeats 8000000 in
theorem kX2_hourOfFewest (d n : Nat) (I L : mm_I) (P : mm_P) :
  (∀ (lv : List mm_V) (st : List mm_V), mm_E d 19 0 lv [] st n I L P = mm_E d 19 1 lv [] (.inl 1 :: st) n I L P) ∧
  (∀ (st : List mm_V) z (l0 : mm_V) (l1 : mm_V) (l2 : mm_V), mm_E d 19 1 [l0, l1, l2] [] ((.inl z) :: st) n I L P = mm_E d 19 2 [l0, (.inl z), l2] [] st n I L P) ∧
  (∀ (lv : List mm_V) (st : List mm_V), mm_E d 19 2 lv [] st n I L P = mm_E d 19 3 lv [] (.inl 2 :: st) n I L P) ∧
  (∀ (st : List mm_V) z (l0 : mm_V) (l1 : mm_V) (l2 : mm_V), mm_E d 19 3 [l0, l1, l2] [] ((.inl z) :: st) n I L P = mm_E d 19 4 [l0, l1, (.inl z)] [] st n I L P) ∧
  (∀ (lv : List mm_V) (st : List mm_V), mm_E d 19 5 lv [] st n I L P = mm_E d 19 7 lv [] (.inl 12 :: st) n I L P) ∧
  (∀ (lv : List mm_V) (st : List mm_V) a b, mm_E d 19 7 lv [] (.inl b :: .inl a :: st) n I L P = if b < a then mm_E d 19 31 lv [] st n I L P else mm_E d 19 10 lv [] st n I L P) ∧
  (∀ (st : List mm_V) z (l1 : mm_V) (l2 : mm_V), mm_E d 19 10 [(.inr (.inr z)), l1, l2] [] st n I L P = mm_E d 19 11 [(.inr (.inr z)), l1, l2] [] ((.inr (.inr z)) :: st) n I L P) ∧
  (∀ (st : List mm_V) z (l0 : mm_V) (l1 : mm_V), mm_E d 19 11 [l0, l1, (.inl z)] [] st n I L P = mm_E d 19 12 [l0, l1, (.inl z)] [] ((.inl z) :: st) n I L P) ∧
  (∀ (lv : List mm_V) a x0, (mm_ok n a 2) → mm_E d 19 12 lv [] (.inl x0 :: .inr (.inr (some a)) :: []) n I L P = mm_kr d 19 15 lv [] [] n (mm_rn d 20 [.inr (.inr (some a)), .inl x0] n I L P)) ∧
  (∀ (st : List mm_V) z (l1 : mm_V) (l2 : mm_V), mm_E d 19 15 [(.inr (.inr z)), l1, l2] [] st n I L P = mm_E d 19 16 [(.inr (.inr z)), l1, l2] [] ((.inr (.inr z)) :: st) n I L P) ∧
  (∀ (st : List mm_V) z (l0 : mm_V) (l2 : mm_V), mm_E d 19 16 [l0, (.inl z), l2] [] st n I L P = mm_E d 19 17 [l0, (.inl z), l2] [] ((.inl z) :: st) n I L P) ∧
  (∀ (lv : List mm_V) a x0 w0, (mm_ok n a 2) → mm_E d 19 17 lv [] (.inl x0 :: .inr (.inr (some a)) :: [.inl w0]) n I L P = mm_kr d 19 20 lv [] [.inl w0] n (mm_rn d 20 [.inr (.inr (some a)), .inl x0] n I L P)) ∧
  (∀ (lv : List mm_V) (st : List mm_V) a b, mm_E d 19 20 lv [] (.inl b :: .inl a :: st) n I L P = if b ≤ a then mm_E d 19 25 lv [] st n I L P else mm_E d 19 23 lv [] st n I L P) ∧
  (∀ (st : List mm_V) z (l0 : mm_V) (l1 : mm_V), mm_E d 19 23 [l0, l1, (.inl z)] [] st n I L P = mm_E d 19 24 [l0, l1, (.inl z)] [] ((.inl z) :: st) n I L P) ∧
  (∀ (st : List mm_V) z (l0 : mm_V) (l1 : mm_V) (l2 : mm_V), mm_E d 19 24 [l0, l1, l2] [] ((.inl z) :: st) n I L P = mm_E d 19 25 [l0, (.inl z), l2] [] st n I L P) ∧
  (∀ (st : List mm_V) z (l0 : mm_V) (l1 : mm_V), mm_E d 19 25 [l0, l1, (.inl z)] [] st n I L P = mm_E d 19 28 [l0, l1, (.inl (mm_add z 1))] [] st n I L P) ∧
  (∀ (lv : List mm_V) (st : List mm_V), mm_E d 19 28 lv [] st n I L P = mm_E d 19 4 lv [] st n I L P) ∧
  (∀ (st : List mm_V) z (l0 : mm_V) (l2 : mm_V), mm_E d 19 31 [l0, (.inl z), l2] [] st n I L P = mm_E d 19 32 [l0, (.inl z), l2] [] ((.inl z) :: st) n I L P) ∧
  (∀ (lv : List mm_V) z, mm_E d 19 32 lv [] [.inl z] n I L P = some (some (.inl z), n, I, L, P)) :=
  ⟨fun _ _ => mq_push rfl,
   fun _ _ _ _ _ => mq_is (i := 1) rfl rfl rfl,
   fun _ _ => mq_push rfl,
   fun _ _ _ _ _ => mq_is (i := 2) rfl rfl rfl,
   fun _ _ => mq_push rfl,
   fun _ _ _ _ => mq_ic_gt rfl,
   fun _ _ _ _ => mq_al (i := 0) rfl rfl,
   fun _ _ _ _ => mq_il (i := 2) rfl rfl,
   fun _ _ _ h0 => mq_cVr (na := 1) rfl rfl (Nat.le_of_ble_eq_true rfl) (Nat.le_of_ble_eq_true rfl) h0,
   fun _ _ _ _ => mq_al (i := 0) rfl rfl,
   fun _ _ _ _ => mq_il (i := 1) rfl rfl,
   fun _ _ _ _ h0 => mq_cVr (na := 1) rfl rfl (Nat.le_of_ble_eq_true rfl) (Nat.le_of_ble_eq_true rfl) h0,
   fun _ _ _ _ => mq_ic_ge rfl,
   fun _ _ _ _ => mq_il (i := 2) rfl rfl,
   fun _ _ _ _ _ => mq_is (i := 1) rfl rfl rfl,
   fun _ _ _ _ => mq_iinc (i := 2) rfl rfl rfl rfl,
   fun _ _ => mq_go rfl,
   fun _ _ _ _ => mq_il (i := 1) rfl rfl,
   fun _ _ => mq_ri rfl⟩
theorem hX2_hourOfFewest_4 (d n : Nat) (I L : mm_I) (P : mm_P) : ∀ (st : List mm_V) z (l0 : mm_V) (l1 : mm_V), mm_E d 19 4 [l0, l1, (.inl z)] [] st n I L P = mm_E d 19 5 [l0, l1, (.inl z)] [] ((.inl z) :: st) n I L P := fun _ _ _ _ => mq_il (i := 2) rfl rfl
theorem eX2_hourOfFewest (d n : Nat) (I L : mm_I) (P : mm_P) (x0 : Option Nat) : mm_rn (d + 1) 19 [.inr (.inr x0)] n I L P = mm_E d 19 0 [.inr (.inr x0), mm_junk, mm_junk] [] [] n I L P := rfl

set_option maxRecDepth 20000 in
set_option maxHeartbeats 8000000 in
theorem kX2_mostAlike (d n : Nat) (I L : mm_I) (P : mm_P) :
  (∀ (lv : List mm_V) (st : List mm_V), mm_E d 20 0 lv [] st n I L P = mm_E d 20 1 lv [] (.inl 0 :: st) n I L P) ∧
  (∀ (st : List mm_V) z (l0 : mm_V) (l1 : mm_V) (l2 : mm_V) (l3 : mm_V), mm_E d 20 1 [l0, l1, l2, l3] [] ((.inl z) :: st) n I L P = mm_E d 20 2 [l0, l1, (.inl z), l3] [] st n I L P) ∧
  (∀ (lv : List mm_V) (st : List mm_V), mm_E d 20 2 lv [] st n I L P = mm_E d 20 3 lv [] (.inl 0 :: st) n I L P) ∧
  (∀ (st : List mm_V) z (l0 : mm_V) (l1 : mm_V) (l2 : mm_V) (l3 : mm_V), mm_E d 20 3 [l0, l1, l2, l3] [] ((.inl z) :: st) n I L P = mm_E d 20 4 [l0, l1, l2, (.inl z)] [] st n I L P) ∧
  (∀ (lv : List mm_V) (st : List mm_V), mm_E d 20 5 lv [] st n I L P = mm_E d 20 7 lv [] (.inl 100 :: st) n I L P) ∧
  (∀ (lv : List mm_V) (st : List mm_V) a b, mm_E d 20 7 lv [] (.inl b :: .inl a :: st) n I L P = if b ≤ a then mm_E d 20 32 lv [] st n I L P else mm_E d 20 10 lv [] st n I L P) ∧
  (∀ (st : List mm_V) z (l0 : mm_V) (l1 : mm_V) (l3 : mm_V), mm_E d 20 10 [l0, l1, (.inl z), l3] [] st n I L P = mm_E d 20 11 [l0, l1, (.inl z), l3] [] ((.inl z) :: st) n I L P) ∧
  (∀ (st : List mm_V) z (l1 : mm_V) (l2 : mm_V) (l3 : mm_V), mm_E d 20 11 [(.inr (.inr z)), l1, l2, l3] [] st n I L P = mm_E d 20 12 [(.inr (.inr z)), l1, l2, l3] [] ((.inr (.inr z)) :: st) n I L P) ∧
  (∀ (lv : List mm_V) (st : List mm_V) a, (mm_ok n a 2) → mm_E d 20 12 lv [] (.inr (.inr (some a)) :: st) n I L P = mm_E d 20 15 lv [] (.inr (.inr (P a 6)) :: st) n I L P) ∧
  (∀ (st : List mm_V) z (l0 : mm_V) (l2 : mm_V) (l3 : mm_V), mm_E d 20 15 [l0, (.inl z), l2, l3] [] st n I L P = mm_E d 20 16 [l0, (.inl z), l2, l3] [] ((.inl z) :: st) n I L P) ∧
  (∀ (lv : List mm_V) (st : List mm_V), mm_E d 20 16 lv [] st n I L P = mm_E d 20 18 lv [] (.inl 100 :: st) n I L P) ∧
  (∀ (lv : List mm_V) (st : List mm_V) a b, mm_E d 20 18 lv [] (.inl b :: .inl a :: st) n I L P = mm_E d 20 19 lv [] (.inl (mm_mul a b) :: st) n I L P) ∧
  (∀ (st : List mm_V) z (l0 : mm_V) (l1 : mm_V) (l2 : mm_V), mm_E d 20 19 [l0, l1, l2, (.inl z)] [] st n I L P = mm_E d 20 20 [l0, l1, l2, (.inl z)] [] ((.inl z) :: st) n I L P) ∧
  (∀ (lv : List mm_V) (st : List mm_V) a b, mm_E d 20 20 lv [] (.inl b :: .inl a :: st) n I L P = mm_E d 20 21 lv [] (.inl (mm_add a b) :: st) n I L P) ∧
  (∀ (lv : List mm_V) (st : List mm_V) a i, (mm_ix n a 20 i) → mm_E d 20 21 lv [] (.inl i :: .inr (.inr (some a)) :: st) n I L P = mm_E d 20 22 lv [] (.inl (I a i.toNat) :: st) n I L P) ∧
  (∀ (lv : List mm_V) x0 x1, mm_E d 20 22 lv [] (.inl x1 :: .inl x0 :: []) n I L P = mm_kr d 20 25 lv [] [] n (mm_rn d 265 [.inl x0, .inl x1] n I L P)) ∧
  (∀ (st : List mm_V) z (l0 : mm_V) (l1 : mm_V) (l2 : mm_V) (l3 : mm_V), mm_E d 20 25 [l0, l1, l2, l3] [] ((.inl z) :: st) n I L P = mm_E d 20 26 [l0, l1, (.inl z), l3] [] st n I L P) ∧
  (∀ (st : List mm_V) z (l0 : mm_V) (l1 : mm_V) (l2 : mm_V), mm_E d 20 26 [l0, l1, l2, (.inl z)] [] st n I L P = mm_E d 20 29 [l0, l1, l2, (.inl (mm_add z 1))] [] st n I L P) ∧
  (∀ (lv : List mm_V) (st : List mm_V), mm_E d 20 29 lv [] st n I L P = mm_E d 20 4 lv [] st n I L P) ∧
  (∀ (st : List mm_V) z (l0 : mm_V) (l1 : mm_V) (l3 : mm_V), mm_E d 20 32 [l0, l1, (.inl z), l3] [] st n I L P = mm_E d 20 33 [l0, l1, (.inl z), l3] [] ((.inl z) :: st) n I L P) ∧
  (∀ (lv : List mm_V) z, mm_E d 20 33 lv [] [.inl z] n I L P = some (some (.inl z), n, I, L, P)) :=
  ⟨fun _ _ => mq_push rfl,
   fun _ _ _ _ _ _ => mq_is (i := 2) rfl rfl rfl,
   fun _ _ => mq_push rfl,
   fun _ _ _ _ _ _ => mq_is (i := 3) rfl rfl rfl,
   fun _ _ => mq_push rfl,
   fun _ _ _ _ => mq_ic_ge rfl,
   fun _ _ _ _ _ => mq_il (i := 2) rfl rfl,
   fun _ _ _ _ _ => mq_al (i := 0) rfl rfl,
   fun _ _ _ h0 => mq_getR rfl h0,
   fun _ _ _ _ _ => mq_il (i := 1) rfl rfl,
   fun _ _ => mq_push rfl,
   fun _ _ _ _ => mq_bi rfl,
   fun _ _ _ _ _ => mq_il (i := 3) rfl rfl,
   fun _ _ _ _ => mq_bi rfl,
   fun _ _ _ _ h0 => mq_iald rfl h0,
   fun _ _ _ => mq_cSr (na := 2) rfl (Nat.le_of_ble_eq_true rfl) (Nat.le_of_ble_eq_true rfl),
   fun _ _ _ _ _ _ => mq_is (i := 2) rfl rfl rfl,
   fun _ _ _ _ _ => mq_iinc (i := 3) rfl rfl rfl rfl,
   fun _ _ => mq_go rfl,
   fun _ _ _ _ _ => mq_il (i := 2) rfl rfl,
   fun _ _ => mq_ri rfl⟩
theorem hX2_mostAlike_4 (d n : Nat) (I L : mm_I) (P : mm_P) : ∀ (st : List mm_V) z (l0 : mm_V) (l1 : mm_V) (l2 : mm_V), mm_E d 20 4 [l0, l1, l2, (.inl z)] [] st n I L P = mm_E d 20 5 [l0, l1, l2, (.inl z)] [] ((.inl z) :: st) n I L P := fun _ _ _ _ _ => mq_il (i := 3) rfl rfl
theorem eX2_mostAlike (d n : Nat) (I L : mm_I) (P : mm_P) (x0 : Option Nat) (x1 : Int) : mm_rn (d + 1) 20 [.inr (.inr x0), .inl x1] n I L P = mm_E d 20 0 [.inr (.inr x0), .inl x1, mm_junk, mm_junk] [] [] n I L P := rfl

set_option maxRecDepth 20000 in
set_option maxHeartbeats 8000000 in
theorem kX3_init (d n : Nat) (I L : mm_I) (P : mm_P) :
  (∀ (st : List mm_V) z, mm_E d 21 0 [(.inr (.inr z))] [] st n I L P = mm_E d 21 1 [(.inr (.inr z))] [] ((.inr (.inr z)) :: st) n I L P) ∧
  (∀ (lv : List mm_V) a, (a < n) → mm_E d 21 1 lv [] (.inr (.inr (some a)) :: []) n I L P = mm_E d 21 4 lv [] [] n I L P) ∧
  (∀ (st : List mm_V) z, mm_E d 21 4 [(.inr (.inr z))] [] st n I L P = mm_E d 21 5 [(.inr (.inr z))] [] ((.inr (.inr z)) :: st) n I L P) ∧
  (∀ (lv : List mm_V) (st : List mm_V), mm_E d 21 5 lv [] st n I L P = mm_E d 21 8 lv [] (.inl 256 :: st) n I L P) ∧
  (∀ (lv : List mm_V) (st : List mm_V) z, (n < mm_NC ∧ mm_ty n = (20, z.toNat) ∧ 0 ≤ z) → mm_E d 21 8 lv [] (.inl z :: st) n I L P = mm_E d 21 10 lv [] (.inr (.inr (some n)) :: st) (n + 1) (mm_zi I n) (mm_zi L n) (mm_zp P n)) ∧
  (∀ (lv : List mm_V) (st : List mm_V) a z, (mm_ok n a 3) → mm_E d 21 10 lv [] (.inr (.inr z) :: .inr (.inr (some a)) :: st) n I L P = mm_E d 21 13 lv [] st n I L (mm_up P a 0 z)) ∧
  (∀ (st : List mm_V) z, mm_E d 21 13 [(.inr (.inr z))] [] st n I L P = mm_E d 21 14 [(.inr (.inr z))] [] ((.inr (.inr z)) :: st) n I L P) ∧
  (∀ (lv : List mm_V) (st : List mm_V), mm_E d 21 14 lv [] st n I L P = mm_E d 21 16 lv [] (.inl 6 :: st) n I L P) ∧
  (∀ (lv : List mm_V) (st : List mm_V) z, (n < mm_NC ∧ mm_ty n = (20, z.toNat) ∧ 0 ≤ z) → mm_E d 21 16 lv [] (.inl z :: st) n I L P = mm_E d 21 18 lv [] (.inr (.inr (some n)) :: st) (n + 1) (mm_zi I n) (mm_zi L n) (mm_zp P n)) ∧
  (∀ (lv : List mm_V) (st : List mm_V) a z, (mm_ok n a 3) → mm_E d 21 18 lv [] (.inr (.inr z) :: .inr (.inr (some a)) :: st) n I L P = mm_E d 21 21 lv [] st n I L (mm_up P a 2 z)) ∧
  (∀ (st : List mm_V) z, mm_E d 21 21 [(.inr (.inr z))] [] st n I L P = mm_E d 21 22 [(.inr (.inr z))] [] ((.inr (.inr z)) :: st) n I L P) ∧
  (∀ (lv : List mm_V) (st : List mm_V), mm_E d 21 22 lv [] st n I L P = mm_E d 21 24 lv [] (.inl 64 :: st) n I L P) ∧
  (∀ (lv : List mm_V) (st : List mm_V) z, (n < mm_NC ∧ mm_ty n = (20, z.toNat) ∧ 0 ≤ z) → mm_E d 21 24 lv [] (.inl z :: st) n I L P = mm_E d 21 26 lv [] (.inr (.inr (some n)) :: st) (n + 1) (mm_zi I n) (mm_zi L n) (mm_zp P n)) ∧
  (∀ (lv : List mm_V) (st : List mm_V) a z, (mm_ok n a 3) → mm_E d 21 26 lv [] (.inr (.inr z) :: .inr (.inr (some a)) :: st) n I L P = mm_E d 21 29 lv [] st n I L (mm_up P a 3 z)) ∧
  (∀ (lv : List mm_V), mm_E d 21 29 lv [] [] n I L P = some (none, n, I, L, P)) :=
  ⟨fun _ _ => mq_al (i := 0) rfl rfl,
   fun _ _ h0 => mq_oi rfl h0 (Nat.le_of_ble_eq_true rfl),
   fun _ _ => mq_al (i := 0) rfl rfl,
   fun _ _ => mq_push rfl,
   fun _ _ _ h0 => mq_newa rfl h0,
   fun _ _ _ _ h0 => mq_putR rfl h0,
   fun _ _ => mq_al (i := 0) rfl rfl,
   fun _ _ => mq_push rfl,
   fun _ _ _ h0 => mq_newa rfl h0,
   fun _ _ _ _ h0 => mq_putR rfl h0,
   fun _ _ => mq_al (i := 0) rfl rfl,
   fun _ _ => mq_push rfl,
   fun _ _ _ h0 => mq_newa rfl h0,
   fun _ _ _ _ h0 => mq_putR rfl h0,
   fun _ => mq_rv rfl⟩
theorem eX3_init (d n : Nat) (I L : mm_I) (P : mm_P) (x0 : Option Nat) : mm_rn (d + 1) 21 [.inr (.inr x0)] n I L P = mm_E d 21 0 [.inr (.inr x0)] [] [] n I L P := rfl

set_option maxRecDepth 20000 in
set_option maxHeartbeats 8000000 in
theorem kX3_put (d n : Nat) (I L : mm_I) (P : mm_P) :
  (∀ (st : List mm_V) z (l1 : mm_V) (l2 : mm_V), mm_E d 22 0 [(.inr (.inr z)), l1, l2] [] st n I L P = mm_E d 22 1 [(.inr (.inr z)), l1, l2] [] ((.inr (.inr z)) :: st) n I L P) ∧
  (∀ (lv : List mm_V) (st : List mm_V) a, (mm_ok n a 3) → mm_E d 22 1 lv [] (.inr (.inr (some a)) :: st) n I L P = mm_E d 22 4 lv [] (.inl (I a 1) :: st) n I L P) ∧
  (∀ (st : List mm_V) z (l1 : mm_V) (l2 : mm_V), mm_E d 22 4 [(.inr (.inr z)), l1, l2] [] st n I L P = mm_E d 22 5 [(.inr (.inr z)), l1, l2] [] ((.inr (.inr z)) :: st) n I L P) ∧
  (∀ (lv : List mm_V) (st : List mm_V) a, (mm_ok n a 3) → mm_E d 22 5 lv [] (.inr (.inr (some a)) :: st) n I L P = mm_E d 22 8 lv [] (.inr (.inr (P a 0)) :: st) n I L P) ∧
  (∀ (lv : List mm_V) (st : List mm_V) a, (mm_ok n a 20) → mm_E d 22 8 lv [] (.inr (.inr (some a)) :: st) n I L P = mm_E d 22 9 lv [] (.inl ((mm_ty a).2 : Int) :: st) n I L P) ∧
  (∀ (lv : List mm_V) (st : List mm_V) a b, mm_E d 22 9 lv [] (.inl b :: .inl a :: st) n I L P = if b ≤ a then mm_E d 22 37 lv [] st n I L P else mm_E d 22 12 lv [] st n I L P) ∧
  (∀ (st : List mm_V) z (l1 : mm_V) (l2 : mm_V), mm_E d 22 12 [(.inr (.inr z)), l1, l2] [] st n I L P = mm_E d 22 13 [(.inr (.inr z)), l1, l2] [] ((.inr (.inr z)) :: st) n I L P) ∧
  (∀ (lv : List mm_V) (st : List mm_V) a, (mm_ok n a 3) → mm_E d 22 13 lv [] (.inr (.inr (some a)) :: st) n I L P = mm_E d 22 16 lv [] (.inr (.inr (P a 0)) :: st) n I L P) ∧
  (∀ (st : List mm_V) z (l1 : mm_V) (l2 : mm_V), mm_E d 22 16 [(.inr (.inr z)), l1, l2] [] st n I L P = mm_E d 22 17 [(.inr (.inr z)), l1, l2] [] ((.inr (.inr z)) :: st) n I L P) ∧
  (∀ (lv : List mm_V) (st : List mm_V) a, (mm_ok n a 3) → mm_E d 22 17 lv [] (.inr (.inr (some a)) :: st) n I L P = mm_E d 22 20 lv [] (.inl (I a 1) :: st) n I L P) ∧
  (∀ (st : List mm_V) z (l0 : mm_V) (l2 : mm_V), mm_E d 22 20 [l0, (.inl z), l2] [] st n I L P = mm_E d 22 21 [l0, (.inl z), l2] [] ((.inl z) :: st) n I L P) ∧
  (∀ (lv : List mm_V) (st : List mm_V), mm_E d 22 21 lv [] st n I L P = mm_E d 22 23 lv [] (.inl 16 :: st) n I L P) ∧
  (∀ (st : List mm_V) z (l0 : mm_V) (l1 : mm_V), mm_E d 22 23 [l0, l1, (.inl z)] [] st n I L P = mm_E d 22 24 [l0, l1, (.inl z)] [] ((.inl z) :: st) n I L P) ∧
  (∀ (lv : List mm_V) (st : List mm_V) a b, mm_E d 22 24 lv [] (.inl b :: .inl a :: st) n I L P = mm_E d 22 25 lv [] (.inl (mm_mul a b) :: st) n I L P) ∧
  (∀ (lv : List mm_V) (st : List mm_V) a b, mm_E d 22 25 lv [] (.inl b :: .inl a :: st) n I L P = mm_E d 22 26 lv [] (.inl (mm_add a b) :: st) n I L P) ∧
  (∀ (lv : List mm_V) (st : List mm_V) a i z, (mm_ix n a 20 i) → mm_E d 22 26 lv [] (.inl z :: .inl i :: .inr (.inr (some a)) :: st) n I L P = mm_E d 22 27 lv [] st n (mm_ui I a i.toNat z) L P) ∧
  (∀ (st : List mm_V) z (l1 : mm_V) (l2 : mm_V), mm_E d 22 27 [(.inr (.inr z)), l1, l2] [] st n I L P = mm_E d 22 28 [(.inr (.inr z)), l1, l2] [] ((.inr (.inr z)) :: st) n I L P) ∧
  (∀ (lv : List mm_V) (st : List mm_V) a, mm_E d 22 28 lv [] ((.inr (.inr a)) :: st) n I L P = mm_E d 22 29 lv [] ((.inr (.inr a)) :: (.inr (.inr a)) :: st) n I L P) ∧
  (∀ (lv : List mm_V) (st : List mm_V) a, (mm_ok n a 3) → mm_E d 22 29 lv [] (.inr (.inr (some a)) :: st) n I L P = mm_E d 22 32 lv [] (.inl (I a 1) :: st) n I L P) ∧
  (∀ (lv : List mm_V) (st : List mm_V), mm_E d 22 32 lv [] st n I L P = mm_E d 22 33 lv [] (.inl 1 :: st) n I L P) ∧
  (∀ (lv : List mm_V) (st : List mm_V) a b, mm_E d 22 33 lv [] (.inl b :: .inl a :: st) n I L P = mm_E d 22 34 lv [] (.inl (mm_add a b) :: st) n I L P) ∧
  (∀ (lv : List mm_V) (st : List mm_V) a z, (mm_ok n a 3) → mm_E d 22 34 lv [] (.inl z :: .inr (.inr (some a)) :: st) n I L P = mm_E d 22 37 lv [] st n (mm_ui I a 1 z) L P) ∧
  (∀ (lv : List mm_V), mm_E d 22 37 lv [] [] n I L P = some (none, n, I, L, P)) :=
  ⟨fun _ _ _ _ => mq_al (i := 0) rfl rfl,
   fun _ _ _ h0 => mq_getI rfl h0,
   fun _ _ _ _ => mq_al (i := 0) rfl rfl,
   fun _ _ _ h0 => mq_getR rfl h0,
   fun _ _ _ h0 => mq_alen rfl h0,
   fun _ _ _ _ => mq_ic_ge rfl,
   fun _ _ _ _ => mq_al (i := 0) rfl rfl,
   fun _ _ _ h0 => mq_getR rfl h0,
   fun _ _ _ _ => mq_al (i := 0) rfl rfl,
   fun _ _ _ h0 => mq_getI rfl h0,
   fun _ _ _ _ => mq_il (i := 1) rfl rfl,
   fun _ _ => mq_push rfl,
   fun _ _ _ _ => mq_il (i := 2) rfl rfl,
   fun _ _ _ _ => mq_bi rfl,
   fun _ _ _ _ => mq_bi rfl,
   fun _ _ _ _ _ h0 => mq_iast rfl h0,
   fun _ _ _ _ => mq_al (i := 0) rfl rfl,
   fun _ _ _ => mq_dup rfl rfl,
   fun _ _ _ h0 => mq_getI rfl h0,
   fun _ _ => mq_push rfl,
   fun _ _ _ _ => mq_bi rfl,
   fun _ _ _ _ h0 => mq_putI rfl h0,
   fun _ => mq_rv rfl⟩
theorem eX3_put (d n : Nat) (I L : mm_I) (P : mm_P) (x0 : Option Nat) (x1 : Int) (x2 : Int) : mm_rn (d + 1) 22 [.inr (.inr x0), .inl x1, .inl x2] n I L P = mm_E d 22 0 [.inr (.inr x0), .inl x1, .inl x2] [] [] n I L P := rfl

set_option maxRecDepth 20000 in
set_option maxHeartbeats 8000000 in
theorem kX3_leadOn (d n : Nat) (I L : mm_I) (P : mm_P) :
  (∀ (st : List mm_V) z (l0 : mm_V), mm_E d 23 0 [l0, (.inl z)] [] st n I L P = mm_E d 23 1 [l0, (.inl z)] [] ((.inl z) :: st) n I L P) ∧
  (∀ (lv : List mm_V) (st : List mm_V) a, mm_E d 23 1 lv [] (.inl a :: st) n I L P = if a < 0 then mm_E d 23 28 lv [] st n I L P else mm_E d 23 4 lv [] st n I L P) ∧
  (∀ (st : List mm_V) z (l0 : mm_V), mm_E d 23 4 [l0, (.inl z)] [] st n I L P = mm_E d 23 5 [l0, (.inl z)] [] ((.inl z) :: st) n I L P) ∧
  (∀ (st : List mm_V) z (l1 : mm_V), mm_E d 23 5 [(.inr (.inr z)), l1] [] st n I L P = mm_E d 23 6 [(.inr (.inr z)), l1] [] ((.inr (.inr z)) :: st) n I L P) ∧
  (∀ (lv : List mm_V) (st : List mm_V) a, (mm_ok n a 3) → mm_E d 23 6 lv [] (.inr (.inr (some a)) :: st) n I L P = mm_E d 23 9 lv [] (.inl (I a 1) :: st) n I L P) ∧
  (∀ (lv : List mm_V) (st : List mm_V) a b, mm_E d 23 9 lv [] (.inl b :: .inl a :: st) n I L P = if b ≤ a then mm_E d 23 28 lv [] st n I L P else mm_E d 23 12 lv [] st n I L P) ∧
  (∀ (st : List mm_V) z (l1 : mm_V), mm_E d 23 12 [(.inr (.inr z)), l1] [] st n I L P = mm_E d 23 13 [(.inr (.inr z)), l1] [] ((.inr (.inr z)) :: st) n I L P) ∧
  (∀ (lv : List mm_V) (st : List mm_V) a, (mm_ok n a 3) → mm_E d 23 13 lv [] (.inr (.inr (some a)) :: st) n I L P = mm_E d 23 16 lv [] (.inr (.inr (P a 0)) :: st) n I L P) ∧
  (∀ (st : List mm_V) z (l0 : mm_V), mm_E d 23 16 [l0, (.inl z)] [] st n I L P = mm_E d 23 17 [l0, (.inl z)] [] ((.inl z) :: st) n I L P) ∧
  (∀ (lv : List mm_V) (st : List mm_V), mm_E d 23 17 lv [] st n I L P = mm_E d 23 19 lv [] (.inl 12 :: st) n I L P) ∧
  (∀ (lv : List mm_V) (st : List mm_V), mm_E d 23 19 lv [] st n I L P = mm_E d 23 21 lv [] (.inl 16 :: st) n I L P) ∧
  (∀ (st : List mm_V) z (l1 : mm_V), mm_E d 23 21 [(.inr (.inr z)), l1] [] st n I L P = mm_E d 23 22 [(.inr (.inr z)), l1] [] ((.inr (.inr z)) :: st) n I L P) ∧
  (∀ (lv : List mm_V) (st : List mm_V) a, (mm_ok n a 3) → mm_E d 23 22 lv [] (.inr (.inr (some a)) :: st) n I L P = mm_E d 23 25 lv [] (.inl (I a 1) :: st) n I L P) ∧
  (∀ (lv : List mm_V) (st : List mm_V) a b, mm_E d 23 25 lv [] (.inl b :: .inl a :: st) n I L P = mm_E d 23 26 lv [] (.inl (mm_mul a b) :: st) n I L P) ∧
  (∀ (lv : List mm_V) (st : List mm_V) a b, mm_E d 23 26 lv [] (.inl b :: .inl a :: st) n I L P = mm_E d 23 27 lv [] (.inl (mm_add a b) :: st) n I L P) ∧
  (∀ (lv : List mm_V) (st : List mm_V) a i z, (mm_ix n a 20 i) → mm_E d 23 27 lv [] (.inl z :: .inl i :: .inr (.inr (some a)) :: st) n I L P = mm_E d 23 28 lv [] st n (mm_ui I a i.toNat z) L P) ∧
  (∀ (lv : List mm_V), mm_E d 23 28 lv [] [] n I L P = some (none, n, I, L, P)) :=
  ⟨fun _ _ _ => mq_il (i := 1) rfl rfl,
   fun _ _ _ => mq_if_lt rfl,
   fun _ _ _ => mq_il (i := 1) rfl rfl,
   fun _ _ _ => mq_al (i := 0) rfl rfl,
   fun _ _ _ h0 => mq_getI rfl h0,
   fun _ _ _ _ => mq_ic_ge rfl,
   fun _ _ _ => mq_al (i := 0) rfl rfl,
   fun _ _ _ h0 => mq_getR rfl h0,
   fun _ _ _ => mq_il (i := 1) rfl rfl,
   fun _ _ => mq_push rfl,
   fun _ _ => mq_push rfl,
   fun _ _ _ => mq_al (i := 0) rfl rfl,
   fun _ _ _ h0 => mq_getI rfl h0,
   fun _ _ _ _ => mq_bi rfl,
   fun _ _ _ _ => mq_bi rfl,
   fun _ _ _ _ _ h0 => mq_iast rfl h0,
   fun _ => mq_rv rfl⟩
theorem eX3_leadOn (d n : Nat) (I L : mm_I) (P : mm_P) (x0 : Option Nat) (x1 : Int) : mm_rn (d + 1) 23 [.inr (.inr x0), .inl x1] n I L P = mm_E d 23 0 [.inr (.inr x0), .inl x1] [] [] n I L P := rfl

set_option maxRecDepth 20000 in
set_option maxHeartbeats 8000000 in
theorem kX3_valueFor (d n : Nat) (I L : mm_I) (P : mm_P) :
  (∀ (st : List mm_V) z (l1 : mm_V) (l2 : mm_V) (l3 : mm_V) (l4 : mm_V) (l5 : mm_V) (l6 : mm_V) (l7 : mm_V) (l8 : mm_V) (l9 : mm_V) (l10 : mm_V), mm_E d 24 0 [(.inr (.inr z)), l1, l2, l3, l4, l5, l6, l7, l8, l9, l10] [] st n I L P = mm_E d 24 1 [(.inr (.inr z)), l1, l2, l3, l4, l5, l6, l7, l8, l9, l10] [] ((.inr (.inr z)) :: st) n I L P) ∧
  (∀ (lv : List mm_V) (st : List mm_V) a, (mm_ok n a 3) → mm_E d 24 1 lv [] (.inr (.inr (some a)) :: st) n I L P = mm_E d 24 4 lv [] (.inr (.inr (P a 2)) :: st) n I L P) ∧
  (∀ (lv : List mm_V) (st : List mm_V), mm_E d 24 4 lv [] st n I L P = mm_E d 24 5 lv [] (.inl 0 :: st) n I L P) ∧
  (∀ (st : List mm_V) z (l0 : mm_V) (l2 : mm_V) (l3 : mm_V) (l4 : mm_V) (l5 : mm_V) (l6 : mm_V) (l7 : mm_V) (l8 : mm_V) (l9 : mm_V) (l10 : mm_V), mm_E d 24 5 [l0, (.inl z), l2, l3, l4, l5, l6, l7, l8, l9, l10] [] st n I L P = mm_E d 24 6 [l0, (.inl z), l2, l3, l4, l5, l6, l7, l8, l9, l10] [] ((.inl z) :: st) n I L P) ∧
  (∀ (lv : List mm_V) (st : List mm_V) a i z, (mm_ix n a 20 i) → mm_E d 24 6 lv [] (.inl z :: .inl i :: .inr (.inr (some a)) :: st) n I L P = mm_E d 24 7 lv [] st n (mm_ui I a i.toNat z) L P) ∧
  (∀ (st : List mm_V) z (l1 : mm_V) (l2 : mm_V) (l3 : mm_V) (l4 : mm_V) (l5 : mm_V) (l6 : mm_V) (l7 : mm_V) (l8 : mm_V) (l9 : mm_V) (l10 : mm_V), mm_E d 24 7 [(.inr (.inr z)), l1, l2, l3, l4, l5, l6, l7, l8, l9, l10] [] st n I L P = mm_E d 24 8 [(.inr (.inr z)), l1, l2, l3, l4, l5, l6, l7, l8, l9, l10] [] ((.inr (.inr z)) :: st) n I L P) ∧
  (∀ (lv : List mm_V) (st : List mm_V) a, (mm_ok n a 3) → mm_E d 24 8 lv [] (.inr (.inr (some a)) :: st) n I L P = mm_E d 24 11 lv [] (.inr (.inr (P a 2)) :: st) n I L P) ∧
  (∀ (lv : List mm_V) (st : List mm_V), mm_E d 24 11 lv [] st n I L P = mm_E d 24 12 lv [] (.inl 1 :: st) n I L P) ∧
  (∀ (st : List mm_V) z (l0 : mm_V) (l1 : mm_V) (l3 : mm_V) (l4 : mm_V) (l5 : mm_V) (l6 : mm_V) (l7 : mm_V) (l8 : mm_V) (l9 : mm_V) (l10 : mm_V), mm_E d 24 12 [l0, l1, (.inl z), l3, l4, l5, l6, l7, l8, l9, l10] [] st n I L P = mm_E d 24 13 [l0, l1, (.inl z), l3, l4, l5, l6, l7, l8, l9, l10] [] ((.inl z) :: st) n I L P) ∧
  (∀ (lv : List mm_V) (st : List mm_V) a i z, (mm_ix n a 20 i) → mm_E d 24 13 lv [] (.inl z :: .inl i :: .inr (.inr (some a)) :: st) n I L P = mm_E d 24 14 lv [] st n (mm_ui I a i.toNat z) L P) ∧
  (∀ (st : List mm_V) z (l1 : mm_V) (l2 : mm_V) (l3 : mm_V) (l4 : mm_V) (l5 : mm_V) (l6 : mm_V) (l7 : mm_V) (l8 : mm_V) (l9 : mm_V) (l10 : mm_V), mm_E d 24 14 [(.inr (.inr z)), l1, l2, l3, l4, l5, l6, l7, l8, l9, l10] [] st n I L P = mm_E d 24 15 [(.inr (.inr z)), l1, l2, l3, l4, l5, l6, l7, l8, l9, l10] [] ((.inr (.inr z)) :: st) n I L P) ∧
  (∀ (lv : List mm_V) (st : List mm_V) a, (mm_ok n a 3) → mm_E d 24 15 lv [] (.inr (.inr (some a)) :: st) n I L P = mm_E d 24 18 lv [] (.inr (.inr (P a 2)) :: st) n I L P) ∧
  (∀ (lv : List mm_V) (st : List mm_V), mm_E d 24 18 lv [] st n I L P = mm_E d 24 19 lv [] (.inl 2 :: st) n I L P) ∧
  (∀ (st : List mm_V) z (l0 : mm_V) (l1 : mm_V) (l2 : mm_V) (l4 : mm_V) (l5 : mm_V) (l6 : mm_V) (l7 : mm_V) (l8 : mm_V) (l9 : mm_V) (l10 : mm_V), mm_E d 24 19 [l0, l1, l2, (.inl z), l4, l5, l6, l7, l8, l9, l10] [] st n I L P = mm_E d 24 20 [l0, l1, l2, (.inl z), l4, l5, l6, l7, l8, l9, l10] [] ((.inl z) :: st) n I L P) ∧
  (∀ (lv : List mm_V) (st : List mm_V) a i z, (mm_ix n a 20 i) → mm_E d 24 20 lv [] (.inl z :: .inl i :: .inr (.inr (some a)) :: st) n I L P = mm_E d 24 21 lv [] st n (mm_ui I a i.toNat z) L P) ∧
  (∀ (st : List mm_V) z (l1 : mm_V) (l2 : mm_V) (l3 : mm_V) (l4 : mm_V) (l5 : mm_V) (l6 : mm_V) (l7 : mm_V) (l8 : mm_V) (l9 : mm_V) (l10 : mm_V), mm_E d 24 21 [(.inr (.inr z)), l1, l2, l3, l4, l5, l6, l7, l8, l9, l10] [] st n I L P = mm_E d 24 22 [(.inr (.inr z)), l1, l2, l3, l4, l5, l6, l7, l8, l9, l10] [] ((.inr (.inr z)) :: st) n I L P) ∧
  (∀ (lv : List mm_V) (st : List mm_V) a, (mm_ok n a 3) → mm_E d 24 22 lv [] (.inr (.inr (some a)) :: st) n I L P = mm_E d 24 25 lv [] (.inr (.inr (P a 2)) :: st) n I L P) ∧
  (∀ (lv : List mm_V) (st : List mm_V), mm_E d 24 25 lv [] st n I L P = mm_E d 24 26 lv [] (.inl 3 :: st) n I L P) ∧
  (∀ (st : List mm_V) z (l0 : mm_V) (l1 : mm_V) (l2 : mm_V) (l3 : mm_V) (l5 : mm_V) (l6 : mm_V) (l7 : mm_V) (l8 : mm_V) (l9 : mm_V) (l10 : mm_V), mm_E d 24 26 [l0, l1, l2, l3, (.inl z), l5, l6, l7, l8, l9, l10] [] st n I L P = mm_E d 24 28 [l0, l1, l2, l3, (.inl z), l5, l6, l7, l8, l9, l10] [] ((.inl z) :: st) n I L P) ∧
  (∀ (lv : List mm_V) (st : List mm_V) a i z, (mm_ix n a 20 i) → mm_E d 24 28 lv [] (.inl z :: .inl i :: .inr (.inr (some a)) :: st) n I L P = mm_E d 24 29 lv [] st n (mm_ui I a i.toNat z) L P) ∧
  (∀ (st : List mm_V) z (l1 : mm_V) (l2 : mm_V) (l3 : mm_V) (l4 : mm_V) (l5 : mm_V) (l6 : mm_V) (l7 : mm_V) (l8 : mm_V) (l9 : mm_V) (l10 : mm_V), mm_E d 24 29 [(.inr (.inr z)), l1, l2, l3, l4, l5, l6, l7, l8, l9, l10] [] st n I L P = mm_E d 24 30 [(.inr (.inr z)), l1, l2, l3, l4, l5, l6, l7, l8, l9, l10] [] ((.inr (.inr z)) :: st) n I L P) ∧
  (∀ (lv : List mm_V) (st : List mm_V) a, (mm_ok n a 3) → mm_E d 24 30 lv [] (.inr (.inr (some a)) :: st) n I L P = mm_E d 24 33 lv [] (.inr (.inr (P a 2)) :: st) n I L P) ∧
  (∀ (lv : List mm_V) (st : List mm_V), mm_E d 24 33 lv [] st n I L P = mm_E d 24 34 lv [] (.inl 4 :: st) n I L P) ∧
  (∀ (st : List mm_V) z (l0 : mm_V) (l1 : mm_V) (l2 : mm_V) (l3 : mm_V) (l4 : mm_V) (l6 : mm_V) (l7 : mm_V) (l8 : mm_V) (l9 : mm_V) (l10 : mm_V), mm_E d 24 34 [l0, l1, l2, l3, l4, (.inl z), l6, l7, l8, l9, l10] [] st n I L P = mm_E d 24 36 [l0, l1, l2, l3, l4, (.inl z), l6, l7, l8, l9, l10] [] ((.inl z) :: st) n I L P) ∧
  (∀ (lv : List mm_V) (st : List mm_V) a i z, (mm_ix n a 20 i) → mm_E d 24 36 lv [] (.inl z :: .inl i :: .inr (.inr (some a)) :: st) n I L P = mm_E d 24 37 lv [] st n (mm_ui I a i.toNat z) L P) ∧
  (∀ (st : List mm_V) z (l1 : mm_V) (l2 : mm_V) (l3 : mm_V) (l4 : mm_V) (l5 : mm_V) (l6 : mm_V) (l7 : mm_V) (l8 : mm_V) (l9 : mm_V) (l10 : mm_V), mm_E d 24 37 [(.inr (.inr z)), l1, l2, l3, l4, l5, l6, l7, l8, l9, l10] [] st n I L P = mm_E d 24 38 [(.inr (.inr z)), l1, l2, l3, l4, l5, l6, l7, l8, l9, l10] [] ((.inr (.inr z)) :: st) n I L P) ∧
  (∀ (lv : List mm_V) (st : List mm_V) a, (mm_ok n a 3) → mm_E d 24 38 lv [] (.inr (.inr (some a)) :: st) n I L P = mm_E d 24 41 lv [] (.inr (.inr (P a 2)) :: st) n I L P) ∧
  (∀ (lv : List mm_V) (st : List mm_V), mm_E d 24 41 lv [] st n I L P = mm_E d 24 42 lv [] (.inl 5 :: st) n I L P) ∧
  (∀ (st : List mm_V) z (l0 : mm_V) (l1 : mm_V) (l2 : mm_V) (l3 : mm_V) (l4 : mm_V) (l5 : mm_V) (l7 : mm_V) (l8 : mm_V) (l9 : mm_V) (l10 : mm_V), mm_E d 24 42 [l0, l1, l2, l3, l4, l5, (.inl z), l7, l8, l9, l10] [] st n I L P = mm_E d 24 44 [l0, l1, l2, l3, l4, l5, (.inl z), l7, l8, l9, l10] [] ((.inl z) :: st) n I L P) ∧
  (∀ (lv : List mm_V) (st : List mm_V) a i z, (mm_ix n a 20 i) → mm_E d 24 44 lv [] (.inl z :: .inl i :: .inr (.inr (some a)) :: st) n I L P = mm_E d 24 45 lv [] st n (mm_ui I a i.toNat z) L P) ∧
  (∀ (st : List mm_V) z (l1 : mm_V) (l2 : mm_V) (l3 : mm_V) (l4 : mm_V) (l5 : mm_V) (l6 : mm_V) (l7 : mm_V) (l8 : mm_V) (l9 : mm_V) (l10 : mm_V), mm_E d 24 45 [(.inr (.inr z)), l1, l2, l3, l4, l5, l6, l7, l8, l9, l10] [] st n I L P = mm_E d 24 46 [(.inr (.inr z)), l1, l2, l3, l4, l5, l6, l7, l8, l9, l10] [] ((.inr (.inr z)) :: st) n I L P) ∧
  (∀ (lv : List mm_V) (st : List mm_V), mm_E d 24 46 lv [] st n I L P = mm_E d 24 47 lv [] (.inl 0 :: st) n I L P) ∧
  (∀ (lv : List mm_V) (st : List mm_V) a z, (mm_ok n a 3) → mm_E d 24 47 lv [] (.inl z :: .inr (.inr (some a)) :: st) n I L P = mm_E d 24 50 lv [] st n (mm_ui I a 4 z) L P) ∧
  (∀ (lv : List mm_V) (st : List mm_V), mm_E d 24 50 lv [] st n I L P = mm_E d 24 51 lv [] (.inl 0 :: st) n I L P) ∧
  (∀ (st : List mm_V) z (l0 : mm_V) (l1 : mm_V) (l2 : mm_V) (l3 : mm_V) (l4 : mm_V) (l5 : mm_V) (l6 : mm_V) (l7 : mm_V) (l8 : mm_V) (l9 : mm_V) (l10 : mm_V), mm_E d 24 51 [l0, l1, l2, l3, l4, l5, l6, l7, l8, l9, l10] [] ((.inl z) :: st) n I L P = mm_E d 24 53 [l0, l1, l2, l3, l4, l5, l6, (.inl z), l8, l9, l10] [] st n I L P) ∧
  (∀ (st : List mm_V) z (l1 : mm_V) (l2 : mm_V) (l3 : mm_V) (l4 : mm_V) (l5 : mm_V) (l6 : mm_V) (l7 : mm_V) (l8 : mm_V) (l9 : mm_V) (l10 : mm_V), mm_E d 24 55 [(.inr (.inr z)), l1, l2, l3, l4, l5, l6, l7, l8, l9, l10] [] st n I L P = mm_E d 24 56 [(.inr (.inr z)), l1, l2, l3, l4, l5, l6, l7, l8, l9, l10] [] ((.inr (.inr z)) :: st) n I L P) ∧
  (∀ (lv : List mm_V) (st : List mm_V) a, (mm_ok n a 3) → mm_E d 24 56 lv [] (.inr (.inr (some a)) :: st) n I L P = mm_E d 24 59 lv [] (.inl (I a 1) :: st) n I L P) ∧
  (∀ (lv : List mm_V) (st : List mm_V) a b, mm_E d 24 59 lv [] (.inl b :: .inl a :: st) n I L P = if b ≤ a then mm_E d 24 228 lv [] st n I L P else mm_E d 24 62 lv [] st n I L P) ∧
  (∀ (st : List mm_V) z (l1 : mm_V) (l2 : mm_V) (l3 : mm_V) (l4 : mm_V) (l5 : mm_V) (l6 : mm_V) (l7 : mm_V) (l8 : mm_V) (l9 : mm_V) (l10 : mm_V), mm_E d 24 62 [(.inr (.inr z)), l1, l2, l3, l4, l5, l6, l7, l8, l9, l10] [] st n I L P = mm_E d 24 63 [(.inr (.inr z)), l1, l2, l3, l4, l5, l6, l7, l8, l9, l10] [] ((.inr (.inr z)) :: st) n I L P) ∧
  (∀ (lv : List mm_V) (st : List mm_V) a, (mm_ok n a 3) → mm_E d 24 63 lv [] (.inr (.inr (some a)) :: st) n I L P = mm_E d 24 66 lv [] (.inr (.inr (P a 0)) :: st) n I L P) ∧
  (∀ (st : List mm_V) z (l0 : mm_V) (l1 : mm_V) (l2 : mm_V) (l3 : mm_V) (l4 : mm_V) (l5 : mm_V) (l6 : mm_V) (l8 : mm_V) (l9 : mm_V) (l10 : mm_V), mm_E d 24 66 [l0, l1, l2, l3, l4, l5, l6, (.inl z), l8, l9, l10] [] st n I L P = mm_E d 24 68 [l0, l1, l2, l3, l4, l5, l6, (.inl z), l8, l9, l10] [] ((.inl z) :: st) n I L P) ∧
  (∀ (lv : List mm_V) (st : List mm_V) a i, (mm_ix n a 20 i) → mm_E d 24 68 lv [] (.inl i :: .inr (.inr (some a)) :: st) n I L P = mm_E d 24 69 lv [] (.inl (I a i.toNat) :: st) n I L P) ∧
  (∀ (lv : List mm_V) (st : List mm_V), mm_E d 24 69 lv [] st n I L P = mm_E d 24 71 lv [] (.inl 16 :: st) n I L P) ∧
  (∀ (lv : List mm_V) (st : List mm_V) a b, (¬ b = 0) → mm_E d 24 71 lv [] (.inl b :: .inl a :: st) n I L P = mm_E d 24 72 lv [] (.inl (mm_w (Int.tmod a b)) :: st) n I L P) ∧
  (∀ (st : List mm_V) z (l0 : mm_V) (l1 : mm_V) (l2 : mm_V) (l3 : mm_V) (l4 : mm_V) (l5 : mm_V) (l6 : mm_V) (l7 : mm_V) (l8 : mm_V) (l9 : mm_V) (l10 : mm_V), mm_E d 24 72 [l0, l1, l2, l3, l4, l5, l6, l7, l8, l9, l10] [] ((.inl z) :: st) n I L P = mm_E d 24 74 [l0, l1, l2, l3, l4, l5, l6, l7, (.inl z), l9, l10] [] st n I L P) ∧
  (∀ (st : List mm_V) z (l1 : mm_V) (l2 : mm_V) (l3 : mm_V) (l4 : mm_V) (l5 : mm_V) (l6 : mm_V) (l7 : mm_V) (l8 : mm_V) (l9 : mm_V) (l10 : mm_V), mm_E d 24 74 [(.inr (.inr z)), l1, l2, l3, l4, l5, l6, l7, l8, l9, l10] [] st n I L P = mm_E d 24 75 [(.inr (.inr z)), l1, l2, l3, l4, l5, l6, l7, l8, l9, l10] [] ((.inr (.inr z)) :: st) n I L P) ∧
  (∀ (lv : List mm_V) (st : List mm_V) a, (mm_ok n a 3) → mm_E d 24 75 lv [] (.inr (.inr (some a)) :: st) n I L P = mm_E d 24 78 lv [] (.inr (.inr (P a 0)) :: st) n I L P) ∧
  (∀ (st : List mm_V) z (l0 : mm_V) (l1 : mm_V) (l2 : mm_V) (l3 : mm_V) (l4 : mm_V) (l5 : mm_V) (l6 : mm_V) (l8 : mm_V) (l9 : mm_V) (l10 : mm_V), mm_E d 24 78 [l0, l1, l2, l3, l4, l5, l6, (.inl z), l8, l9, l10] [] st n I L P = mm_E d 24 80 [l0, l1, l2, l3, l4, l5, l6, (.inl z), l8, l9, l10] [] ((.inl z) :: st) n I L P) ∧
  (∀ (lv : List mm_V) (st : List mm_V) a i, (mm_ix n a 20 i) → mm_E d 24 80 lv [] (.inl i :: .inr (.inr (some a)) :: st) n I L P = mm_E d 24 81 lv [] (.inl (I a i.toNat) :: st) n I L P) ∧
  (∀ (lv : List mm_V) (st : List mm_V), mm_E d 24 81 lv [] st n I L P = mm_E d 24 83 lv [] (.inl 16 :: st) n I L P) ∧
  (∀ (lv : List mm_V) (st : List mm_V) a b, (¬ b = 0) → mm_E d 24 83 lv [] (.inl b :: .inl a :: st) n I L P = mm_E d 24 84 lv [] (.inl (mm_w (Int.tdiv a b)) :: st) n I L P) ∧
  (∀ (st : List mm_V) z (l0 : mm_V) (l1 : mm_V) (l2 : mm_V) (l3 : mm_V) (l4 : mm_V) (l5 : mm_V) (l6 : mm_V) (l7 : mm_V) (l8 : mm_V) (l9 : mm_V) (l10 : mm_V), mm_E d 24 84 [l0, l1, l2, l3, l4, l5, l6, l7, l8, l9, l10] [] ((.inl z) :: st) n I L P = mm_E d 24 86 [l0, l1, l2, l3, l4, l5, l6, l7, l8, (.inl z), l10] [] st n I L P) ∧
  (∀ (st : List mm_V) z (l0 : mm_V) (l1 : mm_V) (l2 : mm_V) (l3 : mm_V) (l4 : mm_V) (l5 : mm_V) (l6 : mm_V) (l7 : mm_V) (l9 : mm_V) (l10 : mm_V), mm_E d 24 86 [l0, l1, l2, l3, l4, l5, l6, l7, (.inl z), l9, l10] [] st n I L P = mm_E d 24 88 [l0, l1, l2, l3, l4, l5, l6, l7, (.inl z), l9, l10] [] ((.inl z) :: st) n I L P) ∧
  (∀ (lv : List mm_V) (st : List mm_V) a, mm_E d 24 88 lv [] (.inl a :: st) n I L P = if a = 0 then mm_E d 24 91 lv [] st n I L P else mm_E d 24 100 lv [] st n I L P) ∧
  (∀ (st : List mm_V) z (l1 : mm_V) (l2 : mm_V) (l3 : mm_V) (l4 : mm_V) (l5 : mm_V) (l6 : mm_V) (l7 : mm_V) (l8 : mm_V) (l9 : mm_V) (l10 : mm_V), mm_E d 24 91 [(.inr (.inr z)), l1, l2, l3, l4, l5, l6, l7, l8, l9, l10] [] st n I L P = mm_E d 24 92 [(.inr (.inr z)), l1, l2, l3, l4, l5, l6, l7, l8, l9, l10] [] ((.inr (.inr z)) :: st) n I L P) ∧
  (∀ (st : List mm_V) z (l0 : mm_V) (l1 : mm_V) (l2 : mm_V) (l3 : mm_V) (l4 : mm_V) (l5 : mm_V) (l6 : mm_V) (l7 : mm_V) (l8 : mm_V) (l10 : mm_V), mm_E d 24 92 [l0, l1, l2, l3, l4, l5, l6, l7, l8, (.inl z), l10] [] st n I L P = mm_E d 24 94 [l0, l1, l2, l3, l4, l5, l6, l7, l8, (.inl z), l10] [] ((.inl z) :: st) n I L P) ∧
  (∀ (lv : List mm_V) a x0, (mm_ok n a 3) → mm_E d 24 94 lv [] (.inl x0 :: .inr (.inr (some a)) :: []) n I L P = mm_kv d 24 97 lv [] [] n (mm_rn d 25 [.inr (.inr (some a)), .inl x0] n I L P)) ∧
  (∀ (lv : List mm_V) (st : List mm_V), mm_E d 24 97 lv [] st n I L P = mm_E d 24 222 lv [] st n I L P) ∧
  (∀ (st : List mm_V) z (l0 : mm_V) (l1 : mm_V) (l2 : mm_V) (l3 : mm_V) (l4 : mm_V) (l5 : mm_V) (l6 : mm_V) (l7 : mm_V) (l9 : mm_V) (l10 : mm_V), mm_E d 24 100 [l0, l1, l2, l3, l4, l5, l6, l7, (.inl z), l9, l10] [] st n I L P = mm_E d 24 102 [l0, l1, l2, l3, l4, l5, l6, l7, (.inl z), l9, l10] [] ((.inl z) :: st) n I L P) ∧
  (∀ (lv : List mm_V) (st : List mm_V), mm_E d 24 102 lv [] st n I L P = mm_E d 24 103 lv [] (.inl 1 :: st) n I L P) ∧
  (∀ (lv : List mm_V) (st : List mm_V) a b, mm_E d 24 103 lv [] (.inl b :: .inl a :: st) n I L P = if a = b then mm_E d 24 106 lv [] st n I L P else mm_E d 24 134 lv [] st n I L P) ∧
  (∀ (st : List mm_V) z (l1 : mm_V) (l2 : mm_V) (l3 : mm_V) (l4 : mm_V) (l5 : mm_V) (l6 : mm_V) (l7 : mm_V) (l8 : mm_V) (l9 : mm_V) (l10 : mm_V), mm_E d 24 106 [(.inr (.inr z)), l1, l2, l3, l4, l5, l6, l7, l8, l9, l10] [] st n I L P = mm_E d 24 107 [(.inr (.inr z)), l1, l2, l3, l4, l5, l6, l7, l8, l9, l10] [] ((.inr (.inr z)) :: st) n I L P) ∧
  (∀ (st : List mm_V) z (l0 : mm_V) (l1 : mm_V) (l2 : mm_V) (l3 : mm_V) (l4 : mm_V) (l5 : mm_V) (l6 : mm_V) (l7 : mm_V) (l8 : mm_V) (l10 : mm_V), mm_E d 24 107 [l0, l1, l2, l3, l4, l5, l6, l7, l8, (.inl z), l10] [] st n I L P = mm_E d 24 109 [l0, l1, l2, l3, l4, l5, l6, l7, l8, (.inl z), l10] [] ((.inl z) :: st) n I L P) ∧
  (∀ (st : List mm_V) z (l1 : mm_V) (l2 : mm_V) (l3 : mm_V) (l4 : mm_V) (l5 : mm_V) (l6 : mm_V) (l7 : mm_V) (l8 : mm_V) (l9 : mm_V) (l10 : mm_V), mm_E d 24 109 [(.inr (.inr z)), l1, l2, l3, l4, l5, l6, l7, l8, l9, l10] [] st n I L P = mm_E d 24 110 [(.inr (.inr z)), l1, l2, l3, l4, l5, l6, l7, l8, l9, l10] [] ((.inr (.inr z)) :: st) n I L P) ∧
  (∀ (lv : List mm_V) (st : List mm_V) a, (mm_ok n a 3) → mm_E d 24 110 lv [] (.inr (.inr (some a)) :: st) n I L P = mm_E d 24 113 lv [] (.inr (.inr (P a 2)) :: st) n I L P) ∧
  (∀ (lv : List mm_V) (st : List mm_V) a, (mm_ok n a 20) → mm_E d 24 113 lv [] (.inr (.inr (some a)) :: st) n I L P = mm_E d 24 114 lv [] (.inl ((mm_ty a).2 : Int) :: st) n I L P) ∧
  (∀ (lv : List mm_V) (st : List mm_V) a b, mm_E d 24 114 lv [] (.inl b :: .inl a :: st) n I L P = if b ≤ a then mm_E d 24 127 lv [] st n I L P else mm_E d 24 117 lv [] st n I L P) ∧
  (∀ (st : List mm_V) z (l1 : mm_V) (l2 : mm_V) (l3 : mm_V) (l4 : mm_V) (l5 : mm_V) (l6 : mm_V) (l7 : mm_V) (l8 : mm_V) (l9 : mm_V) (l10 : mm_V), mm_E d 24 117 [(.inr (.inr z)), l1, l2, l3, l4, l5, l6, l7, l8, l9, l10] [] st n I L P = mm_E d 24 118 [(.inr (.inr z)), l1, l2, l3, l4, l5, l6, l7, l8, l9, l10] [] ((.inr (.inr z)) :: st) n I L P) ∧
  (∀ (lv : List mm_V) (st : List mm_V) a, (mm_ok n a 3) → mm_E d 24 118 lv [] (.inr (.inr (some a)) :: st) n I L P = mm_E d 24 121 lv [] (.inr (.inr (P a 2)) :: st) n I L P) ∧
  (∀ (st : List mm_V) z (l0 : mm_V) (l1 : mm_V) (l2 : mm_V) (l3 : mm_V) (l4 : mm_V) (l5 : mm_V) (l6 : mm_V) (l7 : mm_V) (l8 : mm_V) (l10 : mm_V), mm_E d 24 121 [l0, l1, l2, l3, l4, l5, l6, l7, l8, (.inl z), l10] [] st n I L P = mm_E d 24 123 [l0, l1, l2, l3, l4, l5, l6, l7, l8, (.inl z), l10] [] ((.inl z) :: st) n I L P) ∧
  (∀ (lv : List mm_V) (st : List mm_V) a i, (mm_ix n a 20 i) → mm_E d 24 123 lv [] (.inl i :: .inr (.inr (some a)) :: st) n I L P = mm_E d 24 124 lv [] (.inl (I a i.toNat) :: st) n I L P) ∧
  (∀ (lv : List mm_V) (st : List mm_V), mm_E d 24 124 lv [] st n I L P = mm_E d 24 128 lv [] st n I L P) ∧
  (∀ (lv : List mm_V) (st : List mm_V), mm_E d 24 127 lv [] st n I L P = mm_E d 24 128 lv [] (.inl 0 :: st) n I L P) ∧
  (∀ (lv : List mm_V) a x0, (mm_ok n a 3) → mm_E d 24 128 lv [] (.inl x0 :: .inr (.inr (some a)) :: []) n I L P = mm_kv d 24 131 lv [] [] n (mm_rn d 25 [.inr (.inr (some a)), .inl x0] n I L P)) ∧
  (∀ (lv : List mm_V) (st : List mm_V), mm_E d 24 131 lv [] st n I L P = mm_E d 24 222 lv [] st n I L P) ∧
  (∀ (st : List mm_V) z (l0 : mm_V) (l1 : mm_V) (l2 : mm_V) (l3 : mm_V) (l4 : mm_V) (l5 : mm_V) (l6 : mm_V) (l7 : mm_V) (l9 : mm_V) (l10 : mm_V), mm_E d 24 134 [l0, l1, l2, l3, l4, l5, l6, l7, (.inl z), l9, l10] [] st n I L P = mm_E d 24 136 [l0, l1, l2, l3, l4, l5, l6, l7, (.inl z), l9, l10] [] ((.inl z) :: st) n I L P) ∧
  (∀ (lv : List mm_V) (st : List mm_V), mm_E d 24 136 lv [] st n I L P = mm_E d 24 138 lv [] (.inl 13 :: st) n I L P) ∧
  (∀ (lv : List mm_V) (st : List mm_V) a b, mm_E d 24 138 lv [] (.inl b :: .inl a :: st) n I L P = if a = b then mm_E d 24 141 lv [] st n I L P else mm_E d 24 146 lv [] st n I L P) ∧
  (∀ (st : List mm_V) z (l1 : mm_V) (l2 : mm_V) (l3 : mm_V) (l4 : mm_V) (l5 : mm_V) (l6 : mm_V) (l7 : mm_V) (l8 : mm_V) (l9 : mm_V) (l10 : mm_V), mm_E d 24 141 [(.inr (.inr z)), l1, l2, l3, l4, l5, l6, l7, l8, l9, l10] [] st n I L P = mm_E d 24 142 [(.inr (.inr z)), l1, l2, l3, l4, l5, l6, l7, l8, l9, l10] [] ((.inr (.inr z)) :: st) n I L P) ∧
  (∀ (lv : List mm_V) a, (mm_ok n a 3) → mm_E d 24 142 lv [] (.inr (.inr (some a)) :: []) n I L P = mm_kr d 24 145 lv [] [] n (mm_rn d 26 [.inr (.inr (some a))] n I L P)) ∧
  (∀ (lv : List mm_V) z, mm_E d 24 145 lv [] [.inl z] n I L P = some (some (.inl z), n, I, L, P)) ∧
  (∀ (st : List mm_V) z (l0 : mm_V) (l1 : mm_V) (l2 : mm_V) (l3 : mm_V) (l4 : mm_V) (l5 : mm_V) (l6 : mm_V) (l7 : mm_V) (l9 : mm_V) (l10 : mm_V), mm_E d 24 146 [l0, l1, l2, l3, l4, l5, l6, l7, (.inl z), l9, l10] [] st n I L P = mm_E d 24 148 [l0, l1, l2, l3, l4, l5, l6, l7, (.inl z), l9, l10] [] ((.inl z) :: st) n I L P) ∧
  (∀ (lv : List mm_V) (st : List mm_V), mm_E d 24 148 lv [] st n I L P = mm_E d 24 150 lv [] (.inl 12 :: st) n I L P) ∧
  (∀ (lv : List mm_V) (st : List mm_V) a b, mm_E d 24 150 lv [] (.inl b :: .inl a :: st) n I L P = if a = b then mm_E d 24 153 lv [] st n I L P else mm_E d 24 181 lv [] st n I L P) ∧
  (∀ (st : List mm_V) z (l1 : mm_V) (l2 : mm_V) (l3 : mm_V) (l4 : mm_V) (l5 : mm_V) (l6 : mm_V) (l7 : mm_V) (l8 : mm_V) (l9 : mm_V) (l10 : mm_V), mm_E d 24 153 [(.inr (.inr z)), l1, l2, l3, l4, l5, l6, l7, l8, l9, l10] [] st n I L P = mm_E d 24 154 [(.inr (.inr z)), l1, l2, l3, l4, l5, l6, l7, l8, l9, l10] [] ((.inr (.inr z)) :: st) n I L P) ∧
  (∀ (lv : List mm_V) a, (mm_ok n a 3) → mm_E d 24 154 lv [] (.inr (.inr (some a)) :: []) n I L P = mm_kr d 24 157 lv [] [] n (mm_rn d 26 [.inr (.inr (some a))] n I L P)) ∧
  (∀ (lv : List mm_V) (st : List mm_V) a, mm_E d 24 157 lv [] (.inl a :: st) n I L P = if a = 0 then mm_E d 24 160 lv [] st n I L P else mm_E d 24 174 lv [] st n I L P) ∧
  (∀ (st : List mm_V) z (l0 : mm_V) (l1 : mm_V) (l2 : mm_V) (l3 : mm_V) (l4 : mm_V) (l5 : mm_V) (l6 : mm_V) (l7 : mm_V) (l8 : mm_V) (l10 : mm_V), mm_E d 24 160 [l0, l1, l2, l3, l4, l5, l6, l7, l8, (.inl z), l10] [] st n I L P = mm_E d 24 162 [l0, l1, l2, l3, l4, l5, l6, l7, l8, (.inl z), l10] [] ((.inl z) :: st) n I L P) ∧
  (∀ (st : List mm_V) z (l0 : mm_V) (l1 : mm_V) (l2 : mm_V) (l3 : mm_V) (l4 : mm_V) (l5 : mm_V) (l6 : mm_V) (l8 : mm_V) (l9 : mm_V) (l10 : mm_V), mm_E d 24 162 [l0, l1, l2, l3, l4, l5, l6, (.inl z), l8, l9, l10] [] st n I L P = mm_E d 24 164 [l0, l1, l2, l3, l4, l5, l6, (.inl z), l8, l9, l10] [] ((.inl z) :: st) n I L P) ∧
  (∀ (lv : List mm_V) (st : List mm_V) a b, mm_E d 24 164 lv [] (.inl b :: .inl a :: st) n I L P = if a ≤ b then mm_E d 24 174 lv [] st n I L P else mm_E d 24 167 lv [] st n I L P) ∧
  (∀ (st : List mm_V) z (l0 : mm_V) (l1 : mm_V) (l2 : mm_V) (l3 : mm_V) (l4 : mm_V) (l5 : mm_V) (l6 : mm_V) (l7 : mm_V) (l8 : mm_V) (l10 : mm_V), mm_E d 24 167 [l0, l1, l2, l3, l4, l5, l6, l7, l8, (.inl z), l10] [] st n I L P = mm_E d 24 169 [l0, l1, l2, l3, l4, l5, l6, l7, l8, (.inl z), l10] [] ((.inl z) :: st) n I L P) ∧
  (∀ (lv : List mm_V) (st : List mm_V), mm_E d 24 169 lv [] st n I L P = mm_E d 24 170 lv [] (.inl 1 :: st) n I L P) ∧
  (∀ (lv : List mm_V) (st : List mm_V) a b, mm_E d 24 170 lv [] (.inl b :: .inl a :: st) n I L P = mm_E d 24 171 lv [] (.inl (mm_sub a b) :: st) n I L P) ∧
  (∀ (lv : List mm_V) (st : List mm_V), mm_E d 24 171 lv [] st n I L P = mm_E d 24 176 lv [] st n I L P) ∧
  (∀ (st : List mm_V) z (l0 : mm_V) (l1 : mm_V) (l2 : mm_V) (l3 : mm_V) (l4 : mm_V) (l5 : mm_V) (l6 : mm_V) (l8 : mm_V) (l9 : mm_V) (l10 : mm_V), mm_E d 24 174 [l0, l1, l2, l3, l4, l5, l6, (.inl z), l8, l9, l10] [] st n I L P = mm_E d 24 176 [l0, l1, l2, l3, l4, l5, l6, (.inl z), l8, l9, l10] [] ((.inl z) :: st) n I L P) ∧
  (∀ (st : List mm_V) z (l0 : mm_V) (l1 : mm_V) (l2 : mm_V) (l3 : mm_V) (l4 : mm_V) (l5 : mm_V) (l6 : mm_V) (l7 : mm_V) (l8 : mm_V) (l9 : mm_V) (l10 : mm_V), mm_E d 24 176 [l0, l1, l2, l3, l4, l5, l6, l7, l8, l9, l10] [] ((.inl z) :: st) n I L P = mm_E d 24 178 [l0, l1, l2, l3, l4, l5, l6, (.inl z), l8, l9, l10] [] st n I L P) ∧
  (∀ (lv : List mm_V) (st : List mm_V), mm_E d 24 178 lv [] st n I L P = mm_E d 24 222 lv [] st n I L P) ∧
  (∀ (st : List mm_V) z (l0 : mm_V) (l1 : mm_V) (l2 : mm_V) (l3 : mm_V) (l4 : mm_V) (l5 : mm_V) (l6 : mm_V) (l7 : mm_V) (l9 : mm_V) (l10 : mm_V), mm_E d 24 181 [l0, l1, l2, l3, l4, l5, l6, l7, (.inl z), l9, l10] [] st n I L P = mm_E d 24 183 [l0, l1, l2, l3, l4, l5, l6, l7, (.inl z), l9, l10] [] ((.inl z) :: st) n I L P) ∧
  (∀ (lv : List mm_V) (st : List mm_V), mm_E d 24 183 lv [] st n I L P = mm_E d 24 185 lv [] (.inl 11 :: st) n I L P) ∧
  (∀ (lv : List mm_V) (st : List mm_V) a b, mm_E d 24 185 lv [] (.inl b :: .inl a :: st) n I L P = if a = b then mm_E d 24 188 lv [] st n I L P else mm_E d 24 201 lv [] st n I L P) ∧
  (∀ (st : List mm_V) z (l1 : mm_V) (l2 : mm_V) (l3 : mm_V) (l4 : mm_V) (l5 : mm_V) (l6 : mm_V) (l7 : mm_V) (l8 : mm_V) (l9 : mm_V) (l10 : mm_V), mm_E d 24 188 [(.inr (.inr z)), l1, l2, l3, l4, l5, l6, l7, l8, l9, l10] [] st n I L P = mm_E d 24 189 [(.inr (.inr z)), l1, l2, l3, l4, l5, l6, l7, l8, l9, l10] [] ((.inr (.inr z)) :: st) n I L P) ∧
  (∀ (lv : List mm_V) (st : List mm_V), mm_E d 24 189 lv [] st n I L P = mm_E d 24 190 lv [] (.inl 1 :: st) n I L P) ∧
  (∀ (st : List mm_V) z (l1 : mm_V) (l2 : mm_V) (l3 : mm_V) (l4 : mm_V) (l5 : mm_V) (l6 : mm_V) (l7 : mm_V) (l8 : mm_V) (l9 : mm_V) (l10 : mm_V), mm_E d 24 190 [(.inr (.inr z)), l1, l2, l3, l4, l5, l6, l7, l8, l9, l10] [] st n I L P = mm_E d 24 191 [(.inr (.inr z)), l1, l2, l3, l4, l5, l6, l7, l8, l9, l10] [] ((.inr (.inr z)) :: st) n I L P) ∧
  (∀ (lv : List mm_V) a w0 w1, (mm_ok n a 3) → mm_E d 24 191 lv [] (.inr (.inr (some a)) :: [.inl w0, .inr (.inr w1)]) n I L P = mm_kr d 24 194 lv [] [.inl w0, .inr (.inr w1)] n (mm_rn d 26 [.inr (.inr (some a))] n I L P)) ∧
  (∀ (lv : List mm_V) (st : List mm_V) a b, mm_E d 24 194 lv [] (.inl b :: .inl a :: st) n I L P = mm_E d 24 195 lv [] (.inl (mm_sub a b) :: st) n I L P) ∧
  (∀ (lv : List mm_V) a x0, (mm_ok n a 3) → mm_E d 24 195 lv [] (.inl x0 :: .inr (.inr (some a)) :: []) n I L P = mm_kv d 24 198 lv [] [] n (mm_rn d 25 [.inr (.inr (some a)), .inl x0] n I L P)) ∧
  (∀ (lv : List mm_V) (st : List mm_V), mm_E d 24 198 lv [] st n I L P = mm_E d 24 222 lv [] st n I L P) ∧
  (∀ (st : List mm_V) z (l1 : mm_V) (l2 : mm_V) (l3 : mm_V) (l4 : mm_V) (l5 : mm_V) (l6 : mm_V) (l7 : mm_V) (l8 : mm_V) (l9 : mm_V) (l10 : mm_V), mm_E d 24 201 [(.inr (.inr z)), l1, l2, l3, l4, l5, l6, l7, l8, l9, l10] [] st n I L P = mm_E d 24 202 [(.inr (.inr z)), l1, l2, l3, l4, l5, l6, l7, l8, l9, l10] [] ((.inr (.inr z)) :: st) n I L P) ∧
  (∀ (lv : List mm_V) a, (mm_ok n a 3) → mm_E d 24 202 lv [] (.inr (.inr (some a)) :: []) n I L P = mm_kr d 24 205 lv [] [] n (mm_rn d 26 [.inr (.inr (some a))] n I L P)) ∧
  (∀ (st : List mm_V) z (l0 : mm_V) (l1 : mm_V) (l2 : mm_V) (l3 : mm_V) (l4 : mm_V) (l5 : mm_V) (l6 : mm_V) (l7 : mm_V) (l8 : mm_V) (l9 : mm_V) (l10 : mm_V), mm_E d 24 205 [l0, l1, l2, l3, l4, l5, l6, l7, l8, l9, l10] [] ((.inl z) :: st) n I L P = mm_E d 24 207 [l0, l1, l2, l3, l4, l5, l6, l7, l8, l9, (.inl z)] [] st n I L P) ∧
  (∀ (st : List mm_V) z (l1 : mm_V) (l2 : mm_V) (l3 : mm_V) (l4 : mm_V) (l5 : mm_V) (l6 : mm_V) (l7 : mm_V) (l8 : mm_V) (l9 : mm_V) (l10 : mm_V), mm_E d 24 207 [(.inr (.inr z)), l1, l2, l3, l4, l5, l6, l7, l8, l9, l10] [] st n I L P = mm_E d 24 208 [(.inr (.inr z)), l1, l2, l3, l4, l5, l6, l7, l8, l9, l10] [] ((.inr (.inr z)) :: st) n I L P) ∧
  (∀ (st : List mm_V) z (l0 : mm_V) (l1 : mm_V) (l2 : mm_V) (l3 : mm_V) (l4 : mm_V) (l5 : mm_V) (l6 : mm_V) (l7 : mm_V) (l9 : mm_V) (l10 : mm_V), mm_E d 24 208 [l0, l1, l2, l3, l4, l5, l6, l7, (.inl z), l9, l10] [] st n I L P = mm_E d 24 210 [l0, l1, l2, l3, l4, l5, l6, l7, (.inl z), l9, l10] [] ((.inl z) :: st) n I L P) ∧
  (∀ (st : List mm_V) z (l1 : mm_V) (l2 : mm_V) (l3 : mm_V) (l4 : mm_V) (l5 : mm_V) (l6 : mm_V) (l7 : mm_V) (l8 : mm_V) (l9 : mm_V) (l10 : mm_V), mm_E d 24 210 [(.inr (.inr z)), l1, l2, l3, l4, l5, l6, l7, l8, l9, l10] [] st n I L P = mm_E d 24 211 [(.inr (.inr z)), l1, l2, l3, l4, l5, l6, l7, l8, l9, l10] [] ((.inr (.inr z)) :: st) n I L P) ∧
  (∀ (lv : List mm_V) a w0 w1, (mm_ok n a 3) → mm_E d 24 211 lv [] (.inr (.inr (some a)) :: [.inl w0, .inr (.inr w1)]) n I L P = mm_kr d 24 214 lv [] [.inl w0, .inr (.inr w1)] n (mm_rn d 26 [.inr (.inr (some a))] n I L P)) ∧
  (∀ (st : List mm_V) z (l0 : mm_V) (l1 : mm_V) (l2 : mm_V) (l3 : mm_V) (l4 : mm_V) (l5 : mm_V) (l6 : mm_V) (l7 : mm_V) (l8 : mm_V) (l9 : mm_V), mm_E d 24 214 [l0, l1, l2, l3, l4, l5, l6, l7, l8, l9, (.inl z)] [] st n I L P = mm_E d 24 216 [l0, l1, l2, l3, l4, l5, l6, l7, l8, l9, (.inl z)] [] ((.inl z) :: st) n I L P) ∧
  (∀ (lv : List mm_V) x0 x1 x2 w0, mm_E d 24 216 lv [] (.inl x2 :: .inl x1 :: .inl x0 :: [.inr (.inr w0)]) n I L P = mm_kr d 24 219 lv [] [.inr (.inr w0)] n (mm_rn d 27 [.inl x0, .inl x1, .inl x2] n I L P)) ∧
  (∀ (lv : List mm_V) a x0, (mm_ok n a 3) → mm_E d 24 219 lv [] (.inl x0 :: .inr (.inr (some a)) :: []) n I L P = mm_kv d 24 222 lv [] [] n (mm_rn d 25 [.inr (.inr (some a)), .inl x0] n I L P)) ∧
  (∀ (st : List mm_V) z (l0 : mm_V) (l1 : mm_V) (l2 : mm_V) (l3 : mm_V) (l4 : mm_V) (l5 : mm_V) (l6 : mm_V) (l8 : mm_V) (l9 : mm_V) (l10 : mm_V), mm_E d 24 222 [l0, l1, l2, l3, l4, l5, l6, (.inl z), l8, l9, l10] [] st n I L P = mm_E d 24 225 [l0, l1, l2, l3, l4, l5, l6, (.inl (mm_add z 1)), l8, l9, l10] [] st n I L P) ∧
  (∀ (lv : List mm_V) (st : List mm_V), mm_E d 24 225 lv [] st n I L P = mm_E d 24 53 lv [] st n I L P) ∧
  (∀ (lv : List mm_V) (st : List mm_V), mm_E d 24 228 lv [] st n I L P = mm_E d 24 229 lv [] (.inl 0 :: st) n I L P) ∧
  (∀ (lv : List mm_V) z, mm_E d 24 229 lv [] [.inl z] n I L P = some (some (.inl z), n, I, L, P)) :=
  ⟨fun _ _ _ _ _ _ _ _ _ _ _ _ => mq_al (i := 0) rfl rfl,
   fun _ _ _ h0 => mq_getR rfl h0,
   fun _ _ => mq_push rfl,
   fun _ _ _ _ _ _ _ _ _ _ _ _ => mq_il (i := 1) rfl rfl,
   fun _ _ _ _ _ h0 => mq_iast rfl h0,
   fun _ _ _ _ _ _ _ _ _ _ _ _ => mq_al (i := 0) rfl rfl,
   fun _ _ _ h0 => mq_getR rfl h0,
   fun _ _ => mq_push rfl,
   fun _ _ _ _ _ _ _ _ _ _ _ _ => mq_il (i := 2) rfl rfl,
   fun _ _ _ _ _ h0 => mq_iast rfl h0,
   fun _ _ _ _ _ _ _ _ _ _ _ _ => mq_al (i := 0) rfl rfl,
   fun _ _ _ h0 => mq_getR rfl h0,
   fun _ _ => mq_push rfl,
   fun _ _ _ _ _ _ _ _ _ _ _ _ => mq_il (i := 3) rfl rfl,
   fun _ _ _ _ _ h0 => mq_iast rfl h0,
   fun _ _ _ _ _ _ _ _ _ _ _ _ => mq_al (i := 0) rfl rfl,
   fun _ _ _ h0 => mq_getR rfl h0,
   fun _ _ => mq_push rfl,
   fun _ _ _ _ _ _ _ _ _ _ _ _ => mq_il (i := 4) rfl rfl,
   fun _ _ _ _ _ h0 => mq_iast rfl h0,
   fun _ _ _ _ _ _ _ _ _ _ _ _ => mq_al (i := 0) rfl rfl,
   fun _ _ _ h0 => mq_getR rfl h0,
   fun _ _ => mq_push rfl,
   fun _ _ _ _ _ _ _ _ _ _ _ _ => mq_il (i := 5) rfl rfl,
   fun _ _ _ _ _ h0 => mq_iast rfl h0,
   fun _ _ _ _ _ _ _ _ _ _ _ _ => mq_al (i := 0) rfl rfl,
   fun _ _ _ h0 => mq_getR rfl h0,
   fun _ _ => mq_push rfl,
   fun _ _ _ _ _ _ _ _ _ _ _ _ => mq_il (i := 6) rfl rfl,
   fun _ _ _ _ _ h0 => mq_iast rfl h0,
   fun _ _ _ _ _ _ _ _ _ _ _ _ => mq_al (i := 0) rfl rfl,
   fun _ _ => mq_push rfl,
   fun _ _ _ _ h0 => mq_putI rfl h0,
   fun _ _ => mq_push rfl,
   fun _ _ _ _ _ _ _ _ _ _ _ _ _ => mq_is (i := 7) rfl rfl rfl,
   fun _ _ _ _ _ _ _ _ _ _ _ _ => mq_al (i := 0) rfl rfl,
   fun _ _ _ h0 => mq_getI rfl h0,
   fun _ _ _ _ => mq_ic_ge rfl,
   fun _ _ _ _ _ _ _ _ _ _ _ _ => mq_al (i := 0) rfl rfl,
   fun _ _ _ h0 => mq_getR rfl h0,
   fun _ _ _ _ _ _ _ _ _ _ _ _ => mq_il (i := 7) rfl rfl,
   fun _ _ _ _ h0 => mq_iald rfl h0,
   fun _ _ => mq_push rfl,
   fun _ _ _ _ h0 => mq_di rfl h0,
   fun _ _ _ _ _ _ _ _ _ _ _ _ _ => mq_is (i := 8) rfl rfl rfl,
   fun _ _ _ _ _ _ _ _ _ _ _ _ => mq_al (i := 0) rfl rfl,
   fun _ _ _ h0 => mq_getR rfl h0,
   fun _ _ _ _ _ _ _ _ _ _ _ _ => mq_il (i := 7) rfl rfl,
   fun _ _ _ _ h0 => mq_iald rfl h0,
   fun _ _ => mq_push rfl,
   fun _ _ _ _ h0 => mq_di rfl h0,
   fun _ _ _ _ _ _ _ _ _ _ _ _ _ => mq_is (i := 9) rfl rfl rfl,
   fun _ _ _ _ _ _ _ _ _ _ _ _ => mq_il (i := 8) rfl rfl,
   fun _ _ _ => mq_if_ne rfl,
   fun _ _ _ _ _ _ _ _ _ _ _ _ => mq_al (i := 0) rfl rfl,
   fun _ _ _ _ _ _ _ _ _ _ _ _ => mq_il (i := 9) rfl rfl,
   fun _ _ _ h0 => mq_cVv (na := 1) rfl rfl (Nat.le_of_ble_eq_true rfl) (Nat.le_of_ble_eq_true rfl) h0,
   fun _ _ => mq_go rfl,
   fun _ _ _ _ _ _ _ _ _ _ _ _ => mq_il (i := 8) rfl rfl,
   fun _ _ => mq_push rfl,
   fun _ _ _ _ => mq_ic_ne rfl,
   fun _ _ _ _ _ _ _ _ _ _ _ _ => mq_al (i := 0) rfl rfl,
   fun _ _ _ _ _ _ _ _ _ _ _ _ => mq_il (i := 9) rfl rfl,
   fun _ _ _ _ _ _ _ _ _ _ _ _ => mq_al (i := 0) rfl rfl,
   fun _ _ _ h0 => mq_getR rfl h0,
   fun _ _ _ h0 => mq_alen rfl h0,
   fun _ _ _ _ => mq_ic_ge rfl,
   fun _ _ _ _ _ _ _ _ _ _ _ _ => mq_al (i := 0) rfl rfl,
   fun _ _ _ h0 => mq_getR rfl h0,
   fun _ _ _ _ _ _ _ _ _ _ _ _ => mq_il (i := 9) rfl rfl,
   fun _ _ _ _ h0 => mq_iald rfl h0,
   fun _ _ => mq_go rfl,
   fun _ _ => mq_push rfl,
   fun _ _ _ h0 => mq_cVv (na := 1) rfl rfl (Nat.le_of_ble_eq_true rfl) (Nat.le_of_ble_eq_true rfl) h0,
   fun _ _ => mq_go rfl,
   fun _ _ _ _ _ _ _ _ _ _ _ _ => mq_il (i := 8) rfl rfl,
   fun _ _ => mq_push rfl,
   fun _ _ _ _ => mq_ic_ne rfl,
   fun _ _ _ _ _ _ _ _ _ _ _ _ => mq_al (i := 0) rfl rfl,
   fun _ _ h0 => mq_cVr (na := 0) rfl rfl (Nat.le_of_ble_eq_true rfl) (Nat.le_of_ble_eq_true rfl) h0,
   fun _ _ => mq_ri rfl,
   fun _ _ _ _ _ _ _ _ _ _ _ _ => mq_il (i := 8) rfl rfl,
   fun _ _ => mq_push rfl,
   fun _ _ _ _ => mq_ic_ne rfl,
   fun _ _ _ _ _ _ _ _ _ _ _ _ => mq_al (i := 0) rfl rfl,
   fun _ _ h0 => mq_cVr (na := 0) rfl rfl (Nat.le_of_ble_eq_true rfl) (Nat.le_of_ble_eq_true rfl) h0,
   fun _ _ _ => mq_if_ne rfl,
   fun _ _ _ _ _ _ _ _ _ _ _ _ => mq_il (i := 9) rfl rfl,
   fun _ _ _ _ _ _ _ _ _ _ _ _ => mq_il (i := 7) rfl rfl,
   fun _ _ _ _ => mq_ic_le rfl,
   fun _ _ _ _ _ _ _ _ _ _ _ _ => mq_il (i := 9) rfl rfl,
   fun _ _ => mq_push rfl,
   fun _ _ _ _ => mq_bi rfl,
   fun _ _ => mq_go rfl,
   fun _ _ _ _ _ _ _ _ _ _ _ _ => mq_il (i := 7) rfl rfl,
   fun _ _ _ _ _ _ _ _ _ _ _ _ _ => mq_is (i := 7) rfl rfl rfl,
   fun _ _ => mq_go rfl,
   fun _ _ _ _ _ _ _ _ _ _ _ _ => mq_il (i := 8) rfl rfl,
   fun _ _ => mq_push rfl,
   fun _ _ _ _ => mq_ic_ne rfl,
   fun _ _ _ _ _ _ _ _ _ _ _ _ => mq_al (i := 0) rfl rfl,
   fun _ _ => mq_push rfl,
   fun _ _ _ _ _ _ _ _ _ _ _ _ => mq_al (i := 0) rfl rfl,
   fun _ _ _ _ h0 => mq_cVr (na := 0) rfl rfl (Nat.le_of_ble_eq_true rfl) (Nat.le_of_ble_eq_true rfl) h0,
   fun _ _ _ _ => mq_bi rfl,
   fun _ _ _ h0 => mq_cVv (na := 1) rfl rfl (Nat.le_of_ble_eq_true rfl) (Nat.le_of_ble_eq_true rfl) h0,
   fun _ _ => mq_go rfl,
   fun _ _ _ _ _ _ _ _ _ _ _ _ => mq_al (i := 0) rfl rfl,
   fun _ _ h0 => mq_cVr (na := 0) rfl rfl (Nat.le_of_ble_eq_true rfl) (Nat.le_of_ble_eq_true rfl) h0,
   fun _ _ _ _ _ _ _ _ _ _ _ _ _ => mq_is (i := 10) rfl rfl rfl,
   fun _ _ _ _ _ _ _ _ _ _ _ _ => mq_al (i := 0) rfl rfl,
   fun _ _ _ _ _ _ _ _ _ _ _ _ => mq_il (i := 8) rfl rfl,
   fun _ _ _ _ _ _ _ _ _ _ _ _ => mq_al (i := 0) rfl rfl,
   fun _ _ _ _ h0 => mq_cVr (na := 0) rfl rfl (Nat.le_of_ble_eq_true rfl) (Nat.le_of_ble_eq_true rfl) h0,
   fun _ _ _ _ _ _ _ _ _ _ _ _ => mq_il (i := 10) rfl rfl,
   fun _ _ _ _ _ => mq_cSr (na := 3) rfl (Nat.le_of_ble_eq_true rfl) (Nat.le_of_ble_eq_true rfl),
   fun _ _ _ h0 => mq_cVv (na := 1) rfl rfl (Nat.le_of_ble_eq_true rfl) (Nat.le_of_ble_eq_true rfl) h0,
   fun _ _ _ _ _ _ _ _ _ _ _ _ => mq_iinc (i := 7) rfl rfl rfl rfl,
   fun _ _ => mq_go rfl,
   fun _ _ => mq_push rfl,
   fun _ _ => mq_ri rfl⟩
theorem hX3_valueFor_53 (d n : Nat) (I L : mm_I) (P : mm_P) : ∀ (st : List mm_V) z (l0 : mm_V) (l1 : mm_V) (l2 : mm_V) (l3 : mm_V) (l4 : mm_V) (l5 : mm_V) (l6 : mm_V) (l8 : mm_V) (l9 : mm_V) (l10 : mm_V), mm_E d 24 53 [l0, l1, l2, l3, l4, l5, l6, (.inl z), l8, l9, l10] [] st n I L P = mm_E d 24 55 [l0, l1, l2, l3, l4, l5, l6, (.inl z), l8, l9, l10] [] ((.inl z) :: st) n I L P := fun _ _ _ _ _ _ _ _ _ _ _ _ => mq_il (i := 7) rfl rfl
theorem eX3_valueFor (d n : Nat) (I L : mm_I) (P : mm_P) (x0 : Option Nat) (x1 : Int) (x2 : Int) (x3 : Int) (x4 : Int) (x5 : Int) (x6 : Int) : mm_rn (d + 1) 24 [.inr (.inr x0), .inl x1, .inl x2, .inl x3, .inl x4, .inl x5, .inl x6] n I L P = mm_E d 24 0 [.inr (.inr x0), .inl x1, .inl x2, .inl x3, .inl x4, .inl x5, .inl x6, mm_junk, mm_junk, mm_junk, mm_junk] [] [] n I L P := rfl

set_option maxRecDepth 20000 in
set_option maxHeartbeats 8000000 in
theorem kX3_push (d n : Nat) (I L : mm_I) (P : mm_P) :
  (∀ (st : List mm_V) z (l1 : mm_V), mm_E d 25 0 [(.inr (.inr z)), l1] [] st n I L P = mm_E d 25 1 [(.inr (.inr z)), l1] [] ((.inr (.inr z)) :: st) n I L P) ∧
  (∀ (lv : List mm_V) (st : List mm_V) a, (mm_ok n a 3) → mm_E d 25 1 lv [] (.inr (.inr (some a)) :: st) n I L P = mm_E d 25 4 lv [] (.inl (I a 4) :: st) n I L P) ∧
  (∀ (st : List mm_V) z (l1 : mm_V), mm_E d 25 4 [(.inr (.inr z)), l1] [] st n I L P = mm_E d 25 5 [(.inr (.inr z)), l1] [] ((.inr (.inr z)) :: st) n I L P) ∧
  (∀ (lv : List mm_V) (st : List mm_V) a, (mm_ok n a 3) → mm_E d 25 5 lv [] (.inr (.inr (some a)) :: st) n I L P = mm_E d 25 8 lv [] (.inr (.inr (P a 3)) :: st) n I L P) ∧
  (∀ (lv : List mm_V) (st : List mm_V) a, (mm_ok n a 20) → mm_E d 25 8 lv [] (.inr (.inr (some a)) :: st) n I L P = mm_E d 25 9 lv [] (.inl ((mm_ty a).2 : Int) :: st) n I L P) ∧
  (∀ (lv : List mm_V) (st : List mm_V) a b, mm_E d 25 9 lv [] (.inl b :: .inl a :: st) n I L P = if b ≤ a then mm_E d 25 32 lv [] st n I L P else mm_E d 25 12 lv [] st n I L P) ∧
  (∀ (st : List mm_V) z (l1 : mm_V), mm_E d 25 12 [(.inr (.inr z)), l1] [] st n I L P = mm_E d 25 13 [(.inr (.inr z)), l1] [] ((.inr (.inr z)) :: st) n I L P) ∧
  (∀ (lv : List mm_V) (st : List mm_V) a, (mm_ok n a 3) → mm_E d 25 13 lv [] (.inr (.inr (some a)) :: st) n I L P = mm_E d 25 16 lv [] (.inr (.inr (P a 3)) :: st) n I L P) ∧
  (∀ (st : List mm_V) z (l1 : mm_V), mm_E d 25 16 [(.inr (.inr z)), l1] [] st n I L P = mm_E d 25 17 [(.inr (.inr z)), l1] [] ((.inr (.inr z)) :: st) n I L P) ∧
  (∀ (lv : List mm_V) (st : List mm_V) a, (mm_ok n a 3) → mm_E d 25 17 lv [] (.inr (.inr (some a)) :: st) n I L P = mm_E d 25 20 lv [] (.inl (I a 4) :: st) n I L P) ∧
  (∀ (st : List mm_V) z (l0 : mm_V), mm_E d 25 20 [l0, (.inl z)] [] st n I L P = mm_E d 25 21 [l0, (.inl z)] [] ((.inl z) :: st) n I L P) ∧
  (∀ (lv : List mm_V) (st : List mm_V) a i z, (mm_ix n a 20 i) → mm_E d 25 21 lv [] (.inl z :: .inl i :: .inr (.inr (some a)) :: st) n I L P = mm_E d 25 22 lv [] st n (mm_ui I a i.toNat z) L P) ∧
  (∀ (st : List mm_V) z (l1 : mm_V), mm_E d 25 22 [(.inr (.inr z)), l1] [] st n I L P = mm_E d 25 23 [(.inr (.inr z)), l1] [] ((.inr (.inr z)) :: st) n I L P) ∧
  (∀ (lv : List mm_V) (st : List mm_V) a, mm_E d 25 23 lv [] ((.inr (.inr a)) :: st) n I L P = mm_E d 25 24 lv [] ((.inr (.inr a)) :: (.inr (.inr a)) :: st) n I L P) ∧
  (∀ (lv : List mm_V) (st : List mm_V) a, (mm_ok n a 3) → mm_E d 25 24 lv [] (.inr (.inr (some a)) :: st) n I L P = mm_E d 25 27 lv [] (.inl (I a 4) :: st) n I L P) ∧
  (∀ (lv : List mm_V) (st : List mm_V), mm_E d 25 27 lv [] st n I L P = mm_E d 25 28 lv [] (.inl 1 :: st) n I L P) ∧
  (∀ (lv : List mm_V) (st : List mm_V) a b, mm_E d 25 28 lv [] (.inl b :: .inl a :: st) n I L P = mm_E d 25 29 lv [] (.inl (mm_add a b) :: st) n I L P) ∧
  (∀ (lv : List mm_V) (st : List mm_V) a z, (mm_ok n a 3) → mm_E d 25 29 lv [] (.inl z :: .inr (.inr (some a)) :: st) n I L P = mm_E d 25 32 lv [] st n (mm_ui I a 4 z) L P) ∧
  (∀ (lv : List mm_V), mm_E d 25 32 lv [] [] n I L P = some (none, n, I, L, P)) :=
  ⟨fun _ _ _ => mq_al (i := 0) rfl rfl,
   fun _ _ _ h0 => mq_getI rfl h0,
   fun _ _ _ => mq_al (i := 0) rfl rfl,
   fun _ _ _ h0 => mq_getR rfl h0,
   fun _ _ _ h0 => mq_alen rfl h0,
   fun _ _ _ _ => mq_ic_ge rfl,
   fun _ _ _ => mq_al (i := 0) rfl rfl,
   fun _ _ _ h0 => mq_getR rfl h0,
   fun _ _ _ => mq_al (i := 0) rfl rfl,
   fun _ _ _ h0 => mq_getI rfl h0,
   fun _ _ _ => mq_il (i := 1) rfl rfl,
   fun _ _ _ _ _ h0 => mq_iast rfl h0,
   fun _ _ _ => mq_al (i := 0) rfl rfl,
   fun _ _ _ => mq_dup rfl rfl,
   fun _ _ _ h0 => mq_getI rfl h0,
   fun _ _ => mq_push rfl,
   fun _ _ _ _ => mq_bi rfl,
   fun _ _ _ _ h0 => mq_putI rfl h0,
   fun _ => mq_rv rfl⟩
theorem eX3_push (d n : Nat) (I L : mm_I) (P : mm_P) (x0 : Option Nat) (x1 : Int) : mm_rn (d + 1) 25 [.inr (.inr x0), .inl x1] n I L P = mm_E d 25 0 [.inr (.inr x0), .inl x1] [] [] n I L P := rfl

set_option maxRecDepth 20000 in
set_option maxHeartbeats 8000000 in
theorem kX3_pop (d n : Nat) (I L : mm_I) (P : mm_P) :
  (∀ (st : List mm_V) z, mm_E d 26 0 [(.inr (.inr z))] [] st n I L P = mm_E d 26 1 [(.inr (.inr z))] [] ((.inr (.inr z)) :: st) n I L P) ∧
  (∀ (lv : List mm_V) (st : List mm_V) a, (mm_ok n a 3) → mm_E d 26 1 lv [] (.inr (.inr (some a)) :: st) n I L P = mm_E d 26 4 lv [] (.inl (I a 4) :: st) n I L P) ∧
  (∀ (lv : List mm_V) (st : List mm_V) a, mm_E d 26 4 lv [] (.inl a :: st) n I L P = if a = 0 then mm_E d 26 7 lv [] st n I L P else mm_E d 26 9 lv [] st n I L P) ∧
  (∀ (lv : List mm_V) (st : List mm_V), mm_E d 26 7 lv [] st n I L P = mm_E d 26 8 lv [] (.inl 0 :: st) n I L P) ∧
  (∀ (lv : List mm_V) z, mm_E d 26 8 lv [] [.inl z] n I L P = some (some (.inl z), n, I, L, P)) ∧
  (∀ (st : List mm_V) z, mm_E d 26 9 [(.inr (.inr z))] [] st n I L P = mm_E d 26 10 [(.inr (.inr z))] [] ((.inr (.inr z)) :: st) n I L P) ∧
  (∀ (lv : List mm_V) (st : List mm_V) a, mm_E d 26 10 lv [] ((.inr (.inr a)) :: st) n I L P = mm_E d 26 11 lv [] ((.inr (.inr a)) :: (.inr (.inr a)) :: st) n I L P) ∧
  (∀ (lv : List mm_V) (st : List mm_V) a, (mm_ok n a 3) → mm_E d 26 11 lv [] (.inr (.inr (some a)) :: st) n I L P = mm_E d 26 14 lv [] (.inl (I a 4) :: st) n I L P) ∧
  (∀ (lv : List mm_V) (st : List mm_V), mm_E d 26 14 lv [] st n I L P = mm_E d 26 15 lv [] (.inl 1 :: st) n I L P) ∧
  (∀ (lv : List mm_V) (st : List mm_V) a b, mm_E d 26 15 lv [] (.inl b :: .inl a :: st) n I L P = mm_E d 26 16 lv [] (.inl (mm_sub a b) :: st) n I L P) ∧
  (∀ (lv : List mm_V) (st : List mm_V) a z, (mm_ok n a 3) → mm_E d 26 16 lv [] (.inl z :: .inr (.inr (some a)) :: st) n I L P = mm_E d 26 19 lv [] st n (mm_ui I a 4 z) L P) ∧
  (∀ (st : List mm_V) z, mm_E d 26 19 [(.inr (.inr z))] [] st n I L P = mm_E d 26 20 [(.inr (.inr z))] [] ((.inr (.inr z)) :: st) n I L P) ∧
  (∀ (lv : List mm_V) (st : List mm_V) a, (mm_ok n a 3) → mm_E d 26 20 lv [] (.inr (.inr (some a)) :: st) n I L P = mm_E d 26 23 lv [] (.inr (.inr (P a 3)) :: st) n I L P) ∧
  (∀ (st : List mm_V) z, mm_E d 26 23 [(.inr (.inr z))] [] st n I L P = mm_E d 26 24 [(.inr (.inr z))] [] ((.inr (.inr z)) :: st) n I L P) ∧
  (∀ (lv : List mm_V) (st : List mm_V) a, (mm_ok n a 3) → mm_E d 26 24 lv [] (.inr (.inr (some a)) :: st) n I L P = mm_E d 26 27 lv [] (.inl (I a 4) :: st) n I L P) ∧
  (∀ (lv : List mm_V) (st : List mm_V) a i, (mm_ix n a 20 i) → mm_E d 26 27 lv [] (.inl i :: .inr (.inr (some a)) :: st) n I L P = mm_E d 26 28 lv [] (.inl (I a i.toNat) :: st) n I L P) ∧
  (∀ (lv : List mm_V) z, mm_E d 26 28 lv [] [.inl z] n I L P = some (some (.inl z), n, I, L, P)) :=
  ⟨fun _ _ => mq_al (i := 0) rfl rfl,
   fun _ _ _ h0 => mq_getI rfl h0,
   fun _ _ _ => mq_if_ne rfl,
   fun _ _ => mq_push rfl,
   fun _ _ => mq_ri rfl,
   fun _ _ => mq_al (i := 0) rfl rfl,
   fun _ _ _ => mq_dup rfl rfl,
   fun _ _ _ h0 => mq_getI rfl h0,
   fun _ _ => mq_push rfl,
   fun _ _ _ _ => mq_bi rfl,
   fun _ _ _ _ h0 => mq_putI rfl h0,
   fun _ _ => mq_al (i := 0) rfl rfl,
   fun _ _ _ h0 => mq_getR rfl h0,
   fun _ _ => mq_al (i := 0) rfl rfl,
   fun _ _ _ h0 => mq_getI rfl h0,
   fun _ _ _ _ h0 => mq_iald rfl h0,
   fun _ _ => mq_ri rfl⟩
theorem eX3_pop (d n : Nat) (I L : mm_I) (P : mm_P) (x0 : Option Nat) : mm_rn (d + 1) 26 [.inr (.inr x0)] n I L P = mm_E d 26 0 [.inr (.inr x0)] [] [] n I L P := rfl

set_option maxRecDepth 20000 in
set_option maxHeartbeats 8000000 in
theorem kX3_joint (d n : Nat) (I L : mm_I) (P : mm_P) :
  (∀ (ll : List (Option Int)) (st : List mm_V) z (l1 : mm_V) (l2 : mm_V) (l3 : mm_V) (l4 : mm_V), mm_E d 27 0 [(.inl z), l1, l2, l3, l4] ll st n I L P = mm_E d 27 1 [(.inl z), l1, l2, l3, l4] ll ((.inl z) :: st) n I L P) ∧
  (∀ (lv : List mm_V) (ll : List (Option Int)) (st : List mm_V) a, mm_E d 27 1 lv ll (.inl a :: st) n I L P = if a = 2 then mm_E d 27 48 lv ll st n I L P else if a = 3 then mm_E d 27 56 lv ll st n I L P else if a = 4 then mm_E d 27 64 lv ll st n I L P else if a = 5 then mm_E d 27 73 lv ll st n I L P else if a = 6 then mm_E d 27 89 lv ll st n I L P else if a = 7 then mm_E d 27 103 lv ll st n I L P else if a = 8 then mm_E d 27 117 lv ll st n I L P else if a = 9 then mm_E d 27 131 lv ll st n I L P else mm_E d 27 139 lv ll st n I L P) ∧
  (∀ (ll : List (Option Int)) (st : List mm_V) z (l0 : mm_V) (l2 : mm_V) (l3 : mm_V) (l4 : mm_V), mm_E d 27 48 [l0, (.inl z), l2, l3, l4] ll st n I L P = mm_E d 27 49 [l0, (.inl z), l2, l3, l4] ll ((.inl z) :: st) n I L P) ∧
  (∀ (ll : List (Option Int)) (st : List mm_V) z (l0 : mm_V) (l1 : mm_V) (l3 : mm_V) (l4 : mm_V), mm_E d 27 49 [l0, l1, (.inl z), l3, l4] ll st n I L P = mm_E d 27 50 [l0, l1, (.inl z), l3, l4] ll ((.inl z) :: st) n I L P) ∧
  (∀ (lv : List mm_V) (ll : List (Option Int)) (st : List mm_V) a b, mm_E d 27 50 lv ll (.inl b :: .inl a :: st) n I L P = mm_E d 27 51 lv ll (.inl (mm_add a b) :: st) n I L P) ∧
  (∀ (lv : List mm_V) (ll : List (Option Int)) (st : List mm_V) a, mm_E d 27 51 lv ll (.inl a :: st) n I L P = mm_E d 27 52 lv ll (.inr (.inl a) :: st) n I L P) ∧
  (∀ (st : List mm_V) z (l0 : mm_V) (l1 : mm_V) (l2 : mm_V) (l3 : mm_V) (l4 : mm_V) (g0 : Option Int) (g1 : Option Int) (g2 : Option Int) (g3 : Option Int) (g4 : Option Int), mm_E d 27 52 [l0, l1, l2, l3, l4] [g0, g1, g2, g3, g4] (.inr (.inl z) :: st) n I L P = mm_E d 27 53 [l0, l1, l2, mm_junk, mm_junk] [g0, g1, none, (some z), none] st n I L P) ∧
  (∀ (lv : List mm_V) (ll : List (Option Int)) (st : List mm_V), mm_E d 27 53 lv ll st n I L P = mm_E d 27 144 lv ll st n I L P) ∧
  (∀ (ll : List (Option Int)) (st : List mm_V) z (l0 : mm_V) (l2 : mm_V) (l3 : mm_V) (l4 : mm_V), mm_E d 27 56 [l0, (.inl z), l2, l3, l4] ll st n I L P = mm_E d 27 57 [l0, (.inl z), l2, l3, l4] ll ((.inl z) :: st) n I L P) ∧
  (∀ (ll : List (Option Int)) (st : List mm_V) z (l0 : mm_V) (l1 : mm_V) (l3 : mm_V) (l4 : mm_V), mm_E d 27 57 [l0, l1, (.inl z), l3, l4] ll st n I L P = mm_E d 27 58 [l0, l1, (.inl z), l3, l4] ll ((.inl z) :: st) n I L P) ∧
  (∀ (lv : List mm_V) (ll : List (Option Int)) (st : List mm_V) a b, mm_E d 27 58 lv ll (.inl b :: .inl a :: st) n I L P = mm_E d 27 59 lv ll (.inl (mm_sub a b) :: st) n I L P) ∧
  (∀ (lv : List mm_V) (ll : List (Option Int)) (st : List mm_V) a, mm_E d 27 59 lv ll (.inl a :: st) n I L P = mm_E d 27 60 lv ll (.inr (.inl a) :: st) n I L P) ∧
  (∀ (st : List mm_V) z (l0 : mm_V) (l1 : mm_V) (l2 : mm_V) (l3 : mm_V) (l4 : mm_V) (g0 : Option Int) (g1 : Option Int) (g2 : Option Int) (g3 : Option Int) (g4 : Option Int), mm_E d 27 60 [l0, l1, l2, l3, l4] [g0, g1, g2, g3, g4] (.inr (.inl z) :: st) n I L P = mm_E d 27 61 [l0, l1, l2, mm_junk, mm_junk] [g0, g1, none, (some z), none] st n I L P) ∧
  (∀ (lv : List mm_V) (ll : List (Option Int)) (st : List mm_V), mm_E d 27 61 lv ll st n I L P = mm_E d 27 144 lv ll st n I L P) ∧
  (∀ (ll : List (Option Int)) (st : List mm_V) z (l0 : mm_V) (l2 : mm_V) (l3 : mm_V) (l4 : mm_V), mm_E d 27 64 [l0, (.inl z), l2, l3, l4] ll st n I L P = mm_E d 27 65 [l0, (.inl z), l2, l3, l4] ll ((.inl z) :: st) n I L P) ∧
  (∀ (lv : List mm_V) (ll : List (Option Int)) (st : List mm_V) a, mm_E d 27 65 lv ll (.inl a :: st) n I L P = mm_E d 27 66 lv ll (.inr (.inl a) :: st) n I L P) ∧
  (∀ (ll : List (Option Int)) (st : List mm_V) z (l0 : mm_V) (l1 : mm_V) (l3 : mm_V) (l4 : mm_V), mm_E d 27 66 [l0, l1, (.inl z), l3, l4] ll st n I L P = mm_E d 27 67 [l0, l1, (.inl z), l3, l4] ll ((.inl z) :: st) n I L P) ∧
  (∀ (lv : List mm_V) (ll : List (Option Int)) (st : List mm_V) a, mm_E d 27 67 lv ll (.inl a :: st) n I L P = mm_E d 27 68 lv ll (.inr (.inl a) :: st) n I L P) ∧
  (∀ (lv : List mm_V) (ll : List (Option Int)) (st : List mm_V) a b, mm_E d 27 68 lv ll (.inr (.inl b) :: .inr (.inl a) :: st) n I L P = mm_E d 27 69 lv ll (.inr (.inl (mm_lmull a b)) :: st) n I L P) ∧
  (∀ (st : List mm_V) z (l0 : mm_V) (l1 : mm_V) (l2 : mm_V) (l3 : mm_V) (l4 : mm_V) (g0 : Option Int) (g1 : Option Int) (g2 : Option Int) (g3 : Option Int) (g4 : Option Int), mm_E d 27 69 [l0, l1, l2, l3, l4] [g0, g1, g2, g3, g4] (.inr (.inl z) :: st) n I L P = mm_E d 27 70 [l0, l1, l2, mm_junk, mm_junk] [g0, g1, none, (some z), none] st n I L P) ∧
  (∀ (lv : List mm_V) (ll : List (Option Int)) (st : List mm_V), mm_E d 27 70 lv ll st n I L P = mm_E d 27 144 lv ll st n I L P) ∧
  (∀ (ll : List (Option Int)) (st : List mm_V) z (l0 : mm_V) (l1 : mm_V) (l3 : mm_V) (l4 : mm_V), mm_E d 27 73 [l0, l1, (.inl z), l3, l4] ll st n I L P = mm_E d 27 74 [l0, l1, (.inl z), l3, l4] ll ((.inl z) :: st) n I L P) ∧
  (∀ (lv : List mm_V) (ll : List (Option Int)) (st : List mm_V) a, mm_E d 27 74 lv ll (.inl a :: st) n I L P = if a = 0 then mm_E d 27 77 lv ll st n I L P else mm_E d 27 81 lv ll st n I L P) ∧
  (∀ (ll : List (Option Int)) (lv : List mm_V) (st : List mm_V), mm_E d 27 77 lv ll st n I L P = mm_E d 27 78 lv ll (.inr (.inl 0) :: st) n I L P) ∧
  (∀ (lv : List mm_V) (ll : List (Option Int)) (st : List mm_V), mm_E d 27 78 lv ll st n I L P = mm_E d 27 85 lv ll st n I L P) ∧
  (∀ (ll : List (Option Int)) (st : List mm_V) z (l0 : mm_V) (l2 : mm_V) (l3 : mm_V) (l4 : mm_V), mm_E d 27 81 [l0, (.inl z), l2, l3, l4] ll st n I L P = mm_E d 27 82 [l0, (.inl z), l2, l3, l4] ll ((.inl z) :: st) n I L P) ∧
  (∀ (ll : List (Option Int)) (st : List mm_V) z (l0 : mm_V) (l1 : mm_V) (l3 : mm_V) (l4 : mm_V), mm_E d 27 82 [l0, l1, (.inl z), l3, l4] ll st n I L P = mm_E d 27 83 [l0, l1, (.inl z), l3, l4] ll ((.inl z) :: st) n I L P) ∧
  (∀ (lv : List mm_V) (ll : List (Option Int)) (st : List mm_V) a b, (¬ b = 0) → mm_E d 27 83 lv ll (.inl b :: .inl a :: st) n I L P = mm_E d 27 84 lv ll (.inl (mm_w (Int.tdiv a b)) :: st) n I L P) ∧
  (∀ (lv : List mm_V) (ll : List (Option Int)) (st : List mm_V) a, mm_E d 27 84 lv ll (.inl a :: st) n I L P = mm_E d 27 85 lv ll (.inr (.inl a) :: st) n I L P) ∧
  (∀ (st : List mm_V) z (l0 : mm_V) (l1 : mm_V) (l2 : mm_V) (l3 : mm_V) (l4 : mm_V) (g0 : Option Int) (g1 : Option Int) (g2 : Option Int) (g3 : Option Int) (g4 : Option Int), mm_E d 27 85 [l0, l1, l2, l3, l4] [g0, g1, g2, g3, g4] (.inr (.inl z) :: st) n I L P = mm_E d 27 86 [l0, l1, l2, mm_junk, mm_junk] [g0, g1, none, (some z), none] st n I L P) ∧
  (∀ (lv : List mm_V) (ll : List (Option Int)) (st : List mm_V), mm_E d 27 86 lv ll st n I L P = mm_E d 27 144 lv ll st n I L P) ∧
  (∀ (ll : List (Option Int)) (st : List mm_V) z (l0 : mm_V) (l2 : mm_V) (l3 : mm_V) (l4 : mm_V), mm_E d 27 89 [l0, (.inl z), l2, l3, l4] ll st n I L P = mm_E d 27 90 [l0, (.inl z), l2, l3, l4] ll ((.inl z) :: st) n I L P) ∧
  (∀ (ll : List (Option Int)) (st : List mm_V) z (l0 : mm_V) (l1 : mm_V) (l3 : mm_V) (l4 : mm_V), mm_E d 27 90 [l0, l1, (.inl z), l3, l4] ll st n I L P = mm_E d 27 91 [l0, l1, (.inl z), l3, l4] ll ((.inl z) :: st) n I L P) ∧
  (∀ (lv : List mm_V) (ll : List (Option Int)) (st : List mm_V) a b, mm_E d 27 91 lv ll (.inl b :: .inl a :: st) n I L P = if a = b then mm_E d 27 94 lv ll st n I L P else mm_E d 27 98 lv ll st n I L P) ∧
  (∀ (ll : List (Option Int)) (lv : List mm_V) (st : List mm_V), mm_E d 27 94 lv ll st n I L P = mm_E d 27 95 lv ll (.inr (.inl 1) :: st) n I L P) ∧
  (∀ (lv : List mm_V) (ll : List (Option Int)) (st : List mm_V), mm_E d 27 95 lv ll st n I L P = mm_E d 27 99 lv ll st n I L P) ∧
  (∀ (ll : List (Option Int)) (lv : List mm_V) (st : List mm_V), mm_E d 27 98 lv ll st n I L P = mm_E d 27 99 lv ll (.inr (.inl 0) :: st) n I L P) ∧
  (∀ (st : List mm_V) z (l0 : mm_V) (l1 : mm_V) (l2 : mm_V) (l3 : mm_V) (l4 : mm_V) (g0 : Option Int) (g1 : Option Int) (g2 : Option Int) (g3 : Option Int) (g4 : Option Int), mm_E d 27 99 [l0, l1, l2, l3, l4] [g0, g1, g2, g3, g4] (.inr (.inl z) :: st) n I L P = mm_E d 27 100 [l0, l1, l2, mm_junk, mm_junk] [g0, g1, none, (some z), none] st n I L P) ∧
  (∀ (lv : List mm_V) (ll : List (Option Int)) (st : List mm_V), mm_E d 27 100 lv ll st n I L P = mm_E d 27 144 lv ll st n I L P) ∧
  (∀ (ll : List (Option Int)) (st : List mm_V) z (l0 : mm_V) (l2 : mm_V) (l3 : mm_V) (l4 : mm_V), mm_E d 27 103 [l0, (.inl z), l2, l3, l4] ll st n I L P = mm_E d 27 104 [l0, (.inl z), l2, l3, l4] ll ((.inl z) :: st) n I L P) ∧
  (∀ (ll : List (Option Int)) (st : List mm_V) z (l0 : mm_V) (l1 : mm_V) (l3 : mm_V) (l4 : mm_V), mm_E d 27 104 [l0, l1, (.inl z), l3, l4] ll st n I L P = mm_E d 27 105 [l0, l1, (.inl z), l3, l4] ll ((.inl z) :: st) n I L P) ∧
  (∀ (lv : List mm_V) (ll : List (Option Int)) (st : List mm_V) a b, mm_E d 27 105 lv ll (.inl b :: .inl a :: st) n I L P = if b ≤ a then mm_E d 27 112 lv ll st n I L P else mm_E d 27 108 lv ll st n I L P) ∧
  (∀ (ll : List (Option Int)) (lv : List mm_V) (st : List mm_V), mm_E d 27 108 lv ll st n I L P = mm_E d 27 109 lv ll (.inr (.inl 1) :: st) n I L P) ∧
  (∀ (lv : List mm_V) (ll : List (Option Int)) (st : List mm_V), mm_E d 27 109 lv ll st n I L P = mm_E d 27 113 lv ll st n I L P) ∧
  (∀ (ll : List (Option Int)) (lv : List mm_V) (st : List mm_V), mm_E d 27 112 lv ll st n I L P = mm_E d 27 113 lv ll (.inr (.inl 0) :: st) n I L P) ∧
  (∀ (st : List mm_V) z (l0 : mm_V) (l1 : mm_V) (l2 : mm_V) (l3 : mm_V) (l4 : mm_V) (g0 : Option Int) (g1 : Option Int) (g2 : Option Int) (g3 : Option Int) (g4 : Option Int), mm_E d 27 113 [l0, l1, l2, l3, l4] [g0, g1, g2, g3, g4] (.inr (.inl z) :: st) n I L P = mm_E d 27 114 [l0, l1, l2, mm_junk, mm_junk] [g0, g1, none, (some z), none] st n I L P) ∧
  (∀ (lv : List mm_V) (ll : List (Option Int)) (st : List mm_V), mm_E d 27 114 lv ll st n I L P = mm_E d 27 144 lv ll st n I L P) ∧
  (∀ (ll : List (Option Int)) (st : List mm_V) z (l0 : mm_V) (l2 : mm_V) (l3 : mm_V) (l4 : mm_V), mm_E d 27 117 [l0, (.inl z), l2, l3, l4] ll st n I L P = mm_E d 27 118 [l0, (.inl z), l2, l3, l4] ll ((.inl z) :: st) n I L P) ∧
  (∀ (ll : List (Option Int)) (st : List mm_V) z (l0 : mm_V) (l1 : mm_V) (l3 : mm_V) (l4 : mm_V), mm_E d 27 118 [l0, l1, (.inl z), l3, l4] ll st n I L P = mm_E d 27 119 [l0, l1, (.inl z), l3, l4] ll ((.inl z) :: st) n I L P) ∧
  (∀ (lv : List mm_V) (ll : List (Option Int)) (st : List mm_V) a b, mm_E d 27 119 lv ll (.inl b :: .inl a :: st) n I L P = if a ≤ b then mm_E d 27 126 lv ll st n I L P else mm_E d 27 122 lv ll st n I L P) ∧
  (∀ (ll : List (Option Int)) (lv : List mm_V) (st : List mm_V), mm_E d 27 122 lv ll st n I L P = mm_E d 27 123 lv ll (.inr (.inl 1) :: st) n I L P) ∧
  (∀ (lv : List mm_V) (ll : List (Option Int)) (st : List mm_V), mm_E d 27 123 lv ll st n I L P = mm_E d 27 127 lv ll st n I L P) ∧
  (∀ (ll : List (Option Int)) (lv : List mm_V) (st : List mm_V), mm_E d 27 126 lv ll st n I L P = mm_E d 27 127 lv ll (.inr (.inl 0) :: st) n I L P) ∧
  (∀ (st : List mm_V) z (l0 : mm_V) (l1 : mm_V) (l2 : mm_V) (l3 : mm_V) (l4 : mm_V) (g0 : Option Int) (g1 : Option Int) (g2 : Option Int) (g3 : Option Int) (g4 : Option Int), mm_E d 27 127 [l0, l1, l2, l3, l4] [g0, g1, g2, g3, g4] (.inr (.inl z) :: st) n I L P = mm_E d 27 128 [l0, l1, l2, mm_junk, mm_junk] [g0, g1, none, (some z), none] st n I L P) ∧
  (∀ (lv : List mm_V) (ll : List (Option Int)) (st : List mm_V), mm_E d 27 128 lv ll st n I L P = mm_E d 27 144 lv ll st n I L P) ∧
  (∀ (ll : List (Option Int)) (st : List mm_V) z (l0 : mm_V) (l2 : mm_V) (l3 : mm_V) (l4 : mm_V), mm_E d 27 131 [l0, (.inl z), l2, l3, l4] ll st n I L P = mm_E d 27 132 [l0, (.inl z), l2, l3, l4] ll ((.inl z) :: st) n I L P) ∧
  (∀ (ll : List (Option Int)) (st : List mm_V) z (l0 : mm_V) (l1 : mm_V) (l3 : mm_V) (l4 : mm_V), mm_E d 27 132 [l0, l1, (.inl z), l3, l4] ll st n I L P = mm_E d 27 133 [l0, l1, (.inl z), l3, l4] ll ((.inl z) :: st) n I L P) ∧
  (∀ (lv : List mm_V) (ll : List (Option Int)) (st : List mm_V) a b, mm_E d 27 133 lv ll (.inl b :: .inl a :: st) n I L P = mm_E d 27 134 lv ll (.inl (mm_and a b) :: st) n I L P) ∧
  (∀ (lv : List mm_V) (ll : List (Option Int)) (st : List mm_V) a, mm_E d 27 134 lv ll (.inl a :: st) n I L P = mm_E d 27 135 lv ll (.inr (.inl a) :: st) n I L P) ∧
  (∀ (st : List mm_V) z (l0 : mm_V) (l1 : mm_V) (l2 : mm_V) (l3 : mm_V) (l4 : mm_V) (g0 : Option Int) (g1 : Option Int) (g2 : Option Int) (g3 : Option Int) (g4 : Option Int), mm_E d 27 135 [l0, l1, l2, l3, l4] [g0, g1, g2, g3, g4] (.inr (.inl z) :: st) n I L P = mm_E d 27 136 [l0, l1, l2, mm_junk, mm_junk] [g0, g1, none, (some z), none] st n I L P) ∧
  (∀ (lv : List mm_V) (ll : List (Option Int)) (st : List mm_V), mm_E d 27 136 lv ll st n I L P = mm_E d 27 144 lv ll st n I L P) ∧
  (∀ (ll : List (Option Int)) (st : List mm_V) z (l0 : mm_V) (l2 : mm_V) (l3 : mm_V) (l4 : mm_V), mm_E d 27 139 [l0, (.inl z), l2, l3, l4] ll st n I L P = mm_E d 27 140 [l0, (.inl z), l2, l3, l4] ll ((.inl z) :: st) n I L P) ∧
  (∀ (ll : List (Option Int)) (st : List mm_V) z (l0 : mm_V) (l1 : mm_V) (l3 : mm_V) (l4 : mm_V), mm_E d 27 140 [l0, l1, (.inl z), l3, l4] ll st n I L P = mm_E d 27 141 [l0, l1, (.inl z), l3, l4] ll ((.inl z) :: st) n I L P) ∧
  (∀ (lv : List mm_V) (ll : List (Option Int)) (st : List mm_V) a b, mm_E d 27 141 lv ll (.inl b :: .inl a :: st) n I L P = mm_E d 27 142 lv ll (.inl (mm_or a b) :: st) n I L P) ∧
  (∀ (lv : List mm_V) (ll : List (Option Int)) (st : List mm_V) a, mm_E d 27 142 lv ll (.inl a :: st) n I L P = mm_E d 27 143 lv ll (.inr (.inl a) :: st) n I L P) ∧
  (∀ (st : List mm_V) z (l0 : mm_V) (l1 : mm_V) (l2 : mm_V) (l3 : mm_V) (l4 : mm_V) (g0 : Option Int) (g1 : Option Int) (g2 : Option Int) (g3 : Option Int) (g4 : Option Int), mm_E d 27 143 [l0, l1, l2, l3, l4] [g0, g1, g2, g3, g4] (.inr (.inl z) :: st) n I L P = mm_E d 27 144 [l0, l1, l2, mm_junk, mm_junk] [g0, g1, none, (some z), none] st n I L P) ∧
  (∀ (lv : List mm_V) (st : List mm_V) z (g0 : Option Int) (g1 : Option Int) (g2 : Option Int) (g4 : Option Int), mm_E d 27 144 lv [g0, g1, g2, (some z), g4] st n I L P = mm_E d 27 145 lv [g0, g1, g2, (some z), g4] (.inr (.inl z) :: st) n I L P) ∧
  (∀ (ll : List (Option Int)) (lv : List mm_V) (st : List mm_V), mm_E d 27 145 lv ll st n I L P = mm_E d 27 148 lv ll (.inr (.inl 1000000) :: st) n I L P) ∧
  (∀ (lv : List mm_V) (ll : List (Option Int)) (st : List mm_V) a b, mm_E d 27 148 lv ll (.inr (.inl b) :: .inr (.inl a) :: st) n I L P = mm_E d 27 149 lv ll (.inl (if a < b then -1 else if a = b then 0 else 1) :: st) n I L P) ∧
  (∀ (lv : List mm_V) (ll : List (Option Int)) (st : List mm_V) a, mm_E d 27 149 lv ll (.inl a :: st) n I L P = if a ≤ 0 then mm_E d 27 155 lv ll st n I L P else mm_E d 27 152 lv ll st n I L P) ∧
  (∀ (ll : List (Option Int)) (lv : List mm_V) (st : List mm_V), mm_E d 27 152 lv ll st n I L P = mm_E d 27 154 lv ll (.inl 1000000 :: st) n I L P) ∧
  (∀ (lv : List mm_V) (ll : List (Option Int)) z, mm_E d 27 154 lv ll [.inl z] n I L P = some (some (.inl z), n, I, L, P)) ∧
  (∀ (lv : List mm_V) (st : List mm_V) z (g0 : Option Int) (g1 : Option Int) (g2 : Option Int) (g4 : Option Int), mm_E d 27 155 lv [g0, g1, g2, (some z), g4] st n I L P = mm_E d 27 156 lv [g0, g1, g2, (some z), g4] (.inr (.inl z) :: st) n I L P) ∧
  (∀ (ll : List (Option Int)) (lv : List mm_V) (st : List mm_V), mm_E d 27 156 lv ll st n I L P = mm_E d 27 159 lv ll (.inr (.inl (-1000000)) :: st) n I L P) ∧
  (∀ (lv : List mm_V) (ll : List (Option Int)) (st : List mm_V) a b, mm_E d 27 159 lv ll (.inr (.inl b) :: .inr (.inl a) :: st) n I L P = mm_E d 27 160 lv ll (.inl (if a < b then -1 else if a = b then 0 else 1) :: st) n I L P) ∧
  (∀ (lv : List mm_V) (ll : List (Option Int)) (st : List mm_V) a, mm_E d 27 160 lv ll (.inl a :: st) n I L P = if 0 ≤ a then mm_E d 27 168 lv ll st n I L P else mm_E d 27 163 lv ll st n I L P) ∧
  (∀ (ll : List (Option Int)) (lv : List mm_V) (st : List mm_V), mm_E d 27 163 lv ll st n I L P = mm_E d 27 165 lv ll (.inl (-1000000) :: st) n I L P) ∧
  (∀ (lv : List mm_V) (ll : List (Option Int)) (st : List mm_V), mm_E d 27 165 lv ll st n I L P = mm_E d 27 170 lv ll st n I L P) ∧
  (∀ (lv : List mm_V) (st : List mm_V) z (g0 : Option Int) (g1 : Option Int) (g2 : Option Int) (g4 : Option Int), mm_E d 27 168 lv [g0, g1, g2, (some z), g4] st n I L P = mm_E d 27 169 lv [g0, g1, g2, (some z), g4] (.inr (.inl z) :: st) n I L P) ∧
  (∀ (lv : List mm_V) (ll : List (Option Int)) (st : List mm_V) a, mm_E d 27 169 lv ll (.inr (.inl a) :: st) n I L P = mm_E d 27 170 lv ll (.inl (mm_w a) :: st) n I L P) ∧
  (∀ (lv : List mm_V) (ll : List (Option Int)) z, mm_E d 27 170 lv ll [.inl z] n I L P = some (some (.inl z), n, I, L, P)) :=
  ⟨fun _ _ _ _ _ _ _ => mq_il (i := 0) rfl rfl,
   fun _ _ _ _ => mq_sw (l := [(2, 48), (3, 56), (4, 64), (5, 73), (6, 89), (7, 103), (8, 117), (9, 131)]) (df := 139) rfl,
   fun _ _ _ _ _ _ _ => mq_il (i := 1) rfl rfl,
   fun _ _ _ _ _ _ _ => mq_il (i := 2) rfl rfl,
   fun _ _ _ _ _ => mq_bi rfl,
   fun _ _ _ _ => mq_i2l rfl,
   fun _ _ _ _ _ _ _ _ _ _ _ _ => mq_ls (i := 3) rfl rfl rfl,
   fun _ _ _ => mq_go rfl,
   fun _ _ _ _ _ _ _ => mq_il (i := 1) rfl rfl,
   fun _ _ _ _ _ _ _ => mq_il (i := 2) rfl rfl,
   fun _ _ _ _ _ => mq_bi rfl,
   fun _ _ _ _ => mq_i2l rfl,
   fun _ _ _ _ _ _ _ _ _ _ _ _ => mq_ls (i := 3) rfl rfl rfl,
   fun _ _ _ => mq_go rfl,
   fun _ _ _ _ _ _ _ => mq_il (i := 1) rfl rfl,
   fun _ _ _ _ => mq_i2l rfl,
   fun _ _ _ _ _ _ _ => mq_il (i := 2) rfl rfl,
   fun _ _ _ _ => mq_i2l rfl,
   fun _ _ _ _ _ => mq_bl rfl,
   fun _ _ _ _ _ _ _ _ _ _ _ _ => mq_ls (i := 3) rfl rfl rfl,
   fun _ _ _ => mq_go rfl,
   fun _ _ _ _ _ _ _ => mq_il (i := 2) rfl rfl,
   fun _ _ _ _ => mq_if_ne rfl,
   fun _ _ _ => mq_push rfl,
   fun _ _ _ => mq_go rfl,
   fun _ _ _ _ _ _ _ => mq_il (i := 1) rfl rfl,
   fun _ _ _ _ _ _ _ => mq_il (i := 2) rfl rfl,
   fun _ _ _ _ _ h0 => mq_di rfl h0,
   fun _ _ _ _ => mq_i2l rfl,
   fun _ _ _ _ _ _ _ _ _ _ _ _ => mq_ls (i := 3) rfl rfl rfl,
   fun _ _ _ => mq_go rfl,
   fun _ _ _ _ _ _ _ => mq_il (i := 1) rfl rfl,
   fun _ _ _ _ _ _ _ => mq_il (i := 2) rfl rfl,
   fun _ _ _ _ _ => mq_ic_ne rfl,
   fun _ _ _ => mq_push rfl,
   fun _ _ _ => mq_go rfl,
   fun _ _ _ => mq_push rfl,
   fun _ _ _ _ _ _ _ _ _ _ _ _ => mq_ls (i := 3) rfl rfl rfl,
   fun _ _ _ => mq_go rfl,
   fun _ _ _ _ _ _ _ => mq_il (i := 1) rfl rfl,
   fun _ _ _ _ _ _ _ => mq_il (i := 2) rfl rfl,
   fun _ _ _ _ _ => mq_ic_ge rfl,
   fun _ _ _ => mq_push rfl,
   fun _ _ _ => mq_go rfl,
   fun _ _ _ => mq_push rfl,
   fun _ _ _ _ _ _ _ _ _ _ _ _ => mq_ls (i := 3) rfl rfl rfl,
   fun _ _ _ => mq_go rfl,
   fun _ _ _ _ _ _ _ => mq_il (i := 1) rfl rfl,
   fun _ _ _ _ _ _ _ => mq_il (i := 2) rfl rfl,
   fun _ _ _ _ _ => mq_ic_le rfl,
   fun _ _ _ => mq_push rfl,
   fun _ _ _ => mq_go rfl,
   fun _ _ _ => mq_push rfl,
   fun _ _ _ _ _ _ _ _ _ _ _ _ => mq_ls (i := 3) rfl rfl rfl,
   fun _ _ _ => mq_go rfl,
   fun _ _ _ _ _ _ _ => mq_il (i := 1) rfl rfl,
   fun _ _ _ _ _ _ _ => mq_il (i := 2) rfl rfl,
   fun _ _ _ _ _ => mq_bi rfl,
   fun _ _ _ _ => mq_i2l rfl,
   fun _ _ _ _ _ _ _ _ _ _ _ _ => mq_ls (i := 3) rfl rfl rfl,
   fun _ _ _ => mq_go rfl,
   fun _ _ _ _ _ _ _ => mq_il (i := 1) rfl rfl,
   fun _ _ _ _ _ _ _ => mq_il (i := 2) rfl rfl,
   fun _ _ _ _ _ => mq_bi rfl,
   fun _ _ _ _ => mq_i2l rfl,
   fun _ _ _ _ _ _ _ _ _ _ _ _ => mq_ls (i := 3) rfl rfl rfl,
   fun _ _ _ _ _ _ _ => mq_ll (i := 3) rfl rfl,
   fun _ _ _ => mq_push rfl,
   fun _ _ _ _ _ => mq_lcmp rfl,
   fun _ _ _ _ => mq_if_le rfl,
   fun _ _ _ => mq_push rfl,
   fun _ _ _ => mq_ri rfl,
   fun _ _ _ _ _ _ _ => mq_ll (i := 3) rfl rfl,
   fun _ _ _ => mq_push rfl,
   fun _ _ _ _ _ => mq_lcmp rfl,
   fun _ _ _ _ => mq_if_ge rfl,
   fun _ _ _ => mq_push rfl,
   fun _ _ _ => mq_go rfl,
   fun _ _ _ _ _ _ _ => mq_ll (i := 3) rfl rfl,
   fun _ _ _ _ => mq_l2i rfl,
   fun _ _ _ => mq_ri rfl⟩
theorem eX3_joint (d n : Nat) (I L : mm_I) (P : mm_P) (x0 : Int) (x1 : Int) (x2 : Int) : mm_rn (d + 1) 27 [.inl x0, .inl x1, .inl x2] n I L P = mm_E d 27 0 [.inl x0, .inl x1, .inl x2, mm_junk, mm_junk] [none, none, none, none, none] [] n I L P := rfl

set_option maxRecDepth 20000 in
set_option maxHeartbeats 8000000 in
theorem kX5_init (d n : Nat) (I L : mm_I) (P : mm_P) :
  (∀ (st : List mm_V) z, mm_E d 39 0 [(.inr (.inr z))] [] st n I L P = mm_E d 39 1 [(.inr (.inr z))] [] ((.inr (.inr z)) :: st) n I L P) ∧
  (∀ (lv : List mm_V) a, (a < n) → mm_E d 39 1 lv [] (.inr (.inr (some a)) :: []) n I L P = mm_E d 39 4 lv [] [] n I L P) ∧
  (∀ (st : List mm_V) z, mm_E d 39 4 [(.inr (.inr z))] [] st n I L P = mm_E d 39 5 [(.inr (.inr z))] [] ((.inr (.inr z)) :: st) n I L P) ∧
  (∀ (lv : List mm_V) (st : List mm_V), mm_E d 39 5 lv [] st n I L P = mm_E d 39 7 lv [] (.inl 8 :: st) n I L P) ∧
  (∀ (lv : List mm_V) (st : List mm_V) z, (n < mm_NC ∧ mm_ty n = (20, z.toNat) ∧ 0 ≤ z) → mm_E d 39 7 lv [] (.inl z :: st) n I L P = mm_E d 39 9 lv [] (.inr (.inr (some n)) :: st) (n + 1) (mm_zi I n) (mm_zi L n) (mm_zp P n)) ∧
  (∀ (lv : List mm_V) (st : List mm_V) a z, (mm_ok n a 5) → mm_E d 39 9 lv [] (.inr (.inr z) :: .inr (.inr (some a)) :: st) n I L P = mm_E d 39 12 lv [] st n I L (mm_up P a 0 z)) ∧
  (∀ (st : List mm_V) z, mm_E d 39 12 [(.inr (.inr z))] [] st n I L P = mm_E d 39 13 [(.inr (.inr z))] [] ((.inr (.inr z)) :: st) n I L P) ∧
  (∀ (lv : List mm_V) (st : List mm_V), mm_E d 39 13 lv [] st n I L P = mm_E d 39 15 lv [] (.inl 8 :: st) n I L P) ∧
  (∀ (lv : List mm_V) (st : List mm_V) z, (n < mm_NC ∧ mm_ty n = (20, z.toNat) ∧ 0 ≤ z) → mm_E d 39 15 lv [] (.inl z :: st) n I L P = mm_E d 39 17 lv [] (.inr (.inr (some n)) :: st) (n + 1) (mm_zi I n) (mm_zi L n) (mm_zp P n)) ∧
  (∀ (lv : List mm_V) (st : List mm_V) a z, (mm_ok n a 5) → mm_E d 39 17 lv [] (.inr (.inr z) :: .inr (.inr (some a)) :: st) n I L P = mm_E d 39 20 lv [] st n I L (mm_up P a 1 z)) ∧
  (∀ (st : List mm_V) z, mm_E d 39 20 [(.inr (.inr z))] [] st n I L P = mm_E d 39 21 [(.inr (.inr z))] [] ((.inr (.inr z)) :: st) n I L P) ∧
  (∀ (lv : List mm_V) (st : List mm_V), mm_E d 39 21 lv [] st n I L P = mm_E d 39 23 lv [] (.inl 8 :: st) n I L P) ∧
  (∀ (lv : List mm_V) (st : List mm_V) z, (n < mm_NC ∧ mm_ty n = (20, z.toNat) ∧ 0 ≤ z) → mm_E d 39 23 lv [] (.inl z :: st) n I L P = mm_E d 39 25 lv [] (.inr (.inr (some n)) :: st) (n + 1) (mm_zi I n) (mm_zi L n) (mm_zp P n)) ∧
  (∀ (lv : List mm_V) (st : List mm_V) a z, (mm_ok n a 5) → mm_E d 39 25 lv [] (.inr (.inr z) :: .inr (.inr (some a)) :: st) n I L P = mm_E d 39 28 lv [] st n I L (mm_up P a 2 z)) ∧
  (∀ (lv : List mm_V), mm_E d 39 28 lv [] [] n I L P = some (none, n, I, L, P)) :=
  ⟨fun _ _ => mq_al (i := 0) rfl rfl,
   fun _ _ h0 => mq_oi rfl h0 (Nat.le_of_ble_eq_true rfl),
   fun _ _ => mq_al (i := 0) rfl rfl,
   fun _ _ => mq_push rfl,
   fun _ _ _ h0 => mq_newa rfl h0,
   fun _ _ _ _ h0 => mq_putR rfl h0,
   fun _ _ => mq_al (i := 0) rfl rfl,
   fun _ _ => mq_push rfl,
   fun _ _ _ h0 => mq_newa rfl h0,
   fun _ _ _ _ h0 => mq_putR rfl h0,
   fun _ _ => mq_al (i := 0) rfl rfl,
   fun _ _ => mq_push rfl,
   fun _ _ _ h0 => mq_newa rfl h0,
   fun _ _ _ _ h0 => mq_putR rfl h0,
   fun _ => mq_rv rfl⟩
theorem eX5_init (d n : Nat) (I L : mm_I) (P : mm_P) (x0 : Option Nat) : mm_rn (d + 1) 39 [.inr (.inr x0)] n I L P = mm_E d 39 0 [.inr (.inr x0)] [] [] n I L P := rfl

set_option maxRecDepth 20000 in
set_option maxHeartbeats 8000000 in
theorem kX5_beAsTold (d n : Nat) (I L : mm_I) (P : mm_P) :
  (∀ (lv : List mm_V) (st : List mm_V), mm_E d 40 0 lv [] st n I L P = mm_E d 40 1 lv [] (.inl 0 :: st) n I L P) ∧
  (∀ (st : List mm_V) z (l0 : mm_V) (l1 : mm_V) (l2 : mm_V), mm_E d 40 1 [l0, l1, l2] [] ((.inl z) :: st) n I L P = mm_E d 40 2 [l0, l1, (.inl z)] [] st n I L P) ∧
  (∀ (lv : List mm_V) (st : List mm_V), mm_E d 40 3 lv [] st n I L P = mm_E d 40 5 lv [] (.inl 8 :: st) n I L P) ∧
  (∀ (lv : List mm_V) (st : List mm_V) a b, mm_E d 40 5 lv [] (.inl b :: .inl a :: st) n I L P = if b ≤ a then mm_E d 40 52 lv [] st n I L P else mm_E d 40 8 lv [] st n I L P) ∧
  (∀ (st : List mm_V) z (l1 : mm_V) (l2 : mm_V), mm_E d 40 8 [(.inr (.inr z)), l1, l2] [] st n I L P = mm_E d 40 9 [(.inr (.inr z)), l1, l2] [] ((.inr (.inr z)) :: st) n I L P) ∧
  (∀ (lv : List mm_V) (st : List mm_V) a, (mm_ok n a 5) → mm_E d 40 9 lv [] (.inr (.inr (some a)) :: st) n I L P = mm_E d 40 12 lv [] (.inr (.inr (P a 0)) :: st) n I L P) ∧
  (∀ (st : List mm_V) z (l0 : mm_V) (l1 : mm_V), mm_E d 40 12 [l0, l1, (.inl z)] [] st n I L P = mm_E d 40 13 [l0, l1, (.inl z)] [] ((.inl z) :: st) n I L P) ∧
  (∀ (st : List mm_V) z (l0 : mm_V) (l1 : mm_V), mm_E d 40 13 [l0, l1, (.inl z)] [] st n I L P = mm_E d 40 14 [l0, l1, (.inl z)] [] ((.inl z) :: st) n I L P) ∧
  (∀ (st : List mm_V) z (l0 : mm_V) (l2 : mm_V), mm_E d 40 14 [l0, (.inr (.inr z)), l2] [] st n I L P = mm_E d 40 15 [l0, (.inr (.inr z)), l2] [] ((.inr (.inr z)) :: st) n I L P) ∧
  (∀ (lv : List mm_V) (st : List mm_V) a, (mm_ok n a 9) → mm_E d 40 15 lv [] (.inr (.inr (some a)) :: st) n I L P = mm_E d 40 18 lv [] (.inl (I a 0) :: st) n I L P) ∧
  (∀ (lv : List mm_V) (st : List mm_V) a b, mm_E d 40 18 lv [] (.inl b :: .inl a :: st) n I L P = if b ≤ a then mm_E d 40 30 lv [] st n I L P else mm_E d 40 21 lv [] st n I L P) ∧
  (∀ (st : List mm_V) z (l0 : mm_V) (l2 : mm_V), mm_E d 40 21 [l0, (.inr (.inr z)), l2] [] st n I L P = mm_E d 40 22 [l0, (.inr (.inr z)), l2] [] ((.inr (.inr z)) :: st) n I L P) ∧
  (∀ (lv : List mm_V) (st : List mm_V) a, (mm_ok n a 9) → mm_E d 40 22 lv [] (.inr (.inr (some a)) :: st) n I L P = mm_E d 40 25 lv [] (.inr (.inr (P a 4)) :: st) n I L P) ∧
  (∀ (st : List mm_V) z (l0 : mm_V) (l1 : mm_V), mm_E d 40 25 [l0, l1, (.inl z)] [] st n I L P = mm_E d 40 26 [l0, l1, (.inl z)] [] ((.inl z) :: st) n I L P) ∧
  (∀ (lv : List mm_V) (st : List mm_V) a i, (mm_ix n a 20 i) → mm_E d 40 26 lv [] (.inl i :: .inr (.inr (some a)) :: st) n I L P = mm_E d 40 27 lv [] (.inl (I a i.toNat) :: st) n I L P) ∧
  (∀ (lv : List mm_V) (st : List mm_V), mm_E d 40 27 lv [] st n I L P = mm_E d 40 31 lv [] st n I L P) ∧
  (∀ (lv : List mm_V) (st : List mm_V), mm_E d 40 30 lv [] st n I L P = mm_E d 40 31 lv [] (.inl 0 :: st) n I L P) ∧
  (∀ (lv : List mm_V) (st : List mm_V) a i z, (mm_ix n a 20 i) → mm_E d 40 31 lv [] (.inl z :: .inl i :: .inr (.inr (some a)) :: st) n I L P = mm_E d 40 32 lv [] st n (mm_ui I a i.toNat z) L P) ∧
  (∀ (st : List mm_V) z (l1 : mm_V) (l2 : mm_V), mm_E d 40 32 [(.inr (.inr z)), l1, l2] [] st n I L P = mm_E d 40 33 [(.inr (.inr z)), l1, l2] [] ((.inr (.inr z)) :: st) n I L P) ∧
  (∀ (lv : List mm_V) (st : List mm_V) a, (mm_ok n a 5) → mm_E d 40 33 lv [] (.inr (.inr (some a)) :: st) n I L P = mm_E d 40 36 lv [] (.inr (.inr (P a 1)) :: st) n I L P) ∧
  (∀ (st : List mm_V) z (l0 : mm_V) (l1 : mm_V), mm_E d 40 36 [l0, l1, (.inl z)] [] st n I L P = mm_E d 40 37 [l0, l1, (.inl z)] [] ((.inl z) :: st) n I L P) ∧
  (∀ (lv : List mm_V) (st : List mm_V), mm_E d 40 37 lv [] st n I L P = mm_E d 40 38 lv [] (.inl 0 :: st) n I L P) ∧
  (∀ (lv : List mm_V) (st : List mm_V) a i z, (mm_ix n a 20 i) → mm_E d 40 38 lv [] (.inl z :: .inl i :: .inr (.inr (some a)) :: st) n I L P = mm_E d 40 39 lv [] st n (mm_ui I a i.toNat z) L P) ∧
  (∀ (st : List mm_V) z (l1 : mm_V) (l2 : mm_V), mm_E d 40 39 [(.inr (.inr z)), l1, l2] [] st n I L P = mm_E d 40 40 [(.inr (.inr z)), l1, l2] [] ((.inr (.inr z)) :: st) n I L P) ∧
  (∀ (lv : List mm_V) (st : List mm_V) a, (mm_ok n a 5) → mm_E d 40 40 lv [] (.inr (.inr (some a)) :: st) n I L P = mm_E d 40 43 lv [] (.inr (.inr (P a 2)) :: st) n I L P) ∧
  (∀ (st : List mm_V) z (l0 : mm_V) (l1 : mm_V), mm_E d 40 43 [l0, l1, (.inl z)] [] st n I L P = mm_E d 40 44 [l0, l1, (.inl z)] [] ((.inl z) :: st) n I L P) ∧
  (∀ (lv : List mm_V) (st : List mm_V), mm_E d 40 44 lv [] st n I L P = mm_E d 40 45 lv [] (.inl 0 :: st) n I L P) ∧
  (∀ (lv : List mm_V) (st : List mm_V) a i z, (mm_ix n a 20 i) → mm_E d 40 45 lv [] (.inl z :: .inl i :: .inr (.inr (some a)) :: st) n I L P = mm_E d 40 46 lv [] st n (mm_ui I a i.toNat z) L P) ∧
  (∀ (st : List mm_V) z (l0 : mm_V) (l1 : mm_V), mm_E d 40 46 [l0, l1, (.inl z)] [] st n I L P = mm_E d 40 49 [l0, l1, (.inl (mm_add z 1))] [] st n I L P) ∧
  (∀ (lv : List mm_V) (st : List mm_V), mm_E d 40 49 lv [] st n I L P = mm_E d 40 2 lv [] st n I L P) ∧
  (∀ (st : List mm_V) z (l1 : mm_V) (l2 : mm_V), mm_E d 40 52 [(.inr (.inr z)), l1, l2] [] st n I L P = mm_E d 40 53 [(.inr (.inr z)), l1, l2] [] ((.inr (.inr z)) :: st) n I L P) ∧
  (∀ (lv : List mm_V) (st : List mm_V), mm_E d 40 53 lv [] st n I L P = mm_E d 40 54 lv [] (.inl 0 :: st) n I L P) ∧
  (∀ (lv : List mm_V) (st : List mm_V) a z, (mm_ok n a 5) → mm_E d 40 54 lv [] (.inl z :: .inr (.inr (some a)) :: st) n I L P = mm_E d 40 57 lv [] st n (mm_ui I a 3 z) L P) ∧
  (∀ (st : List mm_V) z (l1 : mm_V) (l2 : mm_V), mm_E d 40 57 [(.inr (.inr z)), l1, l2] [] st n I L P = mm_E d 40 58 [(.inr (.inr z)), l1, l2] [] ((.inr (.inr z)) :: st) n I L P) ∧
  (∀ (st : List mm_V) z (l0 : mm_V) (l2 : mm_V), mm_E d 40 58 [l0, (.inr (.inr z)), l2] [] st n I L P = mm_E d 40 59 [l0, (.inr (.inr z)), l2] [] ((.inr (.inr z)) :: st) n I L P) ∧
  (∀ (lv : List mm_V) (st : List mm_V) a, (mm_ok n a 9) → mm_E d 40 59 lv [] (.inr (.inr (some a)) :: st) n I L P = mm_E d 40 62 lv [] (.inl (I a 1) :: st) n I L P) ∧
  (∀ (lv : List mm_V) (st : List mm_V) a z, (mm_ok n a 5) → mm_E d 40 62 lv [] (.inl z :: .inr (.inr (some a)) :: st) n I L P = mm_E d 40 65 lv [] st n (mm_ui I a 4 z) L P) ∧
  (∀ (st : List mm_V) z (l1 : mm_V) (l2 : mm_V), mm_E d 40 65 [(.inr (.inr z)), l1, l2] [] st n I L P = mm_E d 40 66 [(.inr (.inr z)), l1, l2] [] ((.inr (.inr z)) :: st) n I L P) ∧
  (∀ (lv : List mm_V) (st : List mm_V), mm_E d 40 66 lv [] st n I L P = mm_E d 40 67 lv [] (.inl 3 :: st) n I L P) ∧
  (∀ (lv : List mm_V) (st : List mm_V) a z, (mm_ok n a 5) → mm_E d 40 67 lv [] (.inl z :: .inr (.inr (some a)) :: st) n I L P = mm_E d 40 70 lv [] st n (mm_ui I a 5 z) L P) ∧
  (∀ (st : List mm_V) z (l1 : mm_V) (l2 : mm_V), mm_E d 40 70 [(.inr (.inr z)), l1, l2] [] st n I L P = mm_E d 40 71 [(.inr (.inr z)), l1, l2] [] ((.inr (.inr z)) :: st) n I L P) ∧
  (∀ (st : List mm_V) z (l0 : mm_V) (l2 : mm_V), mm_E d 40 71 [l0, (.inr (.inr z)), l2] [] st n I L P = mm_E d 40 72 [l0, (.inr (.inr z)), l2] [] ((.inr (.inr z)) :: st) n I L P) ∧
  (∀ (lv : List mm_V) (st : List mm_V) a, (mm_ok n a 9) → mm_E d 40 72 lv [] (.inr (.inr (some a)) :: st) n I L P = mm_E d 40 75 lv [] (.inl (I a 3) :: st) n I L P) ∧
  (∀ (lv : List mm_V) (st : List mm_V) a z, (mm_ok n a 5) → mm_E d 40 75 lv [] (.inl z :: .inr (.inr (some a)) :: st) n I L P = mm_E d 40 78 lv [] st n (mm_ui I a 6 z) L P) ∧
  (∀ (st : List mm_V) z (l1 : mm_V) (l2 : mm_V), mm_E d 40 78 [(.inr (.inr z)), l1, l2] [] st n I L P = mm_E d 40 79 [(.inr (.inr z)), l1, l2] [] ((.inr (.inr z)) :: st) n I L P) ∧
  (∀ (lv : List mm_V) (st : List mm_V), mm_E d 40 79 lv [] st n I L P = mm_E d 40 80 lv [] (.inl 0 :: st) n I L P) ∧
  (∀ (lv : List mm_V) (st : List mm_V) a z, (mm_ok n a 5) → mm_E d 40 80 lv [] (.inl z :: .inr (.inr (some a)) :: st) n I L P = mm_E d 40 83 lv [] st n (mm_ui I a 7 z) L P) ∧
  (∀ (st : List mm_V) z (l1 : mm_V) (l2 : mm_V), mm_E d 40 83 [(.inr (.inr z)), l1, l2] [] st n I L P = mm_E d 40 84 [(.inr (.inr z)), l1, l2] [] ((.inr (.inr z)) :: st) n I L P) ∧
  (∀ (lv : List mm_V) (st : List mm_V), mm_E d 40 84 lv [] st n I L P = mm_E d 40 85 lv [] (.inl 0 :: st) n I L P) ∧
  (∀ (lv : List mm_V) (st : List mm_V) a z, (mm_ok n a 5) → mm_E d 40 85 lv [] (.inl z :: .inr (.inr (some a)) :: st) n I L P = mm_E d 40 88 lv [] st n (mm_ui I a 8 z) L P) ∧
  (∀ (lv : List mm_V), mm_E d 40 88 lv [] [] n I L P = some (none, n, I, L, P)) :=
  ⟨fun _ _ => mq_push rfl,
   fun _ _ _ _ _ => mq_is (i := 2) rfl rfl rfl,
   fun _ _ => mq_push rfl,
   fun _ _ _ _ => mq_ic_ge rfl,
   fun _ _ _ _ => mq_al (i := 0) rfl rfl,
   fun _ _ _ h0 => mq_getR rfl h0,
   fun _ _ _ _ => mq_il (i := 2) rfl rfl,
   fun _ _ _ _ => mq_il (i := 2) rfl rfl,
   fun _ _ _ _ => mq_al (i := 1) rfl rfl,
   fun _ _ _ h0 => mq_getI rfl h0,
   fun _ _ _ _ => mq_ic_ge rfl,
   fun _ _ _ _ => mq_al (i := 1) rfl rfl,
   fun _ _ _ h0 => mq_getR rfl h0,
   fun _ _ _ _ => mq_il (i := 2) rfl rfl,
   fun _ _ _ _ h0 => mq_iald rfl h0,
   fun _ _ => mq_go rfl,
   fun _ _ => mq_push rfl,
   fun _ _ _ _ _ h0 => mq_iast rfl h0,
   fun _ _ _ _ => mq_al (i := 0) rfl rfl,
   fun _ _ _ h0 => mq_getR rfl h0,
   fun _ _ _ _ => mq_il (i := 2) rfl rfl,
   fun _ _ => mq_push rfl,
   fun _ _ _ _ _ h0 => mq_iast rfl h0,
   fun _ _ _ _ => mq_al (i := 0) rfl rfl,
   fun _ _ _ h0 => mq_getR rfl h0,
   fun _ _ _ _ => mq_il (i := 2) rfl rfl,
   fun _ _ => mq_push rfl,
   fun _ _ _ _ _ h0 => mq_iast rfl h0,
   fun _ _ _ _ => mq_iinc (i := 2) rfl rfl rfl rfl,
   fun _ _ => mq_go rfl,
   fun _ _ _ _ => mq_al (i := 0) rfl rfl,
   fun _ _ => mq_push rfl,
   fun _ _ _ _ h0 => mq_putI rfl h0,
   fun _ _ _ _ => mq_al (i := 0) rfl rfl,
   fun _ _ _ _ => mq_al (i := 1) rfl rfl,
   fun _ _ _ h0 => mq_getI rfl h0,
   fun _ _ _ _ h0 => mq_putI rfl h0,
   fun _ _ _ _ => mq_al (i := 0) rfl rfl,
   fun _ _ => mq_push rfl,
   fun _ _ _ _ h0 => mq_putI rfl h0,
   fun _ _ _ _ => mq_al (i := 0) rfl rfl,
   fun _ _ _ _ => mq_al (i := 1) rfl rfl,
   fun _ _ _ h0 => mq_getI rfl h0,
   fun _ _ _ _ h0 => mq_putI rfl h0,
   fun _ _ _ _ => mq_al (i := 0) rfl rfl,
   fun _ _ => mq_push rfl,
   fun _ _ _ _ h0 => mq_putI rfl h0,
   fun _ _ _ _ => mq_al (i := 0) rfl rfl,
   fun _ _ => mq_push rfl,
   fun _ _ _ _ h0 => mq_putI rfl h0,
   fun _ => mq_rv rfl⟩
theorem hX5_beAsTold_2 (d n : Nat) (I L : mm_I) (P : mm_P) : ∀ (st : List mm_V) z (l0 : mm_V) (l1 : mm_V), mm_E d 40 2 [l0, l1, (.inl z)] [] st n I L P = mm_E d 40 3 [l0, l1, (.inl z)] [] ((.inl z) :: st) n I L P := fun _ _ _ _ => mq_il (i := 2) rfl rfl
theorem eX5_beAsTold (d n : Nat) (I L : mm_I) (P : mm_P) (x0 : Option Nat) (x1 : Option Nat) : mm_rn (d + 1) 40 [.inr (.inr x0), .inr (.inr x1)] n I L P = mm_E d 40 0 [.inr (.inr x0), .inr (.inr x1), mm_junk] [] [] n I L P := rfl

set_option maxRecDepth 20000 in
set_option maxHeartbeats 8000000 in
theorem kX5_copyFrom (d n : Nat) (I L : mm_I) (P : mm_P) :
  (∀ (st : List mm_V) z (l0 : mm_V), mm_E d 41 0 [l0, (.inr (.inr z))] [] st n I L P = mm_E d 41 1 [l0, (.inr (.inr z))] [] ((.inr (.inr z)) :: st) n I L P) ∧
  (∀ (lv : List mm_V) (st : List mm_V) a, (mm_ok n a 5) → mm_E d 41 1 lv [] (.inr (.inr (some a)) :: st) n I L P = mm_E d 41 4 lv [] (.inr (.inr (P a 0)) :: st) n I L P) ∧
  (∀ (lv : List mm_V) (st : List mm_V), mm_E d 41 4 lv [] st n I L P = mm_E d 41 5 lv [] (.inl 0 :: st) n I L P) ∧
  (∀ (st : List mm_V) z (l1 : mm_V), mm_E d 41 5 [(.inr (.inr z)), l1] [] st n I L P = mm_E d 41 6 [(.inr (.inr z)), l1] [] ((.inr (.inr z)) :: st) n I L P) ∧
  (∀ (lv : List mm_V) (st : List mm_V) a, (mm_ok n a 5) → mm_E d 41 6 lv [] (.inr (.inr (some a)) :: st) n I L P = mm_E d 41 9 lv [] (.inr (.inr (P a 0)) :: st) n I L P) ∧
  (∀ (lv : List mm_V) (st : List mm_V), mm_E d 41 9 lv [] st n I L P = mm_E d 41 10 lv [] (.inl 0 :: st) n I L P) ∧
  (∀ (lv : List mm_V) (st : List mm_V), mm_E d 41 10 lv [] st n I L P = mm_E d 41 12 lv [] (.inl 8 :: st) n I L P) ∧
  (∀ (lv : List mm_V) s t k u v, (s < n ∧ t < n ∧ s ≠ t ∧ (mm_ty s).1 = 20 ∧ (mm_ty t).1 = 20 ∧ 0 ≤ k ∧ 0 ≤ v ∧ 0 ≤ u ∧ v + k ≤ ((mm_ty s).2 : Int) ∧ u + k ≤ ((mm_ty t).2 : Int)) → mm_E d 41 12 lv [] (.inl k :: .inl u :: .inr (.inr (some t)) :: .inl v :: .inr (.inr (some s)) :: []) n I L P = mm_E d 41 15 lv [] [] n (mm_cpy I s v.toNat t u.toNat k.toNat) L P) ∧
  (∀ (st : List mm_V) z (l0 : mm_V), mm_E d 41 15 [l0, (.inr (.inr z))] [] st n I L P = mm_E d 41 16 [l0, (.inr (.inr z))] [] ((.inr (.inr z)) :: st) n I L P) ∧
  (∀ (lv : List mm_V) (st : List mm_V) a, (mm_ok n a 5) → mm_E d 41 16 lv [] (.inr (.inr (some a)) :: st) n I L P = mm_E d 41 19 lv [] (.inr (.inr (P a 1)) :: st) n I L P) ∧
  (∀ (lv : List mm_V) (st : List mm_V), mm_E d 41 19 lv [] st n I L P = mm_E d 41 20 lv [] (.inl 0 :: st) n I L P) ∧
  (∀ (st : List mm_V) z (l1 : mm_V), mm_E d 41 20 [(.inr (.inr z)), l1] [] st n I L P = mm_E d 41 21 [(.inr (.inr z)), l1] [] ((.inr (.inr z)) :: st) n I L P) ∧
  (∀ (lv : List mm_V) (st : List mm_V) a, (mm_ok n a 5) → mm_E d 41 21 lv [] (.inr (.inr (some a)) :: st) n I L P = mm_E d 41 24 lv [] (.inr (.inr (P a 1)) :: st) n I L P) ∧
  (∀ (lv : List mm_V) (st : List mm_V), mm_E d 41 24 lv [] st n I L P = mm_E d 41 25 lv [] (.inl 0 :: st) n I L P) ∧
  (∀ (lv : List mm_V) (st : List mm_V), mm_E d 41 25 lv [] st n I L P = mm_E d 41 27 lv [] (.inl 8 :: st) n I L P) ∧
  (∀ (lv : List mm_V) s t k u v, (s < n ∧ t < n ∧ s ≠ t ∧ (mm_ty s).1 = 20 ∧ (mm_ty t).1 = 20 ∧ 0 ≤ k ∧ 0 ≤ v ∧ 0 ≤ u ∧ v + k ≤ ((mm_ty s).2 : Int) ∧ u + k ≤ ((mm_ty t).2 : Int)) → mm_E d 41 27 lv [] (.inl k :: .inl u :: .inr (.inr (some t)) :: .inl v :: .inr (.inr (some s)) :: []) n I L P = mm_E d 41 30 lv [] [] n (mm_cpy I s v.toNat t u.toNat k.toNat) L P) ∧
  (∀ (st : List mm_V) z (l0 : mm_V), mm_E d 41 30 [l0, (.inr (.inr z))] [] st n I L P = mm_E d 41 31 [l0, (.inr (.inr z))] [] ((.inr (.inr z)) :: st) n I L P) ∧
  (∀ (lv : List mm_V) (st : List mm_V) a, (mm_ok n a 5) → mm_E d 41 31 lv [] (.inr (.inr (some a)) :: st) n I L P = mm_E d 41 34 lv [] (.inr (.inr (P a 2)) :: st) n I L P) ∧
  (∀ (lv : List mm_V) (st : List mm_V), mm_E d 41 34 lv [] st n I L P = mm_E d 41 35 lv [] (.inl 0 :: st) n I L P) ∧
  (∀ (st : List mm_V) z (l1 : mm_V), mm_E d 41 35 [(.inr (.inr z)), l1] [] st n I L P = mm_E d 41 36 [(.inr (.inr z)), l1] [] ((.inr (.inr z)) :: st) n I L P) ∧
  (∀ (lv : List mm_V) (st : List mm_V) a, (mm_ok n a 5) → mm_E d 41 36 lv [] (.inr (.inr (some a)) :: st) n I L P = mm_E d 41 39 lv [] (.inr (.inr (P a 2)) :: st) n I L P) ∧
  (∀ (lv : List mm_V) (st : List mm_V), mm_E d 41 39 lv [] st n I L P = mm_E d 41 40 lv [] (.inl 0 :: st) n I L P) ∧
  (∀ (lv : List mm_V) (st : List mm_V), mm_E d 41 40 lv [] st n I L P = mm_E d 41 42 lv [] (.inl 8 :: st) n I L P) ∧
  (∀ (lv : List mm_V) s t k u v, (s < n ∧ t < n ∧ s ≠ t ∧ (mm_ty s).1 = 20 ∧ (mm_ty t).1 = 20 ∧ 0 ≤ k ∧ 0 ≤ v ∧ 0 ≤ u ∧ v + k ≤ ((mm_ty s).2 : Int) ∧ u + k ≤ ((mm_ty t).2 : Int)) → mm_E d 41 42 lv [] (.inl k :: .inl u :: .inr (.inr (some t)) :: .inl v :: .inr (.inr (some s)) :: []) n I L P = mm_E d 41 45 lv [] [] n (mm_cpy I s v.toNat t u.toNat k.toNat) L P) ∧
  (∀ (st : List mm_V) z (l1 : mm_V), mm_E d 41 45 [(.inr (.inr z)), l1] [] st n I L P = mm_E d 41 46 [(.inr (.inr z)), l1] [] ((.inr (.inr z)) :: st) n I L P) ∧
  (∀ (st : List mm_V) z (l0 : mm_V), mm_E d 41 46 [l0, (.inr (.inr z))] [] st n I L P = mm_E d 41 47 [l0, (.inr (.inr z))] [] ((.inr (.inr z)) :: st) n I L P) ∧
  (∀ (lv : List mm_V) (st : List mm_V) a, (mm_ok n a 5) → mm_E d 41 47 lv [] (.inr (.inr (some a)) :: st) n I L P = mm_E d 41 50 lv [] (.inl (I a 3) :: st) n I L P) ∧
  (∀ (lv : List mm_V) (st : List mm_V) a z, (mm_ok n a 5) → mm_E d 41 50 lv [] (.inl z :: .inr (.inr (some a)) :: st) n I L P = mm_E d 41 53 lv [] st n (mm_ui I a 3 z) L P) ∧
  (∀ (st : List mm_V) z (l1 : mm_V), mm_E d 41 53 [(.inr (.inr z)), l1] [] st n I L P = mm_E d 41 54 [(.inr (.inr z)), l1] [] ((.inr (.inr z)) :: st) n I L P) ∧
  (∀ (st : List mm_V) z (l0 : mm_V), mm_E d 41 54 [l0, (.inr (.inr z))] [] st n I L P = mm_E d 41 55 [l0, (.inr (.inr z))] [] ((.inr (.inr z)) :: st) n I L P) ∧
  (∀ (lv : List mm_V) (st : List mm_V) a, (mm_ok n a 5) → mm_E d 41 55 lv [] (.inr (.inr (some a)) :: st) n I L P = mm_E d 41 58 lv [] (.inl (I a 4) :: st) n I L P) ∧
  (∀ (lv : List mm_V) (st : List mm_V) a z, (mm_ok n a 5) → mm_E d 41 58 lv [] (.inl z :: .inr (.inr (some a)) :: st) n I L P = mm_E d 41 61 lv [] st n (mm_ui I a 4 z) L P) ∧
  (∀ (st : List mm_V) z (l1 : mm_V), mm_E d 41 61 [(.inr (.inr z)), l1] [] st n I L P = mm_E d 41 62 [(.inr (.inr z)), l1] [] ((.inr (.inr z)) :: st) n I L P) ∧
  (∀ (st : List mm_V) z (l0 : mm_V), mm_E d 41 62 [l0, (.inr (.inr z))] [] st n I L P = mm_E d 41 63 [l0, (.inr (.inr z))] [] ((.inr (.inr z)) :: st) n I L P) ∧
  (∀ (lv : List mm_V) (st : List mm_V) a, (mm_ok n a 5) → mm_E d 41 63 lv [] (.inr (.inr (some a)) :: st) n I L P = mm_E d 41 66 lv [] (.inl (I a 5) :: st) n I L P) ∧
  (∀ (lv : List mm_V) (st : List mm_V) a z, (mm_ok n a 5) → mm_E d 41 66 lv [] (.inl z :: .inr (.inr (some a)) :: st) n I L P = mm_E d 41 69 lv [] st n (mm_ui I a 5 z) L P) ∧
  (∀ (st : List mm_V) z (l1 : mm_V), mm_E d 41 69 [(.inr (.inr z)), l1] [] st n I L P = mm_E d 41 70 [(.inr (.inr z)), l1] [] ((.inr (.inr z)) :: st) n I L P) ∧
  (∀ (st : List mm_V) z (l0 : mm_V), mm_E d 41 70 [l0, (.inr (.inr z))] [] st n I L P = mm_E d 41 71 [l0, (.inr (.inr z))] [] ((.inr (.inr z)) :: st) n I L P) ∧
  (∀ (lv : List mm_V) (st : List mm_V) a, (mm_ok n a 5) → mm_E d 41 71 lv [] (.inr (.inr (some a)) :: st) n I L P = mm_E d 41 74 lv [] (.inl (I a 6) :: st) n I L P) ∧
  (∀ (lv : List mm_V) (st : List mm_V) a z, (mm_ok n a 5) → mm_E d 41 74 lv [] (.inl z :: .inr (.inr (some a)) :: st) n I L P = mm_E d 41 77 lv [] st n (mm_ui I a 6 z) L P) ∧
  (∀ (st : List mm_V) z (l1 : mm_V), mm_E d 41 77 [(.inr (.inr z)), l1] [] st n I L P = mm_E d 41 78 [(.inr (.inr z)), l1] [] ((.inr (.inr z)) :: st) n I L P) ∧
  (∀ (st : List mm_V) z (l0 : mm_V), mm_E d 41 78 [l0, (.inr (.inr z))] [] st n I L P = mm_E d 41 79 [l0, (.inr (.inr z))] [] ((.inr (.inr z)) :: st) n I L P) ∧
  (∀ (lv : List mm_V) (st : List mm_V) a, (mm_ok n a 5) → mm_E d 41 79 lv [] (.inr (.inr (some a)) :: st) n I L P = mm_E d 41 82 lv [] (.inl (I a 7) :: st) n I L P) ∧
  (∀ (lv : List mm_V) (st : List mm_V) a z, (mm_ok n a 5) → mm_E d 41 82 lv [] (.inl z :: .inr (.inr (some a)) :: st) n I L P = mm_E d 41 85 lv [] st n (mm_ui I a 7 z) L P) ∧
  (∀ (st : List mm_V) z (l1 : mm_V), mm_E d 41 85 [(.inr (.inr z)), l1] [] st n I L P = mm_E d 41 86 [(.inr (.inr z)), l1] [] ((.inr (.inr z)) :: st) n I L P) ∧
  (∀ (st : List mm_V) z (l0 : mm_V), mm_E d 41 86 [l0, (.inr (.inr z))] [] st n I L P = mm_E d 41 87 [l0, (.inr (.inr z))] [] ((.inr (.inr z)) :: st) n I L P) ∧
  (∀ (lv : List mm_V) (st : List mm_V) a, (mm_ok n a 5) → mm_E d 41 87 lv [] (.inr (.inr (some a)) :: st) n I L P = mm_E d 41 90 lv [] (.inl (I a 8) :: st) n I L P) ∧
  (∀ (lv : List mm_V) (st : List mm_V) a z, (mm_ok n a 5) → mm_E d 41 90 lv [] (.inl z :: .inr (.inr (some a)) :: st) n I L P = mm_E d 41 93 lv [] st n (mm_ui I a 8 z) L P) ∧
  (∀ (lv : List mm_V), mm_E d 41 93 lv [] [] n I L P = some (none, n, I, L, P)) :=
  ⟨fun _ _ _ => mq_al (i := 1) rfl rfl,
   fun _ _ _ h0 => mq_getR rfl h0,
   fun _ _ => mq_push rfl,
   fun _ _ _ => mq_al (i := 0) rfl rfl,
   fun _ _ _ h0 => mq_getR rfl h0,
   fun _ _ => mq_push rfl,
   fun _ _ => mq_push rfl,
   fun _ _ _ _ _ _ h0 => mq_acp rfl h0 (Nat.le_of_ble_eq_true rfl),
   fun _ _ _ => mq_al (i := 1) rfl rfl,
   fun _ _ _ h0 => mq_getR rfl h0,
   fun _ _ => mq_push rfl,
   fun _ _ _ => mq_al (i := 0) rfl rfl,
   fun _ _ _ h0 => mq_getR rfl h0,
   fun _ _ => mq_push rfl,
   fun _ _ => mq_push rfl,
   fun _ _ _ _ _ _ h0 => mq_acp rfl h0 (Nat.le_of_ble_eq_true rfl),
   fun _ _ _ => mq_al (i := 1) rfl rfl,
   fun _ _ _ h0 => mq_getR rfl h0,
   fun _ _ => mq_push rfl,
   fun _ _ _ => mq_al (i := 0) rfl rfl,
   fun _ _ _ h0 => mq_getR rfl h0,
   fun _ _ => mq_push rfl,
   fun _ _ => mq_push rfl,
   fun _ _ _ _ _ _ h0 => mq_acp rfl h0 (Nat.le_of_ble_eq_true rfl),
   fun _ _ _ => mq_al (i := 0) rfl rfl,
   fun _ _ _ => mq_al (i := 1) rfl rfl,
   fun _ _ _ h0 => mq_getI rfl h0,
   fun _ _ _ _ h0 => mq_putI rfl h0,
   fun _ _ _ => mq_al (i := 0) rfl rfl,
   fun _ _ _ => mq_al (i := 1) rfl rfl,
   fun _ _ _ h0 => mq_getI rfl h0,
   fun _ _ _ _ h0 => mq_putI rfl h0,
   fun _ _ _ => mq_al (i := 0) rfl rfl,
   fun _ _ _ => mq_al (i := 1) rfl rfl,
   fun _ _ _ h0 => mq_getI rfl h0,
   fun _ _ _ _ h0 => mq_putI rfl h0,
   fun _ _ _ => mq_al (i := 0) rfl rfl,
   fun _ _ _ => mq_al (i := 1) rfl rfl,
   fun _ _ _ h0 => mq_getI rfl h0,
   fun _ _ _ _ h0 => mq_putI rfl h0,
   fun _ _ _ => mq_al (i := 0) rfl rfl,
   fun _ _ _ => mq_al (i := 1) rfl rfl,
   fun _ _ _ h0 => mq_getI rfl h0,
   fun _ _ _ _ h0 => mq_putI rfl h0,
   fun _ _ _ => mq_al (i := 0) rfl rfl,
   fun _ _ _ => mq_al (i := 1) rfl rfl,
   fun _ _ _ h0 => mq_getI rfl h0,
   fun _ _ _ _ h0 => mq_putI rfl h0,
   fun _ => mq_rv rfl⟩
theorem eX5_copyFrom (d n : Nat) (I L : mm_I) (P : mm_P) (x0 : Option Nat) (x1 : Option Nat) : mm_rn (d + 1) 41 [.inr (.inr x0), .inr (.inr x1)] n I L P = mm_E d 41 0 [.inr (.inr x0), .inr (.inr x1)] [] [] n I L P := rfl

set_option maxRecDepth 20000 in
set_option maxHeartbeats 8000000 in
theorem kX5_troubles (d n : Nat) (I L : mm_I) (P : mm_P) :
  (∀ (lv : List mm_V) (st : List mm_V), mm_E d 42 0 lv [] st n I L P = mm_E d 42 1 lv [] (.inl 0 :: st) n I L P) ∧
  (∀ (st : List mm_V) z (l0 : mm_V) (l1 : mm_V) (l2 : mm_V), mm_E d 42 1 [l0, l1, l2] [] ((.inl z) :: st) n I L P = mm_E d 42 2 [l0, (.inl z), l2] [] st n I L P) ∧
  (∀ (lv : List mm_V) (st : List mm_V), mm_E d 42 2 lv [] st n I L P = mm_E d 42 3 lv [] (.inl 0 :: st) n I L P) ∧
  (∀ (st : List mm_V) z (l0 : mm_V) (l1 : mm_V) (l2 : mm_V), mm_E d 42 3 [l0, l1, l2] [] ((.inl z) :: st) n I L P = mm_E d 42 4 [l0, l1, (.inl z)] [] st n I L P) ∧
  (∀ (lv : List mm_V) (st : List mm_V), mm_E d 42 5 lv [] st n I L P = mm_E d 42 7 lv [] (.inl 8 :: st) n I L P) ∧
  (∀ (lv : List mm_V) (st : List mm_V) a b, mm_E d 42 7 lv [] (.inl b :: .inl a :: st) n I L P = if b ≤ a then mm_E d 42 31 lv [] st n I L P else mm_E d 42 10 lv [] st n I L P) ∧
  (∀ (st : List mm_V) z (l1 : mm_V) (l2 : mm_V), mm_E d 42 10 [(.inr (.inr z)), l1, l2] [] st n I L P = mm_E d 42 11 [(.inr (.inr z)), l1, l2] [] ((.inr (.inr z)) :: st) n I L P) ∧
  (∀ (lv : List mm_V) (st : List mm_V) a, (mm_ok n a 5) → mm_E d 42 11 lv [] (.inr (.inr (some a)) :: st) n I L P = mm_E d 42 14 lv [] (.inr (.inr (P a 2)) :: st) n I L P) ∧
  (∀ (st : List mm_V) z (l0 : mm_V) (l1 : mm_V), mm_E d 42 14 [l0, l1, (.inl z)] [] st n I L P = mm_E d 42 15 [l0, l1, (.inl z)] [] ((.inl z) :: st) n I L P) ∧
  (∀ (lv : List mm_V) (st : List mm_V) a i, (mm_ix n a 20 i) → mm_E d 42 15 lv [] (.inl i :: .inr (.inr (some a)) :: st) n I L P = mm_E d 42 16 lv [] (.inl (I a i.toNat) :: st) n I L P) ∧
  (∀ (lv : List mm_V) (st : List mm_V) a, mm_E d 42 16 lv [] (.inl a :: st) n I L P = if a ≤ 0 then mm_E d 42 25 lv [] st n I L P else mm_E d 42 19 lv [] st n I L P) ∧
  (∀ (st : List mm_V) z (l0 : mm_V) (l2 : mm_V), mm_E d 42 19 [l0, (.inl z), l2] [] st n I L P = mm_E d 42 20 [l0, (.inl z), l2] [] ((.inl z) :: st) n I L P) ∧
  (∀ (lv : List mm_V) (st : List mm_V), mm_E d 42 20 lv [] st n I L P = mm_E d 42 21 lv [] (.inl 1 :: st) n I L P) ∧
  (∀ (st : List mm_V) z (l0 : mm_V) (l1 : mm_V), mm_E d 42 21 [l0, l1, (.inl z)] [] st n I L P = mm_E d 42 22 [l0, l1, (.inl z)] [] ((.inl z) :: st) n I L P) ∧
  (∀ (lv : List mm_V) (st : List mm_V) a b, mm_E d 42 22 lv [] (.inl b :: .inl a :: st) n I L P = mm_E d 42 23 lv [] (.inl (mm_shl a b) :: st) n I L P) ∧
  (∀ (lv : List mm_V) (st : List mm_V) a b, mm_E d 42 23 lv [] (.inl b :: .inl a :: st) n I L P = mm_E d 42 24 lv [] (.inl (mm_or a b) :: st) n I L P) ∧
  (∀ (st : List mm_V) z (l0 : mm_V) (l1 : mm_V) (l2 : mm_V), mm_E d 42 24 [l0, l1, l2] [] ((.inl z) :: st) n I L P = mm_E d 42 25 [l0, (.inl z), l2] [] st n I L P) ∧
  (∀ (st : List mm_V) z (l0 : mm_V) (l1 : mm_V), mm_E d 42 25 [l0, l1, (.inl z)] [] st n I L P = mm_E d 42 28 [l0, l1, (.inl (mm_add z 1))] [] st n I L P) ∧
  (∀ (lv : List mm_V) (st : List mm_V), mm_E d 42 28 lv [] st n I L P = mm_E d 42 4 lv [] st n I L P) ∧
  (∀ (st : List mm_V) z (l0 : mm_V) (l2 : mm_V), mm_E d 42 31 [l0, (.inl z), l2] [] st n I L P = mm_E d 42 32 [l0, (.inl z), l2] [] ((.inl z) :: st) n I L P) ∧
  (∀ (lv : List mm_V) z, mm_E d 42 32 lv [] [.inl z] n I L P = some (some (.inl z), n, I, L, P)) :=
  ⟨fun _ _ => mq_push rfl,
   fun _ _ _ _ _ => mq_is (i := 1) rfl rfl rfl,
   fun _ _ => mq_push rfl,
   fun _ _ _ _ _ => mq_is (i := 2) rfl rfl rfl,
   fun _ _ => mq_push rfl,
   fun _ _ _ _ => mq_ic_ge rfl,
   fun _ _ _ _ => mq_al (i := 0) rfl rfl,
   fun _ _ _ h0 => mq_getR rfl h0,
   fun _ _ _ _ => mq_il (i := 2) rfl rfl,
   fun _ _ _ _ h0 => mq_iald rfl h0,
   fun _ _ _ => mq_if_le rfl,
   fun _ _ _ _ => mq_il (i := 1) rfl rfl,
   fun _ _ => mq_push rfl,
   fun _ _ _ _ => mq_il (i := 2) rfl rfl,
   fun _ _ _ _ => mq_bi rfl,
   fun _ _ _ _ => mq_bi rfl,
   fun _ _ _ _ _ => mq_is (i := 1) rfl rfl rfl,
   fun _ _ _ _ => mq_iinc (i := 2) rfl rfl rfl rfl,
   fun _ _ => mq_go rfl,
   fun _ _ _ _ => mq_il (i := 1) rfl rfl,
   fun _ _ => mq_ri rfl⟩
theorem hX5_troubles_4 (d n : Nat) (I L : mm_I) (P : mm_P) : ∀ (st : List mm_V) z (l0 : mm_V) (l1 : mm_V), mm_E d 42 4 [l0, l1, (.inl z)] [] st n I L P = mm_E d 42 5 [l0, l1, (.inl z)] [] ((.inl z) :: st) n I L P := fun _ _ _ _ => mq_il (i := 2) rfl rfl
theorem eX5_troubles (d n : Nat) (I L : mm_I) (P : mm_P) (x0 : Option Nat) : mm_rn (d + 1) 42 [.inr (.inr x0)] n I L P = mm_E d 42 0 [.inr (.inr x0), mm_junk, mm_junk] [] [] n I L P := rfl

set_option maxRecDepth 20000 in
set_option maxHeartbeats 8000000 in
theorem kX5_troublesOf (d n : Nat) (I L : mm_I) (P : mm_P) :
  (∀ (st : List mm_V) z (l1 : mm_V) (l2 : mm_V) (l3 : mm_V), mm_E d 43 0 [(.inr (.inr z)), l1, l2, l3] [] st n I L P = mm_E d 43 1 [(.inr (.inr z)), l1, l2, l3] [] ((.inr (.inr z)) :: st) n I L P) ∧
  (∀ (lv : List mm_V) a, (mm_ok n a 5) → mm_E d 43 1 lv [] (.inr (.inr (some a)) :: []) n I L P = mm_kr d 43 4 lv [] [] n (mm_rn d 42 [.inr (.inr (some a))] n I L P)) ∧
  (∀ (st : List mm_V) z (l0 : mm_V) (l1 : mm_V) (l2 : mm_V) (l3 : mm_V), mm_E d 43 4 [l0, l1, l2, l3] [] ((.inl z) :: st) n I L P = mm_E d 43 5 [l0, l1, (.inl z), l3] [] st n I L P) ∧
  (∀ (lv : List mm_V) (st : List mm_V), mm_E d 43 5 lv [] st n I L P = mm_E d 43 6 lv [] (.inl 0 :: st) n I L P) ∧
  (∀ (st : List mm_V) z (l0 : mm_V) (l1 : mm_V) (l2 : mm_V) (l3 : mm_V), mm_E d 43 6 [l0, l1, l2, l3] [] ((.inl z) :: st) n I L P = mm_E d 43 7 [l0, l1, l2, (.inl z)] [] st n I L P) ∧
  (∀ (lv : List mm_V) (st : List mm_V), mm_E d 43 8 lv [] st n I L P = mm_E d 43 10 lv [] (.inl 8 :: st) n I L P) ∧
  (∀ (lv : List mm_V) (st : List mm_V) a b, mm_E d 43 10 lv [] (.inl b :: .inl a :: st) n I L P = if b ≤ a then mm_E d 43 37 lv [] st n I L P else mm_E d 43 13 lv [] st n I L P) ∧
  (∀ (st : List mm_V) z (l1 : mm_V) (l2 : mm_V) (l3 : mm_V), mm_E d 43 13 [(.inr (.inr z)), l1, l2, l3] [] st n I L P = mm_E d 43 14 [(.inr (.inr z)), l1, l2, l3] [] ((.inr (.inr z)) :: st) n I L P) ∧
  (∀ (lv : List mm_V) (st : List mm_V) a, (mm_ok n a 5) → mm_E d 43 14 lv [] (.inr (.inr (some a)) :: st) n I L P = mm_E d 43 17 lv [] (.inr (.inr (P a 1)) :: st) n I L P) ∧
  (∀ (st : List mm_V) z (l0 : mm_V) (l1 : mm_V) (l2 : mm_V), mm_E d 43 17 [l0, l1, l2, (.inl z)] [] st n I L P = mm_E d 43 18 [l0, l1, l2, (.inl z)] [] ((.inl z) :: st) n I L P) ∧
  (∀ (lv : List mm_V) (st : List mm_V) a i, (mm_ix n a 20 i) → mm_E d 43 18 lv [] (.inl i :: .inr (.inr (some a)) :: st) n I L P = mm_E d 43 19 lv [] (.inl (I a i.toNat) :: st) n I L P) ∧
  (∀ (st : List mm_V) z (l0 : mm_V) (l2 : mm_V) (l3 : mm_V), mm_E d 43 19 [l0, (.inl z), l2, l3] [] st n I L P = mm_E d 43 20 [l0, (.inl z), l2, l3] [] ((.inl z) :: st) n I L P) ∧
  (∀ (lv : List mm_V) (st : List mm_V) a b, mm_E d 43 20 lv [] (.inl b :: .inl a :: st) n I L P = if a = b then mm_E d 43 31 lv [] st n I L P else mm_E d 43 23 lv [] st n I L P) ∧
  (∀ (st : List mm_V) z (l0 : mm_V) (l1 : mm_V) (l3 : mm_V), mm_E d 43 23 [l0, l1, (.inl z), l3] [] st n I L P = mm_E d 43 24 [l0, l1, (.inl z), l3] [] ((.inl z) :: st) n I L P) ∧
  (∀ (lv : List mm_V) (st : List mm_V), mm_E d 43 24 lv [] st n I L P = mm_E d 43 25 lv [] (.inl 1 :: st) n I L P) ∧
  (∀ (st : List mm_V) z (l0 : mm_V) (l1 : mm_V) (l2 : mm_V), mm_E d 43 25 [l0, l1, l2, (.inl z)] [] st n I L P = mm_E d 43 26 [l0, l1, l2, (.inl z)] [] ((.inl z) :: st) n I L P) ∧
  (∀ (lv : List mm_V) (st : List mm_V) a b, mm_E d 43 26 lv [] (.inl b :: .inl a :: st) n I L P = mm_E d 43 27 lv [] (.inl (mm_shl a b) :: st) n I L P) ∧
  (∀ (lv : List mm_V) (st : List mm_V), mm_E d 43 27 lv [] st n I L P = mm_E d 43 28 lv [] (.inl (-1) :: st) n I L P) ∧
  (∀ (lv : List mm_V) (st : List mm_V) a b, mm_E d 43 28 lv [] (.inl b :: .inl a :: st) n I L P = mm_E d 43 29 lv [] (.inl (mm_xor a b) :: st) n I L P) ∧
  (∀ (lv : List mm_V) (st : List mm_V) a b, mm_E d 43 29 lv [] (.inl b :: .inl a :: st) n I L P = mm_E d 43 30 lv [] (.inl (mm_and a b) :: st) n I L P) ∧
  (∀ (st : List mm_V) z (l0 : mm_V) (l1 : mm_V) (l2 : mm_V) (l3 : mm_V), mm_E d 43 30 [l0, l1, l2, l3] [] ((.inl z) :: st) n I L P = mm_E d 43 31 [l0, l1, (.inl z), l3] [] st n I L P) ∧
  (∀ (st : List mm_V) z (l0 : mm_V) (l1 : mm_V) (l2 : mm_V), mm_E d 43 31 [l0, l1, l2, (.inl z)] [] st n I L P = mm_E d 43 34 [l0, l1, l2, (.inl (mm_add z 1))] [] st n I L P) ∧
  (∀ (lv : List mm_V) (st : List mm_V), mm_E d 43 34 lv [] st n I L P = mm_E d 43 7 lv [] st n I L P) ∧
  (∀ (st : List mm_V) z (l0 : mm_V) (l1 : mm_V) (l3 : mm_V), mm_E d 43 37 [l0, l1, (.inl z), l3] [] st n I L P = mm_E d 43 38 [l0, l1, (.inl z), l3] [] ((.inl z) :: st) n I L P) ∧
  (∀ (lv : List mm_V) z, mm_E d 43 38 lv [] [.inl z] n I L P = some (some (.inl z), n, I, L, P)) :=
  ⟨fun _ _ _ _ _ => mq_al (i := 0) rfl rfl,
   fun _ _ h0 => mq_cVr (na := 0) rfl rfl (Nat.le_of_ble_eq_true rfl) (Nat.le_of_ble_eq_true rfl) h0,
   fun _ _ _ _ _ _ => mq_is (i := 2) rfl rfl rfl,
   fun _ _ => mq_push rfl,
   fun _ _ _ _ _ _ => mq_is (i := 3) rfl rfl rfl,
   fun _ _ => mq_push rfl,
   fun _ _ _ _ => mq_ic_ge rfl,
   fun _ _ _ _ _ => mq_al (i := 0) rfl rfl,
   fun _ _ _ h0 => mq_getR rfl h0,
   fun _ _ _ _ _ => mq_il (i := 3) rfl rfl,
   fun _ _ _ _ h0 => mq_iald rfl h0,
   fun _ _ _ _ _ => mq_il (i := 1) rfl rfl,
   fun _ _ _ _ => mq_ic_eq rfl,
   fun _ _ _ _ _ => mq_il (i := 2) rfl rfl,
   fun _ _ => mq_push rfl,
   fun _ _ _ _ _ => mq_il (i := 3) rfl rfl,
   fun _ _ _ _ => mq_bi rfl,
   fun _ _ => mq_push rfl,
   fun _ _ _ _ => mq_bi rfl,
   fun _ _ _ _ => mq_bi rfl,
   fun _ _ _ _ _ _ => mq_is (i := 2) rfl rfl rfl,
   fun _ _ _ _ _ => mq_iinc (i := 3) rfl rfl rfl rfl,
   fun _ _ => mq_go rfl,
   fun _ _ _ _ _ => mq_il (i := 2) rfl rfl,
   fun _ _ => mq_ri rfl⟩
theorem hX5_troublesOf_7 (d n : Nat) (I L : mm_I) (P : mm_P) : ∀ (st : List mm_V) z (l0 : mm_V) (l1 : mm_V) (l2 : mm_V), mm_E d 43 7 [l0, l1, l2, (.inl z)] [] st n I L P = mm_E d 43 8 [l0, l1, l2, (.inl z)] [] ((.inl z) :: st) n I L P := fun _ _ _ _ _ => mq_il (i := 3) rfl rfl
theorem eX5_troublesOf (d n : Nat) (I L : mm_I) (P : mm_P) (x0 : Option Nat) (x1 : Int) : mm_rn (d + 1) 43 [.inr (.inr x0), .inl x1] n I L P = mm_E d 43 0 [.inr (.inr x0), .inl x1, mm_junk, mm_junk] [] [] n I L P := rfl

set_option maxRecDepth 20000 in
set_option maxHeartbeats 8000000 in
theorem kX5_allWorth (d n : Nat) (I L : mm_I) (P : mm_P) :
  (∀ (lv : List mm_V) (st : List mm_V), mm_E d 44 0 lv [] st n I L P = mm_E d 44 1 lv [] (.inl 0 :: st) n I L P) ∧
  (∀ (st : List mm_V) z (l0 : mm_V) (l1 : mm_V) (l2 : mm_V), mm_E d 44 1 [l0, l1, l2] [] ((.inl z) :: st) n I L P = mm_E d 44 2 [l0, (.inl z), l2] [] st n I L P) ∧
  (∀ (lv : List mm_V) (st : List mm_V), mm_E d 44 2 lv [] st n I L P = mm_E d 44 3 lv [] (.inl 0 :: st) n I L P) ∧
  (∀ (st : List mm_V) z (l0 : mm_V) (l1 : mm_V) (l2 : mm_V), mm_E d 44 3 [l0, l1, l2] [] ((.inl z) :: st) n I L P = mm_E d 44 4 [l0, l1, (.inl z)] [] st n I L P) ∧
  (∀ (lv : List mm_V) (st : List mm_V), mm_E d 44 5 lv [] st n I L P = mm_E d 44 7 lv [] (.inl 8 :: st) n I L P) ∧
  (∀ (lv : List mm_V) (st : List mm_V) a b, mm_E d 44 7 lv [] (.inl b :: .inl a :: st) n I L P = if b ≤ a then mm_E d 44 25 lv [] st n I L P else mm_E d 44 10 lv [] st n I L P) ∧
  (∀ (st : List mm_V) z (l0 : mm_V) (l2 : mm_V), mm_E d 44 10 [l0, (.inl z), l2] [] st n I L P = mm_E d 44 11 [l0, (.inl z), l2] [] ((.inl z) :: st) n I L P) ∧
  (∀ (st : List mm_V) z (l1 : mm_V) (l2 : mm_V), mm_E d 44 11 [(.inr (.inr z)), l1, l2] [] st n I L P = mm_E d 44 12 [(.inr (.inr z)), l1, l2] [] ((.inr (.inr z)) :: st) n I L P) ∧
  (∀ (lv : List mm_V) (st : List mm_V) a, (mm_ok n a 5) → mm_E d 44 12 lv [] (.inr (.inr (some a)) :: st) n I L P = mm_E d 44 15 lv [] (.inr (.inr (P a 0)) :: st) n I L P) ∧
  (∀ (st : List mm_V) z (l0 : mm_V) (l1 : mm_V), mm_E d 44 15 [l0, l1, (.inl z)] [] st n I L P = mm_E d 44 16 [l0, l1, (.inl z)] [] ((.inl z) :: st) n I L P) ∧
  (∀ (lv : List mm_V) (st : List mm_V) a i, (mm_ix n a 20 i) → mm_E d 44 16 lv [] (.inl i :: .inr (.inr (some a)) :: st) n I L P = mm_E d 44 17 lv [] (.inl (I a i.toNat) :: st) n I L P) ∧
  (∀ (lv : List mm_V) (st : List mm_V) a b, mm_E d 44 17 lv [] (.inl b :: .inl a :: st) n I L P = mm_E d 44 18 lv [] (.inl (mm_add a b) :: st) n I L P) ∧
  (∀ (st : List mm_V) z (l0 : mm_V) (l1 : mm_V) (l2 : mm_V), mm_E d 44 18 [l0, l1, l2] [] ((.inl z) :: st) n I L P = mm_E d 44 19 [l0, (.inl z), l2] [] st n I L P) ∧
  (∀ (st : List mm_V) z (l0 : mm_V) (l1 : mm_V), mm_E d 44 19 [l0, l1, (.inl z)] [] st n I L P = mm_E d 44 22 [l0, l1, (.inl (mm_add z 1))] [] st n I L P) ∧
  (∀ (lv : List mm_V) (st : List mm_V), mm_E d 44 22 lv [] st n I L P = mm_E d 44 4 lv [] st n I L P) ∧
  (∀ (st : List mm_V) z (l0 : mm_V) (l2 : mm_V), mm_E d 44 25 [l0, (.inl z), l2] [] st n I L P = mm_E d 44 26 [l0, (.inl z), l2] [] ((.inl z) :: st) n I L P) ∧
  (∀ (lv : List mm_V) z, mm_E d 44 26 lv [] [.inl z] n I L P = some (some (.inl z), n, I, L, P)) :=
  ⟨fun _ _ => mq_push rfl,
   fun _ _ _ _ _ => mq_is (i := 1) rfl rfl rfl,
   fun _ _ => mq_push rfl,
   fun _ _ _ _ _ => mq_is (i := 2) rfl rfl rfl,
   fun _ _ => mq_push rfl,
   fun _ _ _ _ => mq_ic_ge rfl,
   fun _ _ _ _ => mq_il (i := 1) rfl rfl,
   fun _ _ _ _ => mq_al (i := 0) rfl rfl,
   fun _ _ _ h0 => mq_getR rfl h0,
   fun _ _ _ _ => mq_il (i := 2) rfl rfl,
   fun _ _ _ _ h0 => mq_iald rfl h0,
   fun _ _ _ _ => mq_bi rfl,
   fun _ _ _ _ _ => mq_is (i := 1) rfl rfl rfl,
   fun _ _ _ _ => mq_iinc (i := 2) rfl rfl rfl rfl,
   fun _ _ => mq_go rfl,
   fun _ _ _ _ => mq_il (i := 1) rfl rfl,
   fun _ _ => mq_ri rfl⟩
theorem hX5_allWorth_4 (d n : Nat) (I L : mm_I) (P : mm_P) : ∀ (st : List mm_V) z (l0 : mm_V) (l1 : mm_V), mm_E d 44 4 [l0, l1, (.inl z)] [] st n I L P = mm_E d 44 5 [l0, l1, (.inl z)] [] ((.inl z) :: st) n I L P := fun _ _ _ _ => mq_il (i := 2) rfl rfl
theorem eX5_allWorth (d n : Nat) (I L : mm_I) (P : mm_P) (x0 : Option Nat) : mm_rn (d + 1) 44 [.inr (.inr x0)] n I L P = mm_E d 44 0 [.inr (.inr x0), mm_junk, mm_junk] [] [] n I L P := rfl

set_option maxRecDepth 20000 in
set_option maxHeartbeats 8000000 in
theorem kX5_startTrouble (d n : Nat) (I L : mm_I) (P : mm_P) :
  (∀ (st : List mm_V) z (l0 : mm_V) (l2 : mm_V) (l3 : mm_V), mm_E d 45 0 [l0, (.inl z), l2, l3] [] st n I L P = mm_E d 45 1 [l0, (.inl z), l2, l3] [] ((.inl z) :: st) n I L P) ∧
  (∀ (lv : List mm_V) x0, mm_E d 45 1 lv [] (.inl x0 :: []) n I L P = mm_kr d 45 4 lv [] [] n (mm_rn d 283 [.inl x0] n I L P)) ∧
  (∀ (lv : List mm_V) (st : List mm_V) a, mm_E d 45 4 lv [] (.inl a :: st) n I L P = if a = 0 then mm_E d 45 30 lv [] st n I L P else mm_E d 45 7 lv [] st n I L P) ∧
  (∀ (st : List mm_V) z (l1 : mm_V) (l2 : mm_V) (l3 : mm_V), mm_E d 45 7 [(.inr (.inr z)), l1, l2, l3] [] st n I L P = mm_E d 45 8 [(.inr (.inr z)), l1, l2, l3] [] ((.inr (.inr z)) :: st) n I L P) ∧
  (∀ (lv : List mm_V) (st : List mm_V) a, (mm_ok n a 5) → mm_E d 45 8 lv [] (.inr (.inr (some a)) :: st) n I L P = mm_E d 45 11 lv [] (.inr (.inr (P a 2)) :: st) n I L P) ∧
  (∀ (st : List mm_V) z (l0 : mm_V) (l2 : mm_V) (l3 : mm_V), mm_E d 45 11 [l0, (.inl z), l2, l3] [] st n I L P = mm_E d 45 12 [l0, (.inl z), l2, l3] [] ((.inl z) :: st) n I L P) ∧
  (∀ (lv : List mm_V) (st : List mm_V) a i, (mm_ix n a 20 i) → mm_E d 45 12 lv [] (.inl i :: .inr (.inr (some a)) :: st) n I L P = mm_E d 45 13 lv [] (.inl (I a i.toNat) :: st) n I L P) ∧
  (∀ (lv : List mm_V) (st : List mm_V) a, mm_E d 45 13 lv [] (.inl a :: st) n I L P = if a = 0 then mm_E d 45 16 lv [] st n I L P else mm_E d 45 30 lv [] st n I L P) ∧
  (∀ (st : List mm_V) z (l1 : mm_V) (l2 : mm_V) (l3 : mm_V), mm_E d 45 16 [(.inr (.inr z)), l1, l2, l3] [] st n I L P = mm_E d 45 17 [(.inr (.inr z)), l1, l2, l3] [] ((.inr (.inr z)) :: st) n I L P) ∧
  (∀ (lv : List mm_V) (st : List mm_V) a, (mm_ok n a 5) → mm_E d 45 17 lv [] (.inr (.inr (some a)) :: st) n I L P = mm_E d 45 20 lv [] (.inr (.inr (P a 1)) :: st) n I L P) ∧
  (∀ (st : List mm_V) z (l0 : mm_V) (l2 : mm_V) (l3 : mm_V), mm_E d 45 20 [l0, (.inl z), l2, l3] [] st n I L P = mm_E d 45 21 [l0, (.inl z), l2, l3] [] ((.inl z) :: st) n I L P) ∧
  (∀ (st : List mm_V) z (l0 : mm_V) (l1 : mm_V) (l3 : mm_V), mm_E d 45 21 [l0, l1, (.inl z), l3] [] st n I L P = mm_E d 45 22 [l0, l1, (.inl z), l3] [] ((.inl z) :: st) n I L P) ∧
  (∀ (lv : List mm_V) (st : List mm_V) a i z, (mm_ix n a 20 i) → mm_E d 45 22 lv [] (.inl z :: .inl i :: .inr (.inr (some a)) :: st) n I L P = mm_E d 45 23 lv [] st n (mm_ui I a i.toNat z) L P) ∧
  (∀ (st : List mm_V) z (l1 : mm_V) (l2 : mm_V) (l3 : mm_V), mm_E d 45 23 [(.inr (.inr z)), l1, l2, l3] [] st n I L P = mm_E d 45 24 [(.inr (.inr z)), l1, l2, l3] [] ((.inr (.inr z)) :: st) n I L P) ∧
  (∀ (lv : List mm_V) (st : List mm_V) a, (mm_ok n a 5) → mm_E d 45 24 lv [] (.inr (.inr (some a)) :: st) n I L P = mm_E d 45 27 lv [] (.inr (.inr (P a 2)) :: st) n I L P) ∧
  (∀ (st : List mm_V) z (l0 : mm_V) (l2 : mm_V) (l3 : mm_V), mm_E d 45 27 [l0, (.inl z), l2, l3] [] st n I L P = mm_E d 45 28 [l0, (.inl z), l2, l3] [] ((.inl z) :: st) n I L P) ∧
  (∀ (st : List mm_V) z (l0 : mm_V) (l1 : mm_V) (l2 : mm_V), mm_E d 45 28 [l0, l1, l2, (.inl z)] [] st n I L P = mm_E d 45 29 [l0, l1, l2, (.inl z)] [] ((.inl z) :: st) n I L P) ∧
  (∀ (lv : List mm_V) (st : List mm_V) a i z, (mm_ix n a 20 i) → mm_E d 45 29 lv [] (.inl z :: .inl i :: .inr (.inr (some a)) :: st) n I L P = mm_E d 45 30 lv [] st n (mm_ui I a i.toNat z) L P) ∧
  (∀ (lv : List mm_V), mm_E d 45 30 lv [] [] n I L P = some (none, n, I, L, P)) :=
  ⟨fun _ _ _ _ _ => mq_il (i := 1) rfl rfl,
   fun _ _ => mq_cSr (na := 1) rfl (Nat.le_of_ble_eq_true rfl) (Nat.le_of_ble_eq_true rfl),
   fun _ _ _ => mq_if_eq rfl,
   fun _ _ _ _ _ => mq_al (i := 0) rfl rfl,
   fun _ _ _ h0 => mq_getR rfl h0,
   fun _ _ _ _ _ => mq_il (i := 1) rfl rfl,
   fun _ _ _ _ h0 => mq_iald rfl h0,
   fun _ _ _ => mq_if_ne rfl,
   fun _ _ _ _ _ => mq_al (i := 0) rfl rfl,
   fun _ _ _ h0 => mq_getR rfl h0,
   fun _ _ _ _ _ => mq_il (i := 1) rfl rfl,
   fun _ _ _ _ _ => mq_il (i := 2) rfl rfl,
   fun _ _ _ _ _ h0 => mq_iast rfl h0,
   fun _ _ _ _ _ => mq_al (i := 0) rfl rfl,
   fun _ _ _ h0 => mq_getR rfl h0,
   fun _ _ _ _ _ => mq_il (i := 1) rfl rfl,
   fun _ _ _ _ _ => mq_il (i := 3) rfl rfl,
   fun _ _ _ _ _ h0 => mq_iast rfl h0,
   fun _ => mq_rv rfl⟩
theorem eX5_startTrouble (d n : Nat) (I L : mm_I) (P : mm_P) (x0 : Option Nat) (x1 : Int) (x2 : Int) (x3 : Int) : mm_rn (d + 1) 45 [.inr (.inr x0), .inl x1, .inl x2, .inl x3] n I L P = mm_E d 45 0 [.inr (.inr x0), .inl x1, .inl x2, .inl x3] [] [] n I L P := rfl

set_option maxRecDepth 20000 in
set_option maxHeartbeats 8000000 in
theorem kX5_hushSeen (d n : Nat) (I L : mm_I) (P : mm_P) :
  (∀ (st : List mm_V) z (l1 : mm_V) (l2 : mm_V) (l3 : mm_V), mm_E d 46 0 [(.inr (.inr z)), l1, l2, l3] [] st n I L P = mm_E d 46 1 [(.inr (.inr z)), l1, l2, l3] [] ((.inr (.inr z)) :: st) n I L P) ∧
  (∀ (lv : List mm_V) a, (mm_ok n a 5) → mm_E d 46 1 lv [] (.inr (.inr (some a)) :: []) n I L P = mm_kr d 46 4 lv [] [] n (mm_rn d 42 [.inr (.inr (some a))] n I L P)) ∧
  (∀ (st : List mm_V) z (l0 : mm_V) (l2 : mm_V) (l3 : mm_V), mm_E d 46 4 [l0, (.inr (.inr z)), l2, l3] [] st n I L P = mm_E d 46 5 [l0, (.inr (.inr z)), l2, l3] [] ((.inr (.inr z)) :: st) n I L P) ∧
  (∀ (st : List mm_V) z (l1 : mm_V) (l2 : mm_V) (l3 : mm_V), mm_E d 46 5 [(.inr (.inr z)), l1, l2, l3] [] st n I L P = mm_E d 46 6 [(.inr (.inr z)), l1, l2, l3] [] ((.inr (.inr z)) :: st) n I L P) ∧
  (∀ (lv : List mm_V) (st : List mm_V) a, (mm_ok n a 5) → mm_E d 46 6 lv [] (.inr (.inr (some a)) :: st) n I L P = mm_E d 46 9 lv [] (.inl (I a 3) :: st) n I L P) ∧
  (∀ (lv : List mm_V) a x0 w0, (mm_ok n a 9) → mm_E d 46 9 lv [] (.inl x0 :: .inr (.inr (some a)) :: [.inl w0]) n I L P = mm_kr d 46 12 lv [] [.inl w0] n (mm_rn d 288 [.inr (.inr (some a)), .inl x0] n I L P)) ∧
  (∀ (lv : List mm_V) (st : List mm_V) a b, mm_E d 46 12 lv [] (.inl b :: .inl a :: st) n I L P = mm_E d 46 13 lv [] (.inl (mm_and a b) :: st) n I L P) ∧
  (∀ (st : List mm_V) z (l0 : mm_V) (l1 : mm_V) (l2 : mm_V) (l3 : mm_V), mm_E d 46 13 [l0, l1, l2, l3] [] ((.inl z) :: st) n I L P = mm_E d 46 14 [l0, l1, (.inl z), l3] [] st n I L P) ∧
  (∀ (lv : List mm_V) (st : List mm_V), mm_E d 46 14 lv [] st n I L P = mm_E d 46 15 lv [] (.inl 0 :: st) n I L P) ∧
  (∀ (st : List mm_V) z (l0 : mm_V) (l1 : mm_V) (l2 : mm_V) (l3 : mm_V), mm_E d 46 15 [l0, l1, l2, l3] [] ((.inl z) :: st) n I L P = mm_E d 46 16 [l0, l1, l2, (.inl z)] [] st n I L P) ∧
  (∀ (lv : List mm_V) (st : List mm_V), mm_E d 46 17 lv [] st n I L P = mm_E d 46 19 lv [] (.inl 8 :: st) n I L P) ∧
  (∀ (lv : List mm_V) (st : List mm_V) a b, mm_E d 46 19 lv [] (.inl b :: .inl a :: st) n I L P = if b ≤ a then mm_E d 46 44 lv [] st n I L P else mm_E d 46 22 lv [] st n I L P) ∧
  (∀ (st : List mm_V) z (l0 : mm_V) (l1 : mm_V) (l3 : mm_V), mm_E d 46 22 [l0, l1, (.inl z), l3] [] st n I L P = mm_E d 46 23 [l0, l1, (.inl z), l3] [] ((.inl z) :: st) n I L P) ∧
  (∀ (st : List mm_V) z (l0 : mm_V) (l1 : mm_V) (l2 : mm_V), mm_E d 46 23 [l0, l1, l2, (.inl z)] [] st n I L P = mm_E d 46 24 [l0, l1, l2, (.inl z)] [] ((.inl z) :: st) n I L P) ∧
  (∀ (lv : List mm_V) (st : List mm_V) a b, mm_E d 46 24 lv [] (.inl b :: .inl a :: st) n I L P = mm_E d 46 25 lv [] (.inl (mm_shr a b) :: st) n I L P) ∧
  (∀ (lv : List mm_V) (st : List mm_V), mm_E d 46 25 lv [] st n I L P = mm_E d 46 26 lv [] (.inl 1 :: st) n I L P) ∧
  (∀ (lv : List mm_V) (st : List mm_V) a b, mm_E d 46 26 lv [] (.inl b :: .inl a :: st) n I L P = mm_E d 46 27 lv [] (.inl (mm_and a b) :: st) n I L P) ∧
  (∀ (lv : List mm_V) (st : List mm_V), mm_E d 46 27 lv [] st n I L P = mm_E d 46 28 lv [] (.inl 1 :: st) n I L P) ∧
  (∀ (lv : List mm_V) (st : List mm_V) a b, mm_E d 46 28 lv [] (.inl b :: .inl a :: st) n I L P = if a = b then mm_E d 46 31 lv [] st n I L P else mm_E d 46 38 lv [] st n I L P) ∧
  (∀ (st : List mm_V) z (l1 : mm_V) (l2 : mm_V) (l3 : mm_V), mm_E d 46 31 [(.inr (.inr z)), l1, l2, l3] [] st n I L P = mm_E d 46 32 [(.inr (.inr z)), l1, l2, l3] [] ((.inr (.inr z)) :: st) n I L P) ∧
  (∀ (lv : List mm_V) (st : List mm_V) a, (mm_ok n a 5) → mm_E d 46 32 lv [] (.inr (.inr (some a)) :: st) n I L P = mm_E d 46 35 lv [] (.inr (.inr (P a 2)) :: st) n I L P) ∧
  (∀ (st : List mm_V) z (l0 : mm_V) (l1 : mm_V) (l2 : mm_V), mm_E d 46 35 [l0, l1, l2, (.inl z)] [] st n I L P = mm_E d 46 36 [l0, l1, l2, (.inl z)] [] ((.inl z) :: st) n I L P) ∧
  (∀ (lv : List mm_V) (st : List mm_V), mm_E d 46 36 lv [] st n I L P = mm_E d 46 37 lv [] (.inl 0 :: st) n I L P) ∧
  (∀ (lv : List mm_V) (st : List mm_V) a i z, (mm_ix n a 20 i) → mm_E d 46 37 lv [] (.inl z :: .inl i :: .inr (.inr (some a)) :: st) n I L P = mm_E d 46 38 lv [] st n (mm_ui I a i.toNat z) L P) ∧
  (∀ (st : List mm_V) z (l0 : mm_V) (l1 : mm_V) (l2 : mm_V), mm_E d 46 38 [l0, l1, l2, (.inl z)] [] st n I L P = mm_E d 46 41 [l0, l1, l2, (.inl (mm_add z 1))] [] st n I L P) ∧
  (∀ (lv : List mm_V) (st : List mm_V), mm_E d 46 41 lv [] st n I L P = mm_E d 46 16 lv [] st n I L P) ∧
  (∀ (st : List mm_V) z (l0 : mm_V) (l1 : mm_V) (l3 : mm_V), mm_E d 46 44 [l0, l1, (.inl z), l3] [] st n I L P = mm_E d 46 45 [l0, l1, (.inl z), l3] [] ((.inl z) :: st) n I L P) ∧
  (∀ (lv : List mm_V) x0, mm_E d 46 45 lv [] (.inl x0 :: []) n I L P = mm_kr d 46 48 lv [] [] n (mm_rn d 263 [.inl x0] n I L P)) ∧
  (∀ (lv : List mm_V) z, mm_E d 46 48 lv [] [.inl z] n I L P = some (some (.inl z), n, I, L, P)) :=
  ⟨fun _ _ _ _ _ => mq_al (i := 0) rfl rfl,
   fun _ _ h0 => mq_cVr (na := 0) rfl rfl (Nat.le_of_ble_eq_true rfl) (Nat.le_of_ble_eq_true rfl) h0,
   fun _ _ _ _ _ => mq_al (i := 1) rfl rfl,
   fun _ _ _ _ _ => mq_al (i := 0) rfl rfl,
   fun _ _ _ h0 => mq_getI rfl h0,
   fun _ _ _ _ h0 => mq_cVr (na := 1) rfl rfl (Nat.le_of_ble_eq_true rfl) (Nat.le_of_ble_eq_true rfl) h0,
   fun _ _ _ _ => mq_bi rfl,
   fun _ _ _ _ _ _ => mq_is (i := 2) rfl rfl rfl,
   fun _ _ => mq_push rfl,
   fun _ _ _ _ _ _ => mq_is (i := 3) rfl rfl rfl,
   fun _ _ => mq_push rfl,
   fun _ _ _ _ => mq_ic_ge rfl,
   fun _ _ _ _ _ => mq_il (i := 2) rfl rfl,
   fun _ _ _ _ _ => mq_il (i := 3) rfl rfl,
   fun _ _ _ _ => mq_bi rfl,
   fun _ _ => mq_push rfl,
   fun _ _ _ _ => mq_bi rfl,
   fun _ _ => mq_push rfl,
   fun _ _ _ _ => mq_ic_ne rfl,
   fun _ _ _ _ _ => mq_al (i := 0) rfl rfl,
   fun _ _ _ h0 => mq_getR rfl h0,
   fun _ _ _ _ _ => mq_il (i := 3) rfl rfl,
   fun _ _ => mq_push rfl,
   fun _ _ _ _ _ h0 => mq_iast rfl h0,
   fun _ _ _ _ _ => mq_iinc (i := 3) rfl rfl rfl rfl,
   fun _ _ => mq_go rfl,
   fun _ _ _ _ _ => mq_il (i := 2) rfl rfl,
   fun _ _ => mq_cSr (na := 1) rfl (Nat.le_of_ble_eq_true rfl) (Nat.le_of_ble_eq_true rfl),
   fun _ _ => mq_ri rfl⟩
theorem hX5_hushSeen_16 (d n : Nat) (I L : mm_I) (P : mm_P) : ∀ (st : List mm_V) z (l0 : mm_V) (l1 : mm_V) (l2 : mm_V), mm_E d 46 16 [l0, l1, l2, (.inl z)] [] st n I L P = mm_E d 46 17 [l0, l1, l2, (.inl z)] [] ((.inl z) :: st) n I L P := fun _ _ _ _ _ => mq_il (i := 3) rfl rfl
theorem eX5_hushSeen (d n : Nat) (I L : mm_I) (P : mm_P) (x0 : Option Nat) (x1 : Option Nat) : mm_rn (d + 1) 46 [.inr (.inr x0), .inr (.inr x1)] n I L P = mm_E d 46 0 [.inr (.inr x0), .inr (.inr x1), mm_junk, mm_junk] [] [] n I L P := rfl

set_option maxRecDepth 20000 in
set_option maxHeartbeats 8000000 in
theorem kX5_passHour (d n : Nat) (I L : mm_I) (P : mm_P) :
  (∀ (st : List mm_V) z (l1 : mm_V) (l2 : mm_V) (l3 : mm_V) (l4 : mm_V) (l5 : mm_V) (l6 : mm_V), mm_E d 47 0 [(.inr (.inr z)), l1, l2, l3, l4, l5, l6] [] st n I L P = mm_E d 47 1 [(.inr (.inr z)), l1, l2, l3, l4, l5, l6] [] ((.inr (.inr z)) :: st) n I L P) ∧
  (∀ (lv : List mm_V) a, (mm_ok n a 5) → mm_E d 47 1 lv [] (.inr (.inr (some a)) :: []) n I L P = mm_kr d 47 4 lv [] [] n (mm_rn d 42 [.inr (.inr (some a))] n I L P)) ∧
  (∀ (st : List mm_V) z (l0 : mm_V) (l1 : mm_V) (l2 : mm_V) (l3 : mm_V) (l4 : mm_V) (l5 : mm_V) (l6 : mm_V), mm_E d 47 4 [l0, l1, l2, l3, l4, l5, l6] [] ((.inl z) :: st) n I L P = mm_E d 47 5 [l0, l1, l2, (.inl z), l4, l5, l6] [] st n I L P) ∧
  (∀ (lv : List mm_V) (st : List mm_V), mm_E d 47 5 lv [] st n I L P = mm_E d 47 6 lv [] (.inl 0 :: st) n I L P) ∧
  (∀ (st : List mm_V) z (l0 : mm_V) (l1 : mm_V) (l2 : mm_V) (l3 : mm_V) (l4 : mm_V) (l5 : mm_V) (l6 : mm_V), mm_E d 47 6 [l0, l1, l2, l3, l4, l5, l6] [] ((.inl z) :: st) n I L P = mm_E d 47 8 [l0, l1, l2, l3, (.inl z), l5, l6] [] st n I L P) ∧
  (∀ (st : List mm_V) z (l0 : mm_V) (l1 : mm_V) (l2 : mm_V) (l4 : mm_V) (l5 : mm_V) (l6 : mm_V), mm_E d 47 8 [l0, l1, l2, (.inl z), l4, l5, l6] [] st n I L P = mm_E d 47 9 [l0, l1, l2, (.inl z), l4, l5, l6] [] ((.inl z) :: st) n I L P) ∧
  (∀ (lv : List mm_V) (st : List mm_V) a, mm_E d 47 9 lv [] (.inl a :: st) n I L P = if a = 0 then mm_E d 47 117 lv [] st n I L P else mm_E d 47 12 lv [] st n I L P) ∧
  (∀ (lv : List mm_V) (st : List mm_V), mm_E d 47 12 lv [] st n I L P = mm_E d 47 13 lv [] (.inl 0 :: st) n I L P) ∧
  (∀ (st : List mm_V) z (l0 : mm_V) (l1 : mm_V) (l2 : mm_V) (l3 : mm_V) (l4 : mm_V) (l5 : mm_V) (l6 : mm_V), mm_E d 47 13 [l0, l1, l2, l3, l4, l5, l6] [] ((.inl z) :: st) n I L P = mm_E d 47 15 [l0, l1, l2, l3, l4, (.inl z), l6] [] st n I L P) ∧
  (∀ (st : List mm_V) z (l0 : mm_V) (l2 : mm_V) (l3 : mm_V) (l4 : mm_V) (l5 : mm_V) (l6 : mm_V), mm_E d 47 17 [l0, (.inr (.inr z)), l2, l3, l4, l5, l6] [] st n I L P = mm_E d 47 18 [l0, (.inr (.inr z)), l2, l3, l4, l5, l6] [] ((.inr (.inr z)) :: st) n I L P) ∧
  (∀ (lv : List mm_V) (st : List mm_V) a, (mm_ok n a 9) → mm_E d 47 18 lv [] (.inr (.inr (some a)) :: st) n I L P = mm_E d 47 21 lv [] (.inl (I a 0) :: st) n I L P) ∧
  (∀ (lv : List mm_V) (st : List mm_V) a b, mm_E d 47 21 lv [] (.inl b :: .inl a :: st) n I L P = if b ≤ a then mm_E d 47 68 lv [] st n I L P else mm_E d 47 24 lv [] st n I L P) ∧
  (∀ (st : List mm_V) z (l1 : mm_V) (l2 : mm_V) (l3 : mm_V) (l4 : mm_V) (l5 : mm_V) (l6 : mm_V), mm_E d 47 24 [(.inr (.inr z)), l1, l2, l3, l4, l5, l6] [] st n I L P = mm_E d 47 25 [(.inr (.inr z)), l1, l2, l3, l4, l5, l6] [] ((.inr (.inr z)) :: st) n I L P) ∧
  (∀ (lv : List mm_V) (st : List mm_V) a, (mm_ok n a 5) → mm_E d 47 25 lv [] (.inr (.inr (some a)) :: st) n I L P = mm_E d 47 28 lv [] (.inr (.inr (P a 2)) :: st) n I L P) ∧
  (∀ (st : List mm_V) z (l0 : mm_V) (l1 : mm_V) (l2 : mm_V) (l3 : mm_V) (l4 : mm_V) (l6 : mm_V), mm_E d 47 28 [l0, l1, l2, l3, l4, (.inl z), l6] [] st n I L P = mm_E d 47 30 [l0, l1, l2, l3, l4, (.inl z), l6] [] ((.inl z) :: st) n I L P) ∧
  (∀ (lv : List mm_V) (st : List mm_V) a i, (mm_ix n a 20 i) → mm_E d 47 30 lv [] (.inl i :: .inr (.inr (some a)) :: st) n I L P = mm_E d 47 31 lv [] (.inl (I a i.toNat) :: st) n I L P) ∧
  (∀ (st : List mm_V) z (l1 : mm_V) (l2 : mm_V) (l3 : mm_V) (l4 : mm_V) (l5 : mm_V) (l6 : mm_V), mm_E d 47 31 [(.inr (.inr z)), l1, l2, l3, l4, l5, l6] [] st n I L P = mm_E d 47 32 [(.inr (.inr z)), l1, l2, l3, l4, l5, l6] [] ((.inr (.inr z)) :: st) n I L P) ∧
  (∀ (lv : List mm_V) (st : List mm_V) a, (mm_ok n a 5) → mm_E d 47 32 lv [] (.inr (.inr (some a)) :: st) n I L P = mm_E d 47 35 lv [] (.inr (.inr (P a 0)) :: st) n I L P) ∧
  (∀ (st : List mm_V) z (l0 : mm_V) (l1 : mm_V) (l2 : mm_V) (l3 : mm_V) (l4 : mm_V) (l6 : mm_V), mm_E d 47 35 [l0, l1, l2, l3, l4, (.inl z), l6] [] st n I L P = mm_E d 47 37 [l0, l1, l2, l3, l4, (.inl z), l6] [] ((.inl z) :: st) n I L P) ∧
  (∀ (lv : List mm_V) (st : List mm_V) a i, (mm_ix n a 20 i) → mm_E d 47 37 lv [] (.inl i :: .inr (.inr (some a)) :: st) n I L P = mm_E d 47 38 lv [] (.inl (I a i.toNat) :: st) n I L P) ∧
  (∀ (lv : List mm_V) x0 x1, mm_E d 47 38 lv [] (.inl x1 :: .inl x0 :: []) n I L P = mm_kr d 47 41 lv [] [] n (mm_rn d 267 [.inl x0, .inl x1] n I L P)) ∧
  (∀ (st : List mm_V) z (l0 : mm_V) (l1 : mm_V) (l2 : mm_V) (l3 : mm_V) (l4 : mm_V) (l5 : mm_V) (l6 : mm_V), mm_E d 47 41 [l0, l1, l2, l3, l4, l5, l6] [] ((.inl z) :: st) n I L P = mm_E d 47 43 [l0, l1, l2, l3, l4, l5, (.inl z)] [] st n I L P) ∧
  (∀ (st : List mm_V) z (l1 : mm_V) (l2 : mm_V) (l3 : mm_V) (l4 : mm_V) (l5 : mm_V) (l6 : mm_V), mm_E d 47 43 [(.inr (.inr z)), l1, l2, l3, l4, l5, l6] [] st n I L P = mm_E d 47 44 [(.inr (.inr z)), l1, l2, l3, l4, l5, l6] [] ((.inr (.inr z)) :: st) n I L P) ∧
  (∀ (lv : List mm_V) (st : List mm_V) a, (mm_ok n a 5) → mm_E d 47 44 lv [] (.inr (.inr (some a)) :: st) n I L P = mm_E d 47 47 lv [] (.inr (.inr (P a 0)) :: st) n I L P) ∧
  (∀ (st : List mm_V) z (l0 : mm_V) (l1 : mm_V) (l2 : mm_V) (l3 : mm_V) (l4 : mm_V) (l6 : mm_V), mm_E d 47 47 [l0, l1, l2, l3, l4, (.inl z), l6] [] st n I L P = mm_E d 47 49 [l0, l1, l2, l3, l4, (.inl z), l6] [] ((.inl z) :: st) n I L P) ∧
  (∀ (lv : List mm_V) (st : List mm_V) a b, mm_E d 47 49 lv [] ((.inl a) :: (.inr (.inr b)) :: st) n I L P = mm_E d 47 50 lv [] ((.inl a) :: (.inr (.inr b)) :: (.inl a) :: (.inr (.inr b)) :: st) n I L P) ∧
  (∀ (lv : List mm_V) (st : List mm_V) a i, (mm_ix n a 20 i) → mm_E d 47 50 lv [] (.inl i :: .inr (.inr (some a)) :: st) n I L P = mm_E d 47 51 lv [] (.inl (I a i.toNat) :: st) n I L P) ∧
  (∀ (st : List mm_V) z (l0 : mm_V) (l1 : mm_V) (l2 : mm_V) (l3 : mm_V) (l4 : mm_V) (l5 : mm_V), mm_E d 47 51 [l0, l1, l2, l3, l4, l5, (.inl z)] [] st n I L P = mm_E d 47 53 [l0, l1, l2, l3, l4, l5, (.inl z)] [] ((.inl z) :: st) n I L P) ∧
  (∀ (lv : List mm_V) (st : List mm_V) a b, mm_E d 47 53 lv [] (.inl b :: .inl a :: st) n I L P = mm_E d 47 54 lv [] (.inl (mm_sub a b) :: st) n I L P) ∧
  (∀ (lv : List mm_V) (st : List mm_V) a i z, (mm_ix n a 20 i) → mm_E d 47 54 lv [] (.inl z :: .inl i :: .inr (.inr (some a)) :: st) n I L P = mm_E d 47 55 lv [] st n (mm_ui I a i.toNat z) L P) ∧
  (∀ (st : List mm_V) z (l0 : mm_V) (l1 : mm_V) (l2 : mm_V) (l3 : mm_V) (l5 : mm_V) (l6 : mm_V), mm_E d 47 55 [l0, l1, l2, l3, (.inl z), l5, l6] [] st n I L P = mm_E d 47 57 [l0, l1, l2, l3, (.inl z), l5, l6] [] ((.inl z) :: st) n I L P) ∧
  (∀ (st : List mm_V) z (l0 : mm_V) (l1 : mm_V) (l2 : mm_V) (l3 : mm_V) (l4 : mm_V) (l5 : mm_V), mm_E d 47 57 [l0, l1, l2, l3, l4, l5, (.inl z)] [] st n I L P = mm_E d 47 59 [l0, l1, l2, l3, l4, l5, (.inl z)] [] ((.inl z) :: st) n I L P) ∧
  (∀ (lv : List mm_V) (st : List mm_V) a b, mm_E d 47 59 lv [] (.inl b :: .inl a :: st) n I L P = mm_E d 47 60 lv [] (.inl (mm_add a b) :: st) n I L P) ∧
  (∀ (st : List mm_V) z (l0 : mm_V) (l1 : mm_V) (l2 : mm_V) (l3 : mm_V) (l4 : mm_V) (l5 : mm_V) (l6 : mm_V), mm_E d 47 60 [l0, l1, l2, l3, l4, l5, l6] [] ((.inl z) :: st) n I L P = mm_E d 47 62 [l0, l1, l2, l3, (.inl z), l5, l6] [] st n I L P) ∧
  (∀ (st : List mm_V) z (l0 : mm_V) (l1 : mm_V) (l2 : mm_V) (l3 : mm_V) (l4 : mm_V) (l6 : mm_V), mm_E d 47 62 [l0, l1, l2, l3, l4, (.inl z), l6] [] st n I L P = mm_E d 47 65 [l0, l1, l2, l3, l4, (.inl (mm_add z 1)), l6] [] st n I L P) ∧
  (∀ (lv : List mm_V) (st : List mm_V), mm_E d 47 65 lv [] st n I L P = mm_E d 47 15 lv [] st n I L P) ∧
  (∀ (lv : List mm_V) (st : List mm_V), mm_E d 47 68 lv [] st n I L P = mm_E d 47 69 lv [] (.inl 0 :: st) n I L P) ∧
  (∀ (st : List mm_V) z (l0 : mm_V) (l1 : mm_V) (l2 : mm_V) (l3 : mm_V) (l4 : mm_V) (l5 : mm_V) (l6 : mm_V), mm_E d 47 69 [l0, l1, l2, l3, l4, l5, l6] [] ((.inl z) :: st) n I L P = mm_E d 47 71 [l0, l1, l2, l3, l4, (.inl z), l6] [] st n I L P) ∧
  (∀ (st : List mm_V) z (l0 : mm_V) (l2 : mm_V) (l3 : mm_V) (l4 : mm_V) (l5 : mm_V) (l6 : mm_V), mm_E d 47 73 [l0, (.inr (.inr z)), l2, l3, l4, l5, l6] [] st n I L P = mm_E d 47 74 [l0, (.inr (.inr z)), l2, l3, l4, l5, l6] [] ((.inr (.inr z)) :: st) n I L P) ∧
  (∀ (lv : List mm_V) (st : List mm_V) a, (mm_ok n a 9) → mm_E d 47 74 lv [] (.inr (.inr (some a)) :: st) n I L P = mm_E d 47 77 lv [] (.inl (I a 0) :: st) n I L P) ∧
  (∀ (lv : List mm_V) (st : List mm_V) a b, mm_E d 47 77 lv [] (.inl b :: .inl a :: st) n I L P = if b ≤ a then mm_E d 47 112 lv [] st n I L P else mm_E d 47 80 lv [] st n I L P) ∧
  (∀ (st : List mm_V) z (l1 : mm_V) (l2 : mm_V) (l3 : mm_V) (l4 : mm_V) (l5 : mm_V) (l6 : mm_V), mm_E d 47 80 [(.inr (.inr z)), l1, l2, l3, l4, l5, l6] [] st n I L P = mm_E d 47 81 [(.inr (.inr z)), l1, l2, l3, l4, l5, l6] [] ((.inr (.inr z)) :: st) n I L P) ∧
  (∀ (lv : List mm_V) (st : List mm_V) a, (mm_ok n a 5) → mm_E d 47 81 lv [] (.inr (.inr (some a)) :: st) n I L P = mm_E d 47 84 lv [] (.inr (.inr (P a 2)) :: st) n I L P) ∧
  (∀ (st : List mm_V) z (l0 : mm_V) (l1 : mm_V) (l2 : mm_V) (l3 : mm_V) (l4 : mm_V) (l6 : mm_V), mm_E d 47 84 [l0, l1, l2, l3, l4, (.inl z), l6] [] st n I L P = mm_E d 47 86 [l0, l1, l2, l3, l4, (.inl z), l6] [] ((.inl z) :: st) n I L P) ∧
  (∀ (lv : List mm_V) (st : List mm_V) a i, (mm_ix n a 20 i) → mm_E d 47 86 lv [] (.inl i :: .inr (.inr (some a)) :: st) n I L P = mm_E d 47 87 lv [] (.inl (I a i.toNat) :: st) n I L P) ∧
  (∀ (lv : List mm_V) (st : List mm_V) a, mm_E d 47 87 lv [] (.inl a :: st) n I L P = if a ≤ 0 then mm_E d 47 106 lv [] st n I L P else mm_E d 47 90 lv [] st n I L P) ∧
  (∀ (st : List mm_V) z (l1 : mm_V) (l2 : mm_V) (l3 : mm_V) (l4 : mm_V) (l5 : mm_V) (l6 : mm_V), mm_E d 47 90 [(.inr (.inr z)), l1, l2, l3, l4, l5, l6] [] st n I L P = mm_E d 47 91 [(.inr (.inr z)), l1, l2, l3, l4, l5, l6] [] ((.inr (.inr z)) :: st) n I L P) ∧
  (∀ (lv : List mm_V) (st : List mm_V) a, (mm_ok n a 5) → mm_E d 47 91 lv [] (.inr (.inr (some a)) :: st) n I L P = mm_E d 47 94 lv [] (.inr (.inr (P a 2)) :: st) n I L P) ∧
  (∀ (st : List mm_V) z (l0 : mm_V) (l1 : mm_V) (l2 : mm_V) (l3 : mm_V) (l4 : mm_V) (l6 : mm_V), mm_E d 47 94 [l0, l1, l2, l3, l4, (.inl z), l6] [] st n I L P = mm_E d 47 96 [l0, l1, l2, l3, l4, (.inl z), l6] [] ((.inl z) :: st) n I L P) ∧
  (∀ (st : List mm_V) z (l1 : mm_V) (l2 : mm_V) (l3 : mm_V) (l4 : mm_V) (l5 : mm_V) (l6 : mm_V), mm_E d 47 96 [(.inr (.inr z)), l1, l2, l3, l4, l5, l6] [] st n I L P = mm_E d 47 97 [(.inr (.inr z)), l1, l2, l3, l4, l5, l6] [] ((.inr (.inr z)) :: st) n I L P) ∧
  (∀ (st : List mm_V) z (l0 : mm_V) (l2 : mm_V) (l3 : mm_V) (l4 : mm_V) (l5 : mm_V) (l6 : mm_V), mm_E d 47 97 [l0, (.inr (.inr z)), l2, l3, l4, l5, l6] [] st n I L P = mm_E d 47 98 [l0, (.inr (.inr z)), l2, l3, l4, l5, l6] [] ((.inr (.inr z)) :: st) n I L P) ∧
  (∀ (st : List mm_V) z (l0 : mm_V) (l1 : mm_V) (l3 : mm_V) (l4 : mm_V) (l5 : mm_V) (l6 : mm_V), mm_E d 47 98 [l0, l1, (.inr (.inr z)), l3, l4, l5, l6] [] st n I L P = mm_E d 47 99 [l0, l1, (.inr (.inr z)), l3, l4, l5, l6] [] ((.inr (.inr z)) :: st) n I L P) ∧
  (∀ (st : List mm_V) z (l0 : mm_V) (l1 : mm_V) (l2 : mm_V) (l3 : mm_V) (l4 : mm_V) (l6 : mm_V), mm_E d 47 99 [l0, l1, l2, l3, l4, (.inl z), l6] [] st n I L P = mm_E d 47 101 [l0, l1, l2, l3, l4, (.inl z), l6] [] ((.inl z) :: st) n I L P) ∧
  (∀ (st : List mm_V) z (l0 : mm_V) (l1 : mm_V) (l2 : mm_V) (l4 : mm_V) (l5 : mm_V) (l6 : mm_V), mm_E d 47 101 [l0, l1, l2, (.inl z), l4, l5, l6] [] st n I L P = mm_E d 47 102 [l0, l1, l2, (.inl z), l4, l5, l6] [] ((.inl z) :: st) n I L P) ∧
  (∀ (lv : List mm_V) a x0 x1 x2 x3 w0 w1, (mm_ok n a 5) → mm_E d 47 102 lv [] (.inl x3 :: .inl x2 :: .inr (.inr x1) :: .inr (.inr x0) :: .inr (.inr (some a)) :: [.inl w0, .inr (.inr w1)]) n I L P = mm_kr d 47 105 lv [] [.inl w0, .inr (.inr w1)] n (mm_rn d 48 [.inr (.inr (some a)), .inr (.inr x0), .inr (.inr x1), .inl x2, .inl x3] n I L P)) ∧
  (∀ (lv : List mm_V) (st : List mm_V) a i z, (mm_ix n a 20 i) → mm_E d 47 105 lv [] (.inl z :: .inl i :: .inr (.inr (some a)) :: st) n I L P = mm_E d 47 106 lv [] st n (mm_ui I a i.toNat z) L P) ∧
  (∀ (st : List mm_V) z (l0 : mm_V) (l1 : mm_V) (l2 : mm_V) (l3 : mm_V) (l4 : mm_V) (l6 : mm_V), mm_E d 47 106 [l0, l1, l2, l3, l4, (.inl z), l6] [] st n I L P = mm_E d 47 109 [l0, l1, l2, l3, l4, (.inl (mm_add z 1)), l6] [] st n I L P) ∧
  (∀ (lv : List mm_V) (st : List mm_V), mm_E d 47 109 lv [] st n I L P = mm_E d 47 71 lv [] st n I L P) ∧
  (∀ (st : List mm_V) z (l1 : mm_V) (l2 : mm_V) (l3 : mm_V) (l4 : mm_V) (l5 : mm_V) (l6 : mm_V), mm_E d 47 112 [(.inr (.inr z)), l1, l2, l3, l4, l5, l6] [] st n I L P = mm_E d 47 113 [(.inr (.inr z)), l1, l2, l3, l4, l5, l6] [] ((.inr (.inr z)) :: st) n I L P) ∧
  (∀ (st : List mm_V) z (l0 : mm_V) (l2 : mm_V) (l3 : mm_V) (l4 : mm_V) (l5 : mm_V) (l6 : mm_V), mm_E d 47 113 [l0, (.inr (.inr z)), l2, l3, l4, l5, l6] [] st n I L P = mm_E d 47 114 [l0, (.inr (.inr z)), l2, l3, l4, l5, l6] [] ((.inr (.inr z)) :: st) n I L P) ∧
  (∀ (lv : List mm_V) a x0, (mm_ok n a 5) → mm_E d 47 114 lv [] (.inr (.inr x0) :: .inr (.inr (some a)) :: []) n I L P = mm_kv d 47 117 lv [] [] n (mm_rn d 49 [.inr (.inr (some a)), .inr (.inr x0)] n I L P)) ∧
  (∀ (st : List mm_V) z (l1 : mm_V) (l2 : mm_V) (l3 : mm_V) (l4 : mm_V) (l5 : mm_V) (l6 : mm_V), mm_E d 47 117 [(.inr (.inr z)), l1, l2, l3, l4, l5, l6] [] st n I L P = mm_E d 47 118 [(.inr (.inr z)), l1, l2, l3, l4, l5, l6] [] ((.inr (.inr z)) :: st) n I L P) ∧
  (∀ (lv : List mm_V) (st : List mm_V), mm_E d 47 118 lv [] st n I L P = mm_E d 47 121 lv [] (.inl 9999 :: st) n I L P) ∧
  (∀ (st : List mm_V) z (l1 : mm_V) (l2 : mm_V) (l3 : mm_V) (l4 : mm_V) (l5 : mm_V) (l6 : mm_V), mm_E d 47 121 [(.inr (.inr z)), l1, l2, l3, l4, l5, l6] [] st n I L P = mm_E d 47 122 [(.inr (.inr z)), l1, l2, l3, l4, l5, l6] [] ((.inr (.inr z)) :: st) n I L P) ∧
  (∀ (lv : List mm_V) (st : List mm_V) a, (mm_ok n a 5) → mm_E d 47 122 lv [] (.inr (.inr (some a)) :: st) n I L P = mm_E d 47 125 lv [] (.inl (I a 7) :: st) n I L P) ∧
  (∀ (st : List mm_V) z (l0 : mm_V) (l1 : mm_V) (l2 : mm_V) (l3 : mm_V) (l5 : mm_V) (l6 : mm_V), mm_E d 47 125 [l0, l1, l2, l3, (.inl z), l5, l6] [] st n I L P = mm_E d 47 127 [l0, l1, l2, l3, (.inl z), l5, l6] [] ((.inl z) :: st) n I L P) ∧
  (∀ (lv : List mm_V) (st : List mm_V) a b, mm_E d 47 127 lv [] (.inl b :: .inl a :: st) n I L P = mm_E d 47 128 lv [] (.inl (mm_add a b) :: st) n I L P) ∧
  (∀ (lv : List mm_V) x0 x1 w0, mm_E d 47 128 lv [] (.inl x1 :: .inl x0 :: [.inr (.inr w0)]) n I L P = mm_kr d 47 131 lv [] [.inr (.inr w0)] n (mm_rn d 267 [.inl x0, .inl x1] n I L P)) ∧
  (∀ (lv : List mm_V) (st : List mm_V) a z, (mm_ok n a 5) → mm_E d 47 131 lv [] (.inl z :: .inr (.inr (some a)) :: st) n I L P = mm_E d 47 134 lv [] st n (mm_ui I a 7 z) L P) ∧
  (∀ (st : List mm_V) z (l1 : mm_V) (l2 : mm_V) (l3 : mm_V) (l4 : mm_V) (l5 : mm_V) (l6 : mm_V), mm_E d 47 134 [(.inr (.inr z)), l1, l2, l3, l4, l5, l6] [] st n I L P = mm_E d 47 135 [(.inr (.inr z)), l1, l2, l3, l4, l5, l6] [] ((.inr (.inr z)) :: st) n I L P) ∧
  (∀ (st : List mm_V) z (l0 : mm_V) (l2 : mm_V) (l3 : mm_V) (l4 : mm_V) (l5 : mm_V) (l6 : mm_V), mm_E d 47 135 [l0, (.inr (.inr z)), l2, l3, l4, l5, l6] [] st n I L P = mm_E d 47 136 [l0, (.inr (.inr z)), l2, l3, l4, l5, l6] [] ((.inr (.inr z)) :: st) n I L P) ∧
  (∀ (lv : List mm_V) (st : List mm_V) a, (mm_ok n a 9) → mm_E d 47 136 lv [] (.inr (.inr (some a)) :: st) n I L P = mm_E d 47 139 lv [] (.inl (I a 1) :: st) n I L P) ∧
  (∀ (lv : List mm_V) (st : List mm_V) a z, (mm_ok n a 5) → mm_E d 47 139 lv [] (.inl z :: .inr (.inr (some a)) :: st) n I L P = mm_E d 47 142 lv [] st n (mm_ui I a 4 z) L P) ∧
  (∀ (st : List mm_V) z (l1 : mm_V) (l2 : mm_V) (l3 : mm_V) (l4 : mm_V) (l5 : mm_V) (l6 : mm_V), mm_E d 47 142 [(.inr (.inr z)), l1, l2, l3, l4, l5, l6] [] st n I L P = mm_E d 47 143 [(.inr (.inr z)), l1, l2, l3, l4, l5, l6] [] ((.inr (.inr z)) :: st) n I L P) ∧
  (∀ (lv : List mm_V) (st : List mm_V) a, mm_E d 47 143 lv [] ((.inr (.inr a)) :: st) n I L P = mm_E d 47 144 lv [] ((.inr (.inr a)) :: (.inr (.inr a)) :: st) n I L P) ∧
  (∀ (lv : List mm_V) (st : List mm_V) a, (mm_ok n a 5) → mm_E d 47 144 lv [] (.inr (.inr (some a)) :: st) n I L P = mm_E d 47 147 lv [] (.inl (I a 8) :: st) n I L P) ∧
  (∀ (lv : List mm_V) (st : List mm_V), mm_E d 47 147 lv [] st n I L P = mm_E d 47 148 lv [] (.inl 1 :: st) n I L P) ∧
  (∀ (lv : List mm_V) (st : List mm_V) a b, mm_E d 47 148 lv [] (.inl b :: .inl a :: st) n I L P = mm_E d 47 149 lv [] (.inl (mm_add a b) :: st) n I L P) ∧
  (∀ (lv : List mm_V) (st : List mm_V) a z, (mm_ok n a 5) → mm_E d 47 149 lv [] (.inl z :: .inr (.inr (some a)) :: st) n I L P = mm_E d 47 152 lv [] st n (mm_ui I a 8 z) L P) ∧
  (∀ (st : List mm_V) z (l0 : mm_V) (l1 : mm_V) (l2 : mm_V) (l3 : mm_V) (l5 : mm_V) (l6 : mm_V), mm_E d 47 152 [l0, l1, l2, l3, (.inl z), l5, l6] [] st n I L P = mm_E d 47 154 [l0, l1, l2, l3, (.inl z), l5, l6] [] ((.inl z) :: st) n I L P) ∧
  (∀ (lv : List mm_V) z, mm_E d 47 154 lv [] [.inl z] n I L P = some (some (.inl z), n, I, L, P)) :=
  ⟨fun _ _ _ _ _ _ _ _ => mq_al (i := 0) rfl rfl,
   fun _ _ h0 => mq_cVr (na := 0) rfl rfl (Nat.le_of_ble_eq_true rfl) (Nat.le_of_ble_eq_true rfl) h0,
   fun _ _ _ _ _ _ _ _ _ => mq_is (i := 3) rfl rfl rfl,
   fun _ _ => mq_push rfl,
   fun _ _ _ _ _ _ _ _ _ => mq_is (i := 4) rfl rfl rfl,
   fun _ _ _ _ _ _ _ _ => mq_il (i := 3) rfl rfl,
   fun _ _ _ => mq_if_eq rfl,
   fun _ _ => mq_push rfl,
   fun _ _ _ _ _ _ _ _ _ => mq_is (i := 5) rfl rfl rfl,
   fun _ _ _ _ _ _ _ _ => mq_al (i := 1) rfl rfl,
   fun _ _ _ h0 => mq_getI rfl h0,
   fun _ _ _ _ => mq_ic_ge rfl,
   fun _ _ _ _ _ _ _ _ => mq_al (i := 0) rfl rfl,
   fun _ _ _ h0 => mq_getR rfl h0,
   fun _ _ _ _ _ _ _ _ => mq_il (i := 5) rfl rfl,
   fun _ _ _ _ h0 => mq_iald rfl h0,
   fun _ _ _ _ _ _ _ _ => mq_al (i := 0) rfl rfl,
   fun _ _ _ h0 => mq_getR rfl h0,
   fun _ _ _ _ _ _ _ _ => mq_il (i := 5) rfl rfl,
   fun _ _ _ _ h0 => mq_iald rfl h0,
   fun _ _ _ => mq_cSr (na := 2) rfl (Nat.le_of_ble_eq_true rfl) (Nat.le_of_ble_eq_true rfl),
   fun _ _ _ _ _ _ _ _ _ => mq_is (i := 6) rfl rfl rfl,
   fun _ _ _ _ _ _ _ _ => mq_al (i := 0) rfl rfl,
   fun _ _ _ h0 => mq_getR rfl h0,
   fun _ _ _ _ _ _ _ _ => mq_il (i := 5) rfl rfl,
   fun _ _ _ _ => mq_dup2 rfl rfl rfl,
   fun _ _ _ _ h0 => mq_iald rfl h0,
   fun _ _ _ _ _ _ _ _ => mq_il (i := 6) rfl rfl,
   fun _ _ _ _ => mq_bi rfl,
   fun _ _ _ _ _ h0 => mq_iast rfl h0,
   fun _ _ _ _ _ _ _ _ => mq_il (i := 4) rfl rfl,
   fun _ _ _ _ _ _ _ _ => mq_il (i := 6) rfl rfl,
   fun _ _ _ _ => mq_bi rfl,
   fun _ _ _ _ _ _ _ _ _ => mq_is (i := 4) rfl rfl rfl,
   fun _ _ _ _ _ _ _ _ => mq_iinc (i := 5) rfl rfl rfl rfl,
   fun _ _ => mq_go rfl,
   fun _ _ => mq_push rfl,
   fun _ _ _ _ _ _ _ _ _ => mq_is (i := 5) rfl rfl rfl,
   fun _ _ _ _ _ _ _ _ => mq_al (i := 1) rfl rfl,
   fun _ _ _ h0 => mq_getI rfl h0,
   fun _ _ _ _ => mq_ic_ge rfl,
   fun _ _ _ _ _ _ _ _ => mq_al (i := 0) rfl rfl,
   fun _ _ _ h0 => mq_getR rfl h0,
   fun _ _ _ _ _ _ _ _ => mq_il (i := 5) rfl rfl,
   fun _ _ _ _ h0 => mq_iald rfl h0,
   fun _ _ _ => mq_if_le rfl,
   fun _ _ _ _ _ _ _ _ => mq_al (i := 0) rfl rfl,
   fun _ _ _ h0 => mq_getR rfl h0,
   fun _ _ _ _ _ _ _ _ => mq_il (i := 5) rfl rfl,
   fun _ _ _ _ _ _ _ _ => mq_al (i := 0) rfl rfl,
   fun _ _ _ _ _ _ _ _ => mq_al (i := 1) rfl rfl,
   fun _ _ _ _ _ _ _ _ => mq_al (i := 2) rfl rfl,
   fun _ _ _ _ _ _ _ _ => mq_il (i := 5) rfl rfl,
   fun _ _ _ _ _ _ _ _ => mq_il (i := 3) rfl rfl,
   fun _ _ _ _ _ _ _ _ h0 => mq_cVr (na := 4) rfl rfl (Nat.le_of_ble_eq_true rfl) (Nat.le_of_ble_eq_true rfl) h0,
   fun _ _ _ _ _ h0 => mq_iast rfl h0,
   fun _ _ _ _ _ _ _ _ => mq_iinc (i := 5) rfl rfl rfl rfl,
   fun _ _ => mq_go rfl,
   fun _ _ _ _ _ _ _ _ => mq_al (i := 0) rfl rfl,
   fun _ _ _ _ _ _ _ _ => mq_al (i := 1) rfl rfl,
   fun _ _ _ h0 => mq_cVv (na := 1) rfl rfl (Nat.le_of_ble_eq_true rfl) (Nat.le_of_ble_eq_true rfl) h0,
   fun _ _ _ _ _ _ _ _ => mq_al (i := 0) rfl rfl,
   fun _ _ => mq_push rfl,
   fun _ _ _ _ _ _ _ _ => mq_al (i := 0) rfl rfl,
   fun _ _ _ h0 => mq_getI rfl h0,
   fun _ _ _ _ _ _ _ _ => mq_il (i := 4) rfl rfl,
   fun _ _ _ _ => mq_bi rfl,
   fun _ _ _ _ => mq_cSr (na := 2) rfl (Nat.le_of_ble_eq_true rfl) (Nat.le_of_ble_eq_true rfl),
   fun _ _ _ _ h0 => mq_putI rfl h0,
   fun _ _ _ _ _ _ _ _ => mq_al (i := 0) rfl rfl,
   fun _ _ _ _ _ _ _ _ => mq_al (i := 1) rfl rfl,
   fun _ _ _ h0 => mq_getI rfl h0,
   fun _ _ _ _ h0 => mq_putI rfl h0,
   fun _ _ _ _ _ _ _ _ => mq_al (i := 0) rfl rfl,
   fun _ _ _ => mq_dup rfl rfl,
   fun _ _ _ h0 => mq_getI rfl h0,
   fun _ _ => mq_push rfl,
   fun _ _ _ _ => mq_bi rfl,
   fun _ _ _ _ h0 => mq_putI rfl h0,
   fun _ _ _ _ _ _ _ _ => mq_il (i := 4) rfl rfl,
   fun _ _ => mq_ri rfl⟩
theorem hX5_passHour_15 (d n : Nat) (I L : mm_I) (P : mm_P) : ∀ (st : List mm_V) z (l0 : mm_V) (l1 : mm_V) (l2 : mm_V) (l3 : mm_V) (l4 : mm_V) (l6 : mm_V), mm_E d 47 15 [l0, l1, l2, l3, l4, (.inl z), l6] [] st n I L P = mm_E d 47 17 [l0, l1, l2, l3, l4, (.inl z), l6] [] ((.inl z) :: st) n I L P := fun _ _ _ _ _ _ _ _ => mq_il (i := 5) rfl rfl
theorem hX5_passHour_71 (d n : Nat) (I L : mm_I) (P : mm_P) : ∀ (st : List mm_V) z (l0 : mm_V) (l1 : mm_V) (l2 : mm_V) (l3 : mm_V) (l4 : mm_V) (l6 : mm_V), mm_E d 47 71 [l0, l1, l2, l3, l4, (.inl z), l6] [] st n I L P = mm_E d 47 73 [l0, l1, l2, l3, l4, (.inl z), l6] [] ((.inl z) :: st) n I L P := fun _ _ _ _ _ _ _ _ => mq_il (i := 5) rfl rfl
theorem eX5_passHour (d n : Nat) (I L : mm_I) (P : mm_P) (x0 : Option Nat) (x1 : Option Nat) (x2 : Option Nat) : mm_rn (d + 1) 47 [.inr (.inr x0), .inr (.inr x1), .inr (.inr x2)] n I L P = mm_E d 47 0 [.inr (.inr x0), .inr (.inr x1), .inr (.inr x2), mm_junk, mm_junk, mm_junk, mm_junk] [] [] n I L P := rfl

set_option maxRecDepth 20000 in
set_option maxHeartbeats 8000000 in
theorem kX5_grownSize (d n : Nat) (I L : mm_I) (P : mm_P) :
  (∀ (st : List mm_V) z (l0 : mm_V) (l2 : mm_V) (l3 : mm_V) (l4 : mm_V) (l5 : mm_V) (l6 : mm_V) (l7 : mm_V), mm_E d 48 0 [l0, (.inr (.inr z)), l2, l3, l4, l5, l6, l7] [] st n I L P = mm_E d 48 1 [l0, (.inr (.inr z)), l2, l3, l4, l5, l6, l7] [] ((.inr (.inr z)) :: st) n I L P) ∧
  (∀ (st : List mm_V) z (l1 : mm_V) (l2 : mm_V) (l3 : mm_V) (l4 : mm_V) (l5 : mm_V) (l6 : mm_V) (l7 : mm_V), mm_E d 48 1 [(.inr (.inr z)), l1, l2, l3, l4, l5, l6, l7] [] st n I L P = mm_E d 48 2 [(.inr (.inr z)), l1, l2, l3, l4, l5, l6, l7] [] ((.inr (.inr z)) :: st) n I L P) ∧
  (∀ (lv : List mm_V) (st : List mm_V) a, (mm_ok n a 5) → mm_E d 48 2 lv [] (.inr (.inr (some a)) :: st) n I L P = mm_E d 48 5 lv [] (.inl (I a 3) :: st) n I L P) ∧
  (∀ (st : List mm_V) z (l0 : mm_V) (l1 : mm_V) (l2 : mm_V) (l4 : mm_V) (l5 : mm_V) (l6 : mm_V) (l7 : mm_V), mm_E d 48 5 [l0, l1, l2, (.inl z), l4, l5, l6, l7] [] st n I L P = mm_E d 48 6 [l0, l1, l2, (.inl z), l4, l5, l6, l7] [] ((.inl z) :: st) n I L P) ∧
  (∀ (lv : List mm_V) a x0 x1, (mm_ok n a 9) → mm_E d 48 6 lv [] (.inl x1 :: .inl x0 :: .inr (.inr (some a)) :: []) n I L P = mm_kr d 48 9 lv [] [] n (mm_rn d 64 [.inr (.inr (some a)), .inl x0, .inl x1] n I L P)) ∧
  (∀ (st : List mm_V) z (l0 : mm_V) (l1 : mm_V) (l2 : mm_V) (l3 : mm_V) (l4 : mm_V) (l5 : mm_V) (l6 : mm_V) (l7 : mm_V), mm_E d 48 9 [l0, l1, l2, l3, l4, l5, l6, l7] [] ((.inl z) :: st) n I L P = mm_E d 48 11 [l0, l1, l2, l3, l4, (.inl z), l6, l7] [] st n I L P) ∧
  (∀ (st : List mm_V) z (l0 : mm_V) (l1 : mm_V) (l3 : mm_V) (l4 : mm_V) (l5 : mm_V) (l6 : mm_V) (l7 : mm_V), mm_E d 48 11 [l0, l1, (.inr (.inr z)), l3, l4, l5, l6, l7] [] st n I L P = mm_E d 48 12 [l0, l1, (.inr (.inr z)), l3, l4, l5, l6, l7] [] ((.inr (.inr z)) :: st) n I L P) ∧
  (∀ (lv : List mm_V) (st : List mm_V), mm_E d 48 12 lv [] (.inr (.inr none) :: st) n I L P = mm_E d 48 67 lv [] st n I L P) ∧
  (∀ (lv : List mm_V) (st : List mm_V) a, mm_E d 48 12 lv [] (.inr (.inr (some a)) :: st) n I L P = mm_E d 48 15 lv [] st n I L P) ∧
  (∀ (st : List mm_V) z (l0 : mm_V) (l2 : mm_V) (l3 : mm_V) (l4 : mm_V) (l5 : mm_V) (l6 : mm_V) (l7 : mm_V), mm_E d 48 15 [l0, (.inr (.inr z)), l2, l3, l4, l5, l6, l7] [] st n I L P = mm_E d 48 16 [l0, (.inr (.inr z)), l2, l3, l4, l5, l6, l7] [] ((.inr (.inr z)) :: st) n I L P) ∧
  (∀ (lv : List mm_V) (st : List mm_V) a, (mm_ok n a 9) → mm_E d 48 16 lv [] (.inr (.inr (some a)) :: st) n I L P = mm_E d 48 19 lv [] (.inr (.inr (P a 6)) :: st) n I L P) ∧
  (∀ (st : List mm_V) z (l0 : mm_V) (l1 : mm_V) (l2 : mm_V) (l4 : mm_V) (l5 : mm_V) (l6 : mm_V) (l7 : mm_V), mm_E d 48 19 [l0, l1, l2, (.inl z), l4, l5, l6, l7] [] st n I L P = mm_E d 48 20 [l0, l1, l2, (.inl z), l4, l5, l6, l7] [] ((.inl z) :: st) n I L P) ∧
  (∀ (lv : List mm_V) (st : List mm_V) a i, (mm_ix n a 20 i) → mm_E d 48 20 lv [] (.inl i :: .inr (.inr (some a)) :: st) n I L P = mm_E d 48 21 lv [] (.inl (I a i.toNat) :: st) n I L P) ∧
  (∀ (st : List mm_V) z (l0 : mm_V) (l1 : mm_V) (l2 : mm_V) (l3 : mm_V) (l5 : mm_V) (l6 : mm_V) (l7 : mm_V), mm_E d 48 21 [l0, l1, l2, l3, (.inl z), l5, l6, l7] [] st n I L P = mm_E d 48 23 [l0, l1, l2, l3, (.inl z), l5, l6, l7] [] ((.inl z) :: st) n I L P) ∧
  (∀ (lv : List mm_V) (st : List mm_V) a b, mm_E d 48 23 lv [] (.inl b :: .inl a :: st) n I L P = mm_E d 48 24 lv [] (.inl (mm_and a b) :: st) n I L P) ∧
  (∀ (lv : List mm_V) x0, mm_E d 48 24 lv [] (.inl x0 :: []) n I L P = mm_kr d 48 27 lv [] [] n (mm_rn d 263 [.inl x0] n I L P)) ∧
  (∀ (st : List mm_V) z (l0 : mm_V) (l1 : mm_V) (l2 : mm_V) (l3 : mm_V) (l4 : mm_V) (l5 : mm_V) (l6 : mm_V) (l7 : mm_V), mm_E d 48 27 [l0, l1, l2, l3, l4, l5, l6, l7] [] ((.inl z) :: st) n I L P = mm_E d 48 29 [l0, l1, l2, l3, l4, l5, l6, (.inl z)] [] st n I L P) ∧
  (∀ (st : List mm_V) z (l0 : mm_V) (l1 : mm_V) (l3 : mm_V) (l4 : mm_V) (l5 : mm_V) (l6 : mm_V) (l7 : mm_V), mm_E d 48 29 [l0, l1, (.inr (.inr z)), l3, l4, l5, l6, l7] [] st n I L P = mm_E d 48 30 [l0, l1, (.inr (.inr z)), l3, l4, l5, l6, l7] [] ((.inr (.inr z)) :: st) n I L P) ∧
  (∀ (st : List mm_V) z (l1 : mm_V) (l2 : mm_V) (l3 : mm_V) (l4 : mm_V) (l5 : mm_V) (l6 : mm_V) (l7 : mm_V), mm_E d 48 30 [(.inr (.inr z)), l1, l2, l3, l4, l5, l6, l7] [] st n I L P = mm_E d 48 31 [(.inr (.inr z)), l1, l2, l3, l4, l5, l6, l7] [] ((.inr (.inr z)) :: st) n I L P) ∧
  (∀ (lv : List mm_V) (st : List mm_V) a, (mm_ok n a 5) → mm_E d 48 31 lv [] (.inr (.inr (some a)) :: st) n I L P = mm_E d 48 34 lv [] (.inr (.inr (P a 2)) :: st) n I L P) ∧
  (∀ (st : List mm_V) z (l0 : mm_V) (l1 : mm_V) (l2 : mm_V) (l4 : mm_V) (l5 : mm_V) (l6 : mm_V) (l7 : mm_V), mm_E d 48 34 [l0, l1, l2, (.inl z), l4, l5, l6, l7] [] st n I L P = mm_E d 48 35 [l0, l1, l2, (.inl z), l4, l5, l6, l7] [] ((.inl z) :: st) n I L P) ∧
  (∀ (lv : List mm_V) (st : List mm_V) a i, (mm_ix n a 20 i) → mm_E d 48 35 lv [] (.inl i :: .inr (.inr (some a)) :: st) n I L P = mm_E d 48 36 lv [] (.inl (I a i.toNat) :: st) n I L P) ∧
  (∀ (st : List mm_V) z (l1 : mm_V) (l2 : mm_V) (l3 : mm_V) (l4 : mm_V) (l5 : mm_V) (l6 : mm_V) (l7 : mm_V), mm_E d 48 36 [(.inr (.inr z)), l1, l2, l3, l4, l5, l6, l7] [] st n I L P = mm_E d 48 37 [(.inr (.inr z)), l1, l2, l3, l4, l5, l6, l7] [] ((.inr (.inr z)) :: st) n I L P) ∧
  (∀ (lv : List mm_V) (st : List mm_V) a, (mm_ok n a 5) → mm_E d 48 37 lv [] (.inr (.inr (some a)) :: st) n I L P = mm_E d 48 40 lv [] (.inr (.inr (P a 1)) :: st) n I L P) ∧
  (∀ (st : List mm_V) z (l0 : mm_V) (l1 : mm_V) (l2 : mm_V) (l4 : mm_V) (l5 : mm_V) (l6 : mm_V) (l7 : mm_V), mm_E d 48 40 [l0, l1, l2, (.inl z), l4, l5, l6, l7] [] st n I L P = mm_E d 48 41 [l0, l1, l2, (.inl z), l4, l5, l6, l7] [] ((.inl z) :: st) n I L P) ∧
  (∀ (lv : List mm_V) (st : List mm_V) a i, (mm_ix n a 20 i) → mm_E d 48 41 lv [] (.inl i :: .inr (.inr (some a)) :: st) n I L P = mm_E d 48 42 lv [] (.inl (I a i.toNat) :: st) n I L P) ∧
  (∀ (st : List mm_V) z (l1 : mm_V) (l2 : mm_V) (l3 : mm_V) (l4 : mm_V) (l5 : mm_V) (l6 : mm_V) (l7 : mm_V), mm_E d 48 42 [(.inr (.inr z)), l1, l2, l3, l4, l5, l6, l7] [] st n I L P = mm_E d 48 43 [(.inr (.inr z)), l1, l2, l3, l4, l5, l6, l7] [] ((.inr (.inr z)) :: st) n I L P) ∧
  (∀ (lv : List mm_V) (st : List mm_V) a, (mm_ok n a 5) → mm_E d 48 43 lv [] (.inr (.inr (some a)) :: st) n I L P = mm_E d 48 46 lv [] (.inr (.inr (P a 0)) :: st) n I L P) ∧
  (∀ (st : List mm_V) z (l0 : mm_V) (l1 : mm_V) (l2 : mm_V) (l4 : mm_V) (l5 : mm_V) (l6 : mm_V) (l7 : mm_V), mm_E d 48 46 [l0, l1, l2, (.inl z), l4, l5, l6, l7] [] st n I L P = mm_E d 48 47 [l0, l1, l2, (.inl z), l4, l5, l6, l7] [] ((.inl z) :: st) n I L P) ∧
  (∀ (lv : List mm_V) (st : List mm_V) a i, (mm_ix n a 20 i) → mm_E d 48 47 lv [] (.inl i :: .inr (.inr (some a)) :: st) n I L P = mm_E d 48 48 lv [] (.inl (I a i.toNat) :: st) n I L P) ∧
  (∀ (st : List mm_V) z (l0 : mm_V) (l1 : mm_V) (l2 : mm_V) (l3 : mm_V) (l4 : mm_V) (l6 : mm_V) (l7 : mm_V), mm_E d 48 48 [l0, l1, l2, l3, l4, (.inl z), l6, l7] [] st n I L P = mm_E d 48 50 [l0, l1, l2, l3, l4, (.inl z), l6, l7] [] ((.inl z) :: st) n I L P) ∧
  (∀ (st : List mm_V) z (l0 : mm_V) (l1 : mm_V) (l2 : mm_V) (l3 : mm_V) (l4 : mm_V) (l5 : mm_V) (l6 : mm_V), mm_E d 48 50 [l0, l1, l2, l3, l4, l5, l6, (.inl z)] [] st n I L P = mm_E d 48 52 [l0, l1, l2, l3, l4, l5, l6, (.inl z)] [] ((.inl z) :: st) n I L P) ∧
  (∀ (st : List mm_V) z (l1 : mm_V) (l2 : mm_V) (l3 : mm_V) (l4 : mm_V) (l5 : mm_V) (l6 : mm_V) (l7 : mm_V), mm_E d 48 52 [(.inr (.inr z)), l1, l2, l3, l4, l5, l6, l7] [] st n I L P = mm_E d 48 53 [(.inr (.inr z)), l1, l2, l3, l4, l5, l6, l7] [] ((.inr (.inr z)) :: st) n I L P) ∧
  (∀ (lv : List mm_V) (st : List mm_V) a, (mm_ok n a 5) → mm_E d 48 53 lv [] (.inr (.inr (some a)) :: st) n I L P = mm_E d 48 56 lv [] (.inl (I a 8) :: st) n I L P) ∧
  (∀ (lv : List mm_V) (st : List mm_V), mm_E d 48 56 lv [] st n I L P = mm_E d 48 58 lv [] (.inl 24 :: st) n I L P) ∧
  (∀ (lv : List mm_V) (st : List mm_V) a b, (¬ b = 0) → mm_E d 48 58 lv [] (.inl b :: .inl a :: st) n I L P = mm_E d 48 59 lv [] (.inl (mm_w (Int.tmod a b)) :: st) n I L P) ∧
  (∀ (lv : List mm_V) a x0 x1 x2 x3 x4 x5, (mm_ok n a 3) → mm_E d 48 59 lv [] (.inl x5 :: .inl x4 :: .inl x3 :: .inl x2 :: .inl x1 :: .inl x0 :: .inr (.inr (some a)) :: []) n I L P = mm_kr d 48 62 lv [] [] n (mm_rn d 24 [.inr (.inr (some a)), .inl x0, .inl x1, .inl x2, .inl x3, .inl x4, .inl x5] n I L P)) ∧
  (∀ (st : List mm_V) z (l0 : mm_V) (l1 : mm_V) (l2 : mm_V) (l3 : mm_V) (l4 : mm_V) (l5 : mm_V) (l6 : mm_V) (l7 : mm_V), mm_E d 48 62 [l0, l1, l2, l3, l4, l5, l6, l7] [] ((.inl z) :: st) n I L P = mm_E d 48 64 [l0, l1, l2, l3, l4, l5, (.inl z), l7] [] st n I L P) ∧
  (∀ (lv : List mm_V) (st : List mm_V), mm_E d 48 64 lv [] st n I L P = mm_E d 48 118 lv [] st n I L P) ∧
  (∀ (st : List mm_V) z (l1 : mm_V) (l2 : mm_V) (l3 : mm_V) (l4 : mm_V) (l5 : mm_V) (l6 : mm_V) (l7 : mm_V), mm_E d 48 67 [(.inr (.inr z)), l1, l2, l3, l4, l5, l6, l7] [] st n I L P = mm_E d 48 68 [(.inr (.inr z)), l1, l2, l3, l4, l5, l6, l7] [] ((.inr (.inr z)) :: st) n I L P) ∧
  (∀ (lv : List mm_V) (st : List mm_V) a, (mm_ok n a 5) → mm_E d 48 68 lv [] (.inr (.inr (some a)) :: st) n I L P = mm_E d 48 71 lv [] (.inr (.inr (P a 1)) :: st) n I L P) ∧
  (∀ (st : List mm_V) z (l0 : mm_V) (l1 : mm_V) (l2 : mm_V) (l4 : mm_V) (l5 : mm_V) (l6 : mm_V) (l7 : mm_V), mm_E d 48 71 [l0, l1, l2, (.inl z), l4, l5, l6, l7] [] st n I L P = mm_E d 48 72 [l0, l1, l2, (.inl z), l4, l5, l6, l7] [] ((.inl z) :: st) n I L P) ∧
  (∀ (lv : List mm_V) (st : List mm_V) a i, (mm_ix n a 20 i) → mm_E d 48 72 lv [] (.inl i :: .inr (.inr (some a)) :: st) n I L P = mm_E d 48 73 lv [] (.inl (I a i.toNat) :: st) n I L P) ∧
  (∀ (lv : List mm_V) (st : List mm_V) a, mm_E d 48 73 lv [] (.inl a :: st) n I L P = if a = 0 then mm_E d 48 76 lv [] st n I L P else mm_E d 48 95 lv [] st n I L P) ∧
  (∀ (st : List mm_V) z (l1 : mm_V) (l2 : mm_V) (l3 : mm_V) (l4 : mm_V) (l5 : mm_V) (l6 : mm_V) (l7 : mm_V), mm_E d 48 76 [(.inr (.inr z)), l1, l2, l3, l4, l5, l6, l7] [] st n I L P = mm_E d 48 77 [(.inr (.inr z)), l1, l2, l3, l4, l5, l6, l7] [] ((.inr (.inr z)) :: st) n I L P) ∧
  (∀ (lv : List mm_V) (st : List mm_V) a, (mm_ok n a 5) → mm_E d 48 77 lv [] (.inr (.inr (some a)) :: st) n I L P = mm_E d 48 80 lv [] (.inr (.inr (P a 0)) :: st) n I L P) ∧
  (∀ (st : List mm_V) z (l0 : mm_V) (l1 : mm_V) (l2 : mm_V) (l4 : mm_V) (l5 : mm_V) (l6 : mm_V) (l7 : mm_V), mm_E d 48 80 [l0, l1, l2, (.inl z), l4, l5, l6, l7] [] st n I L P = mm_E d 48 81 [l0, l1, l2, (.inl z), l4, l5, l6, l7] [] ((.inl z) :: st) n I L P) ∧
  (∀ (lv : List mm_V) (st : List mm_V) a i, (mm_ix n a 20 i) → mm_E d 48 81 lv [] (.inl i :: .inr (.inr (some a)) :: st) n I L P = mm_E d 48 82 lv [] (.inl (I a i.toNat) :: st) n I L P) ∧
  (∀ (lv : List mm_V) (st : List mm_V) a, mm_E d 48 82 lv [] (.inl a :: st) n I L P = if a ≤ 0 then mm_E d 48 89 lv [] st n I L P else mm_E d 48 85 lv [] st n I L P) ∧
  (∀ (lv : List mm_V) (st : List mm_V), mm_E d 48 85 lv [] st n I L P = mm_E d 48 86 lv [] (.inl 1 :: st) n I L P) ∧
  (∀ (lv : List mm_V) (st : List mm_V), mm_E d 48 86 lv [] st n I L P = mm_E d 48 90 lv [] st n I L P) ∧
  (∀ (lv : List mm_V) (st : List mm_V), mm_E d 48 89 lv [] st n I L P = mm_E d 48 90 lv [] (.inl (-1) :: st) n I L P) ∧
  (∀ (st : List mm_V) z (l0 : mm_V) (l1 : mm_V) (l2 : mm_V) (l3 : mm_V) (l4 : mm_V) (l5 : mm_V) (l6 : mm_V) (l7 : mm_V), mm_E d 48 90 [l0, l1, l2, l3, l4, l5, l6, l7] [] ((.inl z) :: st) n I L P = mm_E d 48 92 [l0, l1, l2, l3, l4, l5, (.inl z), l7] [] st n I L P) ∧
  (∀ (lv : List mm_V) (st : List mm_V), mm_E d 48 92 lv [] st n I L P = mm_E d 48 118 lv [] st n I L P) ∧
  (∀ (st : List mm_V) z (l1 : mm_V) (l2 : mm_V) (l3 : mm_V) (l4 : mm_V) (l5 : mm_V) (l6 : mm_V) (l7 : mm_V), mm_E d 48 95 [(.inr (.inr z)), l1, l2, l3, l4, l5, l6, l7] [] st n I L P = mm_E d 48 96 [(.inr (.inr z)), l1, l2, l3, l4, l5, l6, l7] [] ((.inr (.inr z)) :: st) n I L P) ∧
  (∀ (lv : List mm_V) (st : List mm_V) a, (mm_ok n a 5) → mm_E d 48 96 lv [] (.inr (.inr (some a)) :: st) n I L P = mm_E d 48 99 lv [] (.inr (.inr (P a 1)) :: st) n I L P) ∧
  (∀ (st : List mm_V) z (l0 : mm_V) (l1 : mm_V) (l2 : mm_V) (l4 : mm_V) (l5 : mm_V) (l6 : mm_V) (l7 : mm_V), mm_E d 48 99 [l0, l1, l2, (.inl z), l4, l5, l6, l7] [] st n I L P = mm_E d 48 100 [l0, l1, l2, (.inl z), l4, l5, l6, l7] [] ((.inl z) :: st) n I L P) ∧
  (∀ (lv : List mm_V) (st : List mm_V) a i, (mm_ix n a 20 i) → mm_E d 48 100 lv [] (.inl i :: .inr (.inr (some a)) :: st) n I L P = mm_E d 48 101 lv [] (.inl (I a i.toNat) :: st) n I L P) ∧
  (∀ (lv : List mm_V) (st : List mm_V), mm_E d 48 101 lv [] st n I L P = mm_E d 48 102 lv [] (.inl 1 :: st) n I L P) ∧
  (∀ (lv : List mm_V) (st : List mm_V) a b, mm_E d 48 102 lv [] (.inl b :: .inl a :: st) n I L P = if a = b then mm_E d 48 105 lv [] st n I L P else mm_E d 48 115 lv [] st n I L P) ∧
  (∀ (st : List mm_V) z (l0 : mm_V) (l1 : mm_V) (l2 : mm_V) (l3 : mm_V) (l4 : mm_V) (l6 : mm_V) (l7 : mm_V), mm_E d 48 105 [l0, l1, l2, l3, l4, (.inl z), l6, l7] [] st n I L P = mm_E d 48 107 [l0, l1, l2, l3, l4, (.inl z), l6, l7] [] ((.inl z) :: st) n I L P) ∧
  (∀ (lv : List mm_V) (st : List mm_V), mm_E d 48 107 lv [] st n I L P = mm_E d 48 108 lv [] (.inl 1 :: st) n I L P) ∧
  (∀ (lv : List mm_V) (st : List mm_V) a b, mm_E d 48 108 lv [] (.inl b :: .inl a :: st) n I L P = if a ≤ b then mm_E d 48 115 lv [] st n I L P else mm_E d 48 111 lv [] st n I L P) ∧
  (∀ (lv : List mm_V) (st : List mm_V), mm_E d 48 111 lv [] st n I L P = mm_E d 48 112 lv [] (.inl 1 :: st) n I L P) ∧
  (∀ (lv : List mm_V) (st : List mm_V), mm_E d 48 112 lv [] st n I L P = mm_E d 48 116 lv [] st n I L P) ∧
  (∀ (lv : List mm_V) (st : List mm_V), mm_E d 48 115 lv [] st n I L P = mm_E d 48 116 lv [] (.inl (-1) :: st) n I L P) ∧
  (∀ (st : List mm_V) z (l0 : mm_V) (l1 : mm_V) (l2 : mm_V) (l3 : mm_V) (l4 : mm_V) (l5 : mm_V) (l6 : mm_V) (l7 : mm_V), mm_E d 48 116 [l0, l1, l2, l3, l4, l5, l6, l7] [] ((.inl z) :: st) n I L P = mm_E d 48 118 [l0, l1, l2, l3, l4, l5, (.inl z), l7] [] st n I L P) ∧
  (∀ (lv : List mm_V) (st : List mm_V), mm_E d 48 118 lv [] st n I L P = mm_E d 48 120 lv [] (.inl (-9) :: st) n I L P) ∧
  (∀ (lv : List mm_V) (st : List mm_V), mm_E d 48 120 lv [] st n I L P = mm_E d 48 122 lv [] (.inl 9 :: st) n I L P) ∧
  (∀ (st : List mm_V) z (l0 : mm_V) (l1 : mm_V) (l2 : mm_V) (l3 : mm_V) (l4 : mm_V) (l5 : mm_V) (l7 : mm_V), mm_E d 48 122 [l0, l1, l2, l3, l4, l5, (.inl z), l7] [] st n I L P = mm_E d 48 124 [l0, l1, l2, l3, l4, l5, (.inl z), l7] [] ((.inl z) :: st) n I L P) ∧
  (∀ (lv : List mm_V) x0 x1 w0, mm_E d 48 124 lv [] (.inl x1 :: .inl x0 :: [.inl w0]) n I L P = mm_kr d 48 127 lv [] [.inl w0] n (mm_rn d 267 [.inl x0, .inl x1] n I L P)) ∧
  (∀ (lv : List mm_V) x0 x1, mm_E d 48 127 lv [] (.inl x1 :: .inl x0 :: []) n I L P = mm_kr d 48 130 lv [] [] n (mm_rn d 265 [.inl x0, .inl x1] n I L P)) ∧
  (∀ (st : List mm_V) z (l0 : mm_V) (l1 : mm_V) (l2 : mm_V) (l3 : mm_V) (l4 : mm_V) (l5 : mm_V) (l6 : mm_V) (l7 : mm_V), mm_E d 48 130 [l0, l1, l2, l3, l4, l5, l6, l7] [] ((.inl z) :: st) n I L P = mm_E d 48 132 [l0, l1, l2, l3, l4, l5, l6, (.inl z)] [] st n I L P) ∧
  (∀ (lv : List mm_V) (st : List mm_V), mm_E d 48 132 lv [] st n I L P = mm_E d 48 133 lv [] (.inl 0 :: st) n I L P) ∧
  (∀ (lv : List mm_V) (st : List mm_V), mm_E d 48 133 lv [] st n I L P = mm_E d 48 135 lv [] (.inl 9 :: st) n I L P) ∧
  (∀ (st : List mm_V) z (l1 : mm_V) (l2 : mm_V) (l3 : mm_V) (l4 : mm_V) (l5 : mm_V) (l6 : mm_V) (l7 : mm_V), mm_E d 48 135 [(.inr (.inr z)), l1, l2, l3, l4, l5, l6, l7] [] st n I L P = mm_E d 48 136 [(.inr (.inr z)), l1, l2, l3, l4, l5, l6, l7] [] ((.inr (.inr z)) :: st) n I L P) ∧
  (∀ (lv : List mm_V) (st : List mm_V) a, (mm_ok n a 5) → mm_E d 48 136 lv [] (.inr (.inr (some a)) :: st) n I L P = mm_E d 48 139 lv [] (.inr (.inr (P a 2)) :: st) n I L P) ∧
  (∀ (st : List mm_V) z (l0 : mm_V) (l1 : mm_V) (l2 : mm_V) (l4 : mm_V) (l5 : mm_V) (l6 : mm_V) (l7 : mm_V), mm_E d 48 139 [l0, l1, l2, (.inl z), l4, l5, l6, l7] [] st n I L P = mm_E d 48 140 [l0, l1, l2, (.inl z), l4, l5, l6, l7] [] ((.inl z) :: st) n I L P) ∧
  (∀ (lv : List mm_V) (st : List mm_V) a i, (mm_ix n a 20 i) → mm_E d 48 140 lv [] (.inl i :: .inr (.inr (some a)) :: st) n I L P = mm_E d 48 141 lv [] (.inl (I a i.toNat) :: st) n I L P) ∧
  (∀ (st : List mm_V) z (l0 : mm_V) (l1 : mm_V) (l2 : mm_V) (l3 : mm_V) (l4 : mm_V) (l5 : mm_V) (l6 : mm_V), mm_E d 48 141 [l0, l1, l2, l3, l4, l5, l6, (.inl z)] [] st n I L P = mm_E d 48 143 [l0, l1, l2, l3, l4, l5, l6, (.inl z)] [] ((.inl z) :: st) n I L P) ∧
  (∀ (lv : List mm_V) (st : List mm_V) a b, mm_E d 48 143 lv [] (.inl b :: .inl a :: st) n I L P = mm_E d 48 144 lv [] (.inl (mm_add a b) :: st) n I L P) ∧
  (∀ (lv : List mm_V) x0 x1 w0, mm_E d 48 144 lv [] (.inl x1 :: .inl x0 :: [.inl w0]) n I L P = mm_kr d 48 147 lv [] [.inl w0] n (mm_rn d 267 [.inl x0, .inl x1] n I L P)) ∧
  (∀ (lv : List mm_V) x0 x1, mm_E d 48 147 lv [] (.inl x1 :: .inl x0 :: []) n I L P = mm_kr d 48 150 lv [] [] n (mm_rn d 265 [.inl x0, .inl x1] n I L P)) ∧
  (∀ (lv : List mm_V) z, mm_E d 48 150 lv [] [.inl z] n I L P = some (some (.inl z), n, I, L, P)) :=
  ⟨fun _ _ _ _ _ _ _ _ _ => mq_al (i := 1) rfl rfl,
   fun _ _ _ _ _ _ _ _ _ => mq_al (i := 0) rfl rfl,
   fun _ _ _ h0 => mq_getI rfl h0,
   fun _ _ _ _ _ _ _ _ _ => mq_il (i := 3) rfl rfl,
   fun _ _ _ _ h0 => mq_cVr (na := 2) rfl rfl (Nat.le_of_ble_eq_true rfl) (Nat.le_of_ble_eq_true rfl) h0,
   fun _ _ _ _ _ _ _ _ _ _ => mq_is (i := 5) rfl rfl rfl,
   fun _ _ _ _ _ _ _ _ _ => mq_al (i := 2) rfl rfl,
   fun _ _ => mq_nulN rfl,
   fun _ _ _ => mq_nulS rfl,
   fun _ _ _ _ _ _ _ _ _ => mq_al (i := 1) rfl rfl,
   fun _ _ _ h0 => mq_getR rfl h0,
   fun _ _ _ _ _ _ _ _ _ => mq_il (i := 3) rfl rfl,
   fun _ _ _ _ h0 => mq_iald rfl h0,
   fun _ _ _ _ _ _ _ _ _ => mq_il (i := 4) rfl rfl,
   fun _ _ _ _ => mq_bi rfl,
   fun _ _ => mq_cSr (na := 1) rfl (Nat.le_of_ble_eq_true rfl) (Nat.le_of_ble_eq_true rfl),
   fun _ _ _ _ _ _ _ _ _ _ => mq_is (i := 7) rfl rfl rfl,
   fun _ _ _ _ _ _ _ _ _ => mq_al (i := 2) rfl rfl,
   fun _ _ _ _ _ _ _ _ _ => mq_al (i := 0) rfl rfl,
   fun _ _ _ h0 => mq_getR rfl h0,
   fun _ _ _ _ _ _ _ _ _ => mq_il (i := 3) rfl rfl,
   fun _ _ _ _ h0 => mq_iald rfl h0,
   fun _ _ _ _ _ _ _ _ _ => mq_al (i := 0) rfl rfl,
   fun _ _ _ h0 => mq_getR rfl h0,
   fun _ _ _ _ _ _ _ _ _ => mq_il (i := 3) rfl rfl,
   fun _ _ _ _ h0 => mq_iald rfl h0,
   fun _ _ _ _ _ _ _ _ _ => mq_al (i := 0) rfl rfl,
   fun _ _ _ h0 => mq_getR rfl h0,
   fun _ _ _ _ _ _ _ _ _ => mq_il (i := 3) rfl rfl,
   fun _ _ _ _ h0 => mq_iald rfl h0,
   fun _ _ _ _ _ _ _ _ _ => mq_il (i := 5) rfl rfl,
   fun _ _ _ _ _ _ _ _ _ => mq_il (i := 7) rfl rfl,
   fun _ _ _ _ _ _ _ _ _ => mq_al (i := 0) rfl rfl,
   fun _ _ _ h0 => mq_getI rfl h0,
   fun _ _ => mq_push rfl,
   fun _ _ _ _ h0 => mq_di rfl h0,
   fun _ _ _ _ _ _ _ _ h0 => mq_cVr (na := 6) rfl rfl (Nat.le_of_ble_eq_true rfl) (Nat.le_of_ble_eq_true rfl) h0,
   fun _ _ _ _ _ _ _ _ _ _ => mq_is (i := 6) rfl rfl rfl,
   fun _ _ => mq_go rfl,
   fun _ _ _ _ _ _ _ _ _ => mq_al (i := 0) rfl rfl,
   fun _ _ _ h0 => mq_getR rfl h0,
   fun _ _ _ _ _ _ _ _ _ => mq_il (i := 3) rfl rfl,
   fun _ _ _ _ h0 => mq_iald rfl h0,
   fun _ _ _ => mq_if_ne rfl,
   fun _ _ _ _ _ _ _ _ _ => mq_al (i := 0) rfl rfl,
   fun _ _ _ h0 => mq_getR rfl h0,
   fun _ _ _ _ _ _ _ _ _ => mq_il (i := 3) rfl rfl,
   fun _ _ _ _ h0 => mq_iald rfl h0,
   fun _ _ _ => mq_if_le rfl,
   fun _ _ => mq_push rfl,
   fun _ _ => mq_go rfl,
   fun _ _ => mq_push rfl,
   fun _ _ _ _ _ _ _ _ _ _ => mq_is (i := 6) rfl rfl rfl,
   fun _ _ => mq_go rfl,
   fun _ _ _ _ _ _ _ _ _ => mq_al (i := 0) rfl rfl,
   fun _ _ _ h0 => mq_getR rfl h0,
   fun _ _ _ _ _ _ _ _ _ => mq_il (i := 3) rfl rfl,
   fun _ _ _ _ h0 => mq_iald rfl h0,
   fun _ _ => mq_push rfl,
   fun _ _ _ _ => mq_ic_ne rfl,
   fun _ _ _ _ _ _ _ _ _ => mq_il (i := 5) rfl rfl,
   fun _ _ => mq_push rfl,
   fun _ _ _ _ => mq_ic_le rfl,
   fun _ _ => mq_push rfl,
   fun _ _ => mq_go rfl,
   fun _ _ => mq_push rfl,
   fun _ _ _ _ _ _ _ _ _ _ => mq_is (i := 6) rfl rfl rfl,
   fun _ _ => mq_push rfl,
   fun _ _ => mq_push rfl,
   fun _ _ _ _ _ _ _ _ _ => mq_il (i := 6) rfl rfl,
   fun _ _ _ _ => mq_cSr (na := 2) rfl (Nat.le_of_ble_eq_true rfl) (Nat.le_of_ble_eq_true rfl),
   fun _ _ _ => mq_cSr (na := 2) rfl (Nat.le_of_ble_eq_true rfl) (Nat.le_of_ble_eq_true rfl),
   fun _ _ _ _ _ _ _ _ _ _ => mq_is (i := 7) rfl rfl rfl,
   fun _ _ => mq_push rfl,
   fun _ _ => mq_push rfl,
   fun _ _ _ _ _ _ _ _ _ => mq_al (i := 0) rfl rfl,
   fun _ _ _ h0 => mq_getR rfl h0,
   fun _ _ _ _ _ _ _ _ _ => mq_il (i := 3) rfl rfl,
   fun _ _ _ _ h0 => mq_iald rfl h0,
   fun _ _ _ _ _ _ _ _ _ => mq_il (i := 7) rfl rfl,
   fun _ _ _ _ => mq_bi rfl,
   fun _ _ _ _ => mq_cSr (na := 2) rfl (Nat.le_of_ble_eq_true rfl) (Nat.le_of_ble_eq_true rfl),
   fun _ _ _ => mq_cSr (na := 2) rfl (Nat.le_of_ble_eq_true rfl) (Nat.le_of_ble_eq_true rfl),
   fun _ _ => mq_ri rfl⟩
theorem eX5_grownSize (d n : Nat) (I L : mm_I) (P : mm_P) (x0 : Option Nat) (x1 : Option Nat) (x2 : Option Nat) (x3 : Int) (x4 : Int) : mm_rn (d + 1) 48 [.inr (.inr x0), .inr (.inr x1), .inr (.inr x2), .inl x3, .inl x4] n I L P = mm_E d 48 0 [.inr (.inr x0), .inr (.inr x1), .inr (.inr x2), .inl x3, .inl x4, mm_junk, mm_junk, mm_junk] [] [] n I L P := rfl

set_option maxRecDepth 20000 in
set_option maxHeartbeats 8000000 in
theorem kX5_spreadFires (d n : Nat) (I L : mm_I) (P : mm_P) :
  (∀ (lv : List mm_V) (st : List mm_V), mm_E d 49 0 lv [] st n I L P = mm_E d 49 1 lv [] (.inl 0 :: st) n I L P) ∧
  (∀ (st : List mm_V) z (l0 : mm_V) (l1 : mm_V) (l2 : mm_V) (l3 : mm_V), mm_E d 49 1 [l0, l1, l2, l3] [] ((.inl z) :: st) n I L P = mm_E d 49 2 [l0, l1, (.inl z), l3] [] st n I L P) ∧
  (∀ (lv : List mm_V) (st : List mm_V), mm_E d 49 2 lv [] st n I L P = mm_E d 49 3 lv [] (.inl 0 :: st) n I L P) ∧
  (∀ (st : List mm_V) z (l0 : mm_V) (l1 : mm_V) (l2 : mm_V) (l3 : mm_V), mm_E d 49 3 [l0, l1, l2, l3] [] ((.inl z) :: st) n I L P = mm_E d 49 4 [l0, l1, l2, (.inl z)] [] st n I L P) ∧
  (∀ (st : List mm_V) z (l0 : mm_V) (l2 : mm_V) (l3 : mm_V), mm_E d 49 5 [l0, (.inr (.inr z)), l2, l3] [] st n I L P = mm_E d 49 6 [l0, (.inr (.inr z)), l2, l3] [] ((.inr (.inr z)) :: st) n I L P) ∧
  (∀ (lv : List mm_V) (st : List mm_V) a, (mm_ok n a 9) → mm_E d 49 6 lv [] (.inr (.inr (some a)) :: st) n I L P = mm_E d 49 9 lv [] (.inl (I a 0) :: st) n I L P) ∧
  (∀ (lv : List mm_V) (st : List mm_V) a b, mm_E d 49 9 lv [] (.inl b :: .inl a :: st) n I L P = if b ≤ a then mm_E d 49 46 lv [] st n I L P else mm_E d 49 12 lv [] st n I L P) ∧
  (∀ (st : List mm_V) z (l1 : mm_V) (l2 : mm_V) (l3 : mm_V), mm_E d 49 12 [(.inr (.inr z)), l1, l2, l3] [] st n I L P = mm_E d 49 13 [(.inr (.inr z)), l1, l2, l3] [] ((.inr (.inr z)) :: st) n I L P) ∧
  (∀ (lv : List mm_V) (st : List mm_V) a, (mm_ok n a 5) → mm_E d 49 13 lv [] (.inr (.inr (some a)) :: st) n I L P = mm_E d 49 16 lv [] (.inr (.inr (P a 1)) :: st) n I L P) ∧
  (∀ (st : List mm_V) z (l0 : mm_V) (l1 : mm_V) (l2 : mm_V), mm_E d 49 16 [l0, l1, l2, (.inl z)] [] st n I L P = mm_E d 49 17 [l0, l1, l2, (.inl z)] [] ((.inl z) :: st) n I L P) ∧
  (∀ (lv : List mm_V) (st : List mm_V) a i, (mm_ix n a 20 i) → mm_E d 49 17 lv [] (.inl i :: .inr (.inr (some a)) :: st) n I L P = mm_E d 49 18 lv [] (.inl (I a i.toNat) :: st) n I L P) ∧
  (∀ (lv : List mm_V) (st : List mm_V) a, mm_E d 49 18 lv [] (.inl a :: st) n I L P = if a = 0 then mm_E d 49 21 lv [] st n I L P else mm_E d 49 40 lv [] st n I L P) ∧
  (∀ (st : List mm_V) z (l1 : mm_V) (l2 : mm_V) (l3 : mm_V), mm_E d 49 21 [(.inr (.inr z)), l1, l2, l3] [] st n I L P = mm_E d 49 22 [(.inr (.inr z)), l1, l2, l3] [] ((.inr (.inr z)) :: st) n I L P) ∧
  (∀ (lv : List mm_V) (st : List mm_V) a, (mm_ok n a 5) → mm_E d 49 22 lv [] (.inr (.inr (some a)) :: st) n I L P = mm_E d 49 25 lv [] (.inr (.inr (P a 2)) :: st) n I L P) ∧
  (∀ (st : List mm_V) z (l0 : mm_V) (l1 : mm_V) (l2 : mm_V), mm_E d 49 25 [l0, l1, l2, (.inl z)] [] st n I L P = mm_E d 49 26 [l0, l1, l2, (.inl z)] [] ((.inl z) :: st) n I L P) ∧
  (∀ (lv : List mm_V) (st : List mm_V) a i, (mm_ix n a 20 i) → mm_E d 49 26 lv [] (.inl i :: .inr (.inr (some a)) :: st) n I L P = mm_E d 49 27 lv [] (.inl (I a i.toNat) :: st) n I L P) ∧
  (∀ (lv : List mm_V) (st : List mm_V), mm_E d 49 27 lv [] st n I L P = mm_E d 49 28 lv [] (.inl 5 :: st) n I L P) ∧
  (∀ (lv : List mm_V) (st : List mm_V) a b, mm_E d 49 28 lv [] (.inl b :: .inl a :: st) n I L P = if a < b then mm_E d 49 40 lv [] st n I L P else mm_E d 49 31 lv [] st n I L P) ∧
  (∀ (st : List mm_V) z (l0 : mm_V) (l1 : mm_V) (l3 : mm_V), mm_E d 49 31 [l0, l1, (.inl z), l3] [] st n I L P = mm_E d 49 32 [l0, l1, (.inl z), l3] [] ((.inl z) :: st) n I L P) ∧
  (∀ (st : List mm_V) z (l0 : mm_V) (l2 : mm_V) (l3 : mm_V), mm_E d 49 32 [l0, (.inr (.inr z)), l2, l3] [] st n I L P = mm_E d 49 33 [l0, (.inr (.inr z)), l2, l3] [] ((.inr (.inr z)) :: st) n I L P) ∧
  (∀ (lv : List mm_V) (st : List mm_V) a, (mm_ok n a 9) → mm_E d 49 33 lv [] (.inr (.inr (some a)) :: st) n I L P = mm_E d 49 36 lv [] (.inr (.inr (P a 6)) :: st) n I L P) ∧
  (∀ (st : List mm_V) z (l0 : mm_V) (l1 : mm_V) (l2 : mm_V), mm_E d 49 36 [l0, l1, l2, (.inl z)] [] st n I L P = mm_E d 49 37 [l0, l1, l2, (.inl z)] [] ((.inl z) :: st) n I L P) ∧
  (∀ (lv : List mm_V) (st : List mm_V) a i, (mm_ix n a 20 i) → mm_E d 49 37 lv [] (.inl i :: .inr (.inr (some a)) :: st) n I L P = mm_E d 49 38 lv [] (.inl (I a i.toNat) :: st) n I L P) ∧
  (∀ (lv : List mm_V) (st : List mm_V) a b, mm_E d 49 38 lv [] (.inl b :: .inl a :: st) n I L P = mm_E d 49 39 lv [] (.inl (mm_or a b) :: st) n I L P) ∧
  (∀ (st : List mm_V) z (l0 : mm_V) (l1 : mm_V) (l2 : mm_V) (l3 : mm_V), mm_E d 49 39 [l0, l1, l2, l3] [] ((.inl z) :: st) n I L P = mm_E d 49 40 [l0, l1, (.inl z), l3] [] st n I L P) ∧
  (∀ (st : List mm_V) z (l0 : mm_V) (l1 : mm_V) (l2 : mm_V), mm_E d 49 40 [l0, l1, l2, (.inl z)] [] st n I L P = mm_E d 49 43 [l0, l1, l2, (.inl (mm_add z 1))] [] st n I L P) ∧
  (∀ (lv : List mm_V) (st : List mm_V), mm_E d 49 43 lv [] st n I L P = mm_E d 49 4 lv [] st n I L P) ∧
  (∀ (lv : List mm_V) (st : List mm_V), mm_E d 49 46 lv [] st n I L P = mm_E d 49 47 lv [] (.inl 0 :: st) n I L P) ∧
  (∀ (st : List mm_V) z (l0 : mm_V) (l1 : mm_V) (l2 : mm_V) (l3 : mm_V), mm_E d 49 47 [l0, l1, l2, l3] [] ((.inl z) :: st) n I L P = mm_E d 49 48 [l0, l1, l2, (.inl z)] [] st n I L P) ∧
  (∀ (st : List mm_V) z (l0 : mm_V) (l2 : mm_V) (l3 : mm_V), mm_E d 49 49 [l0, (.inr (.inr z)), l2, l3] [] st n I L P = mm_E d 49 50 [l0, (.inr (.inr z)), l2, l3] [] ((.inr (.inr z)) :: st) n I L P) ∧
  (∀ (lv : List mm_V) (st : List mm_V) a, (mm_ok n a 9) → mm_E d 49 50 lv [] (.inr (.inr (some a)) :: st) n I L P = mm_E d 49 53 lv [] (.inl (I a 0) :: st) n I L P) ∧
  (∀ (lv : List mm_V) (st : List mm_V) a b, mm_E d 49 53 lv [] (.inl b :: .inl a :: st) n I L P = if b ≤ a then mm_E d 49 87 lv [] st n I L P else mm_E d 49 56 lv [] st n I L P) ∧
  (∀ (st : List mm_V) z (l0 : mm_V) (l1 : mm_V) (l3 : mm_V), mm_E d 49 56 [l0, l1, (.inl z), l3] [] st n I L P = mm_E d 49 57 [l0, l1, (.inl z), l3] [] ((.inl z) :: st) n I L P) ∧
  (∀ (st : List mm_V) z (l0 : mm_V) (l1 : mm_V) (l2 : mm_V), mm_E d 49 57 [l0, l1, l2, (.inl z)] [] st n I L P = mm_E d 49 58 [l0, l1, l2, (.inl z)] [] ((.inl z) :: st) n I L P) ∧
  (∀ (lv : List mm_V) (st : List mm_V) a b, mm_E d 49 58 lv [] (.inl b :: .inl a :: st) n I L P = mm_E d 49 59 lv [] (.inl (mm_shr a b) :: st) n I L P) ∧
  (∀ (lv : List mm_V) (st : List mm_V), mm_E d 49 59 lv [] st n I L P = mm_E d 49 60 lv [] (.inl 1 :: st) n I L P) ∧
  (∀ (lv : List mm_V) (st : List mm_V) a b, mm_E d 49 60 lv [] (.inl b :: .inl a :: st) n I L P = mm_E d 49 61 lv [] (.inl (mm_and a b) :: st) n I L P) ∧
  (∀ (lv : List mm_V) (st : List mm_V), mm_E d 49 61 lv [] st n I L P = mm_E d 49 62 lv [] (.inl 1 :: st) n I L P) ∧
  (∀ (lv : List mm_V) (st : List mm_V) a b, mm_E d 49 62 lv [] (.inl b :: .inl a :: st) n I L P = if a = b then mm_E d 49 65 lv [] st n I L P else mm_E d 49 81 lv [] st n I L P) ∧
  (∀ (st : List mm_V) z (l1 : mm_V) (l2 : mm_V) (l3 : mm_V), mm_E d 49 65 [(.inr (.inr z)), l1, l2, l3] [] st n I L P = mm_E d 49 66 [(.inr (.inr z)), l1, l2, l3] [] ((.inr (.inr z)) :: st) n I L P) ∧
  (∀ (lv : List mm_V) (st : List mm_V) a, (mm_ok n a 5) → mm_E d 49 66 lv [] (.inr (.inr (some a)) :: st) n I L P = mm_E d 49 69 lv [] (.inr (.inr (P a 0)) :: st) n I L P) ∧
  (∀ (st : List mm_V) z (l0 : mm_V) (l1 : mm_V) (l2 : mm_V), mm_E d 49 69 [l0, l1, l2, (.inl z)] [] st n I L P = mm_E d 49 70 [l0, l1, l2, (.inl z)] [] ((.inl z) :: st) n I L P) ∧
  (∀ (lv : List mm_V) (st : List mm_V) a i, (mm_ix n a 20 i) → mm_E d 49 70 lv [] (.inl i :: .inr (.inr (some a)) :: st) n I L P = mm_E d 49 71 lv [] (.inl (I a i.toNat) :: st) n I L P) ∧
  (∀ (lv : List mm_V) (st : List mm_V) a, mm_E d 49 71 lv [] (.inl a :: st) n I L P = if a ≤ 0 then mm_E d 49 81 lv [] st n I L P else mm_E d 49 74 lv [] st n I L P) ∧
  (∀ (st : List mm_V) z (l1 : mm_V) (l2 : mm_V) (l3 : mm_V), mm_E d 49 74 [(.inr (.inr z)), l1, l2, l3] [] st n I L P = mm_E d 49 75 [(.inr (.inr z)), l1, l2, l3] [] ((.inr (.inr z)) :: st) n I L P) ∧
  (∀ (st : List mm_V) z (l0 : mm_V) (l1 : mm_V) (l2 : mm_V), mm_E d 49 75 [l0, l1, l2, (.inl z)] [] st n I L P = mm_E d 49 76 [l0, l1, l2, (.inl z)] [] ((.inl z) :: st) n I L P) ∧
  (∀ (lv : List mm_V) (st : List mm_V), mm_E d 49 76 lv [] st n I L P = mm_E d 49 77 lv [] (.inl 0 :: st) n I L P) ∧
  (∀ (lv : List mm_V) (st : List mm_V), mm_E d 49 77 lv [] st n I L P = mm_E d 49 78 lv [] (.inl 1 :: st) n I L P) ∧
  (∀ (lv : List mm_V) a x0 x1 x2, (mm_ok n a 5) → mm_E d 49 78 lv [] (.inl x2 :: .inl x1 :: .inl x0 :: .inr (.inr (some a)) :: []) n I L P = mm_kv d 49 81 lv [] [] n (mm_rn d 45 [.inr (.inr (some a)), .inl x0, .inl x1, .inl x2] n I L P)) ∧
  (∀ (st : List mm_V) z (l0 : mm_V) (l1 : mm_V) (l2 : mm_V), mm_E d 49 81 [l0, l1, l2, (.inl z)] [] st n I L P = mm_E d 49 84 [l0, l1, l2, (.inl (mm_add z 1))] [] st n I L P) ∧
  (∀ (lv : List mm_V) (st : List mm_V), mm_E d 49 84 lv [] st n I L P = mm_E d 49 48 lv [] st n I L P) ∧
  (∀ (lv : List mm_V), mm_E d 49 87 lv [] [] n I L P = some (none, n, I, L, P)) :=
  ⟨fun _ _ => mq_push rfl,
   fun _ _ _ _ _ _ => mq_is (i := 2) rfl rfl rfl,
   fun _ _ => mq_push rfl,
   fun _ _ _ _ _ _ => mq_is (i := 3) rfl rfl rfl,
   fun _ _ _ _ _ => mq_al (i := 1) rfl rfl,
   fun _ _ _ h0 => mq_getI rfl h0,
   fun _ _ _ _ => mq_ic_ge rfl,
   fun _ _ _ _ _ => mq_al (i := 0) rfl rfl,
   fun _ _ _ h0 => mq_getR rfl h0,
   fun _ _ _ _ _ => mq_il (i := 3) rfl rfl,
   fun _ _ _ _ h0 => mq_iald rfl h0,
   fun _ _ _ => mq_if_ne rfl,
   fun _ _ _ _ _ => mq_al (i := 0) rfl rfl,
   fun _ _ _ h0 => mq_getR rfl h0,
   fun _ _ _ _ _ => mq_il (i := 3) rfl rfl,
   fun _ _ _ _ h0 => mq_iald rfl h0,
   fun _ _ => mq_push rfl,
   fun _ _ _ _ => mq_ic_lt rfl,
   fun _ _ _ _ _ => mq_il (i := 2) rfl rfl,
   fun _ _ _ _ _ => mq_al (i := 1) rfl rfl,
   fun _ _ _ h0 => mq_getR rfl h0,
   fun _ _ _ _ _ => mq_il (i := 3) rfl rfl,
   fun _ _ _ _ h0 => mq_iald rfl h0,
   fun _ _ _ _ => mq_bi rfl,
   fun _ _ _ _ _ _ => mq_is (i := 2) rfl rfl rfl,
   fun _ _ _ _ _ => mq_iinc (i := 3) rfl rfl rfl rfl,
   fun _ _ => mq_go rfl,
   fun _ _ => mq_push rfl,
   fun _ _ _ _ _ _ => mq_is (i := 3) rfl rfl rfl,
   fun _ _ _ _ _ => mq_al (i := 1) rfl rfl,
   fun _ _ _ h0 => mq_getI rfl h0,
   fun _ _ _ _ => mq_ic_ge rfl,
   fun _ _ _ _ _ => mq_il (i := 2) rfl rfl,
   fun _ _ _ _ _ => mq_il (i := 3) rfl rfl,
   fun _ _ _ _ => mq_bi rfl,
   fun _ _ => mq_push rfl,
   fun _ _ _ _ => mq_bi rfl,
   fun _ _ => mq_push rfl,
   fun _ _ _ _ => mq_ic_ne rfl,
   fun _ _ _ _ _ => mq_al (i := 0) rfl rfl,
   fun _ _ _ h0 => mq_getR rfl h0,
   fun _ _ _ _ _ => mq_il (i := 3) rfl rfl,
   fun _ _ _ _ h0 => mq_iald rfl h0,
   fun _ _ _ => mq_if_le rfl,
   fun _ _ _ _ _ => mq_al (i := 0) rfl rfl,
   fun _ _ _ _ _ => mq_il (i := 3) rfl rfl,
   fun _ _ => mq_push rfl,
   fun _ _ => mq_push rfl,
   fun _ _ _ _ _ h0 => mq_cVv (na := 3) rfl rfl (Nat.le_of_ble_eq_true rfl) (Nat.le_of_ble_eq_true rfl) h0,
   fun _ _ _ _ _ => mq_iinc (i := 3) rfl rfl rfl rfl,
   fun _ _ => mq_go rfl,
   fun _ => mq_rv rfl⟩
theorem hX5_spreadFires_4 (d n : Nat) (I L : mm_I) (P : mm_P) : ∀ (st : List mm_V) z (l0 : mm_V) (l1 : mm_V) (l2 : mm_V), mm_E d 49 4 [l0, l1, l2, (.inl z)] [] st n I L P = mm_E d 49 5 [l0, l1, l2, (.inl z)] [] ((.inl z) :: st) n I L P := fun _ _ _ _ _ => mq_il (i := 3) rfl rfl
theorem hX5_spreadFires_48 (d n : Nat) (I L : mm_I) (P : mm_P) : ∀ (st : List mm_V) z (l0 : mm_V) (l1 : mm_V) (l2 : mm_V), mm_E d 49 48 [l0, l1, l2, (.inl z)] [] st n I L P = mm_E d 49 49 [l0, l1, l2, (.inl z)] [] ((.inl z) :: st) n I L P := fun _ _ _ _ _ => mq_il (i := 3) rfl rfl
theorem eX5_spreadFires (d n : Nat) (I L : mm_I) (P : mm_P) (x0 : Option Nat) (x1 : Option Nat) : mm_rn (d + 1) 49 [.inr (.inr x0), .inr (.inr x1)] n I L P = mm_E d 49 0 [.inr (.inr x0), .inr (.inr x1), mm_junk, mm_junk] [] [] n I L P := rfl

set_option maxRecDepth 20000 in
set_option maxHeartbeats 8000000 in
theorem kX6_init (d n : Nat) (I L : mm_I) (P : mm_P) :
  (∀ (st : List mm_V) z (l1 : mm_V), mm_E d 50 0 [(.inr (.inr z)), l1] [] st n I L P = mm_E d 50 1 [(.inr (.inr z)), l1] [] ((.inr (.inr z)) :: st) n I L P) ∧
  (∀ (lv : List mm_V) a, (a < n) → mm_E d 50 1 lv [] (.inr (.inr (some a)) :: []) n I L P = mm_E d 50 4 lv [] [] n I L P) ∧
  (∀ (st : List mm_V) z (l1 : mm_V), mm_E d 50 4 [(.inr (.inr z)), l1] [] st n I L P = mm_E d 50 5 [(.inr (.inr z)), l1] [] ((.inr (.inr z)) :: st) n I L P) ∧
  (∀ (lv : List mm_V) (st : List mm_V), mm_E d 50 5 lv [] st n I L P = mm_E d 50 7 lv [] (.inl 40 :: st) n I L P) ∧
  (∀ (lv : List mm_V) (st : List mm_V) z, (n < mm_NC ∧ mm_ty n = (23, z.toNat) ∧ 0 ≤ z) → mm_E d 50 7 lv [] (.inl z :: st) n I L P = mm_E d 50 10 lv [] (.inr (.inr (some n)) :: st) (n + 1) (mm_zi I n) (mm_zi L n) (mm_zp P n)) ∧
  (∀ (lv : List mm_V) (st : List mm_V) a z, (mm_ok n a 6) → mm_E d 50 10 lv [] (.inr (.inr z) :: .inr (.inr (some a)) :: st) n I L P = mm_E d 50 13 lv [] st n I L (mm_up P a 0 z)) ∧
  (∀ (lv : List mm_V) (st : List mm_V), mm_E d 50 13 lv [] st n I L P = mm_E d 50 14 lv [] (.inl 0 :: st) n I L P) ∧
  (∀ (st : List mm_V) z (l0 : mm_V) (l1 : mm_V), mm_E d 50 14 [l0, l1] [] ((.inl z) :: st) n I L P = mm_E d 50 15 [l0, (.inl z)] [] st n I L P) ∧
  (∀ (lv : List mm_V) (st : List mm_V), mm_E d 50 16 lv [] st n I L P = mm_E d 50 18 lv [] (.inl 40 :: st) n I L P) ∧
  (∀ (lv : List mm_V) (st : List mm_V) a b, mm_E d 50 18 lv [] (.inl b :: .inl a :: st) n I L P = if b ≤ a then mm_E d 50 40 lv [] st n I L P else mm_E d 50 21 lv [] st n I L P) ∧
  (∀ (st : List mm_V) z (l1 : mm_V), mm_E d 50 21 [(.inr (.inr z)), l1] [] st n I L P = mm_E d 50 22 [(.inr (.inr z)), l1] [] ((.inr (.inr z)) :: st) n I L P) ∧
  (∀ (lv : List mm_V) (st : List mm_V) a, (mm_ok n a 6) → mm_E d 50 22 lv [] (.inr (.inr (some a)) :: st) n I L P = mm_E d 50 25 lv [] (.inr (.inr (P a 0)) :: st) n I L P) ∧
  (∀ (st : List mm_V) z (l0 : mm_V), mm_E d 50 25 [l0, (.inl z)] [] st n I L P = mm_E d 50 26 [l0, (.inl z)] [] ((.inl z) :: st) n I L P) ∧
  (∀ (lv : List mm_V) (st : List mm_V), (n < mm_NC ∧ (mm_ty n).1 = 5) → mm_E d 50 26 lv [] st n I L P = mm_E d 50 29 lv [] (.inr (.inr (some n)) :: st) (n + 1) (mm_zi I n) (mm_zi L n) (mm_zp P n)) ∧
  (∀ (lv : List mm_V) (st : List mm_V) a, mm_E d 50 29 lv [] ((.inr (.inr a)) :: st) n I L P = mm_E d 50 30 lv [] ((.inr (.inr a)) :: (.inr (.inr a)) :: st) n I L P) ∧
  (∀ (lv : List mm_V) a w0 w1 w2, (a < n) → mm_E d 50 30 lv [] (.inr (.inr (some a)) :: [.inr (.inr w0), .inl w1, .inr (.inr w2)]) n I L P = mm_kv d 50 33 lv [] [.inr (.inr w0), .inl w1, .inr (.inr w2)] n (mm_rn d 39 [.inr (.inr (some a))] n I L P)) ∧
  (∀ (lv : List mm_V) (st : List mm_V) a i v, (mm_ix n a 23 i) → (mm_ok n v 5) → mm_E d 50 33 lv [] (.inr (.inr (some v)) :: .inl i :: .inr (.inr (some a)) :: st) n I L P = mm_E d 50 34 lv [] st n I L (mm_up P a i.toNat (some v))) ∧
  (∀ (st : List mm_V) z (l0 : mm_V), mm_E d 50 34 [l0, (.inl z)] [] st n I L P = mm_E d 50 37 [l0, (.inl (mm_add z 1))] [] st n I L P) ∧
  (∀ (lv : List mm_V) (st : List mm_V), mm_E d 50 37 lv [] st n I L P = mm_E d 50 15 lv [] st n I L P) ∧
  (∀ (lv : List mm_V), mm_E d 50 40 lv [] [] n I L P = some (none, n, I, L, P)) :=
  ⟨fun _ _ _ => mq_al (i := 0) rfl rfl,
   fun _ _ h0 => mq_oi rfl h0 (Nat.le_of_ble_eq_true rfl),
   fun _ _ _ => mq_al (i := 0) rfl rfl,
   fun _ _ => mq_push rfl,
   fun _ _ _ h0 => mq_newa rfl h0,
   fun _ _ _ _ h0 => mq_putR rfl h0,
   fun _ _ => mq_push rfl,
   fun _ _ _ _ => mq_is (i := 1) rfl rfl rfl,
   fun _ _ => mq_push rfl,
   fun _ _ _ _ => mq_ic_ge rfl,
   fun _ _ _ => mq_al (i := 0) rfl rfl,
   fun _ _ _ h0 => mq_getR rfl h0,
   fun _ _ _ => mq_il (i := 1) rfl rfl,
   fun _ _ h0 => mq_new rfl h0,
   fun _ _ _ => mq_dup rfl rfl,
   fun _ _ _ _ _ h0 => mq_cI (na := 0) rfl rfl (Nat.le_of_ble_eq_true rfl) (Nat.le_of_ble_eq_true rfl) h0,
   fun _ _ _ _ _ h0 h1 => mq_aast rfl h0 h1,
   fun _ _ _ => mq_iinc (i := 1) rfl rfl rfl rfl,
   fun _ _ => mq_go rfl,
   fun _ => mq_rv rfl⟩
theorem hX6_init_15 (d n : Nat) (I L : mm_I) (P : mm_P) : ∀ (st : List mm_V) z (l0 : mm_V), mm_E d 50 15 [l0, (.inl z)] [] st n I L P = mm_E d 50 16 [l0, (.inl z)] [] ((.inl z) :: st) n I L P := fun _ _ _ => mq_il (i := 1) rfl rfl
theorem eX6_init (d n : Nat) (I L : mm_I) (P : mm_P) (x0 : Option Nat) : mm_rn (d + 1) 50 [.inr (.inr x0)] n I L P = mm_E d 50 0 [.inr (.inr x0), mm_junk] [] [] n I L P := rfl

set_option maxRecDepth 20000 in
set_option maxHeartbeats 8000000 in
theorem kX6_keep (d n : Nat) (I L : mm_I) (P : mm_P) :
  (∀ (st : List mm_V) z (l1 : mm_V), mm_E d 51 0 [(.inr (.inr z)), l1] [] st n I L P = mm_E d 51 1 [(.inr (.inr z)), l1] [] ((.inr (.inr z)) :: st) n I L P) ∧
  (∀ (lv : List mm_V) (st : List mm_V) a, (mm_ok n a 6) → mm_E d 51 1 lv [] (.inr (.inr (some a)) :: st) n I L P = mm_E d 51 4 lv [] (.inr (.inr (P a 0)) :: st) n I L P) ∧
  (∀ (st : List mm_V) z (l1 : mm_V), mm_E d 51 4 [(.inr (.inr z)), l1] [] st n I L P = mm_E d 51 5 [(.inr (.inr z)), l1] [] ((.inr (.inr z)) :: st) n I L P) ∧
  (∀ (lv : List mm_V) (st : List mm_V) a, (mm_ok n a 6) → mm_E d 51 5 lv [] (.inr (.inr (some a)) :: st) n I L P = mm_E d 51 8 lv [] (.inl (I a 1) :: st) n I L P) ∧
  (∀ (lv : List mm_V) (st : List mm_V) a i, (mm_ix n a 23 i) → mm_E d 51 8 lv [] (.inl i :: .inr (.inr (some a)) :: st) n I L P = mm_E d 51 9 lv [] (.inr (.inr (P a i.toNat)) :: st) n I L P) ∧
  (∀ (st : List mm_V) z (l0 : mm_V), mm_E d 51 9 [l0, (.inr (.inr z))] [] st n I L P = mm_E d 51 10 [l0, (.inr (.inr z))] [] ((.inr (.inr z)) :: st) n I L P) ∧
  (∀ (lv : List mm_V) a x0, (mm_ok n a 5) → mm_E d 51 10 lv [] (.inr (.inr x0) :: .inr (.inr (some a)) :: []) n I L P = mm_kv d 51 13 lv [] [] n (mm_rn d 41 [.inr (.inr (some a)), .inr (.inr x0)] n I L P)) ∧
  (∀ (st : List mm_V) z (l1 : mm_V), mm_E d 51 13 [(.inr (.inr z)), l1] [] st n I L P = mm_E d 51 14 [(.inr (.inr z)), l1] [] ((.inr (.inr z)) :: st) n I L P) ∧
  (∀ (st : List mm_V) z (l1 : mm_V), mm_E d 51 14 [(.inr (.inr z)), l1] [] st n I L P = mm_E d 51 15 [(.inr (.inr z)), l1] [] ((.inr (.inr z)) :: st) n I L P) ∧
  (∀ (lv : List mm_V) (st : List mm_V) a, (mm_ok n a 6) → mm_E d 51 15 lv [] (.inr (.inr (some a)) :: st) n I L P = mm_E d 51 18 lv [] (.inl (I a 1) :: st) n I L P) ∧
  (∀ (lv : List mm_V) (st : List mm_V), mm_E d 51 18 lv [] st n I L P = mm_E d 51 19 lv [] (.inl 1 :: st) n I L P) ∧
  (∀ (lv : List mm_V) (st : List mm_V) a b, mm_E d 51 19 lv [] (.inl b :: .inl a :: st) n I L P = mm_E d 51 20 lv [] (.inl (mm_add a b) :: st) n I L P) ∧
  (∀ (lv : List mm_V) (st : List mm_V), mm_E d 51 20 lv [] st n I L P = mm_E d 51 22 lv [] (.inl 40 :: st) n I L P) ∧
  (∀ (lv : List mm_V) (st : List mm_V) a b, mm_E d 51 22 lv [] (.inl b :: .inl a :: st) n I L P = if b ≤ a then mm_E d 51 34 lv [] st n I L P else mm_E d 51 25 lv [] st n I L P) ∧
  (∀ (st : List mm_V) z (l1 : mm_V), mm_E d 51 25 [(.inr (.inr z)), l1] [] st n I L P = mm_E d 51 26 [(.inr (.inr z)), l1] [] ((.inr (.inr z)) :: st) n I L P) ∧
  (∀ (lv : List mm_V) (st : List mm_V) a, (mm_ok n a 6) → mm_E d 51 26 lv [] (.inr (.inr (some a)) :: st) n I L P = mm_E d 51 29 lv [] (.inl (I a 1) :: st) n I L P) ∧
  (∀ (lv : List mm_V) (st : List mm_V), mm_E d 51 29 lv [] st n I L P = mm_E d 51 30 lv [] (.inl 1 :: st) n I L P) ∧
  (∀ (lv : List mm_V) (st : List mm_V) a b, mm_E d 51 30 lv [] (.inl b :: .inl a :: st) n I L P = mm_E d 51 31 lv [] (.inl (mm_add a b) :: st) n I L P) ∧
  (∀ (lv : List mm_V) (st : List mm_V), mm_E d 51 31 lv [] st n I L P = mm_E d 51 35 lv [] st n I L P) ∧
  (∀ (lv : List mm_V) (st : List mm_V), mm_E d 51 34 lv [] st n I L P = mm_E d 51 35 lv [] (.inl 0 :: st) n I L P) ∧
  (∀ (lv : List mm_V) (st : List mm_V) a z, (mm_ok n a 6) → mm_E d 51 35 lv [] (.inl z :: .inr (.inr (some a)) :: st) n I L P = mm_E d 51 38 lv [] st n (mm_ui I a 1 z) L P) ∧
  (∀ (st : List mm_V) z (l1 : mm_V), mm_E d 51 38 [(.inr (.inr z)), l1] [] st n I L P = mm_E d 51 39 [(.inr (.inr z)), l1] [] ((.inr (.inr z)) :: st) n I L P) ∧
  (∀ (lv : List mm_V) (st : List mm_V), mm_E d 51 39 lv [] st n I L P = mm_E d 51 41 lv [] (.inl 40 :: st) n I L P) ∧
  (∀ (st : List mm_V) z (l1 : mm_V), mm_E d 51 41 [(.inr (.inr z)), l1] [] st n I L P = mm_E d 51 42 [(.inr (.inr z)), l1] [] ((.inr (.inr z)) :: st) n I L P) ∧
  (∀ (lv : List mm_V) (st : List mm_V) a, (mm_ok n a 6) → mm_E d 51 42 lv [] (.inr (.inr (some a)) :: st) n I L P = mm_E d 51 45 lv [] (.inl (I a 2) :: st) n I L P) ∧
  (∀ (lv : List mm_V) (st : List mm_V), mm_E d 51 45 lv [] st n I L P = mm_E d 51 46 lv [] (.inl 1 :: st) n I L P) ∧
  (∀ (lv : List mm_V) (st : List mm_V) a b, mm_E d 51 46 lv [] (.inl b :: .inl a :: st) n I L P = mm_E d 51 47 lv [] (.inl (mm_add a b) :: st) n I L P) ∧
  (∀ (lv : List mm_V) x0 x1 w0, mm_E d 51 47 lv [] (.inl x1 :: .inl x0 :: [.inr (.inr w0)]) n I L P = mm_kr d 51 50 lv [] [.inr (.inr w0)] n (mm_rn d 267 [.inl x0, .inl x1] n I L P)) ∧
  (∀ (lv : List mm_V) (st : List mm_V) a z, (mm_ok n a 6) → mm_E d 51 50 lv [] (.inl z :: .inr (.inr (some a)) :: st) n I L P = mm_E d 51 53 lv [] st n (mm_ui I a 2 z) L P) ∧
  (∀ (lv : List mm_V), mm_E d 51 53 lv [] [] n I L P = some (none, n, I, L, P)) :=
  ⟨fun _ _ _ => mq_al (i := 0) rfl rfl,
   fun _ _ _ h0 => mq_getR rfl h0,
   fun _ _ _ => mq_al (i := 0) rfl rfl,
   fun _ _ _ h0 => mq_getI rfl h0,
   fun _ _ _ _ h0 => mq_aald rfl h0,
   fun _ _ _ => mq_al (i := 1) rfl rfl,
   fun _ _ _ h0 => mq_cVv (na := 1) rfl rfl (Nat.le_of_ble_eq_true rfl) (Nat.le_of_ble_eq_true rfl) h0,
   fun _ _ _ => mq_al (i := 0) rfl rfl,
   fun _ _ _ => mq_al (i := 0) rfl rfl,
   fun _ _ _ h0 => mq_getI rfl h0,
   fun _ _ => mq_push rfl,
   fun _ _ _ _ => mq_bi rfl,
   fun _ _ => mq_push rfl,
   fun _ _ _ _ => mq_ic_ge rfl,
   fun _ _ _ => mq_al (i := 0) rfl rfl,
   fun _ _ _ h0 => mq_getI rfl h0,
   fun _ _ => mq_push rfl,
   fun _ _ _ _ => mq_bi rfl,
   fun _ _ => mq_go rfl,
   fun _ _ => mq_push rfl,
   fun _ _ _ _ h0 => mq_putI rfl h0,
   fun _ _ _ => mq_al (i := 0) rfl rfl,
   fun _ _ => mq_push rfl,
   fun _ _ _ => mq_al (i := 0) rfl rfl,
   fun _ _ _ h0 => mq_getI rfl h0,
   fun _ _ => mq_push rfl,
   fun _ _ _ _ => mq_bi rfl,
   fun _ _ _ _ => mq_cSr (na := 2) rfl (Nat.le_of_ble_eq_true rfl) (Nat.le_of_ble_eq_true rfl),
   fun _ _ _ _ h0 => mq_putI rfl h0,
   fun _ => mq_rv rfl⟩
theorem eX6_keep (d n : Nat) (I L : mm_I) (P : mm_P) (x0 : Option Nat) (x1 : Option Nat) : mm_rn (d + 1) 51 [.inr (.inr x0), .inr (.inr x1)] n I L P = mm_E d 51 0 [.inr (.inr x0), .inr (.inr x1)] [] [] n I L P := rfl

set_option maxRecDepth 20000 in
set_option maxHeartbeats 8000000 in
theorem kX6_giveBack (d n : Nat) (I L : mm_I) (P : mm_P) :
  (∀ (st : List mm_V) z (l1 : mm_V), mm_E d 52 0 [(.inr (.inr z)), l1] [] st n I L P = mm_E d 52 1 [(.inr (.inr z)), l1] [] ((.inr (.inr z)) :: st) n I L P) ∧
  (∀ (lv : List mm_V) (st : List mm_V) a, (mm_ok n a 6) → mm_E d 52 1 lv [] (.inr (.inr (some a)) :: st) n I L P = mm_E d 52 4 lv [] (.inl (I a 2) :: st) n I L P) ∧
  (∀ (lv : List mm_V) (st : List mm_V) a, mm_E d 52 4 lv [] (.inl a :: st) n I L P = if a = 0 then mm_E d 52 7 lv [] st n I L P else mm_E d 52 9 lv [] st n I L P) ∧
  (∀ (lv : List mm_V) (st : List mm_V), mm_E d 52 7 lv [] st n I L P = mm_E d 52 8 lv [] (.inl 0 :: st) n I L P) ∧
  (∀ (lv : List mm_V) z, (0 ≤ z ∧ z < 2) → mm_E d 52 8 lv [] [.inl z] n I L P = some (some (.inl z), n, I, L, P)) ∧
  (∀ (st : List mm_V) z (l1 : mm_V), mm_E d 52 9 [(.inr (.inr z)), l1] [] st n I L P = mm_E d 52 10 [(.inr (.inr z)), l1] [] ((.inr (.inr z)) :: st) n I L P) ∧
  (∀ (lv : List mm_V) (st : List mm_V) a, mm_E d 52 10 lv [] ((.inr (.inr a)) :: st) n I L P = mm_E d 52 11 lv [] ((.inr (.inr a)) :: (.inr (.inr a)) :: st) n I L P) ∧
  (∀ (lv : List mm_V) (st : List mm_V) a, (mm_ok n a 6) → mm_E d 52 11 lv [] (.inr (.inr (some a)) :: st) n I L P = mm_E d 52 14 lv [] (.inl (I a 2) :: st) n I L P) ∧
  (∀ (lv : List mm_V) (st : List mm_V), mm_E d 52 14 lv [] st n I L P = mm_E d 52 15 lv [] (.inl 1 :: st) n I L P) ∧
  (∀ (lv : List mm_V) (st : List mm_V) a b, mm_E d 52 15 lv [] (.inl b :: .inl a :: st) n I L P = mm_E d 52 16 lv [] (.inl (mm_sub a b) :: st) n I L P) ∧
  (∀ (lv : List mm_V) (st : List mm_V) a z, (mm_ok n a 6) → mm_E d 52 16 lv [] (.inl z :: .inr (.inr (some a)) :: st) n I L P = mm_E d 52 19 lv [] st n (mm_ui I a 2 z) L P) ∧
  (∀ (st : List mm_V) z (l1 : mm_V), mm_E d 52 19 [(.inr (.inr z)), l1] [] st n I L P = mm_E d 52 20 [(.inr (.inr z)), l1] [] ((.inr (.inr z)) :: st) n I L P) ∧
  (∀ (st : List mm_V) z (l1 : mm_V), mm_E d 52 20 [(.inr (.inr z)), l1] [] st n I L P = mm_E d 52 21 [(.inr (.inr z)), l1] [] ((.inr (.inr z)) :: st) n I L P) ∧
  (∀ (lv : List mm_V) (st : List mm_V) a, (mm_ok n a 6) → mm_E d 52 21 lv [] (.inr (.inr (some a)) :: st) n I L P = mm_E d 52 24 lv [] (.inl (I a 1) :: st) n I L P) ∧
  (∀ (lv : List mm_V) (st : List mm_V) a, mm_E d 52 24 lv [] (.inl a :: st) n I L P = if a ≤ 0 then mm_E d 52 36 lv [] st n I L P else mm_E d 52 27 lv [] st n I L P) ∧
  (∀ (st : List mm_V) z (l1 : mm_V), mm_E d 52 27 [(.inr (.inr z)), l1] [] st n I L P = mm_E d 52 28 [(.inr (.inr z)), l1] [] ((.inr (.inr z)) :: st) n I L P) ∧
  (∀ (lv : List mm_V) (st : List mm_V) a, (mm_ok n a 6) → mm_E d 52 28 lv [] (.inr (.inr (some a)) :: st) n I L P = mm_E d 52 31 lv [] (.inl (I a 1) :: st) n I L P) ∧
  (∀ (lv : List mm_V) (st : List mm_V), mm_E d 52 31 lv [] st n I L P = mm_E d 52 32 lv [] (.inl 1 :: st) n I L P) ∧
  (∀ (lv : List mm_V) (st : List mm_V) a b, mm_E d 52 32 lv [] (.inl b :: .inl a :: st) n I L P = mm_E d 52 33 lv [] (.inl (mm_sub a b) :: st) n I L P) ∧
  (∀ (lv : List mm_V) (st : List mm_V), mm_E d 52 33 lv [] st n I L P = mm_E d 52 38 lv [] st n I L P) ∧
  (∀ (lv : List mm_V) (st : List mm_V), mm_E d 52 36 lv [] st n I L P = mm_E d 52 38 lv [] (.inl 39 :: st) n I L P) ∧
  (∀ (lv : List mm_V) (st : List mm_V) a z, (mm_ok n a 6) → mm_E d 52 38 lv [] (.inl z :: .inr (.inr (some a)) :: st) n I L P = mm_E d 52 41 lv [] st n (mm_ui I a 1 z) L P) ∧
  (∀ (st : List mm_V) z (l0 : mm_V), mm_E d 52 41 [l0, (.inr (.inr z))] [] st n I L P = mm_E d 52 42 [l0, (.inr (.inr z))] [] ((.inr (.inr z)) :: st) n I L P) ∧
  (∀ (st : List mm_V) z (l1 : mm_V), mm_E d 52 42 [(.inr (.inr z)), l1] [] st n I L P = mm_E d 52 43 [(.inr (.inr z)), l1] [] ((.inr (.inr z)) :: st) n I L P) ∧
  (∀ (lv : List mm_V) (st : List mm_V) a, (mm_ok n a 6) → mm_E d 52 43 lv [] (.inr (.inr (some a)) :: st) n I L P = mm_E d 52 46 lv [] (.inr (.inr (P a 0)) :: st) n I L P) ∧
  (∀ (st : List mm_V) z (l1 : mm_V), mm_E d 52 46 [(.inr (.inr z)), l1] [] st n I L P = mm_E d 52 47 [(.inr (.inr z)), l1] [] ((.inr (.inr z)) :: st) n I L P) ∧
  (∀ (lv : List mm_V) (st : List mm_V) a, (mm_ok n a 6) → mm_E d 52 47 lv [] (.inr (.inr (some a)) :: st) n I L P = mm_E d 52 50 lv [] (.inl (I a 1) :: st) n I L P) ∧
  (∀ (lv : List mm_V) (st : List mm_V) a i, (mm_ix n a 23 i) → mm_E d 52 50 lv [] (.inl i :: .inr (.inr (some a)) :: st) n I L P = mm_E d 52 51 lv [] (.inr (.inr (P a i.toNat)) :: st) n I L P) ∧
  (∀ (lv : List mm_V) a x0, (mm_ok n a 5) → mm_E d 52 51 lv [] (.inr (.inr x0) :: .inr (.inr (some a)) :: []) n I L P = mm_kv d 52 54 lv [] [] n (mm_rn d 41 [.inr (.inr (some a)), .inr (.inr x0)] n I L P)) ∧
  (∀ (lv : List mm_V) (st : List mm_V), mm_E d 52 54 lv [] st n I L P = mm_E d 52 55 lv [] (.inl 1 :: st) n I L P) ∧
  (∀ (lv : List mm_V) z, (0 ≤ z ∧ z < 2) → mm_E d 52 55 lv [] [.inl z] n I L P = some (some (.inl z), n, I, L, P)) :=
  ⟨fun _ _ _ => mq_al (i := 0) rfl rfl,
   fun _ _ _ h0 => mq_getI rfl h0,
   fun _ _ _ => mq_if_ne rfl,
   fun _ _ => mq_push rfl,
   fun _ _ h0 => mq_rz rfl h0,
   fun _ _ _ => mq_al (i := 0) rfl rfl,
   fun _ _ _ => mq_dup rfl rfl,
   fun _ _ _ h0 => mq_getI rfl h0,
   fun _ _ => mq_push rfl,
   fun _ _ _ _ => mq_bi rfl,
   fun _ _ _ _ h0 => mq_putI rfl h0,
   fun _ _ _ => mq_al (i := 0) rfl rfl,
   fun _ _ _ => mq_al (i := 0) rfl rfl,
   fun _ _ _ h0 => mq_getI rfl h0,
   fun _ _ _ => mq_if_le rfl,
   fun _ _ _ => mq_al (i := 0) rfl rfl,
   fun _ _ _ h0 => mq_getI rfl h0,
   fun _ _ => mq_push rfl,
   fun _ _ _ _ => mq_bi rfl,
   fun _ _ => mq_go rfl,
   fun _ _ => mq_push rfl,
   fun _ _ _ _ h0 => mq_putI rfl h0,
   fun _ _ _ => mq_al (i := 1) rfl rfl,
   fun _ _ _ => mq_al (i := 0) rfl rfl,
   fun _ _ _ h0 => mq_getR rfl h0,
   fun _ _ _ => mq_al (i := 0) rfl rfl,
   fun _ _ _ h0 => mq_getI rfl h0,
   fun _ _ _ _ h0 => mq_aald rfl h0,
   fun _ _ _ h0 => mq_cVv (na := 1) rfl rfl (Nat.le_of_ble_eq_true rfl) (Nat.le_of_ble_eq_true rfl) h0,
   fun _ _ => mq_push rfl,
   fun _ _ h0 => mq_rz rfl h0⟩
theorem eX6_giveBack (d n : Nat) (I L : mm_I) (P : mm_P) (x0 : Option Nat) (x1 : Option Nat) : mm_rn (d + 1) 52 [.inr (.inr x0), .inr (.inr x1)] n I L P = mm_E d 52 0 [.inr (.inr x0), .inr (.inr x1)] [] [] n I L P := rfl

set_option maxRecDepth 20000 in
set_option maxHeartbeats 8000000 in
theorem kX7_init (d n : Nat) (I L : mm_I) (P : mm_P) :
  (∀ (st : List mm_V) z, mm_E d 53 0 [(.inr (.inr z))] [] st n I L P = mm_E d 53 1 [(.inr (.inr z))] [] ((.inr (.inr z)) :: st) n I L P) ∧
  (∀ (lv : List mm_V) a, (a < n) → mm_E d 53 1 lv [] (.inr (.inr (some a)) :: []) n I L P = mm_E d 53 4 lv [] [] n I L P) ∧
  (∀ (lv : List mm_V), mm_E d 53 4 lv [] [] n I L P = some (none, n, I, L, P)) :=
  ⟨fun _ _ => mq_al (i := 0) rfl rfl,
   fun _ _ h0 => mq_oi rfl h0 (Nat.le_of_ble_eq_true rfl),
   fun _ => mq_rv rfl⟩
theorem eX7_init (d n : Nat) (I L : mm_I) (P : mm_P) (x0 : Option Nat) : mm_rn (d + 1) 53 [.inr (.inr x0)] n I L P = mm_E d 53 0 [.inr (.inr x0)] [] [] n I L P := rfl

set_option maxRecDepth 20000 in
set_option maxHeartbeats 8000000 in
theorem kX7_find (d n : Nat) (I L : mm_I) (P : mm_P) :
  (∀ (st : List mm_V) z (l1 : mm_V) (l2 : mm_V) (l3 : mm_V), mm_E d 54 0 [(.inr (.inr z)), l1, l2, l3] [] st n I L P = mm_E d 54 1 [(.inr (.inr z)), l1, l2, l3] [] ((.inr (.inr z)) :: st) n I L P) ∧
  (∀ (lv : List mm_V) (st : List mm_V), mm_E d 54 1 lv [] st n I L P = mm_E d 54 2 lv [] (.inl (-1) :: st) n I L P) ∧
  (∀ (lv : List mm_V) (st : List mm_V) a z, (mm_ok n a 7) → mm_E d 54 2 lv [] (.inl z :: .inr (.inr (some a)) :: st) n I L P = mm_E d 54 5 lv [] st n (mm_ui I a 0 z) L P) ∧
  (∀ (st : List mm_V) z (l1 : mm_V) (l2 : mm_V) (l3 : mm_V), mm_E d 54 5 [(.inr (.inr z)), l1, l2, l3] [] st n I L P = mm_E d 54 6 [(.inr (.inr z)), l1, l2, l3] [] ((.inr (.inr z)) :: st) n I L P) ∧
  (∀ (lv : List mm_V) (st : List mm_V), mm_E d 54 6 lv [] st n I L P = mm_E d 54 7 lv [] (.inl (-1) :: st) n I L P) ∧
  (∀ (lv : List mm_V) (st : List mm_V) a z, (mm_ok n a 7) → mm_E d 54 7 lv [] (.inl z :: .inr (.inr (some a)) :: st) n I L P = mm_E d 54 10 lv [] st n (mm_ui I a 1 z) L P) ∧
  (∀ (st : List mm_V) z (l1 : mm_V) (l2 : mm_V) (l3 : mm_V), mm_E d 54 10 [(.inr (.inr z)), l1, l2, l3] [] st n I L P = mm_E d 54 11 [(.inr (.inr z)), l1, l2, l3] [] ((.inr (.inr z)) :: st) n I L P) ∧
  (∀ (st : List mm_V) z (l0 : mm_V) (l2 : mm_V) (l3 : mm_V), mm_E d 54 11 [l0, (.inr (.inr z)), l2, l3] [] st n I L P = mm_E d 54 12 [l0, (.inr (.inr z)), l2, l3] [] ((.inr (.inr z)) :: st) n I L P) ∧
  (∀ (st : List mm_V) z (l0 : mm_V) (l1 : mm_V) (l3 : mm_V), mm_E d 54 12 [l0, l1, (.inr (.inr z)), l3] [] st n I L P = mm_E d 54 13 [l0, l1, (.inr (.inr z)), l3] [] ((.inr (.inr z)) :: st) n I L P) ∧
  (∀ (st : List mm_V) z (l0 : mm_V) (l1 : mm_V) (l3 : mm_V), mm_E d 54 13 [l0, l1, (.inr (.inr z)), l3] [] st n I L P = mm_E d 54 14 [l0, l1, (.inr (.inr z)), l3] [] ((.inr (.inr z)) :: st) n I L P) ∧
  (∀ (lv : List mm_V) (st : List mm_V) a, (mm_ok n a 5) → mm_E d 54 14 lv [] (.inr (.inr (some a)) :: st) n I L P = mm_E d 54 17 lv [] (.inl (I a 3) :: st) n I L P) ∧
  (∀ (st : List mm_V) z (l0 : mm_V) (l1 : mm_V) (l2 : mm_V), mm_E d 54 17 [l0, l1, l2, (.inl z)] [] st n I L P = mm_E d 54 18 [l0, l1, l2, (.inl z)] [] ((.inl z) :: st) n I L P) ∧
  (∀ (st : List mm_V) z (l0 : mm_V) (l2 : mm_V) (l3 : mm_V), mm_E d 54 18 [l0, (.inr (.inr z)), l2, l3] [] st n I L P = mm_E d 54 19 [l0, (.inr (.inr z)), l2, l3] [] ((.inr (.inr z)) :: st) n I L P) ∧
  (∀ (st : List mm_V) z (l0 : mm_V) (l1 : mm_V) (l3 : mm_V), mm_E d 54 19 [l0, l1, (.inr (.inr z)), l3] [] st n I L P = mm_E d 54 20 [l0, l1, (.inr (.inr z)), l3] [] ((.inr (.inr z)) :: st) n I L P) ∧
  (∀ (lv : List mm_V) (st : List mm_V) a, (mm_ok n a 5) → mm_E d 54 20 lv [] (.inr (.inr (some a)) :: st) n I L P = mm_E d 54 23 lv [] (.inl (I a 3) :: st) n I L P) ∧
  (∀ (lv : List mm_V) a x0 w0 w1 w2 w3 w4, (mm_ok n a 9) → mm_E d 54 23 lv [] (.inl x0 :: .inr (.inr (some a)) :: [.inl w0, .inl w1, .inr (.inr w2), .inr (.inr w3), .inr (.inr w4)]) n I L P = mm_kr d 54 26 lv [] [.inl w0, .inl w1, .inr (.inr w2), .inr (.inr w3), .inr (.inr w4)] n (mm_rn d 288 [.inr (.inr (some a)), .inl x0] n I L P)) ∧
  (∀ (lv : List mm_V) (st : List mm_V), mm_E d 54 26 lv [] st n I L P = mm_E d 54 27 lv [] (.inl 0 :: st) n I L P) ∧
  (∀ (lv : List mm_V) a x0 x1 x2 x3 x4 x5, (mm_ok n a 7) → mm_E d 54 27 lv [] (.inl x5 :: .inl x4 :: .inl x3 :: .inl x2 :: .inr (.inr x1) :: .inr (.inr x0) :: .inr (.inr (some a)) :: []) n I L P = mm_kv d 54 30 lv [] [] n (mm_rn d 55 [.inr (.inr (some a)), .inr (.inr x0), .inr (.inr x1), .inl x2, .inl x3, .inl x4, .inl x5] n I L P)) ∧
  (∀ (lv : List mm_V), mm_E d 54 30 lv [] [] n I L P = some (none, n, I, L, P)) :=
  ⟨fun _ _ _ _ _ => mq_al (i := 0) rfl rfl,
   fun _ _ => mq_push rfl,
   fun _ _ _ _ h0 => mq_putI rfl h0,
   fun _ _ _ _ _ => mq_al (i := 0) rfl rfl,
   fun _ _ => mq_push rfl,
   fun _ _ _ _ h0 => mq_putI rfl h0,
   fun _ _ _ _ _ => mq_al (i := 0) rfl rfl,
   fun _ _ _ _ _ => mq_al (i := 1) rfl rfl,
   fun _ _ _ _ _ => mq_al (i := 2) rfl rfl,
   fun _ _ _ _ _ => mq_al (i := 2) rfl rfl,
   fun _ _ _ h0 => mq_getI rfl h0,
   fun _ _ _ _ _ => mq_il (i := 3) rfl rfl,
   fun _ _ _ _ _ => mq_al (i := 1) rfl rfl,
   fun _ _ _ _ _ => mq_al (i := 2) rfl rfl,
   fun _ _ _ h0 => mq_getI rfl h0,
   fun _ _ _ _ _ _ _ _ h0 => mq_cVr (na := 1) rfl rfl (Nat.le_of_ble_eq_true rfl) (Nat.le_of_ble_eq_true rfl) h0,
   fun _ _ => mq_push rfl,
   fun _ _ _ _ _ _ _ _ h0 => mq_cVv (na := 6) rfl rfl (Nat.le_of_ble_eq_true rfl) (Nat.le_of_ble_eq_true rfl) h0,
   fun _ => mq_rv rfl⟩
theorem eX7_find (d n : Nat) (I L : mm_I) (P : mm_P) (x0 : Option Nat) (x1 : Option Nat) (x2 : Option Nat) (x3 : Int) : mm_rn (d + 1) 54 [.inr (.inr x0), .inr (.inr x1), .inr (.inr x2), .inl x3] n I L P = mm_E d 54 0 [.inr (.inr x0), .inr (.inr x1), .inr (.inr x2), .inl x3] [] [] n I L P := rfl

set_option maxRecDepth 20000 in
set_option maxHeartbeats 8000000 in
theorem kX7_goOn (d n : Nat) (I L : mm_I) (P : mm_P) :
  (∀ (st : List mm_V) z (l0 : mm_V) (l1 : mm_V) (l2 : mm_V) (l3 : mm_V) (l5 : mm_V) (l6 : mm_V) (l7 : mm_V), mm_E d 55 0 [l0, l1, l2, l3, (.inl z), l5, l6, l7] [] st n I L P = mm_E d 55 2 [l0, l1, l2, l3, (.inl z), l5, l6, l7] [] ((.inl z) :: st) n I L P) ∧
  (∀ (lv : List mm_V) (st : List mm_V) a, mm_E d 55 2 lv [] (.inl a :: st) n I L P = if 0 < a then mm_E d 55 36 lv [] st n I L P else mm_E d 55 5 lv [] st n I L P) ∧
  (∀ (st : List mm_V) z (l0 : mm_V) (l2 : mm_V) (l3 : mm_V) (l4 : mm_V) (l5 : mm_V) (l6 : mm_V) (l7 : mm_V), mm_E d 55 5 [l0, (.inr (.inr z)), l2, l3, l4, l5, l6, l7] [] st n I L P = mm_E d 55 6 [l0, (.inr (.inr z)), l2, l3, l4, l5, l6, l7] [] ((.inr (.inr z)) :: st) n I L P) ∧
  (∀ (st : List mm_V) z (l0 : mm_V) (l1 : mm_V) (l3 : mm_V) (l4 : mm_V) (l5 : mm_V) (l6 : mm_V) (l7 : mm_V), mm_E d 55 6 [l0, l1, (.inr (.inr z)), l3, l4, l5, l6, l7] [] st n I L P = mm_E d 55 7 [l0, l1, (.inr (.inr z)), l3, l4, l5, l6, l7] [] ((.inr (.inr z)) :: st) n I L P) ∧
  (∀ (st : List mm_V) z (l0 : mm_V) (l1 : mm_V) (l2 : mm_V) (l3 : mm_V) (l4 : mm_V) (l6 : mm_V) (l7 : mm_V), mm_E d 55 7 [l0, l1, l2, l3, l4, (.inl z), l6, l7] [] st n I L P = mm_E d 55 9 [l0, l1, l2, l3, l4, (.inl z), l6, l7] [] ((.inl z) :: st) n I L P) ∧
  (∀ (lv : List mm_V) x0 x1 x2, mm_E d 55 9 lv [] (.inl x2 :: .inr (.inr x1) :: .inr (.inr x0) :: []) n I L P = mm_kr d 55 12 lv [] [] n (mm_rn d 56 [.inr (.inr x0), .inr (.inr x1), .inl x2] n I L P)) ∧
  (∀ (st : List mm_V) z (l0 : mm_V) (l1 : mm_V) (l2 : mm_V) (l3 : mm_V) (l4 : mm_V) (l5 : mm_V) (l6 : mm_V) (l7 : mm_V), mm_E d 55 12 [l0, l1, l2, l3, l4, l5, l6, l7] [] ((.inl z) :: st) n I L P = mm_E d 55 14 [l0, l1, l2, l3, l4, l5, l6, (.inl z)] [] st n I L P) ∧
  (∀ (st : List mm_V) z (l0 : mm_V) (l1 : mm_V) (l2 : mm_V) (l3 : mm_V) (l4 : mm_V) (l5 : mm_V) (l6 : mm_V), mm_E d 55 14 [l0, l1, l2, l3, l4, l5, l6, (.inl z)] [] st n I L P = mm_E d 55 16 [l0, l1, l2, l3, l4, l5, l6, (.inl z)] [] ((.inl z) :: st) n I L P) ∧
  (∀ (st : List mm_V) z (l1 : mm_V) (l2 : mm_V) (l3 : mm_V) (l4 : mm_V) (l5 : mm_V) (l6 : mm_V) (l7 : mm_V), mm_E d 55 16 [(.inr (.inr z)), l1, l2, l3, l4, l5, l6, l7] [] st n I L P = mm_E d 55 17 [(.inr (.inr z)), l1, l2, l3, l4, l5, l6, l7] [] ((.inr (.inr z)) :: st) n I L P) ∧
  (∀ (lv : List mm_V) (st : List mm_V) a, (mm_ok n a 7) → mm_E d 55 17 lv [] (.inr (.inr (some a)) :: st) n I L P = mm_E d 55 20 lv [] (.inl (I a 1) :: st) n I L P) ∧
  (∀ (lv : List mm_V) (st : List mm_V) a b, mm_E d 55 20 lv [] (.inl b :: .inl a :: st) n I L P = if a ≤ b then mm_E d 55 35 lv [] st n I L P else mm_E d 55 23 lv [] st n I L P) ∧
  (∀ (st : List mm_V) z (l1 : mm_V) (l2 : mm_V) (l3 : mm_V) (l4 : mm_V) (l5 : mm_V) (l6 : mm_V) (l7 : mm_V), mm_E d 55 23 [(.inr (.inr z)), l1, l2, l3, l4, l5, l6, l7] [] st n I L P = mm_E d 55 24 [(.inr (.inr z)), l1, l2, l3, l4, l5, l6, l7] [] ((.inr (.inr z)) :: st) n I L P) ∧
  (∀ (st : List mm_V) z (l0 : mm_V) (l1 : mm_V) (l2 : mm_V) (l3 : mm_V) (l4 : mm_V) (l5 : mm_V) (l6 : mm_V), mm_E d 55 24 [l0, l1, l2, l3, l4, l5, l6, (.inl z)] [] st n I L P = mm_E d 55 26 [l0, l1, l2, l3, l4, l5, l6, (.inl z)] [] ((.inl z) :: st) n I L P) ∧
  (∀ (lv : List mm_V) (st : List mm_V) a z, (mm_ok n a 7) → mm_E d 55 26 lv [] (.inl z :: .inr (.inr (some a)) :: st) n I L P = mm_E d 55 29 lv [] st n (mm_ui I a 1 z) L P) ∧
  (∀ (st : List mm_V) z (l1 : mm_V) (l2 : mm_V) (l3 : mm_V) (l4 : mm_V) (l5 : mm_V) (l6 : mm_V) (l7 : mm_V), mm_E d 55 29 [(.inr (.inr z)), l1, l2, l3, l4, l5, l6, l7] [] st n I L P = mm_E d 55 30 [(.inr (.inr z)), l1, l2, l3, l4, l5, l6, l7] [] ((.inr (.inr z)) :: st) n I L P) ∧
  (∀ (st : List mm_V) z (l0 : mm_V) (l1 : mm_V) (l2 : mm_V) (l3 : mm_V) (l4 : mm_V) (l5 : mm_V) (l7 : mm_V), mm_E d 55 30 [l0, l1, l2, l3, l4, l5, (.inl z), l7] [] st n I L P = mm_E d 55 32 [l0, l1, l2, l3, l4, l5, (.inl z), l7] [] ((.inl z) :: st) n I L P) ∧
  (∀ (lv : List mm_V) (st : List mm_V) a z, (mm_ok n a 7) → mm_E d 55 32 lv [] (.inl z :: .inr (.inr (some a)) :: st) n I L P = mm_E d 55 35 lv [] st n (mm_ui I a 0 z) L P) ∧
  (∀ (lv : List mm_V), mm_E d 55 35 lv [] [] n I L P = some (none, n, I, L, P)) ∧
  (∀ (lv : List mm_V) (st : List mm_V), mm_E d 55 36 lv [] st n I L P = mm_E d 55 37 lv [] (.inl 0 :: st) n I L P) ∧
  (∀ (st : List mm_V) z (l0 : mm_V) (l1 : mm_V) (l2 : mm_V) (l3 : mm_V) (l4 : mm_V) (l5 : mm_V) (l6 : mm_V) (l7 : mm_V), mm_E d 55 37 [l0, l1, l2, l3, l4, l5, l6, l7] [] ((.inl z) :: st) n I L P = mm_E d 55 39 [l0, l1, l2, l3, l4, l5, l6, (.inl z)] [] st n I L P) ∧
  (∀ (st : List mm_V) z (l0 : mm_V) (l2 : mm_V) (l3 : mm_V) (l4 : mm_V) (l5 : mm_V) (l6 : mm_V) (l7 : mm_V), mm_E d 55 41 [l0, (.inr (.inr z)), l2, l3, l4, l5, l6, l7] [] st n I L P = mm_E d 55 42 [l0, (.inr (.inr z)), l2, l3, l4, l5, l6, l7] [] ((.inr (.inr z)) :: st) n I L P) ∧
  (∀ (lv : List mm_V) (st : List mm_V) a, (mm_ok n a 9) → mm_E d 55 42 lv [] (.inr (.inr (some a)) :: st) n I L P = mm_E d 55 45 lv [] (.inl (I a 0) :: st) n I L P) ∧
  (∀ (lv : List mm_V) (st : List mm_V) a b, mm_E d 55 45 lv [] (.inl b :: .inl a :: st) n I L P = if b ≤ a then mm_E d 55 94 lv [] st n I L P else mm_E d 55 48 lv [] st n I L P) ∧
  (∀ (st : List mm_V) z (l0 : mm_V) (l2 : mm_V) (l3 : mm_V) (l4 : mm_V) (l5 : mm_V) (l6 : mm_V) (l7 : mm_V), mm_E d 55 48 [l0, (.inr (.inr z)), l2, l3, l4, l5, l6, l7] [] st n I L P = mm_E d 55 49 [l0, (.inr (.inr z)), l2, l3, l4, l5, l6, l7] [] ((.inr (.inr z)) :: st) n I L P) ∧
  (∀ (st : List mm_V) z (l0 : mm_V) (l1 : mm_V) (l2 : mm_V) (l4 : mm_V) (l5 : mm_V) (l6 : mm_V) (l7 : mm_V), mm_E d 55 49 [l0, l1, l2, (.inl z), l4, l5, l6, l7] [] st n I L P = mm_E d 55 50 [l0, l1, l2, (.inl z), l4, l5, l6, l7] [] ((.inl z) :: st) n I L P) ∧
  (∀ (st : List mm_V) z (l0 : mm_V) (l1 : mm_V) (l2 : mm_V) (l3 : mm_V) (l4 : mm_V) (l5 : mm_V) (l6 : mm_V), mm_E d 55 50 [l0, l1, l2, l3, l4, l5, l6, (.inl z)] [] st n I L P = mm_E d 55 52 [l0, l1, l2, l3, l4, l5, l6, (.inl z)] [] ((.inl z) :: st) n I L P) ∧
  (∀ (lv : List mm_V) a x0 x1, (mm_ok n a 9) → mm_E d 55 52 lv [] (.inl x1 :: .inl x0 :: .inr (.inr (some a)) :: []) n I L P = mm_kr d 55 55 lv [] [] n (mm_rn d 65 [.inr (.inr (some a)), .inl x0, .inl x1] n I L P)) ∧
  (∀ (lv : List mm_V) (st : List mm_V) a, mm_E d 55 55 lv [] (.inl a :: st) n I L P = if a = 0 then mm_E d 55 88 lv [] st n I L P else mm_E d 55 58 lv [] st n I L P) ∧
  (∀ (st : List mm_V) z (l1 : mm_V) (l2 : mm_V) (l3 : mm_V) (l4 : mm_V) (l5 : mm_V) (l6 : mm_V) (l7 : mm_V), mm_E d 55 58 [(.inr (.inr z)), l1, l2, l3, l4, l5, l6, l7] [] st n I L P = mm_E d 55 59 [(.inr (.inr z)), l1, l2, l3, l4, l5, l6, l7] [] ((.inr (.inr z)) :: st) n I L P) ∧
  (∀ (st : List mm_V) z (l0 : mm_V) (l2 : mm_V) (l3 : mm_V) (l4 : mm_V) (l5 : mm_V) (l6 : mm_V) (l7 : mm_V), mm_E d 55 59 [l0, (.inr (.inr z)), l2, l3, l4, l5, l6, l7] [] st n I L P = mm_E d 55 60 [l0, (.inr (.inr z)), l2, l3, l4, l5, l6, l7] [] ((.inr (.inr z)) :: st) n I L P) ∧
  (∀ (st : List mm_V) z (l0 : mm_V) (l1 : mm_V) (l3 : mm_V) (l4 : mm_V) (l5 : mm_V) (l6 : mm_V) (l7 : mm_V), mm_E d 55 60 [l0, l1, (.inr (.inr z)), l3, l4, l5, l6, l7] [] st n I L P = mm_E d 55 61 [l0, l1, (.inr (.inr z)), l3, l4, l5, l6, l7] [] ((.inr (.inr z)) :: st) n I L P) ∧
  (∀ (st : List mm_V) z (l0 : mm_V) (l1 : mm_V) (l2 : mm_V) (l3 : mm_V) (l4 : mm_V) (l5 : mm_V) (l6 : mm_V), mm_E d 55 61 [l0, l1, l2, l3, l4, l5, l6, (.inl z)] [] st n I L P = mm_E d 55 63 [l0, l1, l2, l3, l4, l5, l6, (.inl z)] [] ((.inl z) :: st) n I L P) ∧
  (∀ (st : List mm_V) z (l0 : mm_V) (l1 : mm_V) (l2 : mm_V) (l3 : mm_V) (l5 : mm_V) (l6 : mm_V) (l7 : mm_V), mm_E d 55 63 [l0, l1, l2, l3, (.inl z), l5, l6, l7] [] st n I L P = mm_E d 55 65 [l0, l1, l2, l3, (.inl z), l5, l6, l7] [] ((.inl z) :: st) n I L P) ∧
  (∀ (lv : List mm_V) (st : List mm_V), mm_E d 55 65 lv [] st n I L P = mm_E d 55 66 lv [] (.inl 1 :: st) n I L P) ∧
  (∀ (lv : List mm_V) (st : List mm_V) a b, mm_E d 55 66 lv [] (.inl b :: .inl a :: st) n I L P = mm_E d 55 67 lv [] (.inl (mm_sub a b) :: st) n I L P) ∧
  (∀ (st : List mm_V) z (l0 : mm_V) (l1 : mm_V) (l2 : mm_V) (l3 : mm_V) (l4 : mm_V) (l6 : mm_V) (l7 : mm_V), mm_E d 55 67 [l0, l1, l2, l3, l4, (.inl z), l6, l7] [] st n I L P = mm_E d 55 69 [l0, l1, l2, l3, l4, (.inl z), l6, l7] [] ((.inl z) :: st) n I L P) ∧
  (∀ (st : List mm_V) z (l0 : mm_V) (l2 : mm_V) (l3 : mm_V) (l4 : mm_V) (l5 : mm_V) (l6 : mm_V) (l7 : mm_V), mm_E d 55 69 [l0, (.inr (.inr z)), l2, l3, l4, l5, l6, l7] [] st n I L P = mm_E d 55 70 [l0, (.inr (.inr z)), l2, l3, l4, l5, l6, l7] [] ((.inr (.inr z)) :: st) n I L P) ∧
  (∀ (lv : List mm_V) (st : List mm_V) a, (mm_ok n a 9) → mm_E d 55 70 lv [] (.inr (.inr (some a)) :: st) n I L P = mm_E d 55 73 lv [] (.inr (.inr (P a 7)) :: st) n I L P) ∧
  (∀ (st : List mm_V) z (l0 : mm_V) (l1 : mm_V) (l2 : mm_V) (l3 : mm_V) (l4 : mm_V) (l5 : mm_V) (l6 : mm_V), mm_E d 55 73 [l0, l1, l2, l3, l4, l5, l6, (.inl z)] [] st n I L P = mm_E d 55 75 [l0, l1, l2, l3, l4, l5, l6, (.inl z)] [] ((.inl z) :: st) n I L P) ∧
  (∀ (lv : List mm_V) (st : List mm_V) a i, (mm_ix n a 20 i) → mm_E d 55 75 lv [] (.inl i :: .inr (.inr (some a)) :: st) n I L P = mm_E d 55 76 lv [] (.inl (I a i.toNat) :: st) n I L P) ∧
  (∀ (lv : List mm_V) (st : List mm_V) a b, mm_E d 55 76 lv [] (.inl b :: .inl a :: st) n I L P = mm_E d 55 77 lv [] (.inl (mm_or a b) :: st) n I L P) ∧
  (∀ (lv : List mm_V) (st : List mm_V), mm_E d 55 77 lv [] st n I L P = mm_E d 55 79 lv [] (.inl 10 :: st) n I L P) ∧
  (∀ (st : List mm_V) z (l0 : mm_V) (l1 : mm_V) (l2 : mm_V) (l3 : mm_V) (l4 : mm_V) (l5 : mm_V) (l7 : mm_V), mm_E d 55 79 [l0, l1, l2, l3, l4, l5, (.inl z), l7] [] st n I L P = mm_E d 55 81 [l0, l1, l2, l3, l4, l5, (.inl z), l7] [] ((.inl z) :: st) n I L P) ∧
  (∀ (lv : List mm_V) (st : List mm_V) a b, mm_E d 55 81 lv [] (.inl b :: .inl a :: st) n I L P = mm_E d 55 82 lv [] (.inl (mm_mul a b) :: st) n I L P) ∧
  (∀ (st : List mm_V) z (l0 : mm_V) (l1 : mm_V) (l2 : mm_V) (l3 : mm_V) (l4 : mm_V) (l5 : mm_V) (l6 : mm_V), mm_E d 55 82 [l0, l1, l2, l3, l4, l5, l6, (.inl z)] [] st n I L P = mm_E d 55 84 [l0, l1, l2, l3, l4, l5, l6, (.inl z)] [] ((.inl z) :: st) n I L P) ∧
  (∀ (lv : List mm_V) (st : List mm_V) a b, mm_E d 55 84 lv [] (.inl b :: .inl a :: st) n I L P = mm_E d 55 85 lv [] (.inl (mm_add a b) :: st) n I L P) ∧
  (∀ (lv : List mm_V) a x0 x1 x2 x3 x4 x5, (mm_ok n a 7) → mm_E d 55 85 lv [] (.inl x5 :: .inl x4 :: .inl x3 :: .inl x2 :: .inr (.inr x1) :: .inr (.inr x0) :: .inr (.inr (some a)) :: []) n I L P = mm_kv d 55 88 lv [] [] n (mm_rn d 55 [.inr (.inr (some a)), .inr (.inr x0), .inr (.inr x1), .inl x2, .inl x3, .inl x4, .inl x5] n I L P)) ∧
  (∀ (st : List mm_V) z (l0 : mm_V) (l1 : mm_V) (l2 : mm_V) (l3 : mm_V) (l4 : mm_V) (l5 : mm_V) (l6 : mm_V), mm_E d 55 88 [l0, l1, l2, l3, l4, l5, l6, (.inl z)] [] st n I L P = mm_E d 55 91 [l0, l1, l2, l3, l4, l5, l6, (.inl (mm_add z 1))] [] st n I L P) ∧
  (∀ (lv : List mm_V) (st : List mm_V), mm_E d 55 91 lv [] st n I L P = mm_E d 55 39 lv [] st n I L P) ∧
  (∀ (lv : List mm_V), mm_E d 55 94 lv [] [] n I L P = some (none, n, I, L, P)) :=
  ⟨fun _ _ _ _ _ _ _ _ _ => mq_il (i := 4) rfl rfl,
   fun _ _ _ => mq_if_gt rfl,
   fun _ _ _ _ _ _ _ _ _ => mq_al (i := 1) rfl rfl,
   fun _ _ _ _ _ _ _ _ _ => mq_al (i := 2) rfl rfl,
   fun _ _ _ _ _ _ _ _ _ => mq_il (i := 5) rfl rfl,
   fun _ _ _ _ => mq_cSr (na := 3) rfl (Nat.le_of_ble_eq_true rfl) (Nat.le_of_ble_eq_true rfl),
   fun _ _ _ _ _ _ _ _ _ _ => mq_is (i := 7) rfl rfl rfl,
   fun _ _ _ _ _ _ _ _ _ => mq_il (i := 7) rfl rfl,
   fun _ _ _ _ _ _ _ _ _ => mq_al (i := 0) rfl rfl,
   fun _ _ _ h0 => mq_getI rfl h0,
   fun _ _ _ _ => mq_ic_le rfl,
   fun _ _ _ _ _ _ _ _ _ => mq_al (i := 0) rfl rfl,
   fun _ _ _ _ _ _ _ _ _ => mq_il (i := 7) rfl rfl,
   fun _ _ _ _ h0 => mq_putI rfl h0,
   fun _ _ _ _ _ _ _ _ _ => mq_al (i := 0) rfl rfl,
   fun _ _ _ _ _ _ _ _ _ => mq_il (i := 6) rfl rfl,
   fun _ _ _ _ h0 => mq_putI rfl h0,
   fun _ => mq_rv rfl,
   fun _ _ => mq_push rfl,
   fun _ _ _ _ _ _ _ _ _ _ => mq_is (i := 7) rfl rfl rfl,
   fun _ _ _ _ _ _ _ _ _ => mq_al (i := 1) rfl rfl,
   fun _ _ _ h0 => mq_getI rfl h0,
   fun _ _ _ _ => mq_ic_ge rfl,
   fun _ _ _ _ _ _ _ _ _ => mq_al (i := 1) rfl rfl,
   fun _ _ _ _ _ _ _ _ _ => mq_il (i := 3) rfl rfl,
   fun _ _ _ _ _ _ _ _ _ => mq_il (i := 7) rfl rfl,
   fun _ _ _ _ h0 => mq_cVr (na := 2) rfl rfl (Nat.le_of_ble_eq_true rfl) (Nat.le_of_ble_eq_true rfl) h0,
   fun _ _ _ => mq_if_eq rfl,
   fun _ _ _ _ _ _ _ _ _ => mq_al (i := 0) rfl rfl,
   fun _ _ _ _ _ _ _ _ _ => mq_al (i := 1) rfl rfl,
   fun _ _ _ _ _ _ _ _ _ => mq_al (i := 2) rfl rfl,
   fun _ _ _ _ _ _ _ _ _ => mq_il (i := 7) rfl rfl,
   fun _ _ _ _ _ _ _ _ _ => mq_il (i := 4) rfl rfl,
   fun _ _ => mq_push rfl,
   fun _ _ _ _ => mq_bi rfl,
   fun _ _ _ _ _ _ _ _ _ => mq_il (i := 5) rfl rfl,
   fun _ _ _ _ _ _ _ _ _ => mq_al (i := 1) rfl rfl,
   fun _ _ _ h0 => mq_getR rfl h0,
   fun _ _ _ _ _ _ _ _ _ => mq_il (i := 7) rfl rfl,
   fun _ _ _ _ h0 => mq_iald rfl h0,
   fun _ _ _ _ => mq_bi rfl,
   fun _ _ => mq_push rfl,
   fun _ _ _ _ _ _ _ _ _ => mq_il (i := 6) rfl rfl,
   fun _ _ _ _ => mq_bi rfl,
   fun _ _ _ _ _ _ _ _ _ => mq_il (i := 7) rfl rfl,
   fun _ _ _ _ => mq_bi rfl,
   fun _ _ _ _ _ _ _ _ h0 => mq_cVv (na := 6) rfl rfl (Nat.le_of_ble_eq_true rfl) (Nat.le_of_ble_eq_true rfl) h0,
   fun _ _ _ _ _ _ _ _ _ => mq_iinc (i := 7) rfl rfl rfl rfl,
   fun _ _ => mq_go rfl,
   fun _ => mq_rv rfl⟩
theorem hX7_goOn_39 (d n : Nat) (I L : mm_I) (P : mm_P) : ∀ (st : List mm_V) z (l0 : mm_V) (l1 : mm_V) (l2 : mm_V) (l3 : mm_V) (l4 : mm_V) (l5 : mm_V) (l6 : mm_V), mm_E d 55 39 [l0, l1, l2, l3, l4, l5, l6, (.inl z)] [] st n I L P = mm_E d 55 41 [l0, l1, l2, l3, l4, l5, l6, (.inl z)] [] ((.inl z) :: st) n I L P := fun _ _ _ _ _ _ _ _ _ => mq_il (i := 7) rfl rfl
theorem eX7_goOn (d n : Nat) (I L : mm_I) (P : mm_P) (x0 : Option Nat) (x1 : Option Nat) (x2 : Option Nat) (x3 : Int) (x4 : Int) (x5 : Int) (x6 : Int) : mm_rn (d + 1) 55 [.inr (.inr x0), .inr (.inr x1), .inr (.inr x2), .inl x3, .inl x4, .inl x5, .inl x6] n I L P = mm_E d 55 0 [.inr (.inr x0), .inr (.inr x1), .inr (.inr x2), .inl x3, .inl x4, .inl x5, .inl x6, mm_junk] [] [] n I L P := rfl

set_option maxRecDepth 20000 in
set_option maxHeartbeats 8000000 in
theorem kX7_worthOf (d n : Nat) (I L : mm_I) (P : mm_P) :
  (∀ (lv : List mm_V) (st : List mm_V), mm_E d 56 0 lv [] st n I L P = mm_E d 56 1 lv [] (.inl 0 :: st) n I L P) ∧
  (∀ (st : List mm_V) z (l0 : mm_V) (l1 : mm_V) (l2 : mm_V) (l3 : mm_V) (l4 : mm_V), mm_E d 56 1 [l0, l1, l2, l3, l4] [] ((.inl z) :: st) n I L P = mm_E d 56 2 [l0, l1, l2, (.inl z), l4] [] st n I L P) ∧
  (∀ (lv : List mm_V) (st : List mm_V), mm_E d 56 2 lv [] st n I L P = mm_E d 56 3 lv [] (.inl 0 :: st) n I L P) ∧
  (∀ (st : List mm_V) z (l0 : mm_V) (l1 : mm_V) (l2 : mm_V) (l3 : mm_V) (l4 : mm_V), mm_E d 56 3 [l0, l1, l2, l3, l4] [] ((.inl z) :: st) n I L P = mm_E d 56 5 [l0, l1, l2, l3, (.inl z)] [] st n I L P) ∧
  (∀ (st : List mm_V) z (l1 : mm_V) (l2 : mm_V) (l3 : mm_V) (l4 : mm_V), mm_E d 56 7 [(.inr (.inr z)), l1, l2, l3, l4] [] st n I L P = mm_E d 56 8 [(.inr (.inr z)), l1, l2, l3, l4] [] ((.inr (.inr z)) :: st) n I L P) ∧
  (∀ (lv : List mm_V) (st : List mm_V) a, (mm_ok n a 9) → mm_E d 56 8 lv [] (.inr (.inr (some a)) :: st) n I L P = mm_E d 56 11 lv [] (.inl (I a 0) :: st) n I L P) ∧
  (∀ (lv : List mm_V) (st : List mm_V) a b, mm_E d 56 11 lv [] (.inl b :: .inl a :: st) n I L P = if b ≤ a then mm_E d 56 40 lv [] st n I L P else mm_E d 56 14 lv [] st n I L P) ∧
  (∀ (st : List mm_V) z (l0 : mm_V) (l1 : mm_V) (l3 : mm_V) (l4 : mm_V), mm_E d 56 14 [l0, l1, (.inl z), l3, l4] [] st n I L P = mm_E d 56 15 [l0, l1, (.inl z), l3, l4] [] ((.inl z) :: st) n I L P) ∧
  (∀ (st : List mm_V) z (l0 : mm_V) (l1 : mm_V) (l2 : mm_V) (l3 : mm_V), mm_E d 56 15 [l0, l1, l2, l3, (.inl z)] [] st n I L P = mm_E d 56 17 [l0, l1, l2, l3, (.inl z)] [] ((.inl z) :: st) n I L P) ∧
  (∀ (lv : List mm_V) (st : List mm_V) a b, mm_E d 56 17 lv [] (.inl b :: .inl a :: st) n I L P = mm_E d 56 18 lv [] (.inl (mm_shr a b) :: st) n I L P) ∧
  (∀ (lv : List mm_V) (st : List mm_V), mm_E d 56 18 lv [] st n I L P = mm_E d 56 19 lv [] (.inl 1 :: st) n I L P) ∧
  (∀ (lv : List mm_V) (st : List mm_V) a b, mm_E d 56 19 lv [] (.inl b :: .inl a :: st) n I L P = mm_E d 56 20 lv [] (.inl (mm_and a b) :: st) n I L P) ∧
  (∀ (lv : List mm_V) (st : List mm_V), mm_E d 56 20 lv [] st n I L P = mm_E d 56 21 lv [] (.inl 1 :: st) n I L P) ∧
  (∀ (lv : List mm_V) (st : List mm_V) a b, mm_E d 56 21 lv [] (.inl b :: .inl a :: st) n I L P = if a = b then mm_E d 56 24 lv [] st n I L P else mm_E d 56 34 lv [] st n I L P) ∧
  (∀ (st : List mm_V) z (l0 : mm_V) (l1 : mm_V) (l2 : mm_V) (l4 : mm_V), mm_E d 56 24 [l0, l1, l2, (.inl z), l4] [] st n I L P = mm_E d 56 25 [l0, l1, l2, (.inl z), l4] [] ((.inl z) :: st) n I L P) ∧
  (∀ (st : List mm_V) z (l0 : mm_V) (l2 : mm_V) (l3 : mm_V) (l4 : mm_V), mm_E d 56 25 [l0, (.inr (.inr z)), l2, l3, l4] [] st n I L P = mm_E d 56 26 [l0, (.inr (.inr z)), l2, l3, l4] [] ((.inr (.inr z)) :: st) n I L P) ∧
  (∀ (lv : List mm_V) (st : List mm_V) a, (mm_ok n a 5) → mm_E d 56 26 lv [] (.inr (.inr (some a)) :: st) n I L P = mm_E d 56 29 lv [] (.inr (.inr (P a 0)) :: st) n I L P) ∧
  (∀ (st : List mm_V) z (l0 : mm_V) (l1 : mm_V) (l2 : mm_V) (l3 : mm_V), mm_E d 56 29 [l0, l1, l2, l3, (.inl z)] [] st n I L P = mm_E d 56 31 [l0, l1, l2, l3, (.inl z)] [] ((.inl z) :: st) n I L P) ∧
  (∀ (lv : List mm_V) (st : List mm_V) a i, (mm_ix n a 20 i) → mm_E d 56 31 lv [] (.inl i :: .inr (.inr (some a)) :: st) n I L P = mm_E d 56 32 lv [] (.inl (I a i.toNat) :: st) n I L P) ∧
  (∀ (lv : List mm_V) (st : List mm_V) a b, mm_E d 56 32 lv [] (.inl b :: .inl a :: st) n I L P = mm_E d 56 33 lv [] (.inl (mm_add a b) :: st) n I L P) ∧
  (∀ (st : List mm_V) z (l0 : mm_V) (l1 : mm_V) (l2 : mm_V) (l3 : mm_V) (l4 : mm_V), mm_E d 56 33 [l0, l1, l2, l3, l4] [] ((.inl z) :: st) n I L P = mm_E d 56 34 [l0, l1, l2, (.inl z), l4] [] st n I L P) ∧
  (∀ (st : List mm_V) z (l0 : mm_V) (l1 : mm_V) (l2 : mm_V) (l3 : mm_V), mm_E d 56 34 [l0, l1, l2, l3, (.inl z)] [] st n I L P = mm_E d 56 37 [l0, l1, l2, l3, (.inl (mm_add z 1))] [] st n I L P) ∧
  (∀ (lv : List mm_V) (st : List mm_V), mm_E d 56 37 lv [] st n I L P = mm_E d 56 5 lv [] st n I L P) ∧
  (∀ (st : List mm_V) z (l0 : mm_V) (l1 : mm_V) (l2 : mm_V) (l4 : mm_V), mm_E d 56 40 [l0, l1, l2, (.inl z), l4] [] st n I L P = mm_E d 56 41 [l0, l1, l2, (.inl z), l4] [] ((.inl z) :: st) n I L P) ∧
  (∀ (lv : List mm_V) z, mm_E d 56 41 lv [] [.inl z] n I L P = some (some (.inl z), n, I, L, P)) :=
  ⟨fun _ _ => mq_push rfl,
   fun _ _ _ _ _ _ _ => mq_is (i := 3) rfl rfl rfl,
   fun _ _ => mq_push rfl,
   fun _ _ _ _ _ _ _ => mq_is (i := 4) rfl rfl rfl,
   fun _ _ _ _ _ _ => mq_al (i := 0) rfl rfl,
   fun _ _ _ h0 => mq_getI rfl h0,
   fun _ _ _ _ => mq_ic_ge rfl,
   fun _ _ _ _ _ _ => mq_il (i := 2) rfl rfl,
   fun _ _ _ _ _ _ => mq_il (i := 4) rfl rfl,
   fun _ _ _ _ => mq_bi rfl,
   fun _ _ => mq_push rfl,
   fun _ _ _ _ => mq_bi rfl,
   fun _ _ => mq_push rfl,
   fun _ _ _ _ => mq_ic_ne rfl,
   fun _ _ _ _ _ _ => mq_il (i := 3) rfl rfl,
   fun _ _ _ _ _ _ => mq_al (i := 1) rfl rfl,
   fun _ _ _ h0 => mq_getR rfl h0,
   fun _ _ _ _ _ _ => mq_il (i := 4) rfl rfl,
   fun _ _ _ _ h0 => mq_iald rfl h0,
   fun _ _ _ _ => mq_bi rfl,
   fun _ _ _ _ _ _ _ => mq_is (i := 3) rfl rfl rfl,
   fun _ _ _ _ _ _ => mq_iinc (i := 4) rfl rfl rfl rfl,
   fun _ _ => mq_go rfl,
   fun _ _ _ _ _ _ => mq_il (i := 3) rfl rfl,
   fun _ _ => mq_ri rfl⟩
theorem hX7_worthOf_5 (d n : Nat) (I L : mm_I) (P : mm_P) : ∀ (st : List mm_V) z (l0 : mm_V) (l1 : mm_V) (l2 : mm_V) (l3 : mm_V), mm_E d 56 5 [l0, l1, l2, l3, (.inl z)] [] st n I L P = mm_E d 56 7 [l0, l1, l2, l3, (.inl z)] [] ((.inl z) :: st) n I L P := fun _ _ _ _ _ _ => mq_il (i := 4) rfl rfl
theorem eX7_worthOf (d n : Nat) (I L : mm_I) (P : mm_P) (x0 : Option Nat) (x1 : Option Nat) (x2 : Int) : mm_rn (d + 1) 56 [.inr (.inr x0), .inr (.inr x1), .inl x2] n I L P = mm_E d 56 0 [.inr (.inr x0), .inr (.inr x1), .inl x2, mm_junk, mm_junk] [] [] n I L P := rfl

set_option maxRecDepth 20000 in
set_option maxHeartbeats 8000000 in
theorem kX5_isIn (d n : Nat) (I L : mm_I) (P : mm_P) :
  (∀ (st : List mm_V) z, mm_E d 283 0 [(.inl z)] [] st n I L P = mm_E d 283 1 [(.inl z)] [] ((.inl z) :: st) n I L P) ∧
  (∀ (lv : List mm_V) (st : List mm_V) a, mm_E d 283 1 lv [] (.inl a :: st) n I L P = if a < 0 then mm_E d 283 14 lv [] st n I L P else mm_E d 283 4 lv [] st n I L P) ∧
  (∀ (st : List mm_V) z, mm_E d 283 4 [(.inl z)] [] st n I L P = mm_E d 283 5 [(.inl z)] [] ((.inl z) :: st) n I L P) ∧
  (∀ (lv : List mm_V) (st : List mm_V), mm_E d 283 5 lv [] st n I L P = mm_E d 283 7 lv [] (.inl 8 :: st) n I L P) ∧
  (∀ (lv : List mm_V) (st : List mm_V) a b, mm_E d 283 7 lv [] (.inl b :: .inl a :: st) n I L P = if b ≤ a then mm_E d 283 14 lv [] st n I L P else mm_E d 283 10 lv [] st n I L P) ∧
  (∀ (lv : List mm_V) (st : List mm_V), mm_E d 283 10 lv [] st n I L P = mm_E d 283 11 lv [] (.inl 1 :: st) n I L P) ∧
  (∀ (lv : List mm_V) (st : List mm_V), mm_E d 283 11 lv [] st n I L P = mm_E d 283 15 lv [] st n I L P) ∧
  (∀ (lv : List mm_V) (st : List mm_V), mm_E d 283 14 lv [] st n I L P = mm_E d 283 15 lv [] (.inl 0 :: st) n I L P) ∧
  (∀ (lv : List mm_V) z, (0 ≤ z ∧ z < 2) → mm_E d 283 15 lv [] [.inl z] n I L P = some (some (.inl z), n, I, L, P)) :=
  ⟨fun _ _ => mq_il (i := 0) rfl rfl,
   fun _ _ _ => mq_if_lt rfl,
   fun _ _ => mq_il (i := 0) rfl rfl,
   fun _ _ => mq_push rfl,
   fun _ _ _ _ => mq_ic_ge rfl,
   fun _ _ => mq_push rfl,
   fun _ _ => mq_go rfl,
   fun _ _ => mq_push rfl,
   fun _ _ h0 => mq_rz rfl h0⟩
theorem eX5_isIn (d n : Nat) (I L : mm_I) (P : mm_P) (x0 : Int) : mm_rn (d + 1) 283 [.inl x0] n I L P = mm_E d 283 0 [.inl x0] [] [] n I L P := rfl

set_option maxRecDepth 20000 in
set_option maxHeartbeats 8000000 in
theorem kX5_worthIn (d n : Nat) (I L : mm_I) (P : mm_P) :
  (∀ (st : List mm_V) z (l0 : mm_V), mm_E d 284 0 [l0, (.inl z)] [] st n I L P = mm_E d 284 1 [l0, (.inl z)] [] ((.inl z) :: st) n I L P) ∧
  (∀ (lv : List mm_V) x0, mm_E d 284 1 lv [] (.inl x0 :: []) n I L P = mm_kr d 284 4 lv [] [] n (mm_rn d 283 [.inl x0] n I L P)) ∧
  (∀ (lv : List mm_V) (st : List mm_V) a, mm_E d 284 4 lv [] (.inl a :: st) n I L P = if a = 0 then mm_E d 284 16 lv [] st n I L P else mm_E d 284 7 lv [] st n I L P) ∧
  (∀ (st : List mm_V) z (l1 : mm_V), mm_E d 284 7 [(.inr (.inr z)), l1] [] st n I L P = mm_E d 284 8 [(.inr (.inr z)), l1] [] ((.inr (.inr z)) :: st) n I L P) ∧
  (∀ (lv : List mm_V) (st : List mm_V) a, (mm_ok n a 5) → mm_E d 284 8 lv [] (.inr (.inr (some a)) :: st) n I L P = mm_E d 284 11 lv [] (.inr (.inr (P a 0)) :: st) n I L P) ∧
  (∀ (st : List mm_V) z (l0 : mm_V), mm_E d 284 11 [l0, (.inl z)] [] st n I L P = mm_E d 284 12 [l0, (.inl z)] [] ((.inl z) :: st) n I L P) ∧
  (∀ (lv : List mm_V) (st : List mm_V) a i, (mm_ix n a 20 i) → mm_E d 284 12 lv [] (.inl i :: .inr (.inr (some a)) :: st) n I L P = mm_E d 284 13 lv [] (.inl (I a i.toNat) :: st) n I L P) ∧
  (∀ (lv : List mm_V) (st : List mm_V), mm_E d 284 13 lv [] st n I L P = mm_E d 284 17 lv [] st n I L P) ∧
  (∀ (lv : List mm_V) (st : List mm_V), mm_E d 284 16 lv [] st n I L P = mm_E d 284 17 lv [] (.inl 0 :: st) n I L P) ∧
  (∀ (lv : List mm_V) z, mm_E d 284 17 lv [] [.inl z] n I L P = some (some (.inl z), n, I, L, P)) :=
  ⟨fun _ _ _ => mq_il (i := 1) rfl rfl,
   fun _ _ => mq_cSr (na := 1) rfl (Nat.le_of_ble_eq_true rfl) (Nat.le_of_ble_eq_true rfl),
   fun _ _ _ => mq_if_eq rfl,
   fun _ _ _ => mq_al (i := 0) rfl rfl,
   fun _ _ _ h0 => mq_getR rfl h0,
   fun _ _ _ => mq_il (i := 1) rfl rfl,
   fun _ _ _ _ h0 => mq_iald rfl h0,
   fun _ _ => mq_go rfl,
   fun _ _ => mq_push rfl,
   fun _ _ => mq_ri rfl⟩
theorem eX5_worthIn (d n : Nat) (I L : mm_I) (P : mm_P) (x0 : Option Nat) (x1 : Int) : mm_rn (d + 1) 284 [.inr (.inr x0), .inl x1] n I L P = mm_E d 284 0 [.inr (.inr x0), .inl x1] [] [] n I L P := rfl

set_option maxRecDepth 20000 in
set_option maxHeartbeats 8000000 in
theorem kX5_sizeIn (d n : Nat) (I L : mm_I) (P : mm_P) :
  (∀ (st : List mm_V) z (l0 : mm_V), mm_E d 285 0 [l0, (.inl z)] [] st n I L P = mm_E d 285 1 [l0, (.inl z)] [] ((.inl z) :: st) n I L P) ∧
  (∀ (lv : List mm_V) x0, mm_E d 285 1 lv [] (.inl x0 :: []) n I L P = mm_kr d 285 4 lv [] [] n (mm_rn d 283 [.inl x0] n I L P)) ∧
  (∀ (lv : List mm_V) (st : List mm_V) a, mm_E d 285 4 lv [] (.inl a :: st) n I L P = if a = 0 then mm_E d 285 16 lv [] st n I L P else mm_E d 285 7 lv [] st n I L P) ∧
  (∀ (st : List mm_V) z (l1 : mm_V), mm_E d 285 7 [(.inr (.inr z)), l1] [] st n I L P = mm_E d 285 8 [(.inr (.inr z)), l1] [] ((.inr (.inr z)) :: st) n I L P) ∧
  (∀ (lv : List mm_V) (st : List mm_V) a, (mm_ok n a 5) → mm_E d 285 8 lv [] (.inr (.inr (some a)) :: st) n I L P = mm_E d 285 11 lv [] (.inr (.inr (P a 2)) :: st) n I L P) ∧
  (∀ (st : List mm_V) z (l0 : mm_V), mm_E d 285 11 [l0, (.inl z)] [] st n I L P = mm_E d 285 12 [l0, (.inl z)] [] ((.inl z) :: st) n I L P) ∧
  (∀ (lv : List mm_V) (st : List mm_V) a i, (mm_ix n a 20 i) → mm_E d 285 12 lv [] (.inl i :: .inr (.inr (some a)) :: st) n I L P = mm_E d 285 13 lv [] (.inl (I a i.toNat) :: st) n I L P) ∧
  (∀ (lv : List mm_V) (st : List mm_V), mm_E d 285 13 lv [] st n I L P = mm_E d 285 17 lv [] st n I L P) ∧
  (∀ (lv : List mm_V) (st : List mm_V), mm_E d 285 16 lv [] st n I L P = mm_E d 285 17 lv [] (.inl 0 :: st) n I L P) ∧
  (∀ (lv : List mm_V) z, mm_E d 285 17 lv [] [.inl z] n I L P = some (some (.inl z), n, I, L, P)) :=
  ⟨fun _ _ _ => mq_il (i := 1) rfl rfl,
   fun _ _ => mq_cSr (na := 1) rfl (Nat.le_of_ble_eq_true rfl) (Nat.le_of_ble_eq_true rfl),
   fun _ _ _ => mq_if_eq rfl,
   fun _ _ _ => mq_al (i := 0) rfl rfl,
   fun _ _ _ h0 => mq_getR rfl h0,
   fun _ _ _ => mq_il (i := 1) rfl rfl,
   fun _ _ _ _ h0 => mq_iald rfl h0,
   fun _ _ => mq_go rfl,
   fun _ _ => mq_push rfl,
   fun _ _ => mq_ri rfl⟩
theorem eX5_sizeIn (d n : Nat) (I L : mm_I) (P : mm_P) (x0 : Option Nat) (x1 : Int) : mm_rn (d + 1) 285 [.inr (.inr x0), .inl x1] n I L P = mm_E d 285 0 [.inr (.inr x0), .inl x1] [] [] n I L P := rfl

set_option maxRecDepth 20000 in
set_option maxHeartbeats 8000000 in
theorem kX5_lessen (d n : Nat) (I L : mm_I) (P : mm_P) :
  (∀ (st : List mm_V) z (l0 : mm_V) (l2 : mm_V), mm_E d 286 0 [l0, (.inl z), l2] [] st n I L P = mm_E d 286 1 [l0, (.inl z), l2] [] ((.inl z) :: st) n I L P) ∧
  (∀ (lv : List mm_V) x0, mm_E d 286 1 lv [] (.inl x0 :: []) n I L P = mm_kr d 286 4 lv [] [] n (mm_rn d 283 [.inl x0] n I L P)) ∧
  (∀ (lv : List mm_V) (st : List mm_V) a, mm_E d 286 4 lv [] (.inl a :: st) n I L P = if a = 0 then mm_E d 286 25 lv [] st n I L P else mm_E d 286 7 lv [] st n I L P) ∧
  (∀ (st : List mm_V) z (l1 : mm_V) (l2 : mm_V), mm_E d 286 7 [(.inr (.inr z)), l1, l2] [] st n I L P = mm_E d 286 8 [(.inr (.inr z)), l1, l2] [] ((.inr (.inr z)) :: st) n I L P) ∧
  (∀ (lv : List mm_V) (st : List mm_V) a, (mm_ok n a 5) → mm_E d 286 8 lv [] (.inr (.inr (some a)) :: st) n I L P = mm_E d 286 11 lv [] (.inr (.inr (P a 2)) :: st) n I L P) ∧
  (∀ (st : List mm_V) z (l0 : mm_V) (l2 : mm_V), mm_E d 286 11 [l0, (.inl z), l2] [] st n I L P = mm_E d 286 12 [l0, (.inl z), l2] [] ((.inl z) :: st) n I L P) ∧
  (∀ (lv : List mm_V) (st : List mm_V), mm_E d 286 12 lv [] st n I L P = mm_E d 286 13 lv [] (.inl 0 :: st) n I L P) ∧
  (∀ (st : List mm_V) z (l1 : mm_V) (l2 : mm_V), mm_E d 286 13 [(.inr (.inr z)), l1, l2] [] st n I L P = mm_E d 286 14 [(.inr (.inr z)), l1, l2] [] ((.inr (.inr z)) :: st) n I L P) ∧
  (∀ (lv : List mm_V) (st : List mm_V) a, (mm_ok n a 5) → mm_E d 286 14 lv [] (.inr (.inr (some a)) :: st) n I L P = mm_E d 286 17 lv [] (.inr (.inr (P a 2)) :: st) n I L P) ∧
  (∀ (st : List mm_V) z (l0 : mm_V) (l2 : mm_V), mm_E d 286 17 [l0, (.inl z), l2] [] st n I L P = mm_E d 286 18 [l0, (.inl z), l2] [] ((.inl z) :: st) n I L P) ∧
  (∀ (lv : List mm_V) (st : List mm_V) a i, (mm_ix n a 20 i) → mm_E d 286 18 lv [] (.inl i :: .inr (.inr (some a)) :: st) n I L P = mm_E d 286 19 lv [] (.inl (I a i.toNat) :: st) n I L P) ∧
  (∀ (st : List mm_V) z (l0 : mm_V) (l1 : mm_V), mm_E d 286 19 [l0, l1, (.inl z)] [] st n I L P = mm_E d 286 20 [l0, l1, (.inl z)] [] ((.inl z) :: st) n I L P) ∧
  (∀ (lv : List mm_V) (st : List mm_V) a b, mm_E d 286 20 lv [] (.inl b :: .inl a :: st) n I L P = mm_E d 286 21 lv [] (.inl (mm_sub a b) :: st) n I L P) ∧
  (∀ (lv : List mm_V) x0 x1 w0 w1, mm_E d 286 21 lv [] (.inl x1 :: .inl x0 :: [.inl w0, .inr (.inr w1)]) n I L P = mm_kr d 286 24 lv [] [.inl w0, .inr (.inr w1)] n (mm_rn d 265 [.inl x0, .inl x1] n I L P)) ∧
  (∀ (lv : List mm_V) (st : List mm_V) a i z, (mm_ix n a 20 i) → mm_E d 286 24 lv [] (.inl z :: .inl i :: .inr (.inr (some a)) :: st) n I L P = mm_E d 286 25 lv [] st n (mm_ui I a i.toNat z) L P) ∧
  (∀ (lv : List mm_V), mm_E d 286 25 lv [] [] n I L P = some (none, n, I, L, P)) :=
  ⟨fun _ _ _ _ => mq_il (i := 1) rfl rfl,
   fun _ _ => mq_cSr (na := 1) rfl (Nat.le_of_ble_eq_true rfl) (Nat.le_of_ble_eq_true rfl),
   fun _ _ _ => mq_if_eq rfl,
   fun _ _ _ _ => mq_al (i := 0) rfl rfl,
   fun _ _ _ h0 => mq_getR rfl h0,
   fun _ _ _ _ => mq_il (i := 1) rfl rfl,
   fun _ _ => mq_push rfl,
   fun _ _ _ _ => mq_al (i := 0) rfl rfl,
   fun _ _ _ h0 => mq_getR rfl h0,
   fun _ _ _ _ => mq_il (i := 1) rfl rfl,
   fun _ _ _ _ h0 => mq_iald rfl h0,
   fun _ _ _ _ => mq_il (i := 2) rfl rfl,
   fun _ _ _ _ => mq_bi rfl,
   fun _ _ _ _ _ => mq_cSr (na := 2) rfl (Nat.le_of_ble_eq_true rfl) (Nat.le_of_ble_eq_true rfl),
   fun _ _ _ _ _ h0 => mq_iast rfl h0,
   fun _ => mq_rv rfl⟩
theorem eX5_lessen (d n : Nat) (I L : mm_I) (P : mm_P) (x0 : Option Nat) (x1 : Int) (x2 : Int) : mm_rn (d + 1) 286 [.inr (.inr x0), .inl x1, .inl x2] n I L P = mm_E d 286 0 [.inr (.inr x0), .inl x1, .inl x2] [] [] n I L P := rfl
