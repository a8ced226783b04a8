/-! step rules of each method, printed by program -/
set_option maxRecDepth 20000 in
set_option maxHeartbeats 8000000 in
theorem kX12_seenFrom (d n : Nat) (I L : mm_I) (P : mm_P) :
  (∀ (lv : List mm_V) (st : List mm_V), mm_E d 195 0 lv [] st n I L P = mm_E d 195 1 lv [] (.inl 0 :: st) n I L P) ∧
  (∀ (st : List mm_V) z (l0 : mm_V) (l1 : mm_V) (l2 : mm_V) (l3 : mm_V), mm_E d 195 1 [l0, l1, l2, l3] [] ((.inl z) :: st) n I L P = mm_E d 195 2 [l0, l1, (.inl z), l3] [] st n I L P) ∧
  (∀ (lv : List mm_V) (st : List mm_V), mm_E d 195 2 lv [] st n I L P = mm_E d 195 3 lv [] (.inl 0 :: st) n I L P) ∧
  (∀ (st : List mm_V) z (l0 : mm_V) (l1 : mm_V) (l2 : mm_V) (l3 : mm_V), mm_E d 195 3 [l0, l1, l2, l3] [] ((.inl z) :: st) n I L P = mm_E d 195 4 [l0, l1, l2, (.inl z)] [] st n I L P) ∧
  (∀ (st : List mm_V) z (l1 : mm_V) (l2 : mm_V) (l3 : mm_V), mm_E d 195 5 [(.inr (.inr z)), l1, l2, l3] [] st n I L P = mm_E d 195 6 [(.inr (.inr z)), l1, l2, l3] [] ((.inr (.inr z)) :: st) n I L P) ∧
  (∀ (lv : List mm_V) (st : List mm_V) a, (mm_ok n a 12) → mm_E d 195 6 lv [] (.inr (.inr (some a)) :: st) n I L P = mm_E d 195 9 lv [] (.inl (I a 26) :: st) n I L P) ∧
  (∀ (lv : List mm_V) (st : List mm_V) a b, mm_E d 195 9 lv [] (.inl b :: .inl a :: st) n I L P = if b ≤ a then mm_E d 195 43 lv [] st n I L P else mm_E d 195 12 lv [] st n I L P) ∧
  (∀ (st : List mm_V) z (l0 : mm_V) (l1 : mm_V) (l3 : mm_V), mm_E d 195 12 [l0, l1, (.inl z), l3] [] st n I L P = mm_E d 195 13 [l0, l1, (.inl z), l3] [] ((.inl z) :: st) n I L P) ∧
  (∀ (st : List mm_V) z (l1 : mm_V) (l2 : mm_V) (l3 : mm_V), mm_E d 195 13 [(.inr (.inr z)), l1, l2, l3] [] st n I L P = mm_E d 195 14 [(.inr (.inr z)), l1, l2, l3] [] ((.inr (.inr z)) :: st) n I L P) ∧
  (∀ (st : List mm_V) z (l0 : mm_V) (l2 : mm_V) (l3 : mm_V), mm_E d 195 14 [l0, (.inl z), l2, l3] [] st n I L P = mm_E d 195 15 [l0, (.inl z), l2, l3] [] ((.inl z) :: st) n I L P) ∧
  (∀ (st : List mm_V) z (l0 : mm_V) (l1 : mm_V) (l2 : mm_V), mm_E d 195 15 [l0, l1, l2, (.inl z)] [] st n I L P = mm_E d 195 16 [l0, l1, l2, (.inl z)] [] ((.inl z) :: st) n I L P) ∧
  (∀ (lv : List mm_V) a x0 x1 w0, (mm_ok n a 12) → mm_E d 195 16 lv [] (.inl x1 :: .inl x0 :: .inr (.inr (some a)) :: [.inl w0]) n I L P = mm_kr d 195 19 lv [] [.inl w0] n (mm_rn d 192 [.inr (.inr (some a)), .inl x0, .inl x1] n I L P)) ∧
  (∀ (st : List mm_V) z (l1 : mm_V) (l2 : mm_V) (l3 : mm_V), mm_E d 195 19 [(.inr (.inr z)), l1, l2, l3] [] st n I L P = mm_E d 195 20 [(.inr (.inr z)), l1, l2, l3] [] ((.inr (.inr z)) :: st) n I L P) ∧
  (∀ (lv : List mm_V) (st : List mm_V) a, (mm_ok n a 12) → mm_E d 195 20 lv [] (.inr (.inr (some a)) :: st) n I L P = mm_E d 195 23 lv [] (.inr (.inr (P a 22)) :: st) n I L P) ∧
  (∀ (lv : List mm_V) (st : List mm_V), mm_E d 195 23 lv [] st n I L P = mm_E d 195 24 lv [] (.inl 1 :: st) n I L P) ∧
  (∀ (lv : List mm_V) (st : List mm_V) a i, (mm_ix n a 20 i) → mm_E d 195 24 lv [] (.inl i :: .inr (.inr (some a)) :: st) n I L P = mm_E d 195 25 lv [] (.inl (I a i.toNat) :: st) n I L P) ∧
  (∀ (lv : List mm_V) (st : List mm_V) a b, mm_E d 195 25 lv [] (.inl b :: .inl a :: st) n I L P = if b < a then mm_E d 195 34 lv [] st n I L P else mm_E d 195 28 lv [] st n I L P) ∧
  (∀ (lv : List mm_V) (st : List mm_V), mm_E d 195 28 lv [] st n I L P = mm_E d 195 29 lv [] (.inl 1 :: st) n I L P) ∧
  (∀ (st : List mm_V) z (l0 : mm_V) (l1 : mm_V) (l2 : mm_V), mm_E d 195 29 [l0, l1, l2, (.inl z)] [] st n I L P = mm_E d 195 30 [l0, l1, l2, (.inl z)] [] ((.inl z) :: st) n I L P) ∧
  (∀ (lv : List mm_V) (st : List mm_V) a b, mm_E d 195 30 lv [] (.inl b :: .inl a :: st) n I L P = mm_E d 195 31 lv [] (.inl (mm_shl a b) :: st) n I L P) ∧
  (∀ (lv : List mm_V) (st : List mm_V), mm_E d 195 31 lv [] st n I L P = mm_E d 195 35 lv [] st n I L P) ∧
  (∀ (lv : List mm_V) (st : List mm_V), mm_E d 195 34 lv [] st n I L P = mm_E d 195 35 lv [] (.inl 0 :: st) n I L P) ∧
  (∀ (lv : List mm_V) (st : List mm_V) a b, mm_E d 195 35 lv [] (.inl b :: .inl a :: st) n I L P = mm_E d 195 36 lv [] (.inl (mm_or a b) :: st) n I L P) ∧
  (∀ (st : List mm_V) z (l0 : mm_V) (l1 : mm_V) (l2 : mm_V) (l3 : mm_V), mm_E d 195 36 [l0, l1, l2, l3] [] ((.inl z) :: st) n I L P = mm_E d 195 37 [l0, l1, (.inl z), l3] [] st n I L P) ∧
  (∀ (st : List mm_V) z (l0 : mm_V) (l1 : mm_V) (l2 : mm_V), mm_E d 195 37 [l0, l1, l2, (.inl z)] [] st n I L P = mm_E d 195 40 [l0, l1, l2, (.inl (mm_add z 1))] [] st n I L P) ∧
  (∀ (lv : List mm_V) (st : List mm_V), mm_E d 195 40 lv [] st n I L P = mm_E d 195 4 lv [] st n I L P) ∧
  (∀ (st : List mm_V) z (l0 : mm_V) (l1 : mm_V) (l3 : mm_V), mm_E d 195 43 [l0, l1, (.inl z), l3] [] st n I L P = mm_E d 195 44 [l0, l1, (.inl z), l3] [] ((.inl z) :: st) n I L P) ∧
  (∀ (lv : List mm_V) z, mm_E d 195 44 lv [] [.inl z] n I L P = some (some (.inl z), n, I, L, P)) :=
  ⟨fun _ _ => mq_push rfl,
   fun _ _ _ _ _ _ => mq_is (i := 2) rfl rfl rfl,
   fun _ _ => mq_push rfl,
   fun _ _ _ _ _ _ => mq_is (i := 3) rfl rfl rfl,
   fun _ _ _ _ _ => mq_al (i := 0) rfl rfl,
   fun _ _ _ h0 => mq_getI rfl h0,
   fun _ _ _ _ => mq_ic_ge rfl,
   fun _ _ _ _ _ => mq_il (i := 2) rfl rfl,
   fun _ _ _ _ _ => mq_al (i := 0) rfl rfl,
   fun _ _ _ _ _ => mq_il (i := 1) rfl rfl,
   fun _ _ _ _ _ => mq_il (i := 3) rfl rfl,
   fun _ _ _ _ _ h0 => mq_cVr (na := 2) rfl rfl (Nat.le_of_ble_eq_true rfl) (Nat.le_of_ble_eq_true rfl) h0,
   fun _ _ _ _ _ => mq_al (i := 0) rfl rfl,
   fun _ _ _ h0 => mq_getR rfl h0,
   fun _ _ => mq_push rfl,
   fun _ _ _ _ h0 => mq_iald rfl h0,
   fun _ _ _ _ => mq_ic_gt rfl,
   fun _ _ => mq_push rfl,
   fun _ _ _ _ _ => mq_il (i := 3) rfl rfl,
   fun _ _ _ _ => mq_bi rfl,
   fun _ _ => mq_go rfl,
   fun _ _ => mq_push rfl,
   fun _ _ _ _ => mq_bi rfl,
   fun _ _ _ _ _ _ => mq_is (i := 2) rfl rfl rfl,
   fun _ _ _ _ _ => mq_iinc (i := 3) rfl rfl rfl rfl,
   fun _ _ => mq_go rfl,
   fun _ _ _ _ _ => mq_il (i := 2) rfl rfl,
   fun _ _ => mq_ri rfl⟩
theorem hX12_seenFrom_4 (d n : Nat) (I L : mm_I) (P : mm_P) : ∀ (st : List mm_V) z (l0 : mm_V) (l1 : mm_V) (l2 : mm_V), mm_E d 195 4 [l0, l1, l2, (.inl z)] [] st n I L P = mm_E d 195 5 [l0, l1, l2, (.inl z)] [] ((.inl z) :: st) n I L P := fun _ _ _ _ _ => mq_il (i := 3) rfl rfl
theorem eX12_seenFrom (d n : Nat) (I L : mm_I) (P : mm_P) (x0 : Option Nat) (x1 : Int) : mm_rn (d + 1) 195 [.inr (.inr x0), .inl x1] n I L P = mm_E d 195 0 [.inr (.inr x0), .inl x1, mm_junk, mm_junk] [] [] n I L P := rfl

set_option maxRecDepth 20000 in
set_option maxHeartbeats 8000000 in
theorem kX12_growthOf (d n : Nat) (I L : mm_I) (P : mm_P) :
  (∀ (st : List mm_V) z (l1 : mm_V) (l2 : mm_V) (l3 : mm_V) (l4 : mm_V), mm_E d 196 0 [(.inr (.inr z)), l1, l2, l3, l4] [] st n I L P = mm_E d 196 1 [(.inr (.inr z)), l1, l2, l3, l4] [] ((.inr (.inr z)) :: st) n I L P) ∧
  (∀ (st : List mm_V) z (l1 : mm_V) (l2 : mm_V) (l3 : mm_V) (l4 : mm_V), mm_E d 196 1 [(.inr (.inr z)), l1, l2, l3, l4] [] st n I L P = mm_E d 196 2 [(.inr (.inr z)), l1, l2, l3, l4] [] ((.inr (.inr z)) :: st) n I L P) ∧
  (∀ (lv : List mm_V) (st : List mm_V) a, (mm_ok n a 12) → mm_E d 196 2 lv [] (.inr (.inr (some a)) :: st) n I L P = mm_E d 196 5 lv [] (.inr (.inr (P a 27)) :: st) n I L P) ∧
  (∀ (lv : List mm_V) (st : List mm_V), mm_E d 196 5 lv [] st n I L P = mm_E d 196 7 lv [] (.inl 24 :: st) n I L P) ∧
  (∀ (lv : List mm_V) (st : List mm_V) a i, (mm_ix n a 20 i) → mm_E d 196 7 lv [] (.inl i :: .inr (.inr (some a)) :: st) n I L P = mm_E d 196 8 lv [] (.inl (I a i.toNat) :: st) n I L P) ∧
  (∀ (st : List mm_V) z (l0 : mm_V) (l2 : mm_V) (l3 : mm_V) (l4 : mm_V), mm_E d 196 8 [l0, (.inl z), l2, l3, l4] [] st n I L P = mm_E d 196 9 [l0, (.inl z), l2, l3, l4] [] ((.inl z) :: st) n I L P) ∧
  (∀ (lv : List mm_V) a x0 x1, (mm_ok n a 12) → mm_E d 196 9 lv [] (.inl x1 :: .inl x0 :: .inr (.inr (some a)) :: []) n I L P = mm_kr d 196 12 lv [] [] n (mm_rn d 192 [.inr (.inr (some a)), .inl x0, .inl x1] n I L P)) ∧
  (∀ (st : List mm_V) z (l0 : mm_V) (l1 : mm_V) (l2 : mm_V) (l3 : mm_V) (l4 : mm_V), mm_E d 196 12 [l0, l1, l2, l3, l4] [] ((.inl z) :: st) n I L P = mm_E d 196 13 [l0, l1, l2, (.inl z), l4] [] st n I L P) ∧
  (∀ (st : List mm_V) z (l1 : mm_V) (l2 : mm_V) (l3 : mm_V) (l4 : mm_V), mm_E d 196 13 [(.inr (.inr z)), l1, l2, l3, l4] [] st n I L P = mm_E d 196 14 [(.inr (.inr z)), l1, l2, l3, l4] [] ((.inr (.inr z)) :: st) n I L P) ∧
  (∀ (lv : List mm_V) (st : List mm_V) a, (mm_ok n a 12) → mm_E d 196 14 lv [] (.inr (.inr (some a)) :: st) n I L P = mm_E d 196 17 lv [] (.inr (.inr (P a 27)) :: st) n I L P) ∧
  (∀ (lv : List mm_V) (st : List mm_V), mm_E d 196 17 lv [] st n I L P = mm_E d 196 19 lv [] (.inl 8 :: st) n I L P) ∧
  (∀ (st : List mm_V) z (l0 : mm_V) (l2 : mm_V) (l3 : mm_V) (l4 : mm_V), mm_E d 196 19 [l0, (.inl z), l2, l3, l4] [] st n I L P = mm_E d 196 20 [l0, (.inl z), l2, l3, l4] [] ((.inl z) :: st) n I L P) ∧
  (∀ (lv : List mm_V) (st : List mm_V) a b, mm_E d 196 20 lv [] (.inl b :: .inl a :: st) n I L P = mm_E d 196 21 lv [] (.inl (mm_add a b) :: st) n I L P) ∧
  (∀ (lv : List mm_V) (st : List mm_V) a i, (mm_ix n a 20 i) → mm_E d 196 21 lv [] (.inl i :: .inr (.inr (some a)) :: st) n I L P = mm_E d 196 22 lv [] (.inl (I a i.toNat) :: st) n I L P) ∧
  (∀ (lv : List mm_V) (st : List mm_V) a, mm_E d 196 22 lv [] (.inl a :: st) n I L P = if a = 0 then mm_E d 196 48 lv [] st n I L P else if a = 1 then mm_E d 196 69 lv [] st n I L P else mm_E d 196 84 lv [] st n I L P) ∧
  (∀ (st : List mm_V) z (l1 : mm_V) (l2 : mm_V) (l3 : mm_V) (l4 : mm_V), mm_E d 196 48 [(.inr (.inr z)), l1, l2, l3, l4] [] st n I L P = mm_E d 196 49 [(.inr (.inr z)), l1, l2, l3, l4] [] ((.inr (.inr z)) :: st) n I L P) ∧
  (∀ (lv : List mm_V) (st : List mm_V) a, (mm_ok n a 12) → mm_E d 196 49 lv [] (.inr (.inr (some a)) :: st) n I L P = mm_E d 196 52 lv [] (.inr (.inr (P a 27)) :: st) n I L P) ∧
  (∀ (lv : List mm_V) (st : List mm_V), mm_E d 196 52 lv [] st n I L P = mm_E d 196 53 lv [] (.inl 0 :: st) n I L P) ∧
  (∀ (st : List mm_V) z (l0 : mm_V) (l2 : mm_V) (l3 : mm_V) (l4 : mm_V), mm_E d 196 53 [l0, (.inl z), l2, l3, l4] [] st n I L P = mm_E d 196 54 [l0, (.inl z), l2, l3, l4] [] ((.inl z) :: st) n I L P) ∧
  (∀ (lv : List mm_V) (st : List mm_V) a b, mm_E d 196 54 lv [] (.inl b :: .inl a :: st) n I L P = mm_E d 196 55 lv [] (.inl (mm_add a b) :: st) n I L P) ∧
  (∀ (lv : List mm_V) (st : List mm_V) a i, (mm_ix n a 20 i) → mm_E d 196 55 lv [] (.inl i :: .inr (.inr (some a)) :: st) n I L P = mm_E d 196 56 lv [] (.inl (I a i.toNat) :: st) n I L P) ∧
  (∀ (lv : List mm_V) (st : List mm_V) a, mm_E d 196 56 lv [] (.inl a :: st) n I L P = if a ≤ 0 then mm_E d 196 63 lv [] st n I L P else mm_E d 196 59 lv [] st n I L P) ∧
  (∀ (lv : List mm_V) (st : List mm_V), mm_E d 196 59 lv [] st n I L P = mm_E d 196 60 lv [] (.inl 1 :: st) n I L P) ∧
  (∀ (lv : List mm_V) (st : List mm_V), mm_E d 196 60 lv [] st n I L P = mm_E d 196 64 lv [] st n I L P) ∧
  (∀ (lv : List mm_V) (st : List mm_V), mm_E d 196 63 lv [] st n I L P = mm_E d 196 64 lv [] (.inl (-1) :: st) n I L P) ∧
  (∀ (st : List mm_V) z (l0 : mm_V) (l1 : mm_V) (l2 : mm_V) (l3 : mm_V) (l4 : mm_V), mm_E d 196 64 [l0, l1, l2, l3, l4] [] ((.inl z) :: st) n I L P = mm_E d 196 66 [l0, l1, l2, l3, (.inl z)] [] st n I L P) ∧
  (∀ (lv : List mm_V) (st : List mm_V), mm_E d 196 66 lv [] st n I L P = mm_E d 196 87 lv [] st n I L P) ∧
  (∀ (st : List mm_V) z (l0 : mm_V) (l1 : mm_V) (l2 : mm_V) (l4 : mm_V), mm_E d 196 69 [l0, l1, l2, (.inl z), l4] [] st n I L P = mm_E d 196 70 [l0, l1, l2, (.inl z), l4] [] ((.inl z) :: st) n I L P) ∧
  (∀ (lv : List mm_V) (st : List mm_V), mm_E d 196 70 lv [] st n I L P = mm_E d 196 71 lv [] (.inl 1 :: st) n I L P) ∧
  (∀ (lv : List mm_V) (st : List mm_V) a b, mm_E d 196 71 lv [] (.inl b :: .inl a :: st) n I L P = if b < a then mm_E d 196 78 lv [] st n I L P else mm_E d 196 74 lv [] st n I L P) ∧
  (∀ (lv : List mm_V) (st : List mm_V), mm_E d 196 74 lv [] st n I L P = mm_E d 196 75 lv [] (.inl (-1) :: st) n I L P) ∧
  (∀ (lv : List mm_V) (st : List mm_V), mm_E d 196 75 lv [] st n I L P = mm_E d 196 79 lv [] st n I L P) ∧
  (∀ (lv : List mm_V) (st : List mm_V), mm_E d 196 78 lv [] st n I L P = mm_E d 196 79 lv [] (.inl 1 :: st) n I L P) ∧
  (∀ (st : List mm_V) z (l0 : mm_V) (l1 : mm_V) (l2 : mm_V) (l3 : mm_V) (l4 : mm_V), mm_E d 196 79 [l0, l1, l2, l3, l4] [] ((.inl z) :: st) n I L P = mm_E d 196 81 [l0, l1, l2, l3, (.inl z)] [] st n I L P) ∧
  (∀ (lv : List mm_V) (st : List mm_V), mm_E d 196 81 lv [] st n I L P = mm_E d 196 87 lv [] st n I L P) ∧
  (∀ (lv : List mm_V) (st : List mm_V), mm_E d 196 84 lv [] st n I L P = mm_E d 196 85 lv [] (.inl (-1) :: st) n I L P) ∧
  (∀ (st : List mm_V) z (l0 : mm_V) (l1 : mm_V) (l2 : mm_V) (l3 : mm_V) (l4 : mm_V), mm_E d 196 85 [l0, l1, l2, l3, l4] [] ((.inl z) :: st) n I L P = mm_E d 196 87 [l0, l1, l2, l3, (.inl z)] [] st n I L P) ∧
  (∀ (st : List mm_V) z (l1 : mm_V) (l2 : mm_V) (l3 : mm_V) (l4 : mm_V), mm_E d 196 87 [(.inr (.inr z)), l1, l2, l3, l4] [] st n I L P = mm_E d 196 88 [(.inr (.inr z)), l1, l2, l3, l4] [] ((.inr (.inr z)) :: st) n I L P) ∧
  (∀ (lv : List mm_V) (st : List mm_V) a, (mm_ok n a 12) → mm_E d 196 88 lv [] (.inr (.inr (some a)) :: st) n I L P = mm_E d 196 91 lv [] (.inl (I a 29) :: st) n I L P) ∧
  (∀ (lv : List mm_V) (st : List mm_V), mm_E d 196 91 lv [] st n I L P = mm_E d 196 92 lv [] (.inl (-1) :: st) n I L P) ∧
  (∀ (lv : List mm_V) (st : List mm_V) a b, mm_E d 196 92 lv [] (.inl b :: .inl a :: st) n I L P = if a = b then mm_E d 196 189 lv [] st n I L P else mm_E d 196 95 lv [] st n I L P) ∧
  (∀ (st : List mm_V) z (l1 : mm_V) (l2 : mm_V) (l3 : mm_V) (l4 : mm_V), mm_E d 196 95 [(.inr (.inr z)), l1, l2, l3, l4] [] st n I L P = mm_E d 196 96 [(.inr (.inr z)), l1, l2, l3, l4] [] ((.inr (.inr z)) :: st) n I L P) ∧
  (∀ (lv : List mm_V) (st : List mm_V) a, (mm_ok n a 12) → mm_E d 196 96 lv [] (.inr (.inr (some a)) :: st) n I L P = mm_E d 196 99 lv [] (.inr (.inr (P a 15)) :: st) n I L P) ∧
  (∀ (lv : List mm_V) (st : List mm_V), mm_E d 196 99 lv [] st n I L P = mm_E d 196 100 lv [] (.inl 0 :: st) n I L P) ∧
  (∀ (st : List mm_V) z (l1 : mm_V) (l2 : mm_V) (l3 : mm_V) (l4 : mm_V), mm_E d 196 100 [(.inr (.inr z)), l1, l2, l3, l4] [] st n I L P = mm_E d 196 101 [(.inr (.inr z)), l1, l2, l3, l4] [] ((.inr (.inr z)) :: st) n I L P) ∧
  (∀ (lv : List mm_V) (st : List mm_V) a, (mm_ok n a 12) → mm_E d 196 101 lv [] (.inr (.inr (some a)) :: st) n I L P = mm_E d 196 104 lv [] (.inr (.inr (P a 27)) :: st) n I L P) ∧
  (∀ (lv : List mm_V) (st : List mm_V), mm_E d 196 104 lv [] st n I L P = mm_E d 196 106 lv [] (.inl 16 :: st) n I L P) ∧
  (∀ (st : List mm_V) z (l0 : mm_V) (l2 : mm_V) (l3 : mm_V) (l4 : mm_V), mm_E d 196 106 [l0, (.inl z), l2, l3, l4] [] st n I L P = mm_E d 196 107 [l0, (.inl z), l2, l3, l4] [] ((.inl z) :: st) n I L P) ∧
  (∀ (lv : List mm_V) (st : List mm_V) a b, mm_E d 196 107 lv [] (.inl b :: .inl a :: st) n I L P = mm_E d 196 108 lv [] (.inl (mm_add a b) :: st) n I L P) ∧
  (∀ (lv : List mm_V) (st : List mm_V) a i, (mm_ix n a 20 i) → mm_E d 196 108 lv [] (.inl i :: .inr (.inr (some a)) :: st) n I L P = mm_E d 196 109 lv [] (.inl (I a i.toNat) :: st) n I L P) ∧
  (∀ (lv : List mm_V) (st : List mm_V) a i z, (mm_ix n a 20 i) → mm_E d 196 109 lv [] (.inl z :: .inl i :: .inr (.inr (some a)) :: st) n I L P = mm_E d 196 110 lv [] st n (mm_ui I a i.toNat z) L P) ∧
  (∀ (st : List mm_V) z (l1 : mm_V) (l2 : mm_V) (l3 : mm_V) (l4 : mm_V), mm_E d 196 110 [(.inr (.inr z)), l1, l2, l3, l4] [] st n I L P = mm_E d 196 111 [(.inr (.inr z)), l1, l2, l3, l4] [] ((.inr (.inr z)) :: st) n I L P) ∧
  (∀ (lv : List mm_V) (st : List mm_V) a, (mm_ok n a 12) → mm_E d 196 111 lv [] (.inr (.inr (some a)) :: st) n I L P = mm_E d 196 114 lv [] (.inr (.inr (P a 15)) :: st) n I L P) ∧
  (∀ (lv : List mm_V) (st : List mm_V), mm_E d 196 114 lv [] st n I L P = mm_E d 196 115 lv [] (.inl 1 :: st) n I L P) ∧
  (∀ (st : List mm_V) z (l1 : mm_V) (l2 : mm_V) (l3 : mm_V) (l4 : mm_V), mm_E d 196 115 [(.inr (.inr z)), l1, l2, l3, l4] [] st n I L P = mm_E d 196 116 [(.inr (.inr z)), l1, l2, l3, l4] [] ((.inr (.inr z)) :: st) n I L P) ∧
  (∀ (lv : List mm_V) (st : List mm_V) a, (mm_ok n a 12) → mm_E d 196 116 lv [] (.inr (.inr (some a)) :: st) n I L P = mm_E d 196 119 lv [] (.inr (.inr (P a 27)) :: st) n I L P) ∧
  (∀ (lv : List mm_V) (st : List mm_V), mm_E d 196 119 lv [] st n I L P = mm_E d 196 121 lv [] (.inl 8 :: st) n I L P) ∧
  (∀ (st : List mm_V) z (l0 : mm_V) (l2 : mm_V) (l3 : mm_V) (l4 : mm_V), mm_E d 196 121 [l0, (.inl z), l2, l3, l4] [] st n I L P = mm_E d 196 122 [l0, (.inl z), l2, l3, l4] [] ((.inl z) :: st) n I L P) ∧
  (∀ (lv : List mm_V) (st : List mm_V) a b, mm_E d 196 122 lv [] (.inl b :: .inl a :: st) n I L P = mm_E d 196 123 lv [] (.inl (mm_add a b) :: st) n I L P) ∧
  (∀ (lv : List mm_V) (st : List mm_V) a i, (mm_ix n a 20 i) → mm_E d 196 123 lv [] (.inl i :: .inr (.inr (some a)) :: st) n I L P = mm_E d 196 124 lv [] (.inl (I a i.toNat) :: st) n I L P) ∧
  (∀ (lv : List mm_V) (st : List mm_V) a i z, (mm_ix n a 20 i) → mm_E d 196 124 lv [] (.inl z :: .inl i :: .inr (.inr (some a)) :: st) n I L P = mm_E d 196 125 lv [] st n (mm_ui I a i.toNat z) L P) ∧
  (∀ (st : List mm_V) z (l1 : mm_V) (l2 : mm_V) (l3 : mm_V) (l4 : mm_V), mm_E d 196 125 [(.inr (.inr z)), l1, l2, l3, l4] [] st n I L P = mm_E d 196 126 [(.inr (.inr z)), l1, l2, l3, l4] [] ((.inr (.inr z)) :: st) n I L P) ∧
  (∀ (lv : List mm_V) (st : List mm_V) a, (mm_ok n a 12) → mm_E d 196 126 lv [] (.inr (.inr (some a)) :: st) n I L P = mm_E d 196 129 lv [] (.inr (.inr (P a 15)) :: st) n I L P) ∧
  (∀ (lv : List mm_V) (st : List mm_V), mm_E d 196 129 lv [] st n I L P = mm_E d 196 130 lv [] (.inl 2 :: st) n I L P) ∧
  (∀ (st : List mm_V) z (l1 : mm_V) (l2 : mm_V) (l3 : mm_V) (l4 : mm_V), mm_E d 196 130 [(.inr (.inr z)), l1, l2, l3, l4] [] st n I L P = mm_E d 196 131 [(.inr (.inr z)), l1, l2, l3, l4] [] ((.inr (.inr z)) :: st) n I L P) ∧
  (∀ (lv : List mm_V) (st : List mm_V) a, (mm_ok n a 12) → mm_E d 196 131 lv [] (.inr (.inr (some a)) :: st) n I L P = mm_E d 196 134 lv [] (.inr (.inr (P a 27)) :: st) n I L P) ∧
  (∀ (lv : List mm_V) (st : List mm_V), mm_E d 196 134 lv [] st n I L P = mm_E d 196 135 lv [] (.inl 0 :: st) n I L P) ∧
  (∀ (st : List mm_V) z (l0 : mm_V) (l2 : mm_V) (l3 : mm_V) (l4 : mm_V), mm_E d 196 135 [l0, (.inl z), l2, l3, l4] [] st n I L P = mm_E d 196 136 [l0, (.inl z), l2, l3, l4] [] ((.inl z) :: st) n I L P) ∧
  (∀ (lv : List mm_V) (st : List mm_V) a b, mm_E d 196 136 lv [] (.inl b :: .inl a :: st) n I L P = mm_E d 196 137 lv [] (.inl (mm_add a b) :: st) n I L P) ∧
  (∀ (lv : List mm_V) (st : List mm_V) a i, (mm_ix n a 20 i) → mm_E d 196 137 lv [] (.inl i :: .inr (.inr (some a)) :: st) n I L P = mm_E d 196 138 lv [] (.inl (I a i.toNat) :: st) n I L P) ∧
  (∀ (lv : List mm_V) (st : List mm_V) a i z, (mm_ix n a 20 i) → mm_E d 196 138 lv [] (.inl z :: .inl i :: .inr (.inr (some a)) :: st) n I L P = mm_E d 196 139 lv [] st n (mm_ui I a i.toNat z) L P) ∧
  (∀ (st : List mm_V) z (l1 : mm_V) (l2 : mm_V) (l3 : mm_V) (l4 : mm_V), mm_E d 196 139 [(.inr (.inr z)), l1, l2, l3, l4] [] st n I L P = mm_E d 196 140 [(.inr (.inr z)), l1, l2, l3, l4] [] ((.inr (.inr z)) :: st) n I L P) ∧
  (∀ (lv : List mm_V) (st : List mm_V) a, (mm_ok n a 12) → mm_E d 196 140 lv [] (.inr (.inr (some a)) :: st) n I L P = mm_E d 196 143 lv [] (.inr (.inr (P a 15)) :: st) n I L P) ∧
  (∀ (lv : List mm_V) (st : List mm_V), mm_E d 196 143 lv [] st n I L P = mm_E d 196 144 lv [] (.inl 3 :: st) n I L P) ∧
  (∀ (st : List mm_V) z (l0 : mm_V) (l1 : mm_V) (l2 : mm_V) (l4 : mm_V), mm_E d 196 144 [l0, l1, l2, (.inl z), l4] [] st n I L P = mm_E d 196 145 [l0, l1, l2, (.inl z), l4] [] ((.inl z) :: st) n I L P) ∧
  (∀ (lv : List mm_V) (st : List mm_V) a i z, (mm_ix n a 20 i) → mm_E d 196 145 lv [] (.inl z :: .inl i :: .inr (.inr (some a)) :: st) n I L P = mm_E d 196 146 lv [] st n (mm_ui I a i.toNat z) L P) ∧
  (∀ (st : List mm_V) z (l1 : mm_V) (l2 : mm_V) (l3 : mm_V) (l4 : mm_V), mm_E d 196 146 [(.inr (.inr z)), l1, l2, l3, l4] [] st n I L P = mm_E d 196 147 [(.inr (.inr z)), l1, l2, l3, l4] [] ((.inr (.inr z)) :: st) n I L P) ∧
  (∀ (lv : List mm_V) (st : List mm_V) a, (mm_ok n a 12) → mm_E d 196 147 lv [] (.inr (.inr (some a)) :: st) n I L P = mm_E d 196 150 lv [] (.inr (.inr (P a 15)) :: st) n I L P) ∧
  (∀ (lv : List mm_V) (st : List mm_V), mm_E d 196 150 lv [] st n I L P = mm_E d 196 151 lv [] (.inl 4 :: st) n I L P) ∧
  (∀ (st : List mm_V) z (l1 : mm_V) (l2 : mm_V) (l3 : mm_V) (l4 : mm_V), mm_E d 196 151 [(.inr (.inr z)), l1, l2, l3, l4] [] st n I L P = mm_E d 196 152 [(.inr (.inr z)), l1, l2, l3, l4] [] ((.inr (.inr z)) :: st) n I L P) ∧
  (∀ (lv : List mm_V) (st : List mm_V) a, (mm_ok n a 12) → mm_E d 196 152 lv [] (.inr (.inr (some a)) :: st) n I L P = mm_E d 196 155 lv [] (.inr (.inr (P a 24)) :: st) n I L P) ∧
  (∀ (st : List mm_V) z (l0 : mm_V) (l2 : mm_V) (l3 : mm_V) (l4 : mm_V), mm_E d 196 155 [l0, (.inl z), l2, l3, l4] [] st n I L P = mm_E d 196 156 [l0, (.inl z), l2, l3, l4] [] ((.inl z) :: st) n I L P) ∧
  (∀ (lv : List mm_V) (st : List mm_V) a i, (mm_ix n a 20 i) → mm_E d 196 156 lv [] (.inl i :: .inr (.inr (some a)) :: st) n I L P = mm_E d 196 157 lv [] (.inl (I a i.toNat) :: st) n I L P) ∧
  (∀ (st : List mm_V) z (l0 : mm_V) (l1 : mm_V) (l3 : mm_V) (l4 : mm_V), mm_E d 196 157 [l0, l1, (.inl z), l3, l4] [] st n I L P = mm_E d 196 158 [l0, l1, (.inl z), l3, l4] [] ((.inl z) :: st) n I L P) ∧
  (∀ (lv : List mm_V) (st : List mm_V) a b, mm_E d 196 158 lv [] (.inl b :: .inl a :: st) n I L P = mm_E d 196 159 lv [] (.inl (mm_and a b) :: st) n I L P) ∧
  (∀ (lv : List mm_V) x0 w0 w1, mm_E d 196 159 lv [] (.inl x0 :: [.inl w0, .inr (.inr w1)]) n I L P = mm_kr d 196 162 lv [] [.inl w0, .inr (.inr w1)] n (mm_rn d 263 [.inl x0] n I L P)) ∧
  (∀ (lv : List mm_V) (st : List mm_V) a i z, (mm_ix n a 20 i) → mm_E d 196 162 lv [] (.inl z :: .inl i :: .inr (.inr (some a)) :: st) n I L P = mm_E d 196 163 lv [] st n (mm_ui I a i.toNat z) L P) ∧
  (∀ (st : List mm_V) z (l1 : mm_V) (l2 : mm_V) (l3 : mm_V) (l4 : mm_V), mm_E d 196 163 [(.inr (.inr z)), l1, l2, l3, l4] [] st n I L P = mm_E d 196 164 [(.inr (.inr z)), l1, l2, l3, l4] [] ((.inr (.inr z)) :: st) n I L P) ∧
  (∀ (lv : List mm_V) (st : List mm_V) a, (mm_ok n a 12) → mm_E d 196 164 lv [] (.inr (.inr (some a)) :: st) n I L P = mm_E d 196 167 lv [] (.inr (.inr (P a 15)) :: st) n I L P) ∧
  (∀ (lv : List mm_V) (st : List mm_V), mm_E d 196 167 lv [] st n I L P = mm_E d 196 168 lv [] (.inl 5 :: st) n I L P) ∧
  (∀ (st : List mm_V) z (l1 : mm_V) (l2 : mm_V) (l3 : mm_V) (l4 : mm_V), mm_E d 196 168 [(.inr (.inr z)), l1, l2, l3, l4] [] st n I L P = mm_E d 196 169 [(.inr (.inr z)), l1, l2, l3, l4] [] ((.inr (.inr z)) :: st) n I L P) ∧
  (∀ (lv : List mm_V) (st : List mm_V) a, (mm_ok n a 12) → mm_E d 196 169 lv [] (.inr (.inr (some a)) :: st) n I L P = mm_E d 196 172 lv [] (.inr (.inr (P a 27)) :: st) n I L P) ∧
  (∀ (lv : List mm_V) (st : List mm_V), mm_E d 196 172 lv [] st n I L P = mm_E d 196 174 lv [] (.inl 29 :: st) n I L P) ∧
  (∀ (lv : List mm_V) (st : List mm_V) a i, (mm_ix n a 20 i) → mm_E d 196 174 lv [] (.inl i :: .inr (.inr (some a)) :: st) n I L P = mm_E d 196 175 lv [] (.inl (I a i.toNat) :: st) n I L P) ∧
  (∀ (lv : List mm_V) (st : List mm_V), mm_E d 196 175 lv [] st n I L P = mm_E d 196 177 lv [] (.inl 24 :: st) n I L P) ∧
  (∀ (lv : List mm_V) (st : List mm_V) a b, (¬ b = 0) → mm_E d 196 177 lv [] (.inl b :: .inl a :: st) n I L P = mm_E d 196 178 lv [] (.inl (mm_w (Int.tmod a b)) :: st) n I L P) ∧
  (∀ (lv : List mm_V) (st : List mm_V) a i z, (mm_ix n a 20 i) → mm_E d 196 178 lv [] (.inl z :: .inl i :: .inr (.inr (some a)) :: st) n I L P = mm_E d 196 179 lv [] st n (mm_ui I a i.toNat z) L P) ∧
  (∀ (st : List mm_V) z (l1 : mm_V) (l2 : mm_V) (l3 : mm_V) (l4 : mm_V), mm_E d 196 179 [(.inr (.inr z)), l1, l2, l3, l4] [] st n I L P = mm_E d 196 180 [(.inr (.inr z)), l1, l2, l3, l4] [] ((.inr (.inr z)) :: st) n I L P) ∧
  (∀ (st : List mm_V) z (l1 : mm_V) (l2 : mm_V) (l3 : mm_V) (l4 : mm_V), mm_E d 196 180 [(.inr (.inr z)), l1, l2, l3, l4] [] st n I L P = mm_E d 196 181 [(.inr (.inr z)), l1, l2, l3, l4] [] ((.inr (.inr z)) :: st) n I L P) ∧
  (∀ (lv : List mm_V) (st : List mm_V) a, (mm_ok n a 12) → mm_E d 196 181 lv [] (.inr (.inr (some a)) :: st) n I L P = mm_E d 196 184 lv [] (.inl (I a 29) :: st) n I L P) ∧
  (∀ (lv : List mm_V) a x0, (mm_ok n a 12) → mm_E d 196 184 lv [] (.inl x0 :: .inr (.inr (some a)) :: []) n I L P = mm_kr d 196 187 lv [] [] n (mm_rn d 177 [.inr (.inr (some a)), .inl x0] n I L P)) ∧
  (∀ (st : List mm_V) z (l0 : mm_V) (l1 : mm_V) (l2 : mm_V) (l3 : mm_V) (l4 : mm_V), mm_E d 196 187 [l0, l1, l2, l3, l4] [] ((.inl z) :: st) n I L P = mm_E d 196 189 [l0, l1, l2, l3, (.inl z)] [] st n I L P) ∧
  (∀ (lv : List mm_V) (st : List mm_V), mm_E d 196 189 lv [] st n I L P = mm_E d 196 191 lv [] (.inl (-9) :: st) n I L P) ∧
  (∀ (lv : List mm_V) (st : List mm_V), mm_E d 196 191 lv [] st n I L P = mm_E d 196 193 lv [] (.inl 9 :: st) n I L P) ∧
  (∀ (st : List mm_V) z (l0 : mm_V) (l1 : mm_V) (l2 : mm_V) (l3 : mm_V), mm_E d 196 193 [l0, l1, l2, l3, (.inl z)] [] st n I L P = mm_E d 196 195 [l0, l1, l2, l3, (.inl z)] [] ((.inl z) :: st) n I L P) ∧
  (∀ (lv : List mm_V) x0 x1 w0, mm_E d 196 195 lv [] (.inl x1 :: .inl x0 :: [.inl w0]) n I L P = mm_kr d 196 198 lv [] [.inl w0] n (mm_rn d 267 [.inl x0, .inl x1] n I L P)) ∧
  (∀ (lv : List mm_V) x0 x1, mm_E d 196 198 lv [] (.inl x1 :: .inl x0 :: []) n I L P = mm_kr d 196 201 lv [] [] n (mm_rn d 265 [.inl x0, .inl x1] n I L P)) ∧
  (∀ (lv : List mm_V) z, mm_E d 196 201 lv [] [.inl z] n I L P = some (some (.inl z), n, I, L, P)) :=
  ⟨fun _ _ _ _ _ _ => mq_al (i := 0) rfl rfl,
   fun _ _ _ _ _ _ => mq_al (i := 0) rfl rfl,
   fun _ _ _ h0 => mq_getR rfl h0,
   fun _ _ => mq_push rfl,
   fun _ _ _ _ h0 => mq_iald rfl h0,
   fun _ _ _ _ _ _ => mq_il (i := 1) rfl rfl,
   fun _ _ _ _ h0 => mq_cVr (na := 2) rfl rfl (Nat.le_of_ble_eq_true rfl) (Nat.le_of_ble_eq_true rfl) h0,
   fun _ _ _ _ _ _ _ => mq_is (i := 3) rfl rfl rfl,
   fun _ _ _ _ _ _ => mq_al (i := 0) rfl rfl,
   fun _ _ _ h0 => mq_getR rfl h0,
   fun _ _ => mq_push rfl,
   fun _ _ _ _ _ _ => mq_il (i := 1) rfl rfl,
   fun _ _ _ _ => mq_bi rfl,
   fun _ _ _ _ h0 => mq_iald rfl h0,
   fun _ _ _ => mq_sw (l := [(0, 48), (1, 69)]) (df := 84) rfl,
   fun _ _ _ _ _ _ => mq_al (i := 0) rfl rfl,
   fun _ _ _ h0 => mq_getR rfl h0,
   fun _ _ => mq_push rfl,
   fun _ _ _ _ _ _ => mq_il (i := 1) rfl rfl,
   fun _ _ _ _ => mq_bi rfl,
   fun _ _ _ _ h0 => mq_iald rfl h0,
   fun _ _ _ => mq_if_le rfl,
   fun _ _ => mq_push rfl,
   fun _ _ => mq_go rfl,
   fun _ _ => mq_push rfl,
   fun _ _ _ _ _ _ _ => mq_is (i := 4) rfl rfl rfl,
   fun _ _ => mq_go rfl,
   fun _ _ _ _ _ _ => mq_il (i := 3) rfl rfl,
   fun _ _ => mq_push rfl,
   fun _ _ _ _ => mq_ic_gt rfl,
   fun _ _ => mq_push rfl,
   fun _ _ => mq_go rfl,
   fun _ _ => mq_push rfl,
   fun _ _ _ _ _ _ _ => mq_is (i := 4) rfl rfl rfl,
   fun _ _ => mq_go rfl,
   fun _ _ => mq_push rfl,
   fun _ _ _ _ _ _ _ => mq_is (i := 4) rfl rfl rfl,
   fun _ _ _ _ _ _ => mq_al (i := 0) rfl rfl,
   fun _ _ _ h0 => mq_getI rfl h0,
   fun _ _ => mq_push rfl,
   fun _ _ _ _ => mq_ic_eq rfl,
   fun _ _ _ _ _ _ => mq_al (i := 0) rfl rfl,
   fun _ _ _ h0 => mq_getR rfl h0,
   fun _ _ => mq_push rfl,
   fun _ _ _ _ _ _ => mq_al (i := 0) rfl rfl,
   fun _ _ _ h0 => mq_getR rfl h0,
   fun _ _ => mq_push rfl,
   fun _ _ _ _ _ _ => mq_il (i := 1) rfl rfl,
   fun _ _ _ _ => mq_bi rfl,
   fun _ _ _ _ h0 => mq_iald rfl h0,
   fun _ _ _ _ _ h0 => mq_iast rfl h0,
   fun _ _ _ _ _ _ => mq_al (i := 0) rfl rfl,
   fun _ _ _ h0 => mq_getR rfl h0,
   fun _ _ => mq_push rfl,
   fun _ _ _ _ _ _ => mq_al (i := 0) rfl rfl,
   fun _ _ _ h0 => mq_getR rfl h0,
   fun _ _ => mq_push rfl,
   fun _ _ _ _ _ _ => mq_il (i := 1) rfl rfl,
   fun _ _ _ _ => mq_bi rfl,
   fun _ _ _ _ h0 => mq_iald rfl h0,
   fun _ _ _ _ _ h0 => mq_iast rfl h0,
   fun _ _ _ _ _ _ => mq_al (i := 0) rfl rfl,
   fun _ _ _ h0 => mq_getR rfl h0,
   fun _ _ => mq_push rfl,
   fun _ _ _ _ _ _ => mq_al (i := 0) rfl rfl,
   fun _ _ _ h0 => mq_getR rfl h0,
   fun _ _ => mq_push rfl,
   fun _ _ _ _ _ _ => mq_il (i := 1) rfl rfl,
   fun _ _ _ _ => mq_bi rfl,
   fun _ _ _ _ h0 => mq_iald rfl h0,
   fun _ _ _ _ _ h0 => mq_iast rfl h0,
   fun _ _ _ _ _ _ => mq_al (i := 0) rfl rfl,
   fun _ _ _ h0 => mq_getR rfl h0,
   fun _ _ => mq_push rfl,
   fun _ _ _ _ _ _ => mq_il (i := 3) rfl rfl,
   fun _ _ _ _ _ h0 => mq_iast rfl h0,
   fun _ _ _ _ _ _ => mq_al (i := 0) rfl rfl,
   fun _ _ _ h0 => mq_getR rfl h0,
   fun _ _ => mq_push rfl,
   fun _ _ _ _ _ _ => mq_al (i := 0) rfl rfl,
   fun _ _ _ h0 => mq_getR rfl h0,
   fun _ _ _ _ _ _ => mq_il (i := 1) rfl rfl,
   fun _ _ _ _ h0 => mq_iald rfl h0,
   fun _ _ _ _ _ _ => mq_il (i := 2) rfl rfl,
   fun _ _ _ _ => mq_bi rfl,
   fun _ _ _ _ => mq_cSr (na := 1) rfl (Nat.le_of_ble_eq_true rfl) (Nat.le_of_ble_eq_true rfl),
   fun _ _ _ _ _ h0 => mq_iast rfl h0,
   fun _ _ _ _ _ _ => mq_al (i := 0) rfl rfl,
   fun _ _ _ h0 => mq_getR rfl h0,
   fun _ _ => mq_push rfl,
   fun _ _ _ _ _ _ => mq_al (i := 0) rfl rfl,
   fun _ _ _ h0 => mq_getR rfl h0,
   fun _ _ => mq_push rfl,
   fun _ _ _ _ h0 => mq_iald rfl h0,
   fun _ _ => mq_push rfl,
   fun _ _ _ _ h0 => mq_di rfl h0,
   fun _ _ _ _ _ h0 => mq_iast rfl h0,
   fun _ _ _ _ _ _ => mq_al (i := 0) rfl rfl,
   fun _ _ _ _ _ _ => mq_al (i := 0) rfl rfl,
   fun _ _ _ h0 => mq_getI rfl h0,
   fun _ _ _ h0 => mq_cVr (na := 1) rfl rfl (Nat.le_of_ble_eq_true rfl) (Nat.le_of_ble_eq_true rfl) h0,
   fun _ _ _ _ _ _ _ => mq_is (i := 4) rfl rfl rfl,
   fun _ _ => mq_push rfl,
   fun _ _ => mq_push rfl,
   fun _ _ _ _ _ _ => mq_il (i := 4) rfl rfl,
   fun _ _ _ _ => mq_cSr (na := 2) rfl (Nat.le_of_ble_eq_true rfl) (Nat.le_of_ble_eq_true rfl),
   fun _ _ _ => mq_cSr (na := 2) rfl (Nat.le_of_ble_eq_true rfl) (Nat.le_of_ble_eq_true rfl),
   fun _ _ => mq_ri rfl⟩
theorem eX12_growthOf (d n : Nat) (I L : mm_I) (P : mm_P) (x0 : Option Nat) (x1 : Int) (x2 : Int) : mm_rn (d + 1) 196 [.inr (.inr x0), .inl x1, .inl x2] n I L P = mm_E d 196 0 [.inr (.inr x0), .inl x1, .inl x2, mm_junk, mm_junk] [] [] n I L P := rfl

set_option maxRecDepth 20000 in
set_option maxHeartbeats 8000000 in
theorem kX12_spread (d n : Nat) (I L : mm_I) (P : mm_P) :
  (∀ (lv : List mm_V) (st : List mm_V), mm_E d 197 0 lv [] st n I L P = mm_E d 197 1 lv [] (.inl 0 :: st) n I L P) ∧
  (∀ (st : List mm_V) z (l0 : mm_V) (l1 : mm_V) (l2 : mm_V), mm_E d 197 1 [l0, l1, l2] [] ((.inl z) :: st) n I L P = mm_E d 197 2 [l0, (.inl z), l2] [] st n I L P) ∧
  (∀ (lv : List mm_V) (st : List mm_V), mm_E d 197 2 lv [] st n I L P = mm_E d 197 3 lv [] (.inl 0 :: st) n I L P) ∧
  (∀ (st : List mm_V) z (l0 : mm_V) (l1 : mm_V) (l2 : mm_V), mm_E d 197 3 [l0, l1, l2] [] ((.inl z) :: st) n I L P = mm_E d 197 4 [l0, l1, (.inl z)] [] st n I L P) ∧
  (∀ (st : List mm_V) z (l1 : mm_V) (l2 : mm_V), mm_E d 197 5 [(.inr (.inr z)), l1, l2] [] st n I L P = mm_E d 197 6 [(.inr (.inr z)), l1, l2] [] ((.inr (.inr z)) :: st) n I L P) ∧
  (∀ (lv : List mm_V) (st : List mm_V) a, (mm_ok n a 12) → mm_E d 197 6 lv [] (.inr (.inr (some a)) :: st) n I L P = mm_E d 197 9 lv [] (.inl (I a 26) :: st) n I L P) ∧
  (∀ (lv : List mm_V) (st : List mm_V) a b, mm_E d 197 9 lv [] (.inl b :: .inl a :: st) n I L P = if b ≤ a then mm_E d 197 56 lv [] st n I L P else mm_E d 197 12 lv [] st n I L P) ∧
  (∀ (st : List mm_V) z (l0 : mm_V) (l2 : mm_V), mm_E d 197 12 [l0, (.inl z), l2] [] st n I L P = mm_E d 197 13 [l0, (.inl z), l2] [] ((.inl z) :: st) n I L P) ∧
  (∀ (st : List mm_V) z (l1 : mm_V) (l2 : mm_V), mm_E d 197 13 [(.inr (.inr z)), l1, l2] [] st n I L P = mm_E d 197 14 [(.inr (.inr z)), l1, l2] [] ((.inr (.inr z)) :: st) n I L P) ∧
  (∀ (lv : List mm_V) (st : List mm_V) a, (mm_ok n a 12) → mm_E d 197 14 lv [] (.inr (.inr (some a)) :: st) n I L P = mm_E d 197 17 lv [] (.inr (.inr (P a 27)) :: st) n I L P) ∧
  (∀ (lv : List mm_V) (st : List mm_V), mm_E d 197 17 lv [] st n I L P = mm_E d 197 19 lv [] (.inl 8 :: st) n I L P) ∧
  (∀ (st : List mm_V) z (l0 : mm_V) (l1 : mm_V), mm_E d 197 19 [l0, l1, (.inl z)] [] st n I L P = mm_E d 197 20 [l0, l1, (.inl z)] [] ((.inl z) :: st) n I L P) ∧
  (∀ (lv : List mm_V) (st : List mm_V) a b, mm_E d 197 20 lv [] (.inl b :: .inl a :: st) n I L P = mm_E d 197 21 lv [] (.inl (mm_add a b) :: st) n I L P) ∧
  (∀ (lv : List mm_V) (st : List mm_V) a i, (mm_ix n a 20 i) → mm_E d 197 21 lv [] (.inl i :: .inr (.inr (some a)) :: st) n I L P = mm_E d 197 22 lv [] (.inl (I a i.toNat) :: st) n I L P) ∧
  (∀ (lv : List mm_V) (st : List mm_V) a, mm_E d 197 22 lv [] (.inl a :: st) n I L P = if a = 0 then mm_E d 197 25 lv [] st n I L P else mm_E d 197 47 lv [] st n I L P) ∧
  (∀ (st : List mm_V) z (l1 : mm_V) (l2 : mm_V), mm_E d 197 25 [(.inr (.inr z)), l1, l2] [] st n I L P = mm_E d 197 26 [(.inr (.inr z)), l1, l2] [] ((.inr (.inr z)) :: st) n I L P) ∧
  (∀ (lv : List mm_V) (st : List mm_V) a, (mm_ok n a 12) → mm_E d 197 26 lv [] (.inr (.inr (some a)) :: st) n I L P = mm_E d 197 29 lv [] (.inr (.inr (P a 27)) :: st) n I L P) ∧
  (∀ (lv : List mm_V) (st : List mm_V), mm_E d 197 29 lv [] st n I L P = mm_E d 197 31 lv [] (.inl 16 :: st) n I L P) ∧
  (∀ (st : List mm_V) z (l0 : mm_V) (l1 : mm_V), mm_E d 197 31 [l0, l1, (.inl z)] [] st n I L P = mm_E d 197 32 [l0, l1, (.inl z)] [] ((.inl z) :: st) n I L P) ∧
  (∀ (lv : List mm_V) (st : List mm_V) a b, mm_E d 197 32 lv [] (.inl b :: .inl a :: st) n I L P = mm_E d 197 33 lv [] (.inl (mm_add a b) :: st) n I L P) ∧
  (∀ (lv : List mm_V) (st : List mm_V) a i, (mm_ix n a 20 i) → mm_E d 197 33 lv [] (.inl i :: .inr (.inr (some a)) :: st) n I L P = mm_E d 197 34 lv [] (.inl (I a i.toNat) :: st) n I L P) ∧
  (∀ (lv : List mm_V) (st : List mm_V), mm_E d 197 34 lv [] st n I L P = mm_E d 197 35 lv [] (.inl 5 :: st) n I L P) ∧
  (∀ (lv : List mm_V) (st : List mm_V) a b, mm_E d 197 35 lv [] (.inl b :: .inl a :: st) n I L P = if a < b then mm_E d 197 47 lv [] st n I L P else mm_E d 197 38 lv [] st n I L P) ∧
  (∀ (st : List mm_V) z (l1 : mm_V) (l2 : mm_V), mm_E d 197 38 [(.inr (.inr z)), l1, l2] [] st n I L P = mm_E d 197 39 [(.inr (.inr z)), l1, l2] [] ((.inr (.inr z)) :: st) n I L P) ∧
  (∀ (lv : List mm_V) (st : List mm_V) a, (mm_ok n a 12) → mm_E d 197 39 lv [] (.inr (.inr (some a)) :: st) n I L P = mm_E d 197 42 lv [] (.inr (.inr (P a 24)) :: st) n I L P) ∧
  (∀ (st : List mm_V) z (l0 : mm_V) (l1 : mm_V), mm_E d 197 42 [l0, l1, (.inl z)] [] st n I L P = mm_E d 197 43 [l0, l1, (.inl z)] [] ((.inl z) :: st) n I L P) ∧
  (∀ (lv : List mm_V) (st : List mm_V) a i, (mm_ix n a 20 i) → mm_E d 197 43 lv [] (.inl i :: .inr (.inr (some a)) :: st) n I L P = mm_E d 197 44 lv [] (.inl (I a i.toNat) :: st) n I L P) ∧
  (∀ (lv : List mm_V) (st : List mm_V), mm_E d 197 44 lv [] st n I L P = mm_E d 197 48 lv [] st n I L P) ∧
  (∀ (lv : List mm_V) (st : List mm_V), mm_E d 197 47 lv [] st n I L P = mm_E d 197 48 lv [] (.inl 0 :: st) n I L P) ∧
  (∀ (lv : List mm_V) (st : List mm_V) a b, mm_E d 197 48 lv [] (.inl b :: .inl a :: st) n I L P = mm_E d 197 49 lv [] (.inl (mm_or a b) :: st) n I L P) ∧
  (∀ (st : List mm_V) z (l0 : mm_V) (l1 : mm_V) (l2 : mm_V), mm_E d 197 49 [l0, l1, l2] [] ((.inl z) :: st) n I L P = mm_E d 197 50 [l0, (.inl z), l2] [] st n I L P) ∧
  (∀ (st : List mm_V) z (l0 : mm_V) (l1 : mm_V), mm_E d 197 50 [l0, l1, (.inl z)] [] st n I L P = mm_E d 197 53 [l0, l1, (.inl (mm_add z 1))] [] st n I L P) ∧
  (∀ (lv : List mm_V) (st : List mm_V), mm_E d 197 53 lv [] st n I L P = mm_E d 197 4 lv [] st n I L P) ∧
  (∀ (st : List mm_V) z (l0 : mm_V) (l2 : mm_V), mm_E d 197 56 [l0, (.inl z), l2] [] st n I L P = mm_E d 197 57 [l0, (.inl z), l2] [] ((.inl z) :: st) n I L P) ∧
  (∀ (st : List mm_V) z (l1 : mm_V) (l2 : mm_V), mm_E d 197 57 [(.inr (.inr z)), l1, l2] [] st n I L P = mm_E d 197 58 [(.inr (.inr z)), l1, l2] [] ((.inr (.inr z)) :: st) n I L P) ∧
  (∀ (lv : List mm_V) a w0, (mm_ok n a 12) → mm_E d 197 58 lv [] (.inr (.inr (some a)) :: [.inl w0]) n I L P = mm_kr d 197 61 lv [] [.inl w0] n (mm_rn d 194 [.inr (.inr (some a))] n I L P)) ∧
  (∀ (lv : List mm_V) (st : List mm_V), mm_E d 197 61 lv [] st n I L P = mm_E d 197 62 lv [] (.inl (-1) :: st) n I L P) ∧
  (∀ (lv : List mm_V) (st : List mm_V) a b, mm_E d 197 62 lv [] (.inl b :: .inl a :: st) n I L P = mm_E d 197 63 lv [] (.inl (mm_xor a b) :: st) n I L P) ∧
  (∀ (lv : List mm_V) (st : List mm_V) a b, mm_E d 197 63 lv [] (.inl b :: .inl a :: st) n I L P = mm_E d 197 64 lv [] (.inl (mm_and a b) :: st) n I L P) ∧
  (∀ (st : List mm_V) z (l0 : mm_V) (l1 : mm_V) (l2 : mm_V), mm_E d 197 64 [l0, l1, l2] [] ((.inl z) :: st) n I L P = mm_E d 197 65 [l0, (.inl z), l2] [] st n I L P) ∧
  (∀ (lv : List mm_V) (st : List mm_V), mm_E d 197 65 lv [] st n I L P = mm_E d 197 66 lv [] (.inl 0 :: st) n I L P) ∧
  (∀ (st : List mm_V) z (l0 : mm_V) (l1 : mm_V) (l2 : mm_V), mm_E d 197 66 [l0, l1, l2] [] ((.inl z) :: st) n I L P = mm_E d 197 67 [l0, l1, (.inl z)] [] st n I L P) ∧
  (∀ (st : List mm_V) z (l1 : mm_V) (l2 : mm_V), mm_E d 197 68 [(.inr (.inr z)), l1, l2] [] st n I L P = mm_E d 197 69 [(.inr (.inr z)), l1, l2] [] ((.inr (.inr z)) :: st) n I L P) ∧
  (∀ (lv : List mm_V) (st : List mm_V) a, (mm_ok n a 12) → mm_E d 197 69 lv [] (.inr (.inr (some a)) :: st) n I L P = mm_E d 197 72 lv [] (.inl (I a 26) :: st) n I L P) ∧
  (∀ (lv : List mm_V) (st : List mm_V) a b, mm_E d 197 72 lv [] (.inl b :: .inl a :: st) n I L P = if b ≤ a then mm_E d 197 120 lv [] st n I L P else mm_E d 197 75 lv [] st n I L P) ∧
  (∀ (st : List mm_V) z (l0 : mm_V) (l2 : mm_V), mm_E d 197 75 [l0, (.inl z), l2] [] st n I L P = mm_E d 197 76 [l0, (.inl z), l2] [] ((.inl z) :: st) n I L P) ∧
  (∀ (st : List mm_V) z (l0 : mm_V) (l1 : mm_V), mm_E d 197 76 [l0, l1, (.inl z)] [] st n I L P = mm_E d 197 77 [l0, l1, (.inl z)] [] ((.inl z) :: st) n I L P) ∧
  (∀ (lv : List mm_V) x0 x1, mm_E d 197 77 lv [] (.inl x1 :: .inl x0 :: []) n I L P = mm_kr d 197 80 lv [] [] n (mm_rn d 146 [.inl x0, .inl x1] n I L P)) ∧
  (∀ (lv : List mm_V) (st : List mm_V) a, mm_E d 197 80 lv [] (.inl a :: st) n I L P = if a = 0 then mm_E d 197 114 lv [] st n I L P else mm_E d 197 83 lv [] st n I L P) ∧
  (∀ (st : List mm_V) z (l1 : mm_V) (l2 : mm_V), mm_E d 197 83 [(.inr (.inr z)), l1, l2] [] st n I L P = mm_E d 197 84 [(.inr (.inr z)), l1, l2] [] ((.inr (.inr z)) :: st) n I L P) ∧
  (∀ (lv : List mm_V) (st : List mm_V) a, (mm_ok n a 12) → mm_E d 197 84 lv [] (.inr (.inr (some a)) :: st) n I L P = mm_E d 197 87 lv [] (.inr (.inr (P a 27)) :: st) n I L P) ∧
  (∀ (lv : List mm_V) (st : List mm_V), mm_E d 197 87 lv [] st n I L P = mm_E d 197 88 lv [] (.inl 0 :: st) n I L P) ∧
  (∀ (st : List mm_V) z (l0 : mm_V) (l1 : mm_V), mm_E d 197 88 [l0, l1, (.inl z)] [] st n I L P = mm_E d 197 89 [l0, l1, (.inl z)] [] ((.inl z) :: st) n I L P) ∧
  (∀ (lv : List mm_V) (st : List mm_V) a b, mm_E d 197 89 lv [] (.inl b :: .inl a :: st) n I L P = mm_E d 197 90 lv [] (.inl (mm_add a b) :: st) n I L P) ∧
  (∀ (lv : List mm_V) (st : List mm_V) a i, (mm_ix n a 20 i) → mm_E d 197 90 lv [] (.inl i :: .inr (.inr (some a)) :: st) n I L P = mm_E d 197 91 lv [] (.inl (I a i.toNat) :: st) n I L P) ∧
  (∀ (lv : List mm_V) (st : List mm_V) a, mm_E d 197 91 lv [] (.inl a :: st) n I L P = if a ≤ 0 then mm_E d 197 114 lv [] st n I L P else mm_E d 197 94 lv [] st n I L P) ∧
  (∀ (st : List mm_V) z (l1 : mm_V) (l2 : mm_V), mm_E d 197 94 [(.inr (.inr z)), l1, l2] [] st n I L P = mm_E d 197 95 [(.inr (.inr z)), l1, l2] [] ((.inr (.inr z)) :: st) n I L P) ∧
  (∀ (lv : List mm_V) (st : List mm_V) a, (mm_ok n a 12) → mm_E d 197 95 lv [] (.inr (.inr (some a)) :: st) n I L P = mm_E d 197 98 lv [] (.inr (.inr (P a 27)) :: st) n I L P) ∧
  (∀ (lv : List mm_V) (st : List mm_V), mm_E d 197 98 lv [] st n I L P = mm_E d 197 100 lv [] (.inl 8 :: st) n I L P) ∧
  (∀ (st : List mm_V) z (l0 : mm_V) (l1 : mm_V), mm_E d 197 100 [l0, l1, (.inl z)] [] st n I L P = mm_E d 197 101 [l0, l1, (.inl z)] [] ((.inl z) :: st) n I L P) ∧
  (∀ (lv : List mm_V) (st : List mm_V) a b, mm_E d 197 101 lv [] (.inl b :: .inl a :: st) n I L P = mm_E d 197 102 lv [] (.inl (mm_add a b) :: st) n I L P) ∧
  (∀ (lv : List mm_V) (st : List mm_V), mm_E d 197 102 lv [] st n I L P = mm_E d 197 103 lv [] (.inl 0 :: st) n I L P) ∧
  (∀ (lv : List mm_V) (st : List mm_V) a i z, (mm_ix n a 20 i) → mm_E d 197 103 lv [] (.inl z :: .inl i :: .inr (.inr (some a)) :: st) n I L P = mm_E d 197 104 lv [] st n (mm_ui I a i.toNat z) L P) ∧
  (∀ (st : List mm_V) z (l1 : mm_V) (l2 : mm_V), mm_E d 197 104 [(.inr (.inr z)), l1, l2] [] st n I L P = mm_E d 197 105 [(.inr (.inr z)), l1, l2] [] ((.inr (.inr z)) :: st) n I L P) ∧
  (∀ (lv : List mm_V) (st : List mm_V) a, (mm_ok n a 12) → mm_E d 197 105 lv [] (.inr (.inr (some a)) :: st) n I L P = mm_E d 197 108 lv [] (.inr (.inr (P a 27)) :: st) n I L P) ∧
  (∀ (lv : List mm_V) (st : List mm_V), mm_E d 197 108 lv [] st n I L P = mm_E d 197 110 lv [] (.inl 16 :: st) n I L P) ∧
  (∀ (st : List mm_V) z (l0 : mm_V) (l1 : mm_V), mm_E d 197 110 [l0, l1, (.inl z)] [] st n I L P = mm_E d 197 111 [l0, l1, (.inl z)] [] ((.inl z) :: st) n I L P) ∧
  (∀ (lv : List mm_V) (st : List mm_V) a b, mm_E d 197 111 lv [] (.inl b :: .inl a :: st) n I L P = mm_E d 197 112 lv [] (.inl (mm_add a b) :: st) n I L P) ∧
  (∀ (lv : List mm_V) (st : List mm_V), mm_E d 197 112 lv [] st n I L P = mm_E d 197 113 lv [] (.inl 1 :: st) n I L P) ∧
  (∀ (lv : List mm_V) (st : List mm_V) a i z, (mm_ix n a 20 i) → mm_E d 197 113 lv [] (.inl z :: .inl i :: .inr (.inr (some a)) :: st) n I L P = mm_E d 197 114 lv [] st n (mm_ui I a i.toNat z) L P) ∧
  (∀ (st : List mm_V) z (l0 : mm_V) (l1 : mm_V), mm_E d 197 114 [l0, l1, (.inl z)] [] st n I L P = mm_E d 197 117 [l0, l1, (.inl (mm_add z 1))] [] st n I L P) ∧
  (∀ (lv : List mm_V) (st : List mm_V), mm_E d 197 117 lv [] st n I L P = mm_E d 197 67 lv [] st n I L P) ∧
  (∀ (lv : List mm_V), mm_E d 197 120 lv [] [] n I L P = some (none, n, I, L, P)) :=
  ⟨fun _ _ => mq_push rfl,
   fun _ _ _ _ _ => mq_is (i := 1) rfl rfl rfl,
   fun _ _ => mq_push rfl,
   fun _ _ _ _ _ => mq_is (i := 2) rfl rfl rfl,
   fun _ _ _ _ => mq_al (i := 0) rfl rfl,
   fun _ _ _ h0 => mq_getI rfl h0,
   fun _ _ _ _ => mq_ic_ge rfl,
   fun _ _ _ _ => mq_il (i := 1) rfl rfl,
   fun _ _ _ _ => mq_al (i := 0) rfl rfl,
   fun _ _ _ h0 => mq_getR rfl h0,
   fun _ _ => mq_push rfl,
   fun _ _ _ _ => mq_il (i := 2) rfl rfl,
   fun _ _ _ _ => mq_bi rfl,
   fun _ _ _ _ h0 => mq_iald rfl h0,
   fun _ _ _ => mq_if_ne rfl,
   fun _ _ _ _ => mq_al (i := 0) rfl rfl,
   fun _ _ _ h0 => mq_getR rfl h0,
   fun _ _ => mq_push rfl,
   fun _ _ _ _ => mq_il (i := 2) rfl rfl,
   fun _ _ _ _ => mq_bi rfl,
   fun _ _ _ _ h0 => mq_iald rfl h0,
   fun _ _ => mq_push rfl,
   fun _ _ _ _ => mq_ic_lt rfl,
   fun _ _ _ _ => mq_al (i := 0) rfl rfl,
   fun _ _ _ h0 => mq_getR rfl h0,
   fun _ _ _ _ => mq_il (i := 2) rfl rfl,
   fun _ _ _ _ h0 => mq_iald rfl h0,
   fun _ _ => mq_go rfl,
   fun _ _ => mq_push rfl,
   fun _ _ _ _ => mq_bi rfl,
   fun _ _ _ _ _ => mq_is (i := 1) rfl rfl rfl,
   fun _ _ _ _ => mq_iinc (i := 2) rfl rfl rfl rfl,
   fun _ _ => mq_go rfl,
   fun _ _ _ _ => mq_il (i := 1) rfl rfl,
   fun _ _ _ _ => mq_al (i := 0) rfl rfl,
   fun _ _ _ h0 => mq_cVr (na := 0) rfl rfl (Nat.le_of_ble_eq_true rfl) (Nat.le_of_ble_eq_true rfl) h0,
   fun _ _ => mq_push rfl,
   fun _ _ _ _ => mq_bi rfl,
   fun _ _ _ _ => mq_bi rfl,
   fun _ _ _ _ _ => mq_is (i := 1) rfl rfl rfl,
   fun _ _ => mq_push rfl,
   fun _ _ _ _ _ => mq_is (i := 2) rfl rfl rfl,
   fun _ _ _ _ => mq_al (i := 0) rfl rfl,
   fun _ _ _ h0 => mq_getI rfl h0,
   fun _ _ _ _ => mq_ic_ge rfl,
   fun _ _ _ _ => mq_il (i := 1) rfl rfl,
   fun _ _ _ _ => mq_il (i := 2) rfl rfl,
   fun _ _ _ => mq_cSr (na := 2) rfl (Nat.le_of_ble_eq_true rfl) (Nat.le_of_ble_eq_true rfl),
   fun _ _ _ => mq_if_eq rfl,
   fun _ _ _ _ => mq_al (i := 0) rfl rfl,
   fun _ _ _ h0 => mq_getR rfl h0,
   fun _ _ => mq_push rfl,
   fun _ _ _ _ => mq_il (i := 2) rfl rfl,
   fun _ _ _ _ => mq_bi rfl,
   fun _ _ _ _ h0 => mq_iald rfl h0,
   fun _ _ _ => mq_if_le rfl,
   fun _ _ _ _ => mq_al (i := 0) rfl rfl,
   fun _ _ _ h0 => mq_getR rfl h0,
   fun _ _ => mq_push rfl,
   fun _ _ _ _ => mq_il (i := 2) rfl rfl,
   fun _ _ _ _ => mq_bi rfl,
   fun _ _ => mq_push rfl,
   fun _ _ _ _ _ h0 => mq_iast rfl h0,
   fun _ _ _ _ => mq_al (i := 0) rfl rfl,
   fun _ _ _ h0 => mq_getR rfl h0,
   fun _ _ => mq_push rfl,
   fun _ _ _ _ => mq_il (i := 2) rfl rfl,
   fun _ _ _ _ => mq_bi rfl,
   fun _ _ => mq_push rfl,
   fun _ _ _ _ _ h0 => mq_iast rfl h0,
   fun _ _ _ _ => mq_iinc (i := 2) rfl rfl rfl rfl,
   fun _ _ => mq_go rfl,
   fun _ => mq_rv rfl⟩
theorem hX12_spread_4 (d n : Nat) (I L : mm_I) (P : mm_P) : ∀ (st : List mm_V) z (l0 : mm_V) (l1 : mm_V), mm_E d 197 4 [l0, l1, (.inl z)] [] st n I L P = mm_E d 197 5 [l0, l1, (.inl z)] [] ((.inl z) :: st) n I L P := fun _ _ _ _ => mq_il (i := 2) rfl rfl
theorem hX12_spread_67 (d n : Nat) (I L : mm_I) (P : mm_P) : ∀ (st : List mm_V) z (l0 : mm_V) (l1 : mm_V), mm_E d 197 67 [l0, l1, (.inl z)] [] st n I L P = mm_E d 197 68 [l0, l1, (.inl z)] [] ((.inl z) :: st) n I L P := fun _ _ _ _ => mq_il (i := 2) rfl rfl
theorem eX12_spread (d n : Nat) (I L : mm_I) (P : mm_P) (x0 : Option Nat) : mm_rn (d + 1) 197 [.inr (.inr x0)] n I L P = mm_E d 197 0 [.inr (.inr x0), mm_junk, mm_junk] [] [] n I L P := rfl

set_option maxRecDepth 20000 in
set_option maxHeartbeats 8000000 in
theorem kX12_live (d n : Nat) (I L : mm_I) (P : mm_P) :
  (∀ (st : List mm_V) z (l1 : mm_V) (l2 : mm_V) (l3 : mm_V) (l4 : mm_V), mm_E d 198 0 [(.inr (.inr z)), l1, l2, l3, l4] [] st n I L P = mm_E d 198 1 [(.inr (.inr z)), l1, l2, l3, l4] [] ((.inr (.inr z)) :: st) n I L P) ∧
  (∀ (lv : List mm_V) a, (mm_ok n a 12) → mm_E d 198 1 lv [] (.inr (.inr (some a)) :: []) n I L P = mm_kr d 198 4 lv [] [] n (mm_rn d 194 [.inr (.inr (some a))] n I L P)) ∧
  (∀ (st : List mm_V) z (l0 : mm_V) (l1 : mm_V) (l2 : mm_V) (l3 : mm_V) (l4 : mm_V), mm_E d 198 4 [l0, l1, l2, l3, l4] [] ((.inl z) :: st) n I L P = mm_E d 198 5 [l0, (.inl z), l2, l3, l4] [] st n I L P) ∧
  (∀ (lv : List mm_V) (st : List mm_V), mm_E d 198 5 lv [] st n I L P = mm_E d 198 6 lv [] (.inl 0 :: st) n I L P) ∧
  (∀ (st : List mm_V) z (l0 : mm_V) (l1 : mm_V) (l2 : mm_V) (l3 : mm_V) (l4 : mm_V), mm_E d 198 6 [l0, l1, l2, l3, l4] [] ((.inl z) :: st) n I L P = mm_E d 198 7 [l0, l1, (.inl z), l3, l4] [] st n I L P) ∧
  (∀ (lv : List mm_V) (st : List mm_V), mm_E d 198 7 lv [] st n I L P = mm_E d 198 8 lv [] (.inl 0 :: st) n I L P) ∧
  (∀ (st : List mm_V) z (l0 : mm_V) (l1 : mm_V) (l2 : mm_V) (l3 : mm_V) (l4 : mm_V), mm_E d 198 8 [l0, l1, l2, l3, l4] [] ((.inl z) :: st) n I L P = mm_E d 198 9 [l0, l1, l2, (.inl z), l4] [] st n I L P) ∧
  (∀ (st : List mm_V) z (l1 : mm_V) (l2 : mm_V) (l3 : mm_V) (l4 : mm_V), mm_E d 198 10 [(.inr (.inr z)), l1, l2, l3, l4] [] st n I L P = mm_E d 198 11 [(.inr (.inr z)), l1, l2, l3, l4] [] ((.inr (.inr z)) :: st) n I L P) ∧
  (∀ (lv : List mm_V) (st : List mm_V) a, (mm_ok n a 12) → mm_E d 198 11 lv [] (.inr (.inr (some a)) :: st) n I L P = mm_E d 198 14 lv [] (.inl (I a 26) :: st) n I L P) ∧
  (∀ (lv : List mm_V) (st : List mm_V) a b, mm_E d 198 14 lv [] (.inl b :: .inl a :: st) n I L P = if b ≤ a then mm_E d 198 63 lv [] st n I L P else mm_E d 198 17 lv [] st n I L P) ∧
  (∀ (st : List mm_V) z (l1 : mm_V) (l2 : mm_V) (l3 : mm_V) (l4 : mm_V), mm_E d 198 17 [(.inr (.inr z)), l1, l2, l3, l4] [] st n I L P = mm_E d 198 18 [(.inr (.inr z)), l1, l2, l3, l4] [] ((.inr (.inr z)) :: st) n I L P) ∧
  (∀ (lv : List mm_V) (st : List mm_V) a, (mm_ok n a 12) → mm_E d 198 18 lv [] (.inr (.inr (some a)) :: st) n I L P = mm_E d 198 21 lv [] (.inr (.inr (P a 27)) :: st) n I L P) ∧
  (∀ (lv : List mm_V) (st : List mm_V), mm_E d 198 21 lv [] st n I L P = mm_E d 198 22 lv [] (.inl 0 :: st) n I L P) ∧
  (∀ (st : List mm_V) z (l0 : mm_V) (l1 : mm_V) (l2 : mm_V) (l4 : mm_V), mm_E d 198 22 [l0, l1, l2, (.inl z), l4] [] st n I L P = mm_E d 198 23 [l0, l1, l2, (.inl z), l4] [] ((.inl z) :: st) n I L P) ∧
  (∀ (lv : List mm_V) (st : List mm_V) a b, mm_E d 198 23 lv [] (.inl b :: .inl a :: st) n I L P = mm_E d 198 24 lv [] (.inl (mm_add a b) :: st) n I L P) ∧
  (∀ (lv : List mm_V) (st : List mm_V) a i, (mm_ix n a 20 i) → mm_E d 198 24 lv [] (.inl i :: .inr (.inr (some a)) :: st) n I L P = mm_E d 198 25 lv [] (.inl (I a i.toNat) :: st) n I L P) ∧
  (∀ (st : List mm_V) z (l1 : mm_V) (l2 : mm_V) (l3 : mm_V) (l4 : mm_V), mm_E d 198 25 [(.inr (.inr z)), l1, l2, l3, l4] [] st n I L P = mm_E d 198 26 [(.inr (.inr z)), l1, l2, l3, l4] [] ((.inr (.inr z)) :: st) n I L P) ∧
  (∀ (lv : List mm_V) (st : List mm_V) a, (mm_ok n a 12) → mm_E d 198 26 lv [] (.inr (.inr (some a)) :: st) n I L P = mm_E d 198 29 lv [] (.inr (.inr (P a 27)) :: st) n I L P) ∧
  (∀ (lv : List mm_V) (st : List mm_V), mm_E d 198 29 lv [] st n I L P = mm_E d 198 31 lv [] (.inl 16 :: st) n I L P) ∧
  (∀ (st : List mm_V) z (l0 : mm_V) (l1 : mm_V) (l2 : mm_V) (l4 : mm_V), mm_E d 198 31 [l0, l1, l2, (.inl z), l4] [] st n I L P = mm_E d 198 32 [l0, l1, l2, (.inl z), l4] [] ((.inl z) :: st) n I L P) ∧
  (∀ (lv : List mm_V) (st : List mm_V) a b, mm_E d 198 32 lv [] (.inl b :: .inl a :: st) n I L P = mm_E d 198 33 lv [] (.inl (mm_add a b) :: st) n I L P) ∧
  (∀ (lv : List mm_V) (st : List mm_V) a i, (mm_ix n a 20 i) → mm_E d 198 33 lv [] (.inl i :: .inr (.inr (some a)) :: st) n I L P = mm_E d 198 34 lv [] (.inl (I a i.toNat) :: st) n I L P) ∧
  (∀ (lv : List mm_V) x0 x1, mm_E d 198 34 lv [] (.inl x1 :: .inl x0 :: []) n I L P = mm_kr d 198 37 lv [] [] n (mm_rn d 267 [.inl x0, .inl x1] n I L P)) ∧
  (∀ (st : List mm_V) z (l0 : mm_V) (l1 : mm_V) (l2 : mm_V) (l3 : mm_V) (l4 : mm_V), mm_E d 198 37 [l0, l1, l2, l3, l4] [] ((.inl z) :: st) n I L P = mm_E d 198 39 [l0, l1, l2, l3, (.inl z)] [] st n I L P) ∧
  (∀ (st : List mm_V) z (l1 : mm_V) (l2 : mm_V) (l3 : mm_V) (l4 : mm_V), mm_E d 198 39 [(.inr (.inr z)), l1, l2, l3, l4] [] st n I L P = mm_E d 198 40 [(.inr (.inr z)), l1, l2, l3, l4] [] ((.inr (.inr z)) :: st) n I L P) ∧
  (∀ (lv : List mm_V) (st : List mm_V) a, (mm_ok n a 12) → mm_E d 198 40 lv [] (.inr (.inr (some a)) :: st) n I L P = mm_E d 198 43 lv [] (.inr (.inr (P a 27)) :: st) n I L P) ∧
  (∀ (lv : List mm_V) (st : List mm_V), mm_E d 198 43 lv [] st n I L P = mm_E d 198 44 lv [] (.inl 0 :: st) n I L P) ∧
  (∀ (st : List mm_V) z (l0 : mm_V) (l1 : mm_V) (l2 : mm_V) (l4 : mm_V), mm_E d 198 44 [l0, l1, l2, (.inl z), l4] [] st n I L P = mm_E d 198 45 [l0, l1, l2, (.inl z), l4] [] ((.inl z) :: st) n I L P) ∧
  (∀ (lv : List mm_V) (st : List mm_V) a b, mm_E d 198 45 lv [] (.inl b :: .inl a :: st) n I L P = mm_E d 198 46 lv [] (.inl (mm_add a b) :: st) n I L P) ∧
  (∀ (lv : List mm_V) (st : List mm_V) a b, mm_E d 198 46 lv [] ((.inl a) :: (.inr (.inr b)) :: st) n I L P = mm_E d 198 47 lv [] ((.inl a) :: (.inr (.inr b)) :: (.inl a) :: (.inr (.inr b)) :: st) n I L P) ∧
  (∀ (lv : List mm_V) (st : List mm_V) a i, (mm_ix n a 20 i) → mm_E d 198 47 lv [] (.inl i :: .inr (.inr (some a)) :: st) n I L P = mm_E d 198 48 lv [] (.inl (I a i.toNat) :: st) n I L P) ∧
  (∀ (st : List mm_V) z (l0 : mm_V) (l1 : mm_V) (l2 : mm_V) (l3 : mm_V), mm_E d 198 48 [l0, l1, l2, l3, (.inl z)] [] st n I L P = mm_E d 198 50 [l0, l1, l2, l3, (.inl z)] [] ((.inl z) :: st) n I L P) ∧
  (∀ (lv : List mm_V) (st : List mm_V) a b, mm_E d 198 50 lv [] (.inl b :: .inl a :: st) n I L P = mm_E d 198 51 lv [] (.inl (mm_sub a b) :: st) n I L P) ∧
  (∀ (lv : List mm_V) (st : List mm_V) a i z, (mm_ix n a 20 i) → mm_E d 198 51 lv [] (.inl z :: .inl i :: .inr (.inr (some a)) :: st) n I L P = mm_E d 198 52 lv [] st n (mm_ui I a i.toNat z) L P) ∧
  (∀ (st : List mm_V) z (l0 : mm_V) (l1 : mm_V) (l3 : mm_V) (l4 : mm_V), mm_E d 198 52 [l0, l1, (.inl z), l3, l4] [] st n I L P = mm_E d 198 53 [l0, l1, (.inl z), l3, l4] [] ((.inl z) :: st) n I L P) ∧
  (∀ (st : List mm_V) z (l0 : mm_V) (l1 : mm_V) (l2 : mm_V) (l3 : mm_V), mm_E d 198 53 [l0, l1, l2, l3, (.inl z)] [] st n I L P = mm_E d 198 55 [l0, l1, l2, l3, (.inl z)] [] ((.inl z) :: st) n I L P) ∧
  (∀ (lv : List mm_V) (st : List mm_V) a b, mm_E d 198 55 lv [] (.inl b :: .inl a :: st) n I L P = mm_E d 198 56 lv [] (.inl (mm_add a b) :: st) n I L P) ∧
  (∀ (st : List mm_V) z (l0 : mm_V) (l1 : mm_V) (l2 : mm_V) (l3 : mm_V) (l4 : mm_V), mm_E d 198 56 [l0, l1, l2, l3, l4] [] ((.inl z) :: st) n I L P = mm_E d 198 57 [l0, l1, (.inl z), l3, l4] [] st n I L P) ∧
  (∀ (st : List mm_V) z (l0 : mm_V) (l1 : mm_V) (l2 : mm_V) (l4 : mm_V), mm_E d 198 57 [l0, l1, l2, (.inl z), l4] [] st n I L P = mm_E d 198 60 [l0, l1, l2, (.inl (mm_add z 1)), l4] [] st n I L P) ∧
  (∀ (lv : List mm_V) (st : List mm_V), mm_E d 198 60 lv [] st n I L P = mm_E d 198 9 lv [] st n I L P) ∧
  (∀ (lv : List mm_V) (st : List mm_V), mm_E d 198 63 lv [] st n I L P = mm_E d 198 64 lv [] (.inl 0 :: st) n I L P) ∧
  (∀ (st : List mm_V) z (l0 : mm_V) (l1 : mm_V) (l2 : mm_V) (l3 : mm_V) (l4 : mm_V), mm_E d 198 64 [l0, l1, l2, l3, l4] [] ((.inl z) :: st) n I L P = mm_E d 198 65 [l0, l1, l2, (.inl z), l4] [] st n I L P) ∧
  (∀ (st : List mm_V) z (l1 : mm_V) (l2 : mm_V) (l3 : mm_V) (l4 : mm_V), mm_E d 198 66 [(.inr (.inr z)), l1, l2, l3, l4] [] st n I L P = mm_E d 198 67 [(.inr (.inr z)), l1, l2, l3, l4] [] ((.inr (.inr z)) :: st) n I L P) ∧
  (∀ (lv : List mm_V) (st : List mm_V) a, (mm_ok n a 12) → mm_E d 198 67 lv [] (.inr (.inr (some a)) :: st) n I L P = mm_E d 198 70 lv [] (.inl (I a 26) :: st) n I L P) ∧
  (∀ (lv : List mm_V) (st : List mm_V) a b, mm_E d 198 70 lv [] (.inl b :: .inl a :: st) n I L P = if b ≤ a then mm_E d 198 103 lv [] st n I L P else mm_E d 198 73 lv [] st n I L P) ∧
  (∀ (st : List mm_V) z (l1 : mm_V) (l2 : mm_V) (l3 : mm_V) (l4 : mm_V), mm_E d 198 73 [(.inr (.inr z)), l1, l2, l3, l4] [] st n I L P = mm_E d 198 74 [(.inr (.inr z)), l1, l2, l3, l4] [] ((.inr (.inr z)) :: st) n I L P) ∧
  (∀ (lv : List mm_V) (st : List mm_V) a, (mm_ok n a 12) → mm_E d 198 74 lv [] (.inr (.inr (some a)) :: st) n I L P = mm_E d 198 77 lv [] (.inr (.inr (P a 31)) :: st) n I L P) ∧
  (∀ (st : List mm_V) z (l0 : mm_V) (l1 : mm_V) (l2 : mm_V) (l4 : mm_V), mm_E d 198 77 [l0, l1, l2, (.inl z), l4] [] st n I L P = mm_E d 198 78 [l0, l1, l2, (.inl z), l4] [] ((.inl z) :: st) n I L P) ∧
  (∀ (st : List mm_V) z (l0 : mm_V) (l2 : mm_V) (l3 : mm_V) (l4 : mm_V), mm_E d 198 78 [l0, (.inl z), l2, l3, l4] [] st n I L P = mm_E d 198 79 [l0, (.inl z), l2, l3, l4] [] ((.inl z) :: st) n I L P) ∧
  (∀ (st : List mm_V) z (l0 : mm_V) (l1 : mm_V) (l2 : mm_V) (l4 : mm_V), mm_E d 198 79 [l0, l1, l2, (.inl z), l4] [] st n I L P = mm_E d 198 80 [l0, l1, l2, (.inl z), l4] [] ((.inl z) :: st) n I L P) ∧
  (∀ (lv : List mm_V) x0 x1 w0 w1, mm_E d 198 80 lv [] (.inl x1 :: .inl x0 :: [.inl w0, .inr (.inr w1)]) n I L P = mm_kr d 198 83 lv [] [.inl w0, .inr (.inr w1)] n (mm_rn d 146 [.inl x0, .inl x1] n I L P)) ∧
  (∀ (lv : List mm_V) (st : List mm_V) a, mm_E d 198 83 lv [] (.inl a :: st) n I L P = if a = 0 then mm_E d 198 95 lv [] st n I L P else mm_E d 198 86 lv [] st n I L P) ∧
  (∀ (st : List mm_V) z (l1 : mm_V) (l2 : mm_V) (l3 : mm_V) (l4 : mm_V), mm_E d 198 86 [(.inr (.inr z)), l1, l2, l3, l4] [] st n I L P = mm_E d 198 87 [(.inr (.inr z)), l1, l2, l3, l4] [] ((.inr (.inr z)) :: st) n I L P) ∧
  (∀ (st : List mm_V) z (l0 : mm_V) (l1 : mm_V) (l2 : mm_V) (l4 : mm_V), mm_E d 198 87 [l0, l1, l2, (.inl z), l4] [] st n I L P = mm_E d 198 88 [l0, l1, l2, (.inl z), l4] [] ((.inl z) :: st) n I L P) ∧
  (∀ (st : List mm_V) z (l0 : mm_V) (l2 : mm_V) (l3 : mm_V) (l4 : mm_V), mm_E d 198 88 [l0, (.inl z), l2, l3, l4] [] st n I L P = mm_E d 198 89 [l0, (.inl z), l2, l3, l4] [] ((.inl z) :: st) n I L P) ∧
  (∀ (lv : List mm_V) a x0 x1 w0 w1, (mm_ok n a 12) → mm_E d 198 89 lv [] (.inl x1 :: .inl x0 :: .inr (.inr (some a)) :: [.inl w0, .inr (.inr w1)]) n I L P = mm_kr d 198 92 lv [] [.inl w0, .inr (.inr w1)] n (mm_rn d 196 [.inr (.inr (some a)), .inl x0, .inl x1] n I L P)) ∧
  (∀ (lv : List mm_V) (st : List mm_V), mm_E d 198 92 lv [] st n I L P = mm_E d 198 96 lv [] st n I L P) ∧
  (∀ (lv : List mm_V) (st : List mm_V), mm_E d 198 95 lv [] st n I L P = mm_E d 198 96 lv [] (.inl 0 :: st) n I L P) ∧
  (∀ (lv : List mm_V) (st : List mm_V) a i z, (mm_ix n a 20 i) → mm_E d 198 96 lv [] (.inl z :: .inl i :: .inr (.inr (some a)) :: st) n I L P = mm_E d 198 97 lv [] st n (mm_ui I a i.toNat z) L P) ∧
  (∀ (st : List mm_V) z (l0 : mm_V) (l1 : mm_V) (l2 : mm_V) (l4 : mm_V), mm_E d 198 97 [l0, l1, l2, (.inl z), l4] [] st n I L P = mm_E d 198 100 [l0, l1, l2, (.inl (mm_add z 1)), l4] [] st n I L P) ∧
  (∀ (lv : List mm_V) (st : List mm_V), mm_E d 198 100 lv [] st n I L P = mm_E d 198 65 lv [] st n I L P) ∧
  (∀ (lv : List mm_V) (st : List mm_V), mm_E d 198 103 lv [] st n I L P = mm_E d 198 104 lv [] (.inl 0 :: st) n I L P) ∧
  (∀ (st : List mm_V) z (l0 : mm_V) (l1 : mm_V) (l2 : mm_V) (l3 : mm_V) (l4 : mm_V), mm_E d 198 104 [l0, l1, l2, l3, l4] [] ((.inl z) :: st) n I L P = mm_E d 198 105 [l0, l1, l2, (.inl z), l4] [] st n I L P) ∧
  (∀ (st : List mm_V) z (l1 : mm_V) (l2 : mm_V) (l3 : mm_V) (l4 : mm_V), mm_E d 198 106 [(.inr (.inr z)), l1, l2, l3, l4] [] st n I L P = mm_E d 198 107 [(.inr (.inr z)), l1, l2, l3, l4] [] ((.inr (.inr z)) :: st) n I L P) ∧
  (∀ (lv : List mm_V) (st : List mm_V) a, (mm_ok n a 12) → mm_E d 198 107 lv [] (.inr (.inr (some a)) :: st) n I L P = mm_E d 198 110 lv [] (.inl (I a 26) :: st) n I L P) ∧
  (∀ (lv : List mm_V) (st : List mm_V) a b, mm_E d 198 110 lv [] (.inl b :: .inl a :: st) n I L P = if b ≤ a then mm_E d 198 165 lv [] st n I L P else mm_E d 198 113 lv [] st n I L P) ∧
  (∀ (st : List mm_V) z (l1 : mm_V) (l2 : mm_V) (l3 : mm_V) (l4 : mm_V), mm_E d 198 113 [(.inr (.inr z)), l1, l2, l3, l4] [] st n I L P = mm_E d 198 114 [(.inr (.inr z)), l1, l2, l3, l4] [] ((.inr (.inr z)) :: st) n I L P) ∧
  (∀ (lv : List mm_V) (st : List mm_V) a, (mm_ok n a 12) → mm_E d 198 114 lv [] (.inr (.inr (some a)) :: st) n I L P = mm_E d 198 117 lv [] (.inr (.inr (P a 27)) :: st) n I L P) ∧
  (∀ (lv : List mm_V) (st : List mm_V), mm_E d 198 117 lv [] st n I L P = mm_E d 198 119 lv [] (.inl 16 :: st) n I L P) ∧
  (∀ (st : List mm_V) z (l0 : mm_V) (l1 : mm_V) (l2 : mm_V) (l4 : mm_V), mm_E d 198 119 [l0, l1, l2, (.inl z), l4] [] st n I L P = mm_E d 198 120 [l0, l1, l2, (.inl z), l4] [] ((.inl z) :: st) n I L P) ∧
  (∀ (lv : List mm_V) (st : List mm_V) a b, mm_E d 198 120 lv [] (.inl b :: .inl a :: st) n I L P = mm_E d 198 121 lv [] (.inl (mm_add a b) :: st) n I L P) ∧
  (∀ (st : List mm_V) z (l0 : mm_V) (l2 : mm_V) (l3 : mm_V) (l4 : mm_V), mm_E d 198 121 [l0, (.inl z), l2, l3, l4] [] st n I L P = mm_E d 198 122 [l0, (.inl z), l2, l3, l4] [] ((.inl z) :: st) n I L P) ∧
  (∀ (st : List mm_V) z (l0 : mm_V) (l1 : mm_V) (l2 : mm_V) (l4 : mm_V), mm_E d 198 122 [l0, l1, l2, (.inl z), l4] [] st n I L P = mm_E d 198 123 [l0, l1, l2, (.inl z), l4] [] ((.inl z) :: st) n I L P) ∧
  (∀ (lv : List mm_V) x0 x1 w0 w1, mm_E d 198 123 lv [] (.inl x1 :: .inl x0 :: [.inl w0, .inr (.inr w1)]) n I L P = mm_kr d 198 126 lv [] [.inl w0, .inr (.inr w1)] n (mm_rn d 146 [.inl x0, .inl x1] n I L P)) ∧
  (∀ (lv : List mm_V) (st : List mm_V) a, mm_E d 198 126 lv [] (.inl a :: st) n I L P = if a = 0 then mm_E d 198 157 lv [] st n I L P else mm_E d 198 129 lv [] st n I L P) ∧
  (∀ (lv : List mm_V) (st : List mm_V), mm_E d 198 129 lv [] st n I L P = mm_E d 198 130 lv [] (.inl 0 :: st) n I L P) ∧
  (∀ (lv : List mm_V) (st : List mm_V), mm_E d 198 130 lv [] st n I L P = mm_E d 198 132 lv [] (.inl 9 :: st) n I L P) ∧
  (∀ (st : List mm_V) z (l1 : mm_V) (l2 : mm_V) (l3 : mm_V) (l4 : mm_V), mm_E d 198 132 [(.inr (.inr z)), l1, l2, l3, l4] [] st n I L P = mm_E d 198 133 [(.inr (.inr z)), l1, l2, l3, l4] [] ((.inr (.inr z)) :: st) n I L P) ∧
  (∀ (lv : List mm_V) (st : List mm_V) a, (mm_ok n a 12) → mm_E d 198 133 lv [] (.inr (.inr (some a)) :: st) n I L P = mm_E d 198 136 lv [] (.inr (.inr (P a 27)) :: st) n I L P) ∧
  (∀ (lv : List mm_V) (st : List mm_V), mm_E d 198 136 lv [] st n I L P = mm_E d 198 138 lv [] (.inl 16 :: st) n I L P) ∧
  (∀ (st : List mm_V) z (l0 : mm_V) (l1 : mm_V) (l2 : mm_V) (l4 : mm_V), mm_E d 198 138 [l0, l1, l2, (.inl z), l4] [] st n I L P = mm_E d 198 139 [l0, l1, l2, (.inl z), l4] [] ((.inl z) :: st) n I L P) ∧
  (∀ (lv : List mm_V) (st : List mm_V) a b, mm_E d 198 139 lv [] (.inl b :: .inl a :: st) n I L P = mm_E d 198 140 lv [] (.inl (mm_add a b) :: st) n I L P) ∧
  (∀ (lv : List mm_V) (st : List mm_V) a i, (mm_ix n a 20 i) → mm_E d 198 140 lv [] (.inl i :: .inr (.inr (some a)) :: st) n I L P = mm_E d 198 141 lv [] (.inl (I a i.toNat) :: st) n I L P) ∧
  (∀ (st : List mm_V) z (l1 : mm_V) (l2 : mm_V) (l3 : mm_V) (l4 : mm_V), mm_E d 198 141 [(.inr (.inr z)), l1, l2, l3, l4] [] st n I L P = mm_E d 198 142 [(.inr (.inr z)), l1, l2, l3, l4] [] ((.inr (.inr z)) :: st) n I L P) ∧
  (∀ (lv : List mm_V) (st : List mm_V) a, (mm_ok n a 12) → mm_E d 198 142 lv [] (.inr (.inr (some a)) :: st) n I L P = mm_E d 198 145 lv [] (.inr (.inr (P a 31)) :: st) n I L P) ∧
  (∀ (st : List mm_V) z (l0 : mm_V) (l1 : mm_V) (l2 : mm_V) (l4 : mm_V), mm_E d 198 145 [l0, l1, l2, (.inl z), l4] [] st n I L P = mm_E d 198 146 [l0, l1, l2, (.inl z), l4] [] ((.inl z) :: st) n I L P) ∧
  (∀ (lv : List mm_V) (st : List mm_V) a i, (mm_ix n a 20 i) → mm_E d 198 146 lv [] (.inl i :: .inr (.inr (some a)) :: st) n I L P = mm_E d 198 147 lv [] (.inl (I a i.toNat) :: st) n I L P) ∧
  (∀ (lv : List mm_V) (st : List mm_V) a b, mm_E d 198 147 lv [] (.inl b :: .inl a :: st) n I L P = mm_E d 198 148 lv [] (.inl (mm_add a b) :: st) n I L P) ∧
  (∀ (lv : List mm_V) x0 x1 w0 w1 w2, mm_E d 198 148 lv [] (.inl x1 :: .inl x0 :: [.inl w0, .inl w1, .inr (.inr w2)]) n I L P = mm_kr d 198 151 lv [] [.inl w0, .inl w1, .inr (.inr w2)] n (mm_rn d 267 [.inl x0, .inl x1] n I L P)) ∧
  (∀ (lv : List mm_V) x0 x1 w0 w1, mm_E d 198 151 lv [] (.inl x1 :: .inl x0 :: [.inl w0, .inr (.inr w1)]) n I L P = mm_kr d 198 154 lv [] [.inl w0, .inr (.inr w1)] n (mm_rn d 265 [.inl x0, .inl x1] n I L P)) ∧
  (∀ (lv : List mm_V) (st : List mm_V), mm_E d 198 154 lv [] st n I L P = mm_E d 198 158 lv [] st n I L P) ∧
  (∀ (lv : List mm_V) (st : List mm_V), mm_E d 198 157 lv [] st n I L P = mm_E d 198 158 lv [] (.inl 0 :: st) n I L P) ∧
  (∀ (lv : List mm_V) (st : List mm_V) a i z, (mm_ix n a 20 i) → mm_E d 198 158 lv [] (.inl z :: .inl i :: .inr (.inr (some a)) :: st) n I L P = mm_E d 198 159 lv [] st n (mm_ui I a i.toNat z) L P) ∧
  (∀ (st : List mm_V) z (l0 : mm_V) (l1 : mm_V) (l2 : mm_V) (l4 : mm_V), mm_E d 198 159 [l0, l1, l2, (.inl z), l4] [] st n I L P = mm_E d 198 162 [l0, l1, l2, (.inl (mm_add z 1)), l4] [] st n I L P) ∧
  (∀ (lv : List mm_V) (st : List mm_V), mm_E d 198 162 lv [] st n I L P = mm_E d 198 105 lv [] st n I L P) ∧
  (∀ (st : List mm_V) z (l1 : mm_V) (l2 : mm_V) (l3 : mm_V) (l4 : mm_V), mm_E d 198 165 [(.inr (.inr z)), l1, l2, l3, l4] [] st n I L P = mm_E d 198 166 [(.inr (.inr z)), l1, l2, l3, l4] [] ((.inr (.inr z)) :: st) n I L P) ∧
  (∀ (lv : List mm_V) a, (mm_ok n a 12) → mm_E d 198 166 lv [] (.inr (.inr (some a)) :: []) n I L P = mm_kv d 198 169 lv [] [] n (mm_rn d 197 [.inr (.inr (some a))] n I L P)) ∧
  (∀ (st : List mm_V) z (l1 : mm_V) (l2 : mm_V) (l3 : mm_V) (l4 : mm_V), mm_E d 198 169 [(.inr (.inr z)), l1, l2, l3, l4] [] st n I L P = mm_E d 198 170 [(.inr (.inr z)), l1, l2, l3, l4] [] ((.inr (.inr z)) :: st) n I L P) ∧
  (∀ (lv : List mm_V) (st : List mm_V) a, (mm_ok n a 12) → mm_E d 198 170 lv [] (.inr (.inr (some a)) :: st) n I L P = mm_E d 198 173 lv [] (.inr (.inr (P a 27)) :: st) n I L P) ∧
  (∀ (lv : List mm_V) (st : List mm_V), mm_E d 198 173 lv [] st n I L P = mm_E d 198 175 lv [] (.inl 28 :: st) n I L P) ∧
  (∀ (lv : List mm_V) (st : List mm_V), mm_E d 198 175 lv [] st n I L P = mm_E d 198 178 lv [] (.inl 9999 :: st) n I L P) ∧
  (∀ (st : List mm_V) z (l1 : mm_V) (l2 : mm_V) (l3 : mm_V) (l4 : mm_V), mm_E d 198 178 [(.inr (.inr z)), l1, l2, l3, l4] [] st n I L P = mm_E d 198 179 [(.inr (.inr z)), l1, l2, l3, l4] [] ((.inr (.inr z)) :: st) n I L P) ∧
  (∀ (lv : List mm_V) (st : List mm_V) a, (mm_ok n a 12) → mm_E d 198 179 lv [] (.inr (.inr (some a)) :: st) n I L P = mm_E d 198 182 lv [] (.inr (.inr (P a 27)) :: st) n I L P) ∧
  (∀ (lv : List mm_V) (st : List mm_V), mm_E d 198 182 lv [] st n I L P = mm_E d 198 184 lv [] (.inl 28 :: st) n I L P) ∧
  (∀ (lv : List mm_V) (st : List mm_V) a i, (mm_ix n a 20 i) → mm_E d 198 184 lv [] (.inl i :: .inr (.inr (some a)) :: st) n I L P = mm_E d 198 185 lv [] (.inl (I a i.toNat) :: st) n I L P) ∧
  (∀ (st : List mm_V) z (l0 : mm_V) (l1 : mm_V) (l3 : mm_V) (l4 : mm_V), mm_E d 198 185 [l0, l1, (.inl z), l3, l4] [] st n I L P = mm_E d 198 186 [l0, l1, (.inl z), l3, l4] [] ((.inl z) :: st) n I L P) ∧
  (∀ (lv : List mm_V) (st : List mm_V) a b, mm_E d 198 186 lv [] (.inl b :: .inl a :: st) n I L P = mm_E d 198 187 lv [] (.inl (mm_add a b) :: st) n I L P) ∧
  (∀ (lv : List mm_V) x0 x1 w0 w1, mm_E d 198 187 lv [] (.inl x1 :: .inl x0 :: [.inl w0, .inr (.inr w1)]) n I L P = mm_kr d 198 190 lv [] [.inl w0, .inr (.inr w1)] n (mm_rn d 267 [.inl x0, .inl x1] n I L P)) ∧
  (∀ (lv : List mm_V) (st : List mm_V) a i z, (mm_ix n a 20 i) → mm_E d 198 190 lv [] (.inl z :: .inl i :: .inr (.inr (some a)) :: st) n I L P = mm_E d 198 191 lv [] st n (mm_ui I a i.toNat z) L P) ∧
  (∀ (st : List mm_V) z (l1 : mm_V) (l2 : mm_V) (l3 : mm_V) (l4 : mm_V), mm_E d 198 191 [(.inr (.inr z)), l1, l2, l3, l4] [] st n I L P = mm_E d 198 192 [(.inr (.inr z)), l1, l2, l3, l4] [] ((.inr (.inr z)) :: st) n I L P) ∧
  (∀ (lv : List mm_V) (st : List mm_V) a, (mm_ok n a 12) → mm_E d 198 192 lv [] (.inr (.inr (some a)) :: st) n I L P = mm_E d 198 195 lv [] (.inr (.inr (P a 27)) :: st) n I L P) ∧
  (∀ (lv : List mm_V) (st : List mm_V), mm_E d 198 195 lv [] st n I L P = mm_E d 198 197 lv [] (.inl 25 :: st) n I L P) ∧
  (∀ (st : List mm_V) z (l1 : mm_V) (l2 : mm_V) (l3 : mm_V) (l4 : mm_V), mm_E d 198 197 [(.inr (.inr z)), l1, l2, l3, l4] [] st n I L P = mm_E d 198 198 [(.inr (.inr z)), l1, l2, l3, l4] [] ((.inr (.inr z)) :: st) n I L P) ∧
  (∀ (lv : List mm_V) (st : List mm_V) a, (mm_ok n a 12) → mm_E d 198 198 lv [] (.inr (.inr (some a)) :: st) n I L P = mm_E d 198 201 lv [] (.inr (.inr (P a 22)) :: st) n I L P) ∧
  (∀ (lv : List mm_V) (st : List mm_V), mm_E d 198 201 lv [] st n I L P = mm_E d 198 202 lv [] (.inl 0 :: st) n I L P) ∧
  (∀ (lv : List mm_V) (st : List mm_V) a i, (mm_ix n a 20 i) → mm_E d 198 202 lv [] (.inl i :: .inr (.inr (some a)) :: st) n I L P = mm_E d 198 203 lv [] (.inl (I a i.toNat) :: st) n I L P) ∧
  (∀ (lv : List mm_V) (st : List mm_V) a i z, (mm_ix n a 20 i) → mm_E d 198 203 lv [] (.inl z :: .inl i :: .inr (.inr (some a)) :: st) n I L P = mm_E d 198 204 lv [] st n (mm_ui I a i.toNat z) L P) ∧
  (∀ (st : List mm_V) z (l1 : mm_V) (l2 : mm_V) (l3 : mm_V) (l4 : mm_V), mm_E d 198 204 [(.inr (.inr z)), l1, l2, l3, l4] [] st n I L P = mm_E d 198 205 [(.inr (.inr z)), l1, l2, l3, l4] [] ((.inr (.inr z)) :: st) n I L P) ∧
  (∀ (lv : List mm_V) (st : List mm_V) a, (mm_ok n a 12) → mm_E d 198 205 lv [] (.inr (.inr (some a)) :: st) n I L P = mm_E d 198 208 lv [] (.inr (.inr (P a 27)) :: st) n I L P) ∧
  (∀ (lv : List mm_V) (st : List mm_V), mm_E d 198 208 lv [] st n I L P = mm_E d 198 210 lv [] (.inl 29 :: st) n I L P) ∧
  (∀ (lv : List mm_V) (st : List mm_V) a b, mm_E d 198 210 lv [] ((.inl a) :: (.inr (.inr b)) :: st) n I L P = mm_E d 198 211 lv [] ((.inl a) :: (.inr (.inr b)) :: (.inl a) :: (.inr (.inr b)) :: st) n I L P) ∧
  (∀ (lv : List mm_V) (st : List mm_V) a i, (mm_ix n a 20 i) → mm_E d 198 211 lv [] (.inl i :: .inr (.inr (some a)) :: st) n I L P = mm_E d 198 212 lv [] (.inl (I a i.toNat) :: st) n I L P) ∧
  (∀ (lv : List mm_V) (st : List mm_V), mm_E d 198 212 lv [] st n I L P = mm_E d 198 213 lv [] (.inl 1 :: st) n I L P) ∧
  (∀ (lv : List mm_V) (st : List mm_V) a b, mm_E d 198 213 lv [] (.inl b :: .inl a :: st) n I L P = mm_E d 198 214 lv [] (.inl (mm_add a b) :: st) n I L P) ∧
  (∀ (lv : List mm_V) (st : List mm_V) a i z, (mm_ix n a 20 i) → mm_E d 198 214 lv [] (.inl z :: .inl i :: .inr (.inr (some a)) :: st) n I L P = mm_E d 198 215 lv [] st n (mm_ui I a i.toNat z) L P) ∧
  (∀ (st : List mm_V) z (l0 : mm_V) (l1 : mm_V) (l3 : mm_V) (l4 : mm_V), mm_E d 198 215 [l0, l1, (.inl z), l3, l4] [] st n I L P = mm_E d 198 216 [l0, l1, (.inl z), l3, l4] [] ((.inl z) :: st) n I L P) ∧
  (∀ (lv : List mm_V) z, mm_E d 198 216 lv [] [.inl z] n I L P = some (some (.inl z), n, I, L, P)) :=
  ⟨fun _ _ _ _ _ _ => mq_al (i := 0) rfl rfl,
   fun _ _ h0 => mq_cVr (na := 0) rfl rfl (Nat.le_of_ble_eq_true rfl) (Nat.le_of_ble_eq_true rfl) h0,
   fun _ _ _ _ _ _ _ => mq_is (i := 1) rfl rfl rfl,
   fun _ _ => mq_push rfl,
   fun _ _ _ _ _ _ _ => mq_is (i := 2) rfl rfl rfl,
   fun _ _ => mq_push rfl,
   fun _ _ _ _ _ _ _ => mq_is (i := 3) rfl rfl rfl,
   fun _ _ _ _ _ _ => mq_al (i := 0) rfl rfl,
   fun _ _ _ h0 => mq_getI rfl h0,
   fun _ _ _ _ => mq_ic_ge rfl,
   fun _ _ _ _ _ _ => mq_al (i := 0) rfl rfl,
   fun _ _ _ h0 => mq_getR rfl h0,
   fun _ _ => mq_push rfl,
   fun _ _ _ _ _ _ => mq_il (i := 3) rfl rfl,
   fun _ _ _ _ => mq_bi rfl,
   fun _ _ _ _ h0 => mq_iald rfl h0,
   fun _ _ _ _ _ _ => mq_al (i := 0) rfl rfl,
   fun _ _ _ h0 => mq_getR rfl h0,
   fun _ _ => mq_push rfl,
   fun _ _ _ _ _ _ => mq_il (i := 3) rfl rfl,
   fun _ _ _ _ => mq_bi rfl,
   fun _ _ _ _ h0 => mq_iald rfl h0,
   fun _ _ _ => mq_cSr (na := 2) rfl (Nat.le_of_ble_eq_true rfl) (Nat.le_of_ble_eq_true rfl),
   fun _ _ _ _ _ _ _ => mq_is (i := 4) rfl rfl rfl,
   fun _ _ _ _ _ _ => mq_al (i := 0) rfl rfl,
   fun _ _ _ h0 => mq_getR rfl h0,
   fun _ _ => mq_push rfl,
   fun _ _ _ _ _ _ => mq_il (i := 3) rfl rfl,
   fun _ _ _ _ => mq_bi rfl,
   fun _ _ _ _ => mq_dup2 rfl rfl rfl,
   fun _ _ _ _ h0 => mq_iald rfl h0,
   fun _ _ _ _ _ _ => mq_il (i := 4) rfl rfl,
   fun _ _ _ _ => mq_bi rfl,
   fun _ _ _ _ _ h0 => mq_iast rfl h0,
   fun _ _ _ _ _ _ => mq_il (i := 2) rfl rfl,
   fun _ _ _ _ _ _ => mq_il (i := 4) rfl rfl,
   fun _ _ _ _ => mq_bi rfl,
   fun _ _ _ _ _ _ _ => mq_is (i := 2) rfl rfl rfl,
   fun _ _ _ _ _ _ => mq_iinc (i := 3) rfl rfl rfl rfl,
   fun _ _ => mq_go rfl,
   fun _ _ => mq_push rfl,
   fun _ _ _ _ _ _ _ => mq_is (i := 3) rfl rfl rfl,
   fun _ _ _ _ _ _ => mq_al (i := 0) rfl rfl,
   fun _ _ _ h0 => mq_getI rfl h0,
   fun _ _ _ _ => mq_ic_ge rfl,
   fun _ _ _ _ _ _ => mq_al (i := 0) rfl rfl,
   fun _ _ _ h0 => mq_getR rfl h0,
   fun _ _ _ _ _ _ => mq_il (i := 3) rfl rfl,
   fun _ _ _ _ _ _ => mq_il (i := 1) rfl rfl,
   fun _ _ _ _ _ _ => mq_il (i := 3) rfl rfl,
   fun _ _ _ _ _ => mq_cSr (na := 2) rfl (Nat.le_of_ble_eq_true rfl) (Nat.le_of_ble_eq_true rfl),
   fun _ _ _ => mq_if_eq rfl,
   fun _ _ _ _ _ _ => mq_al (i := 0) rfl rfl,
   fun _ _ _ _ _ _ => mq_il (i := 3) rfl rfl,
   fun _ _ _ _ _ _ => mq_il (i := 1) rfl rfl,
   fun _ _ _ _ _ _ h0 => mq_cVr (na := 2) rfl rfl (Nat.le_of_ble_eq_true rfl) (Nat.le_of_ble_eq_true rfl) h0,
   fun _ _ => mq_go rfl,
   fun _ _ => mq_push rfl,
   fun _ _ _ _ _ h0 => mq_iast rfl h0,
   fun _ _ _ _ _ _ => mq_iinc (i := 3) rfl rfl rfl rfl,
   fun _ _ => mq_go rfl,
   fun _ _ => mq_push rfl,
   fun _ _ _ _ _ _ _ => mq_is (i := 3) rfl rfl rfl,
   fun _ _ _ _ _ _ => mq_al (i := 0) rfl rfl,
   fun _ _ _ h0 => mq_getI rfl h0,
   fun _ _ _ _ => mq_ic_ge rfl,
   fun _ _ _ _ _ _ => mq_al (i := 0) rfl rfl,
   fun _ _ _ h0 => mq_getR rfl h0,
   fun _ _ => mq_push rfl,
   fun _ _ _ _ _ _ => mq_il (i := 3) rfl rfl,
   fun _ _ _ _ => mq_bi rfl,
   fun _ _ _ _ _ _ => mq_il (i := 1) rfl rfl,
   fun _ _ _ _ _ _ => mq_il (i := 3) rfl rfl,
   fun _ _ _ _ _ => mq_cSr (na := 2) rfl (Nat.le_of_ble_eq_true rfl) (Nat.le_of_ble_eq_true rfl),
   fun _ _ _ => mq_if_eq rfl,
   fun _ _ => mq_push rfl,
   fun _ _ => mq_push rfl,
   fun _ _ _ _ _ _ => mq_al (i := 0) rfl rfl,
   fun _ _ _ h0 => mq_getR rfl h0,
   fun _ _ => mq_push rfl,
   fun _ _ _ _ _ _ => mq_il (i := 3) rfl rfl,
   fun _ _ _ _ => mq_bi rfl,
   fun _ _ _ _ h0 => mq_iald rfl h0,
   fun _ _ _ _ _ _ => mq_al (i := 0) rfl rfl,
   fun _ _ _ h0 => mq_getR rfl h0,
   fun _ _ _ _ _ _ => mq_il (i := 3) rfl rfl,
   fun _ _ _ _ h0 => mq_iald rfl h0,
   fun _ _ _ _ => mq_bi rfl,
   fun _ _ _ _ _ _ => mq_cSr (na := 2) rfl (Nat.le_of_ble_eq_true rfl) (Nat.le_of_ble_eq_true rfl),
   fun _ _ _ _ _ => mq_cSr (na := 2) rfl (Nat.le_of_ble_eq_true rfl) (Nat.le_of_ble_eq_true rfl),
   fun _ _ => mq_go rfl,
   fun _ _ => mq_push rfl,
   fun _ _ _ _ _ h0 => mq_iast rfl h0,
   fun _ _ _ _ _ _ => mq_iinc (i := 3) rfl rfl rfl rfl,
   fun _ _ => mq_go rfl,
   fun _ _ _ _ _ _ => mq_al (i := 0) rfl rfl,
   fun _ _ h0 => mq_cVv (na := 0) rfl rfl (Nat.le_of_ble_eq_true rfl) (Nat.le_of_ble_eq_true rfl) h0,
   fun _ _ _ _ _ _ => mq_al (i := 0) rfl rfl,
   fun _ _ _ h0 => mq_getR rfl h0,
   fun _ _ => mq_push rfl,
   fun _ _ => mq_push rfl,
   fun _ _ _ _ _ _ => mq_al (i := 0) rfl rfl,
   fun _ _ _ h0 => mq_getR rfl h0,
   fun _ _ => mq_push rfl,
   fun _ _ _ _ h0 => mq_iald rfl h0,
   fun _ _ _ _ _ _ => mq_il (i := 2) rfl rfl,
   fun _ _ _ _ => mq_bi rfl,
   fun _ _ _ _ _ => mq_cSr (na := 2) rfl (Nat.le_of_ble_eq_true rfl) (Nat.le_of_ble_eq_true rfl),
   fun _ _ _ _ _ h0 => mq_iast rfl h0,
   fun _ _ _ _ _ _ => mq_al (i := 0) rfl rfl,
   fun _ _ _ h0 => mq_getR rfl h0,
   fun _ _ => mq_push rfl,
   fun _ _ _ _ _ _ => mq_al (i := 0) rfl rfl,
   fun _ _ _ h0 => mq_getR rfl h0,
   fun _ _ => mq_push rfl,
   fun _ _ _ _ h0 => mq_iald rfl h0,
   fun _ _ _ _ _ h0 => mq_iast rfl h0,
   fun _ _ _ _ _ _ => mq_al (i := 0) rfl rfl,
   fun _ _ _ h0 => mq_getR rfl h0,
   fun _ _ => mq_push rfl,
   fun _ _ _ _ => mq_dup2 rfl rfl rfl,
   fun _ _ _ _ h0 => mq_iald rfl h0,
   fun _ _ => mq_push rfl,
   fun _ _ _ _ => mq_bi rfl,
   fun _ _ _ _ _ h0 => mq_iast rfl h0,
   fun _ _ _ _ _ _ => mq_il (i := 2) rfl rfl,
   fun _ _ => mq_ri rfl⟩
theorem hX12_live_9 (d n : Nat) (I L : mm_I) (P : mm_P) : ∀ (st : List mm_V) z (l0 : mm_V) (l1 : mm_V) (l2 : mm_V) (l4 : mm_V), mm_E d 198 9 [l0, l1, l2, (.inl z), l4] [] st n I L P = mm_E d 198 10 [l0, l1, l2, (.inl z), l4] [] ((.inl z) :: st) n I L P := fun _ _ _ _ _ _ => mq_il (i := 3) rfl rfl
theorem hX12_live_65 (d n : Nat) (I L : mm_I) (P : mm_P) : ∀ (st : List mm_V) z (l0 : mm_V) (l1 : mm_V) (l2 : mm_V) (l4 : mm_V), mm_E d 198 65 [l0, l1, l2, (.inl z), l4] [] st n I L P = mm_E d 198 66 [l0, l1, l2, (.inl z), l4] [] ((.inl z) :: st) n I L P := fun _ _ _ _ _ _ => mq_il (i := 3) rfl rfl
theorem hX12_live_105 (d n : Nat) (I L : mm_I) (P : mm_P) : ∀ (st : List mm_V) z (l0 : mm_V) (l1 : mm_V) (l2 : mm_V) (l4 : mm_V), mm_E d 198 105 [l0, l1, l2, (.inl z), l4] [] st n I L P = mm_E d 198 106 [l0, l1, l2, (.inl z), l4] [] ((.inl z) :: st) n I L P := fun _ _ _ _ _ _ => mq_il (i := 3) rfl rfl
theorem eX12_live (d n : Nat) (I L : mm_I) (P : mm_P) (x0 : Option Nat) : mm_rn (d + 1) 198 [.inr (.inr x0)] n I L P = mm_E d 198 0 [.inr (.inr x0), mm_junk, mm_junk, mm_junk, mm_junk] [] [] n I L P := rfl

set_option maxRecDepth 20000 in
set_option maxHeartbeats 8000000 in
theorem kX12_passHour (d n : Nat) (I L : mm_I) (P : mm_P) :
  (∀ (st : List mm_V) z (l1 : mm_V) (l2 : mm_V), mm_E d 199 0 [(.inr (.inr z)), l1, l2] [] st n I L P = mm_E d 199 1 [(.inr (.inr z)), l1, l2] [] ((.inr (.inr z)) :: st) n I L P) ∧
  (∀ (lv : List mm_V) a, (mm_ok n a 12) → mm_E d 199 1 lv [] (.inr (.inr (some a)) :: []) n I L P = mm_kr d 199 4 lv [] [] n (mm_rn d 198 [.inr (.inr (some a))] n I L P)) ∧
  (∀ (st : List mm_V) z (l0 : mm_V) (l1 : mm_V) (l2 : mm_V), mm_E d 199 4 [l0, l1, l2] [] ((.inl z) :: st) n I L P = mm_E d 199 5 [l0, (.inl z), l2] [] st n I L P) ∧
  (∀ (st : List mm_V) z (l1 : mm_V) (l2 : mm_V), mm_E d 199 5 [(.inr (.inr z)), l1, l2] [] st n I L P = mm_E d 199 6 [(.inr (.inr z)), l1, l2] [] ((.inr (.inr z)) :: st) n I L P) ∧
  (∀ (lv : List mm_V) (st : List mm_V) a, (mm_ok n a 12) → mm_E d 199 6 lv [] (.inr (.inr (some a)) :: st) n I L P = mm_E d 199 9 lv [] (.inr (.inr (P a 27)) :: st) n I L P) ∧
  (∀ (lv : List mm_V) (st : List mm_V), mm_E d 199 9 lv [] st n I L P = mm_E d 199 11 lv [] (.inl 30 :: st) n I L P) ∧
  (∀ (lv : List mm_V) (st : List mm_V) a i, (mm_ix n a 20 i) → mm_E d 199 11 lv [] (.inl i :: .inr (.inr (some a)) :: st) n I L P = mm_E d 199 12 lv [] (.inl (I a i.toNat) :: st) n I L P) ∧
  (∀ (lv : List mm_V) (st : List mm_V), mm_E d 199 12 lv [] st n I L P = mm_E d 199 14 lv [] (.inl 60 :: st) n I L P) ∧
  (∀ (lv : List mm_V) (st : List mm_V) a b, mm_E d 199 14 lv [] (.inl b :: .inl a :: st) n I L P = if a = b then mm_E d 199 17 lv [] st n I L P else mm_E d 199 63 lv [] st n I L P) ∧
  (∀ (lv : List mm_V) (st : List mm_V), mm_E d 199 17 lv [] st n I L P = mm_E d 199 18 lv [] (.inl 3 :: st) n I L P) ∧
  (∀ (st : List mm_V) z (l0 : mm_V) (l1 : mm_V) (l2 : mm_V), mm_E d 199 18 [l0, l1, l2] [] ((.inl z) :: st) n I L P = mm_E d 199 19 [l0, l1, (.inl z)] [] st n I L P) ∧
  (∀ (lv : List mm_V) (st : List mm_V), mm_E d 199 20 lv [] st n I L P = mm_E d 199 23 lv [] (.inl 180 :: st) n I L P) ∧
  (∀ (lv : List mm_V) (st : List mm_V) a b, mm_E d 199 23 lv [] (.inl b :: .inl a :: st) n I L P = if b ≤ a then mm_E d 199 52 lv [] st n I L P else mm_E d 199 26 lv [] st n I L P) ∧
  (∀ (st : List mm_V) z (l1 : mm_V) (l2 : mm_V), mm_E d 199 26 [(.inr (.inr z)), l1, l2] [] st n I L P = mm_E d 199 27 [(.inr (.inr z)), l1, l2] [] ((.inr (.inr z)) :: st) n I L P) ∧
  (∀ (lv : List mm_V) (st : List mm_V) a, (mm_ok n a 12) → mm_E d 199 27 lv [] (.inr (.inr (some a)) :: st) n I L P = mm_E d 199 30 lv [] (.inr (.inr (P a 27)) :: st) n I L P) ∧
  (∀ (lv : List mm_V) (st : List mm_V), mm_E d 199 30 lv [] st n I L P = mm_E d 199 32 lv [] (.inl 31 :: st) n I L P) ∧
  (∀ (st : List mm_V) z (l0 : mm_V) (l1 : mm_V), mm_E d 199 32 [l0, l1, (.inl z)] [] st n I L P = mm_E d 199 33 [l0, l1, (.inl z)] [] ((.inl z) :: st) n I L P) ∧
  (∀ (lv : List mm_V) (st : List mm_V) a b, mm_E d 199 33 lv [] (.inl b :: .inl a :: st) n I L P = mm_E d 199 34 lv [] (.inl (mm_add a b) :: st) n I L P) ∧
  (∀ (lv : List mm_V) (st : List mm_V), mm_E d 199 34 lv [] st n I L P = mm_E d 199 35 lv [] (.inl 3 :: st) n I L P) ∧
  (∀ (lv : List mm_V) (st : List mm_V) a b, mm_E d 199 35 lv [] (.inl b :: .inl a :: st) n I L P = mm_E d 199 36 lv [] (.inl (mm_sub a b) :: st) n I L P) ∧
  (∀ (st : List mm_V) z (l1 : mm_V) (l2 : mm_V), mm_E d 199 36 [(.inr (.inr z)), l1, l2] [] st n I L P = mm_E d 199 37 [(.inr (.inr z)), l1, l2] [] ((.inr (.inr z)) :: st) n I L P) ∧
  (∀ (lv : List mm_V) (st : List mm_V) a, (mm_ok n a 12) → mm_E d 199 37 lv [] (.inr (.inr (some a)) :: st) n I L P = mm_E d 199 40 lv [] (.inr (.inr (P a 27)) :: st) n I L P) ∧
  (∀ (lv : List mm_V) (st : List mm_V), mm_E d 199 40 lv [] st n I L P = mm_E d 199 42 lv [] (.inl 31 :: st) n I L P) ∧
  (∀ (st : List mm_V) z (l0 : mm_V) (l1 : mm_V), mm_E d 199 42 [l0, l1, (.inl z)] [] st n I L P = mm_E d 199 43 [l0, l1, (.inl z)] [] ((.inl z) :: st) n I L P) ∧
  (∀ (lv : List mm_V) (st : List mm_V) a b, mm_E d 199 43 lv [] (.inl b :: .inl a :: st) n I L P = mm_E d 199 44 lv [] (.inl (mm_add a b) :: st) n I L P) ∧
  (∀ (lv : List mm_V) (st : List mm_V) a i, (mm_ix n a 20 i) → mm_E d 199 44 lv [] (.inl i :: .inr (.inr (some a)) :: st) n I L P = mm_E d 199 45 lv [] (.inl (I a i.toNat) :: st) n I L P) ∧
  (∀ (lv : List mm_V) (st : List mm_V) a i z, (mm_ix n a 20 i) → mm_E d 199 45 lv [] (.inl z :: .inl i :: .inr (.inr (some a)) :: st) n I L P = mm_E d 199 46 lv [] st n (mm_ui I a i.toNat z) L P) ∧
  (∀ (st : List mm_V) z (l0 : mm_V) (l1 : mm_V), mm_E d 199 46 [l0, l1, (.inl z)] [] st n I L P = mm_E d 199 49 [l0, l1, (.inl (mm_add z 1))] [] st n I L P) ∧
  (∀ (lv : List mm_V) (st : List mm_V), mm_E d 199 49 lv [] st n I L P = mm_E d 199 19 lv [] st n I L P) ∧
  (∀ (st : List mm_V) z (l1 : mm_V) (l2 : mm_V), mm_E d 199 52 [(.inr (.inr z)), l1, l2] [] st n I L P = mm_E d 199 53 [(.inr (.inr z)), l1, l2] [] ((.inr (.inr z)) :: st) n I L P) ∧
  (∀ (lv : List mm_V) (st : List mm_V) a, (mm_ok n a 12) → mm_E d 199 53 lv [] (.inr (.inr (some a)) :: st) n I L P = mm_E d 199 56 lv [] (.inr (.inr (P a 27)) :: st) n I L P) ∧
  (∀ (lv : List mm_V) (st : List mm_V), mm_E d 199 56 lv [] st n I L P = mm_E d 199 58 lv [] (.inl 30 :: st) n I L P) ∧
  (∀ (lv : List mm_V) (st : List mm_V) a b, mm_E d 199 58 lv [] ((.inl a) :: (.inr (.inr b)) :: st) n I L P = mm_E d 199 59 lv [] ((.inl a) :: (.inr (.inr b)) :: (.inl a) :: (.inr (.inr b)) :: st) n I L P) ∧
  (∀ (lv : List mm_V) (st : List mm_V) a i, (mm_ix n a 20 i) → mm_E d 199 59 lv [] (.inl i :: .inr (.inr (some a)) :: st) n I L P = mm_E d 199 60 lv [] (.inl (I a i.toNat) :: st) n I L P) ∧
  (∀ (lv : List mm_V) (st : List mm_V), mm_E d 199 60 lv [] st n I L P = mm_E d 199 61 lv [] (.inl 1 :: st) n I L P) ∧
  (∀ (lv : List mm_V) (st : List mm_V) a b, mm_E d 199 61 lv [] (.inl b :: .inl a :: st) n I L P = mm_E d 199 62 lv [] (.inl (mm_sub a b) :: st) n I L P) ∧
  (∀ (lv : List mm_V) (st : List mm_V) a i z, (mm_ix n a 20 i) → mm_E d 199 62 lv [] (.inl z :: .inl i :: .inr (.inr (some a)) :: st) n I L P = mm_E d 199 63 lv [] st n (mm_ui I a i.toNat z) L P) ∧
  (∀ (lv : List mm_V) (st : List mm_V), mm_E d 199 63 lv [] st n I L P = mm_E d 199 65 lv [] (.inl 31 :: st) n I L P) ∧
  (∀ (lv : List mm_V) (st : List mm_V), mm_E d 199 65 lv [] st n I L P = mm_E d 199 66 lv [] (.inl 3 :: st) n I L P) ∧
  (∀ (st : List mm_V) z (l1 : mm_V) (l2 : mm_V), mm_E d 199 66 [(.inr (.inr z)), l1, l2] [] st n I L P = mm_E d 199 67 [(.inr (.inr z)), l1, l2] [] ((.inr (.inr z)) :: st) n I L P) ∧
  (∀ (lv : List mm_V) (st : List mm_V) a, (mm_ok n a 12) → mm_E d 199 67 lv [] (.inr (.inr (some a)) :: st) n I L P = mm_E d 199 70 lv [] (.inr (.inr (P a 27)) :: st) n I L P) ∧
  (∀ (lv : List mm_V) (st : List mm_V), mm_E d 199 70 lv [] st n I L P = mm_E d 199 72 lv [] (.inl 30 :: st) n I L P) ∧
  (∀ (lv : List mm_V) (st : List mm_V) a i, (mm_ix n a 20 i) → mm_E d 199 72 lv [] (.inl i :: .inr (.inr (some a)) :: st) n I L P = mm_E d 199 73 lv [] (.inl (I a i.toNat) :: st) n I L P) ∧
  (∀ (lv : List mm_V) (st : List mm_V) a b, mm_E d 199 73 lv [] (.inl b :: .inl a :: st) n I L P = mm_E d 199 74 lv [] (.inl (mm_mul a b) :: st) n I L P) ∧
  (∀ (lv : List mm_V) (st : List mm_V) a b, mm_E d 199 74 lv [] (.inl b :: .inl a :: st) n I L P = mm_E d 199 75 lv [] (.inl (mm_add a b) :: st) n I L P) ∧
  (∀ (st : List mm_V) z (l0 : mm_V) (l1 : mm_V) (l2 : mm_V), mm_E d 199 75 [l0, l1, l2] [] ((.inl z) :: st) n I L P = mm_E d 199 76 [l0, l1, (.inl z)] [] st n I L P) ∧
  (∀ (st : List mm_V) z (l1 : mm_V) (l2 : mm_V), mm_E d 199 76 [(.inr (.inr z)), l1, l2] [] st n I L P = mm_E d 199 77 [(.inr (.inr z)), l1, l2] [] ((.inr (.inr z)) :: st) n I L P) ∧
  (∀ (lv : List mm_V) (st : List mm_V) a, (mm_ok n a 12) → mm_E d 199 77 lv [] (.inr (.inr (some a)) :: st) n I L P = mm_E d 199 80 lv [] (.inr (.inr (P a 27)) :: st) n I L P) ∧
  (∀ (st : List mm_V) z (l0 : mm_V) (l1 : mm_V), mm_E d 199 80 [l0, l1, (.inl z)] [] st n I L P = mm_E d 199 81 [l0, l1, (.inl z)] [] ((.inl z) :: st) n I L P) ∧
  (∀ (st : List mm_V) z (l0 : mm_V) (l2 : mm_V), mm_E d 199 81 [l0, (.inl z), l2] [] st n I L P = mm_E d 199 82 [l0, (.inl z), l2] [] ((.inl z) :: st) n I L P) ∧
  (∀ (lv : List mm_V) (st : List mm_V) a i z, (mm_ix n a 20 i) → mm_E d 199 82 lv [] (.inl z :: .inl i :: .inr (.inr (some a)) :: st) n I L P = mm_E d 199 83 lv [] st n (mm_ui I a i.toNat z) L P) ∧
  (∀ (st : List mm_V) z (l1 : mm_V) (l2 : mm_V), mm_E d 199 83 [(.inr (.inr z)), l1, l2] [] st n I L P = mm_E d 199 84 [(.inr (.inr z)), l1, l2] [] ((.inr (.inr z)) :: st) n I L P) ∧
  (∀ (lv : List mm_V) (st : List mm_V) a, (mm_ok n a 12) → mm_E d 199 84 lv [] (.inr (.inr (some a)) :: st) n I L P = mm_E d 199 87 lv [] (.inr (.inr (P a 27)) :: st) n I L P) ∧
  (∀ (st : List mm_V) z (l0 : mm_V) (l1 : mm_V), mm_E d 199 87 [l0, l1, (.inl z)] [] st n I L P = mm_E d 199 88 [l0, l1, (.inl z)] [] ((.inl z) :: st) n I L P) ∧
  (∀ (lv : List mm_V) (st : List mm_V), mm_E d 199 88 lv [] st n I L P = mm_E d 199 89 lv [] (.inl 1 :: st) n I L P) ∧
  (∀ (lv : List mm_V) (st : List mm_V) a b, mm_E d 199 89 lv [] (.inl b :: .inl a :: st) n I L P = mm_E d 199 90 lv [] (.inl (mm_add a b) :: st) n I L P) ∧
  (∀ (st : List mm_V) z (l1 : mm_V) (l2 : mm_V), mm_E d 199 90 [(.inr (.inr z)), l1, l2] [] st n I L P = mm_E d 199 91 [(.inr (.inr z)), l1, l2] [] ((.inr (.inr z)) :: st) n I L P) ∧
  (∀ (lv : List mm_V) a w0 w1, (mm_ok n a 12) → mm_E d 199 91 lv [] (.inr (.inr (some a)) :: [.inl w0, .inr (.inr w1)]) n I L P = mm_kr d 199 94 lv [] [.inl w0, .inr (.inr w1)] n (mm_rn d 194 [.inr (.inr (some a))] n I L P)) ∧
  (∀ (lv : List mm_V) (st : List mm_V) a i z, (mm_ix n a 20 i) → mm_E d 199 94 lv [] (.inl z :: .inl i :: .inr (.inr (some a)) :: st) n I L P = mm_E d 199 95 lv [] st n (mm_ui I a i.toNat z) L P) ∧
  (∀ (st : List mm_V) z (l1 : mm_V) (l2 : mm_V), mm_E d 199 95 [(.inr (.inr z)), l1, l2] [] st n I L P = mm_E d 199 96 [(.inr (.inr z)), l1, l2] [] ((.inr (.inr z)) :: st) n I L P) ∧
  (∀ (lv : List mm_V) (st : List mm_V) a, (mm_ok n a 12) → mm_E d 199 96 lv [] (.inr (.inr (some a)) :: st) n I L P = mm_E d 199 99 lv [] (.inr (.inr (P a 27)) :: st) n I L P) ∧
  (∀ (st : List mm_V) z (l0 : mm_V) (l1 : mm_V), mm_E d 199 99 [l0, l1, (.inl z)] [] st n I L P = mm_E d 199 100 [l0, l1, (.inl z)] [] ((.inl z) :: st) n I L P) ∧
  (∀ (lv : List mm_V) (st : List mm_V), mm_E d 199 100 lv [] st n I L P = mm_E d 199 101 lv [] (.inl 2 :: st) n I L P) ∧
  (∀ (lv : List mm_V) (st : List mm_V) a b, mm_E d 199 101 lv [] (.inl b :: .inl a :: st) n I L P = mm_E d 199 102 lv [] (.inl (mm_add a b) :: st) n I L P) ∧
  (∀ (st : List mm_V) z (l1 : mm_V) (l2 : mm_V), mm_E d 199 102 [(.inr (.inr z)), l1, l2] [] st n I L P = mm_E d 199 103 [(.inr (.inr z)), l1, l2] [] ((.inr (.inr z)) :: st) n I L P) ∧
  (∀ (lv : List mm_V) (st : List mm_V) a, (mm_ok n a 12) → mm_E d 199 103 lv [] (.inr (.inr (some a)) :: st) n I L P = mm_E d 199 106 lv [] (.inr (.inr (P a 27)) :: st) n I L P) ∧
  (∀ (lv : List mm_V) (st : List mm_V), mm_E d 199 106 lv [] st n I L P = mm_E d 199 108 lv [] (.inl 24 :: st) n I L P) ∧
  (∀ (lv : List mm_V) (st : List mm_V) a i, (mm_ix n a 20 i) → mm_E d 199 108 lv [] (.inl i :: .inr (.inr (some a)) :: st) n I L P = mm_E d 199 109 lv [] (.inl (I a i.toNat) :: st) n I L P) ∧
  (∀ (lv : List mm_V) (st : List mm_V) a i z, (mm_ix n a 20 i) → mm_E d 199 109 lv [] (.inl z :: .inl i :: .inr (.inr (some a)) :: st) n I L P = mm_E d 199 110 lv [] st n (mm_ui I a i.toNat z) L P) ∧
  (∀ (st : List mm_V) z (l1 : mm_V) (l2 : mm_V), mm_E d 199 110 [(.inr (.inr z)), l1, l2] [] st n I L P = mm_E d 199 111 [(.inr (.inr z)), l1, l2] [] ((.inr (.inr z)) :: st) n I L P) ∧
  (∀ (lv : List mm_V) (st : List mm_V) a, (mm_ok n a 12) → mm_E d 199 111 lv [] (.inr (.inr (some a)) :: st) n I L P = mm_E d 199 114 lv [] (.inr (.inr (P a 27)) :: st) n I L P) ∧
  (∀ (lv : List mm_V) (st : List mm_V), mm_E d 199 114 lv [] st n I L P = mm_E d 199 116 lv [] (.inl 30 :: st) n I L P) ∧
  (∀ (lv : List mm_V) (st : List mm_V) a b, mm_E d 199 116 lv [] ((.inl a) :: (.inr (.inr b)) :: st) n I L P = mm_E d 199 117 lv [] ((.inl a) :: (.inr (.inr b)) :: (.inl a) :: (.inr (.inr b)) :: st) n I L P) ∧
  (∀ (lv : List mm_V) (st : List mm_V) a i, (mm_ix n a 20 i) → mm_E d 199 117 lv [] (.inl i :: .inr (.inr (some a)) :: st) n I L P = mm_E d 199 118 lv [] (.inl (I a i.toNat) :: st) n I L P) ∧
  (∀ (lv : List mm_V) (st : List mm_V), mm_E d 199 118 lv [] st n I L P = mm_E d 199 119 lv [] (.inl 1 :: st) n I L P) ∧
  (∀ (lv : List mm_V) (st : List mm_V) a b, mm_E d 199 119 lv [] (.inl b :: .inl a :: st) n I L P = mm_E d 199 120 lv [] (.inl (mm_add a b) :: st) n I L P) ∧
  (∀ (lv : List mm_V) (st : List mm_V) a i z, (mm_ix n a 20 i) → mm_E d 199 120 lv [] (.inl z :: .inl i :: .inr (.inr (some a)) :: st) n I L P = mm_E d 199 121 lv [] st n (mm_ui I a i.toNat z) L P) ∧
  (∀ (lv : List mm_V), mm_E d 199 121 lv [] [] n I L P = some (none, n, I, L, P)) :=
  ⟨fun _ _ _ _ => mq_al (i := 0) rfl rfl,
   fun _ _ h0 => mq_cVr (na := 0) rfl rfl (Nat.le_of_ble_eq_true rfl) (Nat.le_of_ble_eq_true rfl) h0,
   fun _ _ _ _ _ => mq_is (i := 1) rfl rfl rfl,
   fun _ _ _ _ => mq_al (i := 0) rfl rfl,
   fun _ _ _ h0 => mq_getR rfl h0,
   fun _ _ => mq_push rfl,
   fun _ _ _ _ h0 => mq_iald rfl h0,
   fun _ _ => mq_push rfl,
   fun _ _ _ _ => mq_ic_ne rfl,
   fun _ _ => mq_push rfl,
   fun _ _ _ _ _ => mq_is (i := 2) rfl rfl rfl,
   fun _ _ => mq_push rfl,
   fun _ _ _ _ => mq_ic_ge rfl,
   fun _ _ _ _ => mq_al (i := 0) rfl rfl,
   fun _ _ _ h0 => mq_getR rfl h0,
   fun _ _ => mq_push rfl,
   fun _ _ _ _ => mq_il (i := 2) rfl rfl,
   fun _ _ _ _ => mq_bi rfl,
   fun _ _ => mq_push rfl,
   fun _ _ _ _ => mq_bi rfl,
   fun _ _ _ _ => mq_al (i := 0) rfl rfl,
   fun _ _ _ h0 => mq_getR rfl h0,
   fun _ _ => mq_push rfl,
   fun _ _ _ _ => mq_il (i := 2) rfl rfl,
   fun _ _ _ _ => mq_bi rfl,
   fun _ _ _ _ h0 => mq_iald rfl h0,
   fun _ _ _ _ _ h0 => mq_iast rfl h0,
   fun _ _ _ _ => mq_iinc (i := 2) rfl rfl rfl rfl,
   fun _ _ => mq_go rfl,
   fun _ _ _ _ => mq_al (i := 0) rfl rfl,
   fun _ _ _ h0 => mq_getR rfl h0,
   fun _ _ => mq_push rfl,
   fun _ _ _ _ => mq_dup2 rfl rfl rfl,
   fun _ _ _ _ h0 => mq_iald rfl h0,
   fun _ _ => mq_push rfl,
   fun _ _ _ _ => mq_bi rfl,
   fun _ _ _ _ _ h0 => mq_iast rfl h0,
   fun _ _ => mq_push rfl,
   fun _ _ => mq_push rfl,
   fun _ _ _ _ => mq_al (i := 0) rfl rfl,
   fun _ _ _ h0 => mq_getR rfl h0,
   fun _ _ => mq_push rfl,
   fun _ _ _ _ h0 => mq_iald rfl h0,
   fun _ _ _ _ => mq_bi rfl,
   fun _ _ _ _ => mq_bi rfl,
   fun _ _ _ _ _ => mq_is (i := 2) rfl rfl rfl,
   fun _ _ _ _ => mq_al (i := 0) rfl rfl,
   fun _ _ _ h0 => mq_getR rfl h0,
   fun _ _ _ _ => mq_il (i := 2) rfl rfl,
   fun _ _ _ _ => mq_il (i := 1) rfl rfl,
   fun _ _ _ _ _ h0 => mq_iast rfl h0,
   fun _ _ _ _ => mq_al (i := 0) rfl rfl,
   fun _ _ _ h0 => mq_getR rfl h0,
   fun _ _ _ _ => mq_il (i := 2) rfl rfl,
   fun _ _ => mq_push rfl,
   fun _ _ _ _ => mq_bi rfl,
   fun _ _ _ _ => mq_al (i := 0) rfl rfl,
   fun _ _ _ _ h0 => mq_cVr (na := 0) rfl rfl (Nat.le_of_ble_eq_true rfl) (Nat.le_of_ble_eq_true rfl) h0,
   fun _ _ _ _ _ h0 => mq_iast rfl h0,
   fun _ _ _ _ => mq_al (i := 0) rfl rfl,
   fun _ _ _ h0 => mq_getR rfl h0,
   fun _ _ _ _ => mq_il (i := 2) rfl rfl,
   fun _ _ => mq_push rfl,
   fun _ _ _ _ => mq_bi rfl,
   fun _ _ _ _ => mq_al (i := 0) rfl rfl,
   fun _ _ _ h0 => mq_getR rfl h0,
   fun _ _ => mq_push rfl,
   fun _ _ _ _ h0 => mq_iald rfl h0,
   fun _ _ _ _ _ h0 => mq_iast rfl h0,
   fun _ _ _ _ => mq_al (i := 0) rfl rfl,
   fun _ _ _ h0 => mq_getR rfl h0,
   fun _ _ => mq_push rfl,
   fun _ _ _ _ => mq_dup2 rfl rfl rfl,
   fun _ _ _ _ h0 => mq_iald rfl h0,
   fun _ _ => mq_push rfl,
   fun _ _ _ _ => mq_bi rfl,
   fun _ _ _ _ _ h0 => mq_iast rfl h0,
   fun _ => mq_rv rfl⟩
theorem hX12_passHour_19 (d n : Nat) (I L : mm_I) (P : mm_P) : ∀ (st : List mm_V) z (l0 : mm_V) (l1 : mm_V), mm_E d 199 19 [l0, l1, (.inl z)] [] st n I L P = mm_E d 199 20 [l0, l1, (.inl z)] [] ((.inl z) :: st) n I L P := fun _ _ _ _ => mq_il (i := 2) rfl rfl
theorem eX12_passHour (d n : Nat) (I L : mm_I) (P : mm_P) (x0 : Option Nat) : mm_rn (d + 1) 199 [.inr (.inr x0)] n I L P = mm_E d 199 0 [.inr (.inr x0), mm_junk, mm_junk] [] [] n I L P := rfl

set_option maxRecDepth 20000 in
set_option maxHeartbeats 8000000 in
theorem kX12_rule (d n : Nat) (I L : mm_I) (P : mm_P) :
  (∀ (st : List mm_V) z (l1 : mm_V), mm_E d 200 0 [(.inr (.inr z)), l1] [] st n I L P = mm_E d 200 1 [(.inr (.inr z)), l1] [] ((.inr (.inr z)) :: st) n I L P) ∧
  (∀ (lv : List mm_V) (st : List mm_V) a, (mm_ok n a 12) → mm_E d 200 1 lv [] (.inr (.inr (some a)) :: st) n I L P = mm_E d 200 4 lv [] (.inl (I a 26) :: st) n I L P) ∧
  (∀ (lv : List mm_V) (st : List mm_V) a, mm_E d 200 4 lv [] (.inl a :: st) n I L P = if a = 0 then mm_E d 200 16 lv [] st n I L P else mm_E d 200 7 lv [] st n I L P) ∧
  (∀ (st : List mm_V) z (l0 : mm_V), mm_E d 200 7 [l0, (.inl z)] [] st n I L P = mm_E d 200 8 [l0, (.inl z)] [] ((.inl z) :: st) n I L P) ∧
  (∀ (lv : List mm_V) (st : List mm_V), mm_E d 200 8 lv [] st n I L P = mm_E d 200 9 lv [] (.inl 0 :: st) n I L P) ∧
  (∀ (lv : List mm_V) (st : List mm_V), mm_E d 200 9 lv [] st n I L P = mm_E d 200 10 lv [] (.inl 5 :: st) n I L P) ∧
  (∀ (lv : List mm_V) x0 x1 x2, mm_E d 200 10 lv [] (.inl x2 :: .inl x1 :: .inl x0 :: []) n I L P = mm_kr d 200 13 lv [] [] n (mm_rn d 145 [.inl x0, .inl x1, .inl x2] n I L P)) ∧
  (∀ (lv : List mm_V) (st : List mm_V) a, mm_E d 200 13 lv [] (.inl a :: st) n I L P = if a = 0 then mm_E d 200 16 lv [] st n I L P else mm_E d 200 18 lv [] st n I L P) ∧
  (∀ (lv : List mm_V) (st : List mm_V), mm_E d 200 16 lv [] st n I L P = mm_E d 200 17 lv [] (.inl (-1) :: st) n I L P) ∧
  (∀ (lv : List mm_V) z, mm_E d 200 17 lv [] [.inl z] n I L P = some (some (.inl z), n, I, L, P)) ∧
  (∀ (st : List mm_V) z (l0 : mm_V), mm_E d 200 18 [l0, (.inl z)] [] st n I L P = mm_E d 200 19 [l0, (.inl z)] [] ((.inl z) :: st) n I L P) ∧
  (∀ (lv : List mm_V) (st : List mm_V) a, mm_E d 200 19 lv [] (.inl a :: st) n I L P = if a = 0 then mm_E d 200 52 lv [] st n I L P else if a = 1 then mm_E d 200 60 lv [] st n I L P else if a = 2 then mm_E d 200 67 lv [] st n I L P else if a = 3 then mm_E d 200 75 lv [] st n I L P else if a = 4 then mm_E d 200 83 lv [] st n I L P else mm_E d 200 91 lv [] st n I L P) ∧
  (∀ (st : List mm_V) z (l1 : mm_V), mm_E d 200 52 [(.inr (.inr z)), l1] [] st n I L P = mm_E d 200 53 [(.inr (.inr z)), l1] [] ((.inr (.inr z)) :: st) n I L P) ∧
  (∀ (lv : List mm_V) (st : List mm_V) a, (mm_ok n a 12) → mm_E d 200 53 lv [] (.inr (.inr (some a)) :: st) n I L P = mm_E d 200 56 lv [] (.inr (.inr (P a 27)) :: st) n I L P) ∧
  (∀ (lv : List mm_V) (st : List mm_V), mm_E d 200 56 lv [] st n I L P = mm_E d 200 58 lv [] (.inl 25 :: st) n I L P) ∧
  (∀ (lv : List mm_V) (st : List mm_V) a i, (mm_ix n a 20 i) → mm_E d 200 58 lv [] (.inl i :: .inr (.inr (some a)) :: st) n I L P = mm_E d 200 59 lv [] (.inl (I a i.toNat) :: st) n I L P) ∧
  (∀ (lv : List mm_V) z, mm_E d 200 59 lv [] [.inl z] n I L P = some (some (.inl z), n, I, L, P)) ∧
  (∀ (st : List mm_V) z (l1 : mm_V), mm_E d 200 60 [(.inr (.inr z)), l1] [] st n I L P = mm_E d 200 61 [(.inr (.inr z)), l1] [] ((.inr (.inr z)) :: st) n I L P) ∧
  (∀ (lv : List mm_V) (st : List mm_V) a, (mm_ok n a 12) → mm_E d 200 61 lv [] (.inr (.inr (some a)) :: st) n I L P = mm_E d 200 64 lv [] (.inr (.inr (P a 22)) :: st) n I L P) ∧
  (∀ (lv : List mm_V) (st : List mm_V), mm_E d 200 64 lv [] st n I L P = mm_E d 200 65 lv [] (.inl 1 :: st) n I L P) ∧
  (∀ (lv : List mm_V) (st : List mm_V) a i, (mm_ix n a 20 i) → mm_E d 200 65 lv [] (.inl i :: .inr (.inr (some a)) :: st) n I L P = mm_E d 200 66 lv [] (.inl (I a i.toNat) :: st) n I L P) ∧
  (∀ (lv : List mm_V) z, mm_E d 200 66 lv [] [.inl z] n I L P = some (some (.inl z), n, I, L, P)) ∧
  (∀ (st : List mm_V) z (l1 : mm_V), mm_E d 200 67 [(.inr (.inr z)), l1] [] st n I L P = mm_E d 200 68 [(.inr (.inr z)), l1] [] ((.inr (.inr z)) :: st) n I L P) ∧
  (∀ (lv : List mm_V) (st : List mm_V) a, (mm_ok n a 12) → mm_E d 200 68 lv [] (.inr (.inr (some a)) :: st) n I L P = mm_E d 200 71 lv [] (.inr (.inr (P a 27)) :: st) n I L P) ∧
  (∀ (lv : List mm_V) (st : List mm_V), mm_E d 200 71 lv [] st n I L P = mm_E d 200 73 lv [] (.inl 27 :: st) n I L P) ∧
  (∀ (lv : List mm_V) (st : List mm_V) a i, (mm_ix n a 20 i) → mm_E d 200 73 lv [] (.inl i :: .inr (.inr (some a)) :: st) n I L P = mm_E d 200 74 lv [] (.inl (I a i.toNat) :: st) n I L P) ∧
  (∀ (lv : List mm_V) z, mm_E d 200 74 lv [] [.inl z] n I L P = some (some (.inl z), n, I, L, P)) ∧
  (∀ (st : List mm_V) z (l1 : mm_V), mm_E d 200 75 [(.inr (.inr z)), l1] [] st n I L P = mm_E d 200 76 [(.inr (.inr z)), l1] [] ((.inr (.inr z)) :: st) n I L P) ∧
  (∀ (lv : List mm_V) (st : List mm_V) a, (mm_ok n a 12) → mm_E d 200 76 lv [] (.inr (.inr (some a)) :: st) n I L P = mm_E d 200 79 lv [] (.inr (.inr (P a 27)) :: st) n I L P) ∧
  (∀ (lv : List mm_V) (st : List mm_V), mm_E d 200 79 lv [] st n I L P = mm_E d 200 81 lv [] (.inl 26 :: st) n I L P) ∧
  (∀ (lv : List mm_V) (st : List mm_V) a i, (mm_ix n a 20 i) → mm_E d 200 81 lv [] (.inl i :: .inr (.inr (some a)) :: st) n I L P = mm_E d 200 82 lv [] (.inl (I a i.toNat) :: st) n I L P) ∧
  (∀ (lv : List mm_V) z, mm_E d 200 82 lv [] [.inl z] n I L P = some (some (.inl z), n, I, L, P)) ∧
  (∀ (st : List mm_V) z (l1 : mm_V), mm_E d 200 83 [(.inr (.inr z)), l1] [] st n I L P = mm_E d 200 84 [(.inr (.inr z)), l1] [] ((.inr (.inr z)) :: st) n I L P) ∧
  (∀ (lv : List mm_V) (st : List mm_V) a, (mm_ok n a 12) → mm_E d 200 84 lv [] (.inr (.inr (some a)) :: st) n I L P = mm_E d 200 87 lv [] (.inr (.inr (P a 27)) :: st) n I L P) ∧
  (∀ (lv : List mm_V) (st : List mm_V), mm_E d 200 87 lv [] st n I L P = mm_E d 200 89 lv [] (.inl 24 :: st) n I L P) ∧
  (∀ (lv : List mm_V) (st : List mm_V) a i, (mm_ix n a 20 i) → mm_E d 200 89 lv [] (.inl i :: .inr (.inr (some a)) :: st) n I L P = mm_E d 200 90 lv [] (.inl (I a i.toNat) :: st) n I L P) ∧
  (∀ (lv : List mm_V) z, mm_E d 200 90 lv [] [.inl z] n I L P = some (some (.inl z), n, I, L, P)) ∧
  (∀ (st : List mm_V) z (l1 : mm_V), mm_E d 200 91 [(.inr (.inr z)), l1] [] st n I L P = mm_E d 200 92 [(.inr (.inr z)), l1] [] ((.inr (.inr z)) :: st) n I L P) ∧
  (∀ (lv : List mm_V) (st : List mm_V) a, (mm_ok n a 12) → mm_E d 200 92 lv [] (.inr (.inr (some a)) :: st) n I L P = mm_E d 200 95 lv [] (.inr (.inr (P a 27)) :: st) n I L P) ∧
  (∀ (lv : List mm_V) (st : List mm_V), mm_E d 200 95 lv [] st n I L P = mm_E d 200 97 lv [] (.inl 28 :: st) n I L P) ∧
  (∀ (lv : List mm_V) (st : List mm_V) a i, (mm_ix n a 20 i) → mm_E d 200 97 lv [] (.inl i :: .inr (.inr (some a)) :: st) n I L P = mm_E d 200 98 lv [] (.inl (I a i.toNat) :: st) n I L P) ∧
  (∀ (lv : List mm_V) z, mm_E d 200 98 lv [] [.inl z] n I L P = some (some (.inl z), n, I, L, P)) :=
  ⟨fun _ _ _ => mq_al (i := 0) rfl rfl,
   fun _ _ _ h0 => mq_getI rfl h0,
   fun _ _ _ => mq_if_eq rfl,
   fun _ _ _ => mq_il (i := 1) rfl rfl,
   fun _ _ => mq_push rfl,
   fun _ _ => mq_push rfl,
   fun _ _ _ _ => mq_cSr (na := 3) rfl (Nat.le_of_ble_eq_true rfl) (Nat.le_of_ble_eq_true rfl),
   fun _ _ _ => mq_if_ne rfl,
   fun _ _ => mq_push rfl,
   fun _ _ => mq_ri rfl,
   fun _ _ _ => mq_il (i := 1) rfl rfl,
   fun _ _ _ => mq_sw (l := [(0, 52), (1, 60), (2, 67), (3, 75), (4, 83)]) (df := 91) rfl,
   fun _ _ _ => mq_al (i := 0) rfl rfl,
   fun _ _ _ h0 => mq_getR rfl h0,
   fun _ _ => mq_push rfl,
   fun _ _ _ _ h0 => mq_iald rfl h0,
   fun _ _ => mq_ri rfl,
   fun _ _ _ => mq_al (i := 0) rfl rfl,
   fun _ _ _ h0 => mq_getR rfl h0,
   fun _ _ => mq_push rfl,
   fun _ _ _ _ h0 => mq_iald rfl h0,
   fun _ _ => mq_ri rfl,
   fun _ _ _ => mq_al (i := 0) rfl rfl,
   fun _ _ _ h0 => mq_getR rfl h0,
   fun _ _ => mq_push rfl,
   fun _ _ _ _ h0 => mq_iald rfl h0,
   fun _ _ => mq_ri rfl,
   fun _ _ _ => mq_al (i := 0) rfl rfl,
   fun _ _ _ h0 => mq_getR rfl h0,
   fun _ _ => mq_push rfl,
   fun _ _ _ _ h0 => mq_iald rfl h0,
   fun _ _ => mq_ri rfl,
   fun _ _ _ => mq_al (i := 0) rfl rfl,
   fun _ _ _ h0 => mq_getR rfl h0,
   fun _ _ => mq_push rfl,
   fun _ _ _ _ h0 => mq_iald rfl h0,
   fun _ _ => mq_ri rfl,
   fun _ _ _ => mq_al (i := 0) rfl rfl,
   fun _ _ _ h0 => mq_getR rfl h0,
   fun _ _ => mq_push rfl,
   fun _ _ _ _ h0 => mq_iald rfl h0,
   fun _ _ => mq_ri rfl⟩
theorem eX12_rule (d n : Nat) (I L : mm_I) (P : mm_P) (x0 : Option Nat) (x1 : Int) : mm_rn (d + 1) 200 [.inr (.inr x0), .inl x1] n I L P = mm_E d 200 0 [.inr (.inr x0), .inl x1] [] [] n I L P := rfl

set_option maxRecDepth 20000 in
set_option maxHeartbeats 8000000 in
theorem kX12_spot (d n : Nat) (I L : mm_I) (P : mm_P) :
  (∀ (st : List mm_V) z (l1 : mm_V) (l2 : mm_V), mm_E d 201 0 [(.inr (.inr z)), l1, l2] [] st n I L P = mm_E d 201 1 [(.inr (.inr z)), l1, l2] [] ((.inr (.inr z)) :: st) n I L P) ∧
  (∀ (st : List mm_V) z (l1 : mm_V) (l2 : mm_V), mm_E d 201 1 [(.inr (.inr z)), l1, l2] [] st n I L P = mm_E d 201 2 [(.inr (.inr z)), l1, l2] [] ((.inr (.inr z)) :: st) n I L P) ∧
  (∀ (st : List mm_V) z (l0 : mm_V) (l2 : mm_V), mm_E d 201 2 [l0, (.inl z), l2] [] st n I L P = mm_E d 201 3 [l0, (.inl z), l2] [] ((.inl z) :: st) n I L P) ∧
  (∀ (lv : List mm_V) a x0 w0, (mm_ok n a 12) → mm_E d 201 3 lv [] (.inl x0 :: .inr (.inr (some a)) :: [.inr (.inr w0)]) n I L P = mm_kr d 201 6 lv [] [.inr (.inr w0)] n (mm_rn d 191 [.inr (.inr (some a)), .inl x0] n I L P)) ∧
  (∀ (lv : List mm_V) (st : List mm_V) a, mm_E d 201 6 lv [] (.inl a :: st) n I L P = if a = 0 then mm_E d 201 22 lv [] st n I L P else mm_E d 201 9 lv [] st n I L P) ∧
  (∀ (st : List mm_V) z (l0 : mm_V) (l1 : mm_V), mm_E d 201 9 [l0, l1, (.inl z)] [] st n I L P = mm_E d 201 10 [l0, l1, (.inl z)] [] ((.inl z) :: st) n I L P) ∧
  (∀ (lv : List mm_V) (st : List mm_V), mm_E d 201 10 lv [] st n I L P = mm_E d 201 11 lv [] (.inl 0 :: st) n I L P) ∧
  (∀ (lv : List mm_V) (st : List mm_V), mm_E d 201 11 lv [] st n I L P = mm_E d 201 12 lv [] (.inl 4 :: st) n I L P) ∧
  (∀ (lv : List mm_V) x0 x1 x2 w0, mm_E d 201 12 lv [] (.inl x2 :: .inl x1 :: .inl x0 :: [.inr (.inr w0)]) n I L P = mm_kr d 201 15 lv [] [.inr (.inr w0)] n (mm_rn d 145 [.inl x0, .inl x1, .inl x2] n I L P)) ∧
  (∀ (lv : List mm_V) (st : List mm_V) a, mm_E d 201 15 lv [] (.inl a :: st) n I L P = if a = 0 then mm_E d 201 22 lv [] st n I L P else mm_E d 201 18 lv [] st n I L P) ∧
  (∀ (lv : List mm_V) (st : List mm_V), mm_E d 201 18 lv [] st n I L P = mm_E d 201 19 lv [] (.inl 0 :: st) n I L P) ∧
  (∀ (lv : List mm_V) (st : List mm_V), mm_E d 201 19 lv [] st n I L P = mm_E d 201 23 lv [] st n I L P) ∧
  (∀ (lv : List mm_V) (st : List mm_V), mm_E d 201 22 lv [] st n I L P = mm_E d 201 23 lv [] (.inl 1 :: st) n I L P) ∧
  (∀ (lv : List mm_V) (st : List mm_V) a z, (mm_ok n a 12) → mm_E d 201 23 lv [] (.inl z :: .inr (.inr (some a)) :: st) n I L P = mm_E d 201 26 lv [] st n (mm_ui I a 0 z) L P) ∧
  (∀ (st : List mm_V) z (l1 : mm_V) (l2 : mm_V), mm_E d 201 26 [(.inr (.inr z)), l1, l2] [] st n I L P = mm_E d 201 27 [(.inr (.inr z)), l1, l2] [] ((.inr (.inr z)) :: st) n I L P) ∧
  (∀ (lv : List mm_V) (st : List mm_V) a, (mm_ok n a 12) → mm_E d 201 27 lv [] (.inr (.inr (some a)) :: st) n I L P = mm_E d 201 30 lv [] (.inl (I a 0) :: st) n I L P) ∧
  (∀ (lv : List mm_V) (st : List mm_V), mm_E d 201 30 lv [] st n I L P = mm_E d 201 31 lv [] (.inl 1 :: st) n I L P) ∧
  (∀ (lv : List mm_V) (st : List mm_V) a b, mm_E d 201 31 lv [] (.inl b :: .inl a :: st) n I L P = if a = b then mm_E d 201 34 lv [] st n I L P else mm_E d 201 36 lv [] st n I L P) ∧
  (∀ (lv : List mm_V) (st : List mm_V), mm_E d 201 34 lv [] st n I L P = mm_E d 201 35 lv [] (.inl 0 :: st) n I L P) ∧
  (∀ (lv : List mm_V) z, mm_E d 201 35 lv [] [.inl z] n I L P = some (some (.inl z), n, I, L, P)) ∧
  (∀ (st : List mm_V) z (l0 : mm_V) (l1 : mm_V), mm_E d 201 36 [l0, l1, (.inl z)] [] st n I L P = mm_E d 201 37 [l0, l1, (.inl z)] [] ((.inl z) :: st) n I L P) ∧
  (∀ (lv : List mm_V) (st : List mm_V) a, mm_E d 201 37 lv [] (.inl a :: st) n I L P = if a = 0 then mm_E d 201 68 lv [] st n I L P else if a = 1 then mm_E d 201 77 lv [] st n I L P else if a = 2 then mm_E d 201 88 lv [] st n I L P else if a = 3 then mm_E d 201 110 lv [] st n I L P else mm_E d 201 120 lv [] st n I L P) ∧
  (∀ (st : List mm_V) z (l1 : mm_V) (l2 : mm_V), mm_E d 201 68 [(.inr (.inr z)), l1, l2] [] st n I L P = mm_E d 201 69 [(.inr (.inr z)), l1, l2] [] ((.inr (.inr z)) :: st) n I L P) ∧
  (∀ (lv : List mm_V) (st : List mm_V) a, (mm_ok n a 12) → mm_E d 201 69 lv [] (.inr (.inr (some a)) :: st) n I L P = mm_E d 201 72 lv [] (.inr (.inr (P a 27)) :: st) n I L P) ∧
  (∀ (lv : List mm_V) (st : List mm_V), mm_E d 201 72 lv [] st n I L P = mm_E d 201 73 lv [] (.inl 0 :: st) n I L P) ∧
  (∀ (st : List mm_V) z (l0 : mm_V) (l2 : mm_V), mm_E d 201 73 [l0, (.inl z), l2] [] st n I L P = mm_E d 201 74 [l0, (.inl z), l2] [] ((.inl z) :: st) n I L P) ∧
  (∀ (lv : List mm_V) (st : List mm_V) a b, mm_E d 201 74 lv [] (.inl b :: .inl a :: st) n I L P = mm_E d 201 75 lv [] (.inl (mm_add a b) :: st) n I L P) ∧
  (∀ (lv : List mm_V) (st : List mm_V) a i, (mm_ix n a 20 i) → mm_E d 201 75 lv [] (.inl i :: .inr (.inr (some a)) :: st) n I L P = mm_E d 201 76 lv [] (.inl (I a i.toNat) :: st) n I L P) ∧
  (∀ (lv : List mm_V) z, mm_E d 201 76 lv [] [.inl z] n I L P = some (some (.inl z), n, I, L, P)) ∧
  (∀ (st : List mm_V) z (l1 : mm_V) (l2 : mm_V), mm_E d 201 77 [(.inr (.inr z)), l1, l2] [] st n I L P = mm_E d 201 78 [(.inr (.inr z)), l1, l2] [] ((.inr (.inr z)) :: st) n I L P) ∧
  (∀ (lv : List mm_V) (st : List mm_V) a, (mm_ok n a 12) → mm_E d 201 78 lv [] (.inr (.inr (some a)) :: st) n I L P = mm_E d 201 81 lv [] (.inr (.inr (P a 23)) :: st) n I L P) ∧
  (∀ (lv : List mm_V) (st : List mm_V), mm_E d 201 81 lv [] st n I L P = mm_E d 201 82 lv [] (.inl 2 :: st) n I L P) ∧
  (∀ (st : List mm_V) z (l0 : mm_V) (l2 : mm_V), mm_E d 201 82 [l0, (.inl z), l2] [] st n I L P = mm_E d 201 83 [l0, (.inl z), l2] [] ((.inl z) :: st) n I L P) ∧
  (∀ (lv : List mm_V) (st : List mm_V) a b, mm_E d 201 83 lv [] (.inl b :: .inl a :: st) n I L P = mm_E d 201 84 lv [] (.inl (mm_mul a b) :: st) n I L P) ∧
  (∀ (lv : List mm_V) (st : List mm_V), mm_E d 201 84 lv [] st n I L P = mm_E d 201 85 lv [] (.inl 1 :: st) n I L P) ∧
  (∀ (lv : List mm_V) (st : List mm_V) a b, mm_E d 201 85 lv [] (.inl b :: .inl a :: st) n I L P = mm_E d 201 86 lv [] (.inl (mm_add a b) :: st) n I L P) ∧
  (∀ (lv : List mm_V) (st : List mm_V) a i, (mm_ix n a 20 i) → mm_E d 201 86 lv [] (.inl i :: .inr (.inr (some a)) :: st) n I L P = mm_E d 201 87 lv [] (.inl (I a i.toNat) :: st) n I L P) ∧
  (∀ (lv : List mm_V) z, mm_E d 201 87 lv [] [.inl z] n I L P = some (some (.inl z), n, I, L, P)) ∧
  (∀ (st : List mm_V) z (l1 : mm_V) (l2 : mm_V), mm_E d 201 88 [(.inr (.inr z)), l1, l2] [] st n I L P = mm_E d 201 89 [(.inr (.inr z)), l1, l2] [] ((.inr (.inr z)) :: st) n I L P) ∧
  (∀ (st : List mm_V) z (l0 : mm_V) (l2 : mm_V), mm_E d 201 89 [l0, (.inl z), l2] [] st n I L P = mm_E d 201 90 [l0, (.inl z), l2] [] ((.inl z) :: st) n I L P) ∧
  (∀ (lv : List mm_V) a x0, (mm_ok n a 12) → mm_E d 201 90 lv [] (.inl x0 :: .inr (.inr (some a)) :: []) n I L P = mm_kr d 201 93 lv [] [] n (mm_rn d 193 [.inr (.inr (some a)), .inl x0] n I L P)) ∧
  (∀ (lv : List mm_V) (st : List mm_V) a, mm_E d 201 93 lv [] (.inl a :: st) n I L P = if a = 0 then mm_E d 201 108 lv [] st n I L P else mm_E d 201 96 lv [] st n I L P) ∧
  (∀ (st : List mm_V) z (l1 : mm_V) (l2 : mm_V), mm_E d 201 96 [(.inr (.inr z)), l1, l2] [] st n I L P = mm_E d 201 97 [(.inr (.inr z)), l1, l2] [] ((.inr (.inr z)) :: st) n I L P) ∧
  (∀ (lv : List mm_V) (st : List mm_V) a, (mm_ok n a 12) → mm_E d 201 97 lv [] (.inr (.inr (some a)) :: st) n I L P = mm_E d 201 100 lv [] (.inr (.inr (P a 27)) :: st) n I L P) ∧
  (∀ (lv : List mm_V) (st : List mm_V), mm_E d 201 100 lv [] st n I L P = mm_E d 201 102 lv [] (.inl 8 :: st) n I L P) ∧
  (∀ (st : List mm_V) z (l0 : mm_V) (l2 : mm_V), mm_E d 201 102 [l0, (.inl z), l2] [] st n I L P = mm_E d 201 103 [l0, (.inl z), l2] [] ((.inl z) :: st) n I L P) ∧
  (∀ (lv : List mm_V) (st : List mm_V) a b, mm_E d 201 103 lv [] (.inl b :: .inl a :: st) n I L P = mm_E d 201 104 lv [] (.inl (mm_add a b) :: st) n I L P) ∧
  (∀ (lv : List mm_V) (st : List mm_V) a i, (mm_ix n a 20 i) → mm_E d 201 104 lv [] (.inl i :: .inr (.inr (some a)) :: st) n I L P = mm_E d 201 105 lv [] (.inl (I a i.toNat) :: st) n I L P) ∧
  (∀ (lv : List mm_V) (st : List mm_V), mm_E d 201 105 lv [] st n I L P = mm_E d 201 109 lv [] st n I L P) ∧
  (∀ (lv : List mm_V) (st : List mm_V), mm_E d 201 108 lv [] st n I L P = mm_E d 201 109 lv [] (.inl (-1) :: st) n I L P) ∧
  (∀ (lv : List mm_V) z, mm_E d 201 109 lv [] [.inl z] n I L P = some (some (.inl z), n, I, L, P)) ∧
  (∀ (st : List mm_V) z (l1 : mm_V) (l2 : mm_V), mm_E d 201 110 [(.inr (.inr z)), l1, l2] [] st n I L P = mm_E d 201 111 [(.inr (.inr z)), l1, l2] [] ((.inr (.inr z)) :: st) n I L P) ∧
  (∀ (lv : List mm_V) (st : List mm_V) a, (mm_ok n a 12) → mm_E d 201 111 lv [] (.inr (.inr (some a)) :: st) n I L P = mm_E d 201 114 lv [] (.inr (.inr (P a 27)) :: st) n I L P) ∧
  (∀ (lv : List mm_V) (st : List mm_V), mm_E d 201 114 lv [] st n I L P = mm_E d 201 116 lv [] (.inl 16 :: st) n I L P) ∧
  (∀ (st : List mm_V) z (l0 : mm_V) (l2 : mm_V), mm_E d 201 116 [l0, (.inl z), l2] [] st n I L P = mm_E d 201 117 [l0, (.inl z), l2] [] ((.inl z) :: st) n I L P) ∧
  (∀ (lv : List mm_V) (st : List mm_V) a b, mm_E d 201 117 lv [] (.inl b :: .inl a :: st) n I L P = mm_E d 201 118 lv [] (.inl (mm_add a b) :: st) n I L P) ∧
  (∀ (lv : List mm_V) (st : List mm_V) a i, (mm_ix n a 20 i) → mm_E d 201 118 lv [] (.inl i :: .inr (.inr (some a)) :: st) n I L P = mm_E d 201 119 lv [] (.inl (I a i.toNat) :: st) n I L P) ∧
  (∀ (lv : List mm_V) z, mm_E d 201 119 lv [] [.inl z] n I L P = some (some (.inl z), n, I, L, P)) ∧
  (∀ (st : List mm_V) z (l1 : mm_V) (l2 : mm_V), mm_E d 201 120 [(.inr (.inr z)), l1, l2] [] st n I L P = mm_E d 201 121 [(.inr (.inr z)), l1, l2] [] ((.inr (.inr z)) :: st) n I L P) ∧
  (∀ (lv : List mm_V) (st : List mm_V) a, (mm_ok n a 12) → mm_E d 201 121 lv [] (.inr (.inr (some a)) :: st) n I L P = mm_E d 201 124 lv [] (.inr (.inr (P a 24)) :: st) n I L P) ∧
  (∀ (st : List mm_V) z (l0 : mm_V) (l2 : mm_V), mm_E d 201 124 [l0, (.inl z), l2] [] st n I L P = mm_E d 201 125 [l0, (.inl z), l2] [] ((.inl z) :: st) n I L P) ∧
  (∀ (lv : List mm_V) (st : List mm_V) a i, (mm_ix n a 20 i) → mm_E d 201 125 lv [] (.inl i :: .inr (.inr (some a)) :: st) n I L P = mm_E d 201 126 lv [] (.inl (I a i.toNat) :: st) n I L P) ∧
  (∀ (lv : List mm_V) z, mm_E d 201 126 lv [] [.inl z] n I L P = some (some (.inl z), n, I, L, P)) :=
  ⟨fun _ _ _ _ => mq_al (i := 0) rfl rfl,
   fun _ _ _ _ => mq_al (i := 0) rfl rfl,
   fun _ _ _ _ => mq_il (i := 1) rfl rfl,
   fun _ _ _ _ h0 => mq_cVr (na := 1) rfl rfl (Nat.le_of_ble_eq_true rfl) (Nat.le_of_ble_eq_true rfl) h0,
   fun _ _ _ => mq_if_eq rfl,
   fun _ _ _ _ => mq_il (i := 2) rfl rfl,
   fun _ _ => mq_push rfl,
   fun _ _ => mq_push rfl,
   fun _ _ _ _ _ => mq_cSr (na := 3) rfl (Nat.le_of_ble_eq_true rfl) (Nat.le_of_ble_eq_true rfl),
   fun _ _ _ => mq_if_eq rfl,
   fun _ _ => mq_push rfl,
   fun _ _ => mq_go rfl,
   fun _ _ => mq_push rfl,
   fun _ _ _ _ h0 => mq_putI rfl h0,
   fun _ _ _ _ => mq_al (i := 0) rfl rfl,
   fun _ _ _ h0 => mq_getI rfl h0,
   fun _ _ => mq_push rfl,
   fun _ _ _ _ => mq_ic_ne rfl,
   fun _ _ => mq_push rfl,
   fun _ _ => mq_ri rfl,
   fun _ _ _ _ => mq_il (i := 2) rfl rfl,
   fun _ _ _ => mq_sw (l := [(0, 68), (1, 77), (2, 88), (3, 110)]) (df := 120) rfl,
   fun _ _ _ _ => mq_al (i := 0) rfl rfl,
   fun _ _ _ h0 => mq_getR rfl h0,
   fun _ _ => mq_push rfl,
   fun _ _ _ _ => mq_il (i := 1) rfl rfl,
   fun _ _ _ _ => mq_bi rfl,
   fun _ _ _ _ h0 => mq_iald rfl h0,
   fun _ _ => mq_ri rfl,
   fun _ _ _ _ => mq_al (i := 0) rfl rfl,
   fun _ _ _ h0 => mq_getR rfl h0,
   fun _ _ => mq_push rfl,
   fun _ _ _ _ => mq_il (i := 1) rfl rfl,
   fun _ _ _ _ => mq_bi rfl,
   fun _ _ => mq_push rfl,
   fun _ _ _ _ => mq_bi rfl,
   fun _ _ _ _ h0 => mq_iald rfl h0,
   fun _ _ => mq_ri rfl,
   fun _ _ _ _ => mq_al (i := 0) rfl rfl,
   fun _ _ _ _ => mq_il (i := 1) rfl rfl,
   fun _ _ _ h0 => mq_cVr (na := 1) rfl rfl (Nat.le_of_ble_eq_true rfl) (Nat.le_of_ble_eq_true rfl) h0,
   fun _ _ _ => mq_if_eq rfl,
   fun _ _ _ _ => mq_al (i := 0) rfl rfl,
   fun _ _ _ h0 => mq_getR rfl h0,
   fun _ _ => mq_push rfl,
   fun _ _ _ _ => mq_il (i := 1) rfl rfl,
   fun _ _ _ _ => mq_bi rfl,
   fun _ _ _ _ h0 => mq_iald rfl h0,
   fun _ _ => mq_go rfl,
   fun _ _ => mq_push rfl,
   fun _ _ => mq_ri rfl,
   fun _ _ _ _ => mq_al (i := 0) rfl rfl,
   fun _ _ _ h0 => mq_getR rfl h0,
   fun _ _ => mq_push rfl,
   fun _ _ _ _ => mq_il (i := 1) rfl rfl,
   fun _ _ _ _ => mq_bi rfl,
   fun _ _ _ _ h0 => mq_iald rfl h0,
   fun _ _ => mq_ri rfl,
   fun _ _ _ _ => mq_al (i := 0) rfl rfl,
   fun _ _ _ h0 => mq_getR rfl h0,
   fun _ _ _ _ => mq_il (i := 1) rfl rfl,
   fun _ _ _ _ h0 => mq_iald rfl h0,
   fun _ _ => mq_ri rfl⟩
theorem eX12_spot (d n : Nat) (I L : mm_I) (P : mm_P) (x0 : Option Nat) (x1 : Int) (x2 : Int) : mm_rn (d + 1) 201 [.inr (.inr x0), .inl x1, .inl x2] n I L P = mm_E d 201 0 [.inr (.inr x0), .inl x1, .inl x2] [] [] n I L P := rfl

set_option maxRecDepth 20000 in
set_option maxHeartbeats 8000000 in
theorem kX12_steps (d n : Nat) (I L : mm_I) (P : mm_P) :
  (∀ (st : List mm_V) z (l1 : mm_V) (l2 : mm_V), mm_E d 202 0 [(.inr (.inr z)), l1, l2] [] st n I L P = mm_E d 202 1 [(.inr (.inr z)), l1, l2] [] ((.inr (.inr z)) :: st) n I L P) ∧
  (∀ (st : List mm_V) z (l0 : mm_V) (l2 : mm_V), mm_E d 202 1 [l0, (.inl z), l2] [] st n I L P = mm_E d 202 2 [l0, (.inl z), l2] [] ((.inl z) :: st) n I L P) ∧
  (∀ (lv : List mm_V) a x0, (mm_ok n a 12) → mm_E d 202 2 lv [] (.inl x0 :: .inr (.inr (some a)) :: []) n I L P = mm_kr d 202 5 lv [] [] n (mm_rn d 191 [.inr (.inr (some a)), .inl x0] n I L P)) ∧
  (∀ (lv : List mm_V) (st : List mm_V) a, mm_E d 202 5 lv [] (.inl a :: st) n I L P = if a = 0 then mm_E d 202 25 lv [] st n I L P else mm_E d 202 8 lv [] st n I L P) ∧
  (∀ (st : List mm_V) z (l1 : mm_V) (l2 : mm_V), mm_E d 202 8 [(.inr (.inr z)), l1, l2] [] st n I L P = mm_E d 202 9 [(.inr (.inr z)), l1, l2] [] ((.inr (.inr z)) :: st) n I L P) ∧
  (∀ (st : List mm_V) z (l0 : mm_V) (l1 : mm_V), mm_E d 202 9 [l0, l1, (.inl z)] [] st n I L P = mm_E d 202 10 [l0, l1, (.inl z)] [] ((.inl z) :: st) n I L P) ∧
  (∀ (lv : List mm_V) a x0, (mm_ok n a 12) → mm_E d 202 10 lv [] (.inl x0 :: .inr (.inr (some a)) :: []) n I L P = mm_kr d 202 13 lv [] [] n (mm_rn d 191 [.inr (.inr (some a)), .inl x0] n I L P)) ∧
  (∀ (lv : List mm_V) (st : List mm_V) a, mm_E d 202 13 lv [] (.inl a :: st) n I L P = if a = 0 then mm_E d 202 25 lv [] st n I L P else mm_E d 202 16 lv [] st n I L P) ∧
  (∀ (st : List mm_V) z (l1 : mm_V) (l2 : mm_V), mm_E d 202 16 [(.inr (.inr z)), l1, l2] [] st n I L P = mm_E d 202 17 [(.inr (.inr z)), l1, l2] [] ((.inr (.inr z)) :: st) n I L P) ∧
  (∀ (st : List mm_V) z (l0 : mm_V) (l2 : mm_V), mm_E d 202 17 [l0, (.inl z), l2] [] st n I L P = mm_E d 202 18 [l0, (.inl z), l2] [] ((.inl z) :: st) n I L P) ∧
  (∀ (st : List mm_V) z (l0 : mm_V) (l1 : mm_V), mm_E d 202 18 [l0, l1, (.inl z)] [] st n I L P = mm_E d 202 19 [l0, l1, (.inl z)] [] ((.inl z) :: st) n I L P) ∧
  (∀ (lv : List mm_V) a x0 x1, (mm_ok n a 12) → mm_E d 202 19 lv [] (.inl x1 :: .inl x0 :: .inr (.inr (some a)) :: []) n I L P = mm_kr d 202 22 lv [] [] n (mm_rn d 192 [.inr (.inr (some a)), .inl x0, .inl x1] n I L P)) ∧
  (∀ (lv : List mm_V) (st : List mm_V), mm_E d 202 22 lv [] st n I L P = mm_E d 202 26 lv [] st n I L P) ∧
  (∀ (lv : List mm_V) (st : List mm_V), mm_E d 202 25 lv [] st n I L P = mm_E d 202 26 lv [] (.inl (-1) :: st) n I L P) ∧
  (∀ (lv : List mm_V) z, mm_E d 202 26 lv [] [.inl z] n I L P = some (some (.inl z), n, I, L, P)) :=
  ⟨fun _ _ _ _ => mq_al (i := 0) rfl rfl,
   fun _ _ _ _ => mq_il (i := 1) rfl rfl,
   fun _ _ _ h0 => mq_cVr (na := 1) rfl rfl (Nat.le_of_ble_eq_true rfl) (Nat.le_of_ble_eq_true rfl) h0,
   fun _ _ _ => mq_if_eq rfl,
   fun _ _ _ _ => mq_al (i := 0) rfl rfl,
   fun _ _ _ _ => mq_il (i := 2) rfl rfl,
   fun _ _ _ h0 => mq_cVr (na := 1) rfl rfl (Nat.le_of_ble_eq_true rfl) (Nat.le_of_ble_eq_true rfl) h0,
   fun _ _ _ => mq_if_eq rfl,
   fun _ _ _ _ => mq_al (i := 0) rfl rfl,
   fun _ _ _ _ => mq_il (i := 1) rfl rfl,
   fun _ _ _ _ => mq_il (i := 2) rfl rfl,
   fun _ _ _ _ h0 => mq_cVr (na := 2) rfl rfl (Nat.le_of_ble_eq_true rfl) (Nat.le_of_ble_eq_true rfl) h0,
   fun _ _ => mq_go rfl,
   fun _ _ => mq_push rfl,
   fun _ _ => mq_ri rfl⟩
theorem eX12_steps (d n : Nat) (I L : mm_I) (P : mm_P) (x0 : Option Nat) (x1 : Int) (x2 : Int) : mm_rn (d + 1) 202 [.inr (.inr x0), .inl x1, .inl x2] n I L P = mm_E d 202 0 [.inr (.inr x0), .inl x1, .inl x2] [] [] n I L P := rfl

set_option maxRecDepth 20000 in
set_option maxHeartbeats 8000000 in
theorem kX12_law (d n : Nat) (I L : mm_I) (P : mm_P) :
  (∀ (st : List mm_V) z (l0 : mm_V), mm_E d 203 0 [l0, (.inl z)] [] st n I L P = mm_E d 203 1 [l0, (.inl z)] [] ((.inl z) :: st) n I L P) ∧
  (∀ (lv : List mm_V) (st : List mm_V), mm_E d 203 1 lv [] st n I L P = mm_E d 203 2 lv [] (.inl (-1) :: st) n I L P) ∧
  (∀ (st : List mm_V) z (l1 : mm_V), mm_E d 203 2 [(.inr (.inr z)), l1] [] st n I L P = mm_E d 203 3 [(.inr (.inr z)), l1] [] ((.inr (.inr z)) :: st) n I L P) ∧
  (∀ (lv : List mm_V) (st : List mm_V) a, (mm_ok n a 12) → mm_E d 203 3 lv [] (.inr (.inr (some a)) :: st) n I L P = mm_E d 203 6 lv [] (.inl (I a 13) :: st) n I L P) ∧
  (∀ (lv : List mm_V) (st : List mm_V), mm_E d 203 6 lv [] st n I L P = mm_E d 203 7 lv [] (.inl 1 :: st) n I L P) ∧
  (∀ (lv : List mm_V) (st : List mm_V) a b, mm_E d 203 7 lv [] (.inl b :: .inl a :: st) n I L P = mm_E d 203 8 lv [] (.inl (mm_sub a b) :: st) n I L P) ∧
  (∀ (lv : List mm_V) x0 x1 x2, mm_E d 203 8 lv [] (.inl x2 :: .inl x1 :: .inl x0 :: []) n I L P = mm_kr d 203 11 lv [] [] n (mm_rn d 145 [.inl x0, .inl x1, .inl x2] n I L P)) ∧
  (∀ (lv : List mm_V) (st : List mm_V) a, mm_E d 203 11 lv [] (.inl a :: st) n I L P = if a = 0 then mm_E d 203 14 lv [] st n I L P else mm_E d 203 16 lv [] st n I L P) ∧
  (∀ (lv : List mm_V) (st : List mm_V), mm_E d 203 14 lv [] st n I L P = mm_E d 203 15 lv [] (.inl 0 :: st) n I L P) ∧
  (∀ (lv : List mm_V) z, (0 ≤ z ∧ z < 2) → mm_E d 203 15 lv [] [.inl z] n I L P = some (some (.inl z), n, I, L, P)) ∧
  (∀ (st : List mm_V) z (l1 : mm_V), mm_E d 203 16 [(.inr (.inr z)), l1] [] st n I L P = mm_E d 203 17 [(.inr (.inr z)), l1] [] ((.inr (.inr z)) :: st) n I L P) ∧
  (∀ (st : List mm_V) z (l0 : mm_V), mm_E d 203 17 [l0, (.inl z)] [] st n I L P = mm_E d 203 18 [l0, (.inl z)] [] ((.inl z) :: st) n I L P) ∧
  (∀ (lv : List mm_V) (st : List mm_V) a z, (mm_ok n a 12) → mm_E d 203 18 lv [] (.inl z :: .inr (.inr (some a)) :: st) n I L P = mm_E d 203 21 lv [] st n (mm_ui I a 29 z) L P) ∧
  (∀ (lv : List mm_V) (st : List mm_V), mm_E d 203 21 lv [] st n I L P = mm_E d 203 22 lv [] (.inl 1 :: st) n I L P) ∧
  (∀ (lv : List mm_V) z, (0 ≤ z ∧ z < 2) → mm_E d 203 22 lv [] [.inl z] n I L P = some (some (.inl z), n, I, L, P)) :=
  ⟨fun _ _ _ => mq_il (i := 1) rfl rfl,
   fun _ _ => mq_push rfl,
   fun _ _ _ => mq_al (i := 0) rfl rfl,
   fun _ _ _ h0 => mq_getI rfl h0,
   fun _ _ => mq_push rfl,
   fun _ _ _ _ => mq_bi rfl,
   fun _ _ _ _ => mq_cSr (na := 3) rfl (Nat.le_of_ble_eq_true rfl) (Nat.le_of_ble_eq_true rfl),
   fun _ _ _ => mq_if_ne rfl,
   fun _ _ => mq_push rfl,
   fun _ _ h0 => mq_rz rfl h0,
   fun _ _ _ => mq_al (i := 0) rfl rfl,
   fun _ _ _ => mq_il (i := 1) rfl rfl,
   fun _ _ _ _ h0 => mq_putI rfl h0,
   fun _ _ => mq_push rfl,
   fun _ _ h0 => mq_rz rfl h0⟩
theorem eX12_law (d n : Nat) (I L : mm_I) (P : mm_P) (x0 : Option Nat) (x1 : Int) : mm_rn (d + 1) 203 [.inr (.inr x0), .inl x1] n I L P = mm_E d 203 0 [.inr (.inr x0), .inl x1] [] [] n I L P := rfl

set_option maxRecDepth 20000 in
set_option maxHeartbeats 8000000 in
theorem kX12_danger (d n : Nat) (I L : mm_I) (P : mm_P) :
  (∀ (st : List mm_V) z (l0 : mm_V), mm_E d 204 0 [l0, (.inl z)] [] st n I L P = mm_E d 204 1 [l0, (.inl z)] [] ((.inl z) :: st) n I L P) ∧
  (∀ (lv : List mm_V) (st : List mm_V), mm_E d 204 1 lv [] st n I L P = mm_E d 204 2 lv [] (.inl 0 :: st) n I L P) ∧
  (∀ (lv : List mm_V) (st : List mm_V), mm_E d 204 2 lv [] st n I L P = mm_E d 204 4 lv [] (.inl 9 :: st) n I L P) ∧
  (∀ (lv : List mm_V) x0 x1 x2, mm_E d 204 4 lv [] (.inl x2 :: .inl x1 :: .inl x0 :: []) n I L P = mm_kr d 204 7 lv [] [] n (mm_rn d 145 [.inl x0, .inl x1, .inl x2] n I L P)) ∧
  (∀ (lv : List mm_V) (st : List mm_V) a, mm_E d 204 7 lv [] (.inl a :: st) n I L P = if a = 0 then mm_E d 204 18 lv [] st n I L P else mm_E d 204 10 lv [] st n I L P) ∧
  (∀ (st : List mm_V) z (l0 : mm_V), mm_E d 204 10 [l0, (.inl z)] [] st n I L P = mm_E d 204 11 [l0, (.inl z)] [] ((.inl z) :: st) n I L P) ∧
  (∀ (st : List mm_V) z (l1 : mm_V), mm_E d 204 11 [(.inr (.inr z)), l1] [] st n I L P = mm_E d 204 12 [(.inr (.inr z)), l1] [] ((.inr (.inr z)) :: st) n I L P) ∧
  (∀ (lv : List mm_V) (st : List mm_V) a, (mm_ok n a 12) → mm_E d 204 12 lv [] (.inr (.inr (some a)) :: st) n I L P = mm_E d 204 15 lv [] (.inl (I a 30) :: st) n I L P) ∧
  (∀ (lv : List mm_V) (st : List mm_V) a b, mm_E d 204 15 lv [] (.inl b :: .inl a :: st) n I L P = if a = b then mm_E d 204 18 lv [] st n I L P else mm_E d 204 20 lv [] st n I L P) ∧
  (∀ (lv : List mm_V) (st : List mm_V), mm_E d 204 18 lv [] st n I L P = mm_E d 204 19 lv [] (.inl 0 :: st) n I L P) ∧
  (∀ (lv : List mm_V) z, (0 ≤ z ∧ z < 2) → mm_E d 204 19 lv [] [.inl z] n I L P = some (some (.inl z), n, I, L, P)) ∧
  (∀ (st : List mm_V) z (l1 : mm_V), mm_E d 204 20 [(.inr (.inr z)), l1] [] st n I L P = mm_E d 204 21 [(.inr (.inr z)), l1] [] ((.inr (.inr z)) :: st) n I L P) ∧
  (∀ (st : List mm_V) z (l0 : mm_V), mm_E d 204 21 [l0, (.inl z)] [] st n I L P = mm_E d 204 22 [l0, (.inl z)] [] ((.inl z) :: st) n I L P) ∧
  (∀ (lv : List mm_V) (st : List mm_V) a z, (mm_ok n a 12) → mm_E d 204 22 lv [] (.inl z :: .inr (.inr (some a)) :: st) n I L P = mm_E d 204 25 lv [] st n (mm_ui I a 30 z) L P) ∧
  (∀ (lv : List mm_V) (st : List mm_V), mm_E d 204 25 lv [] st n I L P = mm_E d 204 26 lv [] (.inl 1 :: st) n I L P) ∧
  (∀ (lv : List mm_V) z, (0 ≤ z ∧ z < 2) → mm_E d 204 26 lv [] [.inl z] n I L P = some (some (.inl z), n, I, L, P)) :=
  ⟨fun _ _ _ => mq_il (i := 1) rfl rfl,
   fun _ _ => mq_push rfl,
   fun _ _ => mq_push rfl,
   fun _ _ _ _ => mq_cSr (na := 3) rfl (Nat.le_of_ble_eq_true rfl) (Nat.le_of_ble_eq_true rfl),
   fun _ _ _ => mq_if_eq rfl,
   fun _ _ _ => mq_il (i := 1) rfl rfl,
   fun _ _ _ => mq_al (i := 0) rfl rfl,
   fun _ _ _ h0 => mq_getI rfl h0,
   fun _ _ _ _ => mq_ic_ne rfl,
   fun _ _ => mq_push rfl,
   fun _ _ h0 => mq_rz rfl h0,
   fun _ _ _ => mq_al (i := 0) rfl rfl,
   fun _ _ _ => mq_il (i := 1) rfl rfl,
   fun _ _ _ _ h0 => mq_putI rfl h0,
   fun _ _ => mq_push rfl,
   fun _ _ h0 => mq_rz rfl h0⟩
theorem eX12_danger (d n : Nat) (I L : mm_I) (P : mm_P) (x0 : Option Nat) (x1 : Int) : mm_rn (d + 1) 204 [.inr (.inr x0), .inl x1] n I L P = mm_E d 204 0 [.inr (.inr x0), .inl x1] [] [] n I L P := rfl

set_option maxRecDepth 20000 in
set_option maxHeartbeats 8000000 in
theorem kX12_keep (d n : Nat) (I L : mm_I) (P : mm_P) :
  (∀ (st : List mm_V) z (l1 : mm_V), mm_E d 205 0 [(.inr (.inr z)), l1] [] st n I L P = mm_E d 205 1 [(.inr (.inr z)), l1] [] ((.inr (.inr z)) :: st) n I L P) ∧
  (∀ (lv : List mm_V) (st : List mm_V) a, (mm_ok n a 12) → mm_E d 205 1 lv [] (.inr (.inr (some a)) :: st) n I L P = mm_E d 205 4 lv [] (.inl (I a 33) :: st) n I L P) ∧
  (∀ (lv : List mm_V) (st : List mm_V), mm_E d 205 4 lv [] st n I L P = mm_E d 205 6 lv [] (.inl 40 :: st) n I L P) ∧
  (∀ (lv : List mm_V) (st : List mm_V) a b, mm_E d 205 6 lv [] (.inl b :: .inl a :: st) n I L P = if a = b then mm_E d 205 9 lv [] st n I L P else mm_E d 205 52 lv [] st n I L P) ∧
  (∀ (lv : List mm_V) (st : List mm_V), mm_E d 205 9 lv [] st n I L P = mm_E d 205 12 lv [] (.inl 211 :: st) n I L P) ∧
  (∀ (st : List mm_V) z (l0 : mm_V) (l1 : mm_V), mm_E d 205 12 [l0, l1] [] ((.inl z) :: st) n I L P = mm_E d 205 13 [l0, (.inl z)] [] st n I L P) ∧
  (∀ (lv : List mm_V) (st : List mm_V), mm_E d 205 14 lv [] st n I L P = mm_E d 205 17 lv [] (.inl 8440 :: st) n I L P) ∧
  (∀ (lv : List mm_V) (st : List mm_V) a b, mm_E d 205 17 lv [] (.inl b :: .inl a :: st) n I L P = if b ≤ a then mm_E d 205 42 lv [] st n I L P else mm_E d 205 20 lv [] st n I L P) ∧
  (∀ (st : List mm_V) z (l1 : mm_V), mm_E d 205 20 [(.inr (.inr z)), l1] [] st n I L P = mm_E d 205 21 [(.inr (.inr z)), l1] [] ((.inr (.inr z)) :: st) n I L P) ∧
  (∀ (lv : List mm_V) (st : List mm_V) a, (mm_ok n a 12) → mm_E d 205 21 lv [] (.inr (.inr (some a)) :: st) n I L P = mm_E d 205 24 lv [] (.inr (.inr (P a 32)) :: st) n I L P) ∧
  (∀ (st : List mm_V) z (l0 : mm_V), mm_E d 205 24 [l0, (.inl z)] [] st n I L P = mm_E d 205 25 [l0, (.inl z)] [] ((.inl z) :: st) n I L P) ∧
  (∀ (lv : List mm_V) (st : List mm_V), mm_E d 205 25 lv [] st n I L P = mm_E d 205 28 lv [] (.inl 211 :: st) n I L P) ∧
  (∀ (lv : List mm_V) (st : List mm_V) a b, mm_E d 205 28 lv [] (.inl b :: .inl a :: st) n I L P = mm_E d 205 29 lv [] (.inl (mm_sub a b) :: st) n I L P) ∧
  (∀ (st : List mm_V) z (l1 : mm_V), mm_E d 205 29 [(.inr (.inr z)), l1] [] st n I L P = mm_E d 205 30 [(.inr (.inr z)), l1] [] ((.inr (.inr z)) :: st) n I L P) ∧
  (∀ (lv : List mm_V) (st : List mm_V) a, (mm_ok n a 12) → mm_E d 205 30 lv [] (.inr (.inr (some a)) :: st) n I L P = mm_E d 205 33 lv [] (.inr (.inr (P a 32)) :: st) n I L P) ∧
  (∀ (st : List mm_V) z (l0 : mm_V), mm_E d 205 33 [l0, (.inl z)] [] st n I L P = mm_E d 205 34 [l0, (.inl z)] [] ((.inl z) :: st) n I L P) ∧
  (∀ (lv : List mm_V) (st : List mm_V) a i, (mm_ix n a 20 i) → mm_E d 205 34 lv [] (.inl i :: .inr (.inr (some a)) :: st) n I L P = mm_E d 205 35 lv [] (.inl (I a i.toNat) :: st) n I L P) ∧
  (∀ (lv : List mm_V) (st : List mm_V) a i z, (mm_ix n a 20 i) → mm_E d 205 35 lv [] (.inl z :: .inl i :: .inr (.inr (some a)) :: st) n I L P = mm_E d 205 36 lv [] st n (mm_ui I a i.toNat z) L P) ∧
  (∀ (st : List mm_V) z (l0 : mm_V), mm_E d 205 36 [l0, (.inl z)] [] st n I L P = mm_E d 205 39 [l0, (.inl (mm_add z 1))] [] st n I L P) ∧
  (∀ (lv : List mm_V) (st : List mm_V), mm_E d 205 39 lv [] st n I L P = mm_E d 205 13 lv [] st n I L P) ∧
  (∀ (st : List mm_V) z (l1 : mm_V), mm_E d 205 42 [(.inr (.inr z)), l1] [] st n I L P = mm_E d 205 43 [(.inr (.inr z)), l1] [] ((.inr (.inr z)) :: st) n I L P) ∧
  (∀ (lv : List mm_V) (st : List mm_V) a, mm_E d 205 43 lv [] ((.inr (.inr a)) :: st) n I L P = mm_E d 205 44 lv [] ((.inr (.inr a)) :: (.inr (.inr a)) :: st) n I L P) ∧
  (∀ (lv : List mm_V) (st : List mm_V) a, (mm_ok n a 12) → mm_E d 205 44 lv [] (.inr (.inr (some a)) :: st) n I L P = mm_E d 205 47 lv [] (.inl (I a 33) :: st) n I L P) ∧
  (∀ (lv : List mm_V) (st : List mm_V), mm_E d 205 47 lv [] st n I L P = mm_E d 205 48 lv [] (.inl 1 :: st) n I L P) ∧
  (∀ (lv : List mm_V) (st : List mm_V) a b, mm_E d 205 48 lv [] (.inl b :: .inl a :: st) n I L P = mm_E d 205 49 lv [] (.inl (mm_sub a b) :: st) n I L P) ∧
  (∀ (lv : List mm_V) (st : List mm_V) a z, (mm_ok n a 12) → mm_E d 205 49 lv [] (.inl z :: .inr (.inr (some a)) :: st) n I L P = mm_E d 205 52 lv [] st n (mm_ui I a 33 z) L P) ∧
  (∀ (lv : List mm_V) (st : List mm_V), mm_E d 205 52 lv [] st n I L P = mm_E d 205 53 lv [] (.inl 0 :: st) n I L P) ∧
  (∀ (st : List mm_V) z (l0 : mm_V) (l1 : mm_V), mm_E d 205 53 [l0, l1] [] ((.inl z) :: st) n I L P = mm_E d 205 54 [l0, (.inl z)] [] st n I L P) ∧
  (∀ (lv : List mm_V) (st : List mm_V), mm_E d 205 55 lv [] st n I L P = mm_E d 205 58 lv [] (.inl 211 :: st) n I L P) ∧
  (∀ (lv : List mm_V) (st : List mm_V) a b, mm_E d 205 58 lv [] (.inl b :: .inl a :: st) n I L P = if b ≤ a then mm_E d 205 88 lv [] st n I L P else mm_E d 205 61 lv [] st n I L P) ∧
  (∀ (st : List mm_V) z (l1 : mm_V), mm_E d 205 61 [(.inr (.inr z)), l1] [] st n I L P = mm_E d 205 62 [(.inr (.inr z)), l1] [] ((.inr (.inr z)) :: st) n I L P) ∧
  (∀ (lv : List mm_V) (st : List mm_V) a, (mm_ok n a 12) → mm_E d 205 62 lv [] (.inr (.inr (some a)) :: st) n I L P = mm_E d 205 65 lv [] (.inr (.inr (P a 32)) :: st) n I L P) ∧
  (∀ (lv : List mm_V) (st : List mm_V), mm_E d 205 65 lv [] st n I L P = mm_E d 205 68 lv [] (.inl 211 :: st) n I L P) ∧
  (∀ (st : List mm_V) z (l1 : mm_V), mm_E d 205 68 [(.inr (.inr z)), l1] [] st n I L P = mm_E d 205 69 [(.inr (.inr z)), l1] [] ((.inr (.inr z)) :: st) n I L P) ∧
  (∀ (lv : List mm_V) (st : List mm_V) a, (mm_ok n a 12) → mm_E d 205 69 lv [] (.inr (.inr (some a)) :: st) n I L P = mm_E d 205 72 lv [] (.inl (I a 33) :: st) n I L P) ∧
  (∀ (lv : List mm_V) (st : List mm_V) a b, mm_E d 205 72 lv [] (.inl b :: .inl a :: st) n I L P = mm_E d 205 73 lv [] (.inl (mm_mul a b) :: st) n I L P) ∧
  (∀ (st : List mm_V) z (l0 : mm_V), mm_E d 205 73 [l0, (.inl z)] [] st n I L P = mm_E d 205 74 [l0, (.inl z)] [] ((.inl z) :: st) n I L P) ∧
  (∀ (lv : List mm_V) (st : List mm_V) a b, mm_E d 205 74 lv [] (.inl b :: .inl a :: st) n I L P = mm_E d 205 75 lv [] (.inl (mm_add a b) :: st) n I L P) ∧
  (∀ (st : List mm_V) z (l1 : mm_V), mm_E d 205 75 [(.inr (.inr z)), l1] [] st n I L P = mm_E d 205 76 [(.inr (.inr z)), l1] [] ((.inr (.inr z)) :: st) n I L P) ∧
  (∀ (lv : List mm_V) (st : List mm_V) a, (mm_ok n a 12) → mm_E d 205 76 lv [] (.inr (.inr (some a)) :: st) n I L P = mm_E d 205 79 lv [] (.inr (.inr (P a 27)) :: st) n I L P) ∧
  (∀ (st : List mm_V) z (l0 : mm_V), mm_E d 205 79 [l0, (.inl z)] [] st n I L P = mm_E d 205 80 [l0, (.inl z)] [] ((.inl z) :: st) n I L P) ∧
  (∀ (lv : List mm_V) (st : List mm_V) a i, (mm_ix n a 20 i) → mm_E d 205 80 lv [] (.inl i :: .inr (.inr (some a)) :: st) n I L P = mm_E d 205 81 lv [] (.inl (I a i.toNat) :: st) n I L P) ∧
  (∀ (lv : List mm_V) (st : List mm_V) a i z, (mm_ix n a 20 i) → mm_E d 205 81 lv [] (.inl z :: .inl i :: .inr (.inr (some a)) :: st) n I L P = mm_E d 205 82 lv [] st n (mm_ui I a i.toNat z) L P) ∧
  (∀ (st : List mm_V) z (l0 : mm_V), mm_E d 205 82 [l0, (.inl z)] [] st n I L P = mm_E d 205 85 [l0, (.inl (mm_add z 1))] [] st n I L P) ∧
  (∀ (lv : List mm_V) (st : List mm_V), mm_E d 205 85 lv [] st n I L P = mm_E d 205 54 lv [] st n I L P) ∧
  (∀ (st : List mm_V) z (l1 : mm_V), mm_E d 205 88 [(.inr (.inr z)), l1] [] st n I L P = mm_E d 205 89 [(.inr (.inr z)), l1] [] ((.inr (.inr z)) :: st) n I L P) ∧
  (∀ (lv : List mm_V) (st : List mm_V) a, mm_E d 205 89 lv [] ((.inr (.inr a)) :: st) n I L P = mm_E d 205 90 lv [] ((.inr (.inr a)) :: (.inr (.inr a)) :: st) n I L P) ∧
  (∀ (lv : List mm_V) (st : List mm_V) a, (mm_ok n a 12) → mm_E d 205 90 lv [] (.inr (.inr (some a)) :: st) n I L P = mm_E d 205 93 lv [] (.inl (I a 33) :: st) n I L P) ∧
  (∀ (lv : List mm_V) (st : List mm_V), mm_E d 205 93 lv [] st n I L P = mm_E d 205 94 lv [] (.inl 1 :: st) n I L P) ∧
  (∀ (lv : List mm_V) (st : List mm_V) a b, mm_E d 205 94 lv [] (.inl b :: .inl a :: st) n I L P = mm_E d 205 95 lv [] (.inl (mm_add a b) :: st) n I L P) ∧
  (∀ (lv : List mm_V) (st : List mm_V) a z, (mm_ok n a 12) → mm_E d 205 95 lv [] (.inl z :: .inr (.inr (some a)) :: st) n I L P = mm_E d 205 98 lv [] st n (mm_ui I a 33 z) L P) ∧
  (∀ (lv : List mm_V), mm_E d 205 98 lv [] [] n I L P = some (none, n, I, L, P)) :=
  ⟨fun _ _ _ => mq_al (i := 0) rfl rfl,
   fun _ _ _ h0 => mq_getI rfl h0,
   fun _ _ => mq_push rfl,
   fun _ _ _ _ => mq_ic_ne rfl,
   fun _ _ => mq_push rfl,
   fun _ _ _ _ => mq_is (i := 1) rfl rfl rfl,
   fun _ _ => mq_push rfl,
   fun _ _ _ _ => mq_ic_ge rfl,
   fun _ _ _ => mq_al (i := 0) rfl rfl,
   fun _ _ _ h0 => mq_getR rfl h0,
   fun _ _ _ => mq_il (i := 1) rfl rfl,
   fun _ _ => mq_push rfl,
   fun _ _ _ _ => mq_bi rfl,
   fun _ _ _ => mq_al (i := 0) rfl rfl,
   fun _ _ _ h0 => mq_getR rfl h0,
   fun _ _ _ => mq_il (i := 1) rfl rfl,
   fun _ _ _ _ h0 => mq_iald rfl h0,
   fun _ _ _ _ _ h0 => mq_iast rfl h0,
   fun _ _ _ => mq_iinc (i := 1) rfl rfl rfl rfl,
   fun _ _ => mq_go rfl,
   fun _ _ _ => mq_al (i := 0) rfl rfl,
   fun _ _ _ => mq_dup rfl rfl,
   fun _ _ _ h0 => mq_getI rfl h0,
   fun _ _ => mq_push rfl,
   fun _ _ _ _ => mq_bi rfl,
   fun _ _ _ _ h0 => mq_putI rfl h0,
   fun _ _ => mq_push rfl,
   fun _ _ _ _ => mq_is (i := 1) rfl rfl rfl,
   fun _ _ => mq_push rfl,
   fun _ _ _ _ => mq_ic_ge rfl,
   fun _ _ _ => mq_al (i := 0) rfl rfl,
   fun _ _ _ h0 => mq_getR rfl h0,
   fun _ _ => mq_push rfl,
   fun _ _ _ => mq_al (i := 0) rfl rfl,
   fun _ _ _ h0 => mq_getI rfl h0,
   fun _ _ _ _ => mq_bi rfl,
   fun _ _ _ => mq_il (i := 1) rfl rfl,
   fun _ _ _ _ => mq_bi rfl,
   fun _ _ _ => mq_al (i := 0) rfl rfl,
   fun _ _ _ h0 => mq_getR rfl h0,
   fun _ _ _ => mq_il (i := 1) rfl rfl,
   fun _ _ _ _ h0 => mq_iald rfl h0,
   fun _ _ _ _ _ h0 => mq_iast rfl h0,
   fun _ _ _ => mq_iinc (i := 1) rfl rfl rfl rfl,
   fun _ _ => mq_go rfl,
   fun _ _ _ => mq_al (i := 0) rfl rfl,
   fun _ _ _ => mq_dup rfl rfl,
   fun _ _ _ h0 => mq_getI rfl h0,
   fun _ _ => mq_push rfl,
   fun _ _ _ _ => mq_bi rfl,
   fun _ _ _ _ h0 => mq_putI rfl h0,
   fun _ => mq_rv rfl⟩
theorem hX12_keep_13 (d n : Nat) (I L : mm_I) (P : mm_P) : ∀ (st : List mm_V) z (l0 : mm_V), mm_E d 205 13 [l0, (.inl z)] [] st n I L P = mm_E d 205 14 [l0, (.inl z)] [] ((.inl z) :: st) n I L P := fun _ _ _ => mq_il (i := 1) rfl rfl
theorem hX12_keep_54 (d n : Nat) (I L : mm_I) (P : mm_P) : ∀ (st : List mm_V) z (l0 : mm_V), mm_E d 205 54 [l0, (.inl z)] [] st n I L P = mm_E d 205 55 [l0, (.inl z)] [] ((.inl z) :: st) n I L P := fun _ _ _ => mq_il (i := 1) rfl rfl
theorem eX12_keep (d n : Nat) (I L : mm_I) (P : mm_P) (x0 : Option Nat) : mm_rn (d + 1) 205 [.inr (.inr x0)] n I L P = mm_E d 205 0 [.inr (.inr x0), mm_junk] [] [] n I L P := rfl

set_option maxRecDepth 20000 in
set_option maxHeartbeats 8000000 in
theorem kX12_isRefused (d n : Nat) (I L : mm_I) (P : mm_P) :
  (∀ (st : List mm_V) z (l0 : mm_V), mm_E d 206 0 [l0, (.inl z)] [] st n I L P = mm_E d 206 1 [l0, (.inl z)] [] ((.inl z) :: st) n I L P) ∧
  (∀ (lv : List mm_V) (st : List mm_V), mm_E d 206 1 lv [] st n I L P = mm_E d 206 2 lv [] (.inl (-1) :: st) n I L P) ∧
  (∀ (lv : List mm_V) (st : List mm_V) a b, mm_E d 206 2 lv [] (.inl b :: .inl a :: st) n I L P = if a = b then mm_E d 206 15 lv [] st n I L P else mm_E d 206 5 lv [] st n I L P) ∧
  (∀ (st : List mm_V) z (l1 : mm_V), mm_E d 206 5 [(.inr (.inr z)), l1] [] st n I L P = mm_E d 206 6 [(.inr (.inr z)), l1] [] ((.inr (.inr z)) :: st) n I L P) ∧
  (∀ (lv : List mm_V) (st : List mm_V) a, (mm_ok n a 12) → mm_E d 206 6 lv [] (.inr (.inr (some a)) :: st) n I L P = mm_E d 206 9 lv [] (.inr (.inr (P a 28)) :: st) n I L P) ∧
  (∀ (st : List mm_V) z (l0 : mm_V), mm_E d 206 9 [l0, (.inl z)] [] st n I L P = mm_E d 206 10 [l0, (.inl z)] [] ((.inl z) :: st) n I L P) ∧
  (∀ (lv : List mm_V) (st : List mm_V) a b, mm_E d 206 10 lv [] ((.inl a) :: (.inr (.inr b)) :: st) n I L P = mm_E d 206 11 lv [] ((.inl a) :: (.inr (.inr b)) :: (.inl a) :: (.inr (.inr b)) :: st) n I L P) ∧
  (∀ (lv : List mm_V) (st : List mm_V) a i, (mm_ix n a 20 i) → mm_E d 206 11 lv [] (.inl i :: .inr (.inr (some a)) :: st) n I L P = mm_E d 206 12 lv [] (.inl (I a i.toNat) :: st) n I L P) ∧
  (∀ (lv : List mm_V) (st : List mm_V), mm_E d 206 12 lv [] st n I L P = mm_E d 206 13 lv [] (.inl 1 :: st) n I L P) ∧
  (∀ (lv : List mm_V) (st : List mm_V) a b, mm_E d 206 13 lv [] (.inl b :: .inl a :: st) n I L P = mm_E d 206 14 lv [] (.inl (mm_add a b) :: st) n I L P) ∧
  (∀ (lv : List mm_V) (st : List mm_V) a i z, (mm_ix n a 20 i) → mm_E d 206 14 lv [] (.inl z :: .inl i :: .inr (.inr (some a)) :: st) n I L P = mm_E d 206 15 lv [] st n (mm_ui I a i.toNat z) L P) ∧
  (∀ (st : List mm_V) z (l0 : mm_V), mm_E d 206 15 [l0, (.inl z)] [] st n I L P = mm_E d 206 16 [l0, (.inl z)] [] ((.inl z) :: st) n I L P) ∧
  (∀ (lv : List mm_V) (st : List mm_V), mm_E d 206 16 lv [] st n I L P = mm_E d 206 17 lv [] (.inl (-1) :: st) n I L P) ∧
  (∀ (lv : List mm_V) (st : List mm_V) a b, mm_E d 206 17 lv [] (.inl b :: .inl a :: st) n I L P = if a = b then mm_E d 206 24 lv [] st n I L P else mm_E d 206 20 lv [] st n I L P) ∧
  (∀ (lv : List mm_V) (st : List mm_V), mm_E d 206 20 lv [] st n I L P = mm_E d 206 21 lv [] (.inl 1 :: st) n I L P) ∧
  (∀ (lv : List mm_V) (st : List mm_V), mm_E d 206 21 lv [] st n I L P = mm_E d 206 25 lv [] st n I L P) ∧
  (∀ (lv : List mm_V) (st : List mm_V), mm_E d 206 24 lv [] st n I L P = mm_E d 206 25 lv [] (.inl 0 :: st) n I L P) ∧
  (∀ (lv : List mm_V) z, (0 ≤ z ∧ z < 2) → mm_E d 206 25 lv [] [.inl z] n I L P = some (some (.inl z), n, I, L, P)) :=
  ⟨fun _ _ _ => mq_il (i := 1) rfl rfl,
   fun _ _ => mq_push rfl,
   fun _ _ _ _ => mq_ic_eq rfl,
   fun _ _ _ => mq_al (i := 0) rfl rfl,
   fun _ _ _ h0 => mq_getR rfl h0,
   fun _ _ _ => mq_il (i := 1) rfl rfl,
   fun _ _ _ _ => mq_dup2 rfl rfl rfl,
   fun _ _ _ _ h0 => mq_iald rfl h0,
   fun _ _ => mq_push rfl,
   fun _ _ _ _ => mq_bi rfl,
   fun _ _ _ _ _ h0 => mq_iast rfl h0,
   fun _ _ _ => mq_il (i := 1) rfl rfl,
   fun _ _ => mq_push rfl,
   fun _ _ _ _ => mq_ic_eq rfl,
   fun _ _ => mq_push rfl,
   fun _ _ => mq_go rfl,
   fun _ _ => mq_push rfl,
   fun _ _ h0 => mq_rz rfl h0⟩
theorem eX12_isRefused (d n : Nat) (I L : mm_I) (P : mm_P) (x0 : Option Nat) (x1 : Int) : mm_rn (d + 1) 206 [.inr (.inr x0), .inl x1] n I L P = mm_E d 206 0 [.inr (.inr x0), .inl x1] [] [] n I L P := rfl

set_option maxRecDepth 20000 in
set_option maxHeartbeats 8000000 in
theorem kX12_areHours (d n : Nat) (I L : mm_I) (P : mm_P) :
  (∀ (st : List mm_V) z (l0 : mm_V), mm_E d 207 0 [l0, (.inl z)] [] st n I L P = mm_E d 207 1 [l0, (.inl z)] [] ((.inl z) :: st) n I L P) ∧
  (∀ (lv : List mm_V) (st : List mm_V), mm_E d 207 1 lv [] st n I L P = mm_E d 207 2 lv [] (.inl 1 :: st) n I L P) ∧
  (∀ (lv : List mm_V) (st : List mm_V), mm_E d 207 2 lv [] st n I L P = mm_E d 207 4 lv [] (.inl 60 :: st) n I L P) ∧
  (∀ (lv : List mm_V) x0 x1 x2, mm_E d 207 4 lv [] (.inl x2 :: .inl x1 :: .inl x0 :: []) n I L P = mm_kr d 207 7 lv [] [] n (mm_rn d 145 [.inl x0, .inl x1, .inl x2] n I L P)) ∧
  (∀ (lv : List mm_V) (st : List mm_V) a, mm_E d 207 7 lv [] (.inl a :: st) n I L P = if a = 0 then mm_E d 207 29 lv [] st n I L P else mm_E d 207 10 lv [] st n I L P) ∧
  (∀ (st : List mm_V) z (l1 : mm_V), mm_E d 207 10 [(.inr (.inr z)), l1] [] st n I L P = mm_E d 207 11 [(.inr (.inr z)), l1] [] ((.inr (.inr z)) :: st) n I L P) ∧
  (∀ (lv : List mm_V) (st : List mm_V) a, (mm_ok n a 12) → mm_E d 207 11 lv [] (.inr (.inr (some a)) :: st) n I L P = mm_E d 207 14 lv [] (.inr (.inr (P a 27)) :: st) n I L P) ∧
  (∀ (lv : List mm_V) (st : List mm_V), mm_E d 207 14 lv [] st n I L P = mm_E d 207 16 lv [] (.inl 29 :: st) n I L P) ∧
  (∀ (lv : List mm_V) (st : List mm_V) a i, (mm_ix n a 20 i) → mm_E d 207 16 lv [] (.inl i :: .inr (.inr (some a)) :: st) n I L P = mm_E d 207 17 lv [] (.inl (I a i.toNat) :: st) n I L P) ∧
  (∀ (st : List mm_V) z (l0 : mm_V), mm_E d 207 17 [l0, (.inl z)] [] st n I L P = mm_E d 207 18 [l0, (.inl z)] [] ((.inl z) :: st) n I L P) ∧
  (∀ (lv : List mm_V) (st : List mm_V) a b, mm_E d 207 18 lv [] (.inl b :: .inl a :: st) n I L P = mm_E d 207 19 lv [] (.inl (mm_add a b) :: st) n I L P) ∧
  (∀ (lv : List mm_V) (st : List mm_V), mm_E d 207 19 lv [] st n I L P = mm_E d 207 22 lv [] (.inl 9999 :: st) n I L P) ∧
  (∀ (lv : List mm_V) (st : List mm_V) a b, mm_E d 207 22 lv [] (.inl b :: .inl a :: st) n I L P = if b < a then mm_E d 207 29 lv [] st n I L P else mm_E d 207 25 lv [] st n I L P) ∧
  (∀ (lv : List mm_V) (st : List mm_V), mm_E d 207 25 lv [] st n I L P = mm_E d 207 26 lv [] (.inl 1 :: st) n I L P) ∧
  (∀ (lv : List mm_V) (st : List mm_V), mm_E d 207 26 lv [] st n I L P = mm_E d 207 30 lv [] st n I L P) ∧
  (∀ (lv : List mm_V) (st : List mm_V), mm_E d 207 29 lv [] st n I L P = mm_E d 207 30 lv [] (.inl 0 :: st) n I L P) ∧
  (∀ (lv : List mm_V) z, (0 ≤ z ∧ z < 2) → mm_E d 207 30 lv [] [.inl z] n I L P = some (some (.inl z), n, I, L, P)) :=
  ⟨fun _ _ _ => mq_il (i := 1) rfl rfl,
   fun _ _ => mq_push rfl,
   fun _ _ => mq_push rfl,
   fun _ _ _ _ => mq_cSr (na := 3) rfl (Nat.le_of_ble_eq_true rfl) (Nat.le_of_ble_eq_true rfl),
   fun _ _ _ => mq_if_eq rfl,
   fun _ _ _ => mq_al (i := 0) rfl rfl,
   fun _ _ _ h0 => mq_getR rfl h0,
   fun _ _ => mq_push rfl,
   fun _ _ _ _ h0 => mq_iald rfl h0,
   fun _ _ _ => mq_il (i := 1) rfl rfl,
   fun _ _ _ _ => mq_bi rfl,
   fun _ _ => mq_push rfl,
   fun _ _ _ _ => mq_ic_gt rfl,
   fun _ _ => mq_push rfl,
   fun _ _ => mq_go rfl,
   fun _ _ => mq_push rfl,
   fun _ _ h0 => mq_rz rfl h0⟩
theorem eX12_areHours (d n : Nat) (I L : mm_I) (P : mm_P) (x0 : Option Nat) (x1 : Int) : mm_rn (d + 1) 207 [.inr (.inr x0), .inl x1] n I L P = mm_E d 207 0 [.inr (.inr x0), .inl x1] [] [] n I L P := rfl

set_option maxRecDepth 20000 in
set_option maxHeartbeats 8000000 in
theorem kX12_hours (d n : Nat) (I L : mm_I) (P : mm_P) :
  (∀ (st : List mm_V) z (l1 : mm_V) (l2 : mm_V), mm_E d 208 0 [(.inr (.inr z)), l1, l2] [] st n I L P = mm_E d 208 1 [(.inr (.inr z)), l1, l2] [] ((.inr (.inr z)) :: st) n I L P) ∧
  (∀ (st : List mm_V) z (l1 : mm_V) (l2 : mm_V), mm_E d 208 1 [(.inr (.inr z)), l1, l2] [] st n I L P = mm_E d 208 2 [(.inr (.inr z)), l1, l2] [] ((.inr (.inr z)) :: st) n I L P) ∧
  (∀ (lv : List mm_V) (st : List mm_V) a, (mm_ok n a 12) → mm_E d 208 2 lv [] (.inr (.inr (some a)) :: st) n I L P = mm_E d 208 5 lv [] (.inl (I a 26) :: st) n I L P) ∧
  (∀ (lv : List mm_V) (st : List mm_V) a, mm_E d 208 5 lv [] (.inl a :: st) n I L P = if a = 0 then mm_E d 208 8 lv [] st n I L P else mm_E d 208 12 lv [] st n I L P) ∧
  (∀ (lv : List mm_V) (st : List mm_V), mm_E d 208 8 lv [] st n I L P = mm_E d 208 9 lv [] (.inl 0 :: st) n I L P) ∧
  (∀ (lv : List mm_V) (st : List mm_V), mm_E d 208 9 lv [] st n I L P = mm_E d 208 39 lv [] st n I L P) ∧
  (∀ (st : List mm_V) z (l0 : mm_V) (l2 : mm_V), mm_E d 208 12 [l0, (.inl z), l2] [] st n I L P = mm_E d 208 13 [l0, (.inl z), l2] [] ((.inl z) :: st) n I L P) ∧
  (∀ (lv : List mm_V) (st : List mm_V), mm_E d 208 13 lv [] st n I L P = mm_E d 208 14 lv [] (.inl 1 :: st) n I L P) ∧
  (∀ (lv : List mm_V) (st : List mm_V), mm_E d 208 14 lv [] st n I L P = mm_E d 208 16 lv [] (.inl 60 :: st) n I L P) ∧
  (∀ (lv : List mm_V) x0 x1 x2 w0, mm_E d 208 16 lv [] (.inl x2 :: .inl x1 :: .inl x0 :: [.inr (.inr w0)]) n I L P = mm_kr d 208 19 lv [] [.inr (.inr w0)] n (mm_rn d 145 [.inl x0, .inl x1, .inl x2] n I L P)) ∧
  (∀ (lv : List mm_V) (st : List mm_V) a, mm_E d 208 19 lv [] (.inl a :: st) n I L P = if a = 0 then mm_E d 208 22 lv [] st n I L P else mm_E d 208 26 lv [] st n I L P) ∧
  (∀ (lv : List mm_V) (st : List mm_V), mm_E d 208 22 lv [] st n I L P = mm_E d 208 23 lv [] (.inl 1 :: st) n I L P) ∧
  (∀ (lv : List mm_V) (st : List mm_V), mm_E d 208 23 lv [] st n I L P = mm_E d 208 39 lv [] st n I L P) ∧
  (∀ (st : List mm_V) z (l1 : mm_V) (l2 : mm_V), mm_E d 208 26 [(.inr (.inr z)), l1, l2] [] st n I L P = mm_E d 208 27 [(.inr (.inr z)), l1, l2] [] ((.inr (.inr z)) :: st) n I L P) ∧
  (∀ (st : List mm_V) z (l0 : mm_V) (l2 : mm_V), mm_E d 208 27 [l0, (.inl z), l2] [] st n I L P = mm_E d 208 28 [l0, (.inl z), l2] [] ((.inl z) :: st) n I L P) ∧
  (∀ (lv : List mm_V) a x0 w0, (mm_ok n a 12) → mm_E d 208 28 lv [] (.inl x0 :: .inr (.inr (some a)) :: [.inr (.inr w0)]) n I L P = mm_kr d 208 31 lv [] [.inr (.inr w0)] n (mm_rn d 207 [.inr (.inr (some a)), .inl x0] n I L P)) ∧
  (∀ (lv : List mm_V) (st : List mm_V) a, mm_E d 208 31 lv [] (.inl a :: st) n I L P = if a = 0 then mm_E d 208 34 lv [] st n I L P else mm_E d 208 38 lv [] st n I L P) ∧
  (∀ (lv : List mm_V) (st : List mm_V), mm_E d 208 34 lv [] st n I L P = mm_E d 208 35 lv [] (.inl 4 :: st) n I L P) ∧
  (∀ (lv : List mm_V) (st : List mm_V), mm_E d 208 35 lv [] st n I L P = mm_E d 208 39 lv [] st n I L P) ∧
  (∀ (lv : List mm_V) (st : List mm_V), mm_E d 208 38 lv [] st n I L P = mm_E d 208 39 lv [] (.inl (-1) :: st) n I L P) ∧
  (∀ (lv : List mm_V) a x0, (mm_ok n a 12) → mm_E d 208 39 lv [] (.inl x0 :: .inr (.inr (some a)) :: []) n I L P = mm_kr d 208 42 lv [] [] n (mm_rn d 206 [.inr (.inr (some a)), .inl x0] n I L P)) ∧
  (∀ (lv : List mm_V) (st : List mm_V) a, mm_E d 208 42 lv [] (.inl a :: st) n I L P = if a = 0 then mm_E d 208 47 lv [] st n I L P else mm_E d 208 45 lv [] st n I L P) ∧
  (∀ (lv : List mm_V) (st : List mm_V), mm_E d 208 45 lv [] st n I L P = mm_E d 208 46 lv [] (.inl (-1) :: st) n I L P) ∧
  (∀ (lv : List mm_V) z, mm_E d 208 46 lv [] [.inl z] n I L P = some (some (.inl z), n, I, L, P)) ∧
  (∀ (lv : List mm_V) (st : List mm_V), mm_E d 208 47 lv [] st n I L P = mm_E d 208 48 lv [] (.inl 0 :: st) n I L P) ∧
  (∀ (st : List mm_V) z (l0 : mm_V) (l1 : mm_V) (l2 : mm_V), mm_E d 208 48 [l0, l1, l2] [] ((.inl z) :: st) n I L P = mm_E d 208 49 [l0, l1, (.inl z)] [] st n I L P) ∧
  (∀ (st : List mm_V) z (l0 : mm_V) (l2 : mm_V), mm_E d 208 50 [l0, (.inl z), l2] [] st n I L P = mm_E d 208 51 [l0, (.inl z), l2] [] ((.inl z) :: st) n I L P) ∧
  (∀ (lv : List mm_V) (st : List mm_V) a b, mm_E d 208 51 lv [] (.inl b :: .inl a :: st) n I L P = if b ≤ a then mm_E d 208 68 lv [] st n I L P else mm_E d 208 54 lv [] st n I L P) ∧
  (∀ (st : List mm_V) z (l1 : mm_V) (l2 : mm_V), mm_E d 208 54 [(.inr (.inr z)), l1, l2] [] st n I L P = mm_E d 208 55 [(.inr (.inr z)), l1, l2] [] ((.inr (.inr z)) :: st) n I L P) ∧
  (∀ (lv : List mm_V) a, (mm_ok n a 12) → mm_E d 208 55 lv [] (.inr (.inr (some a)) :: []) n I L P = mm_kv d 208 58 lv [] [] n (mm_rn d 205 [.inr (.inr (some a))] n I L P)) ∧
  (∀ (st : List mm_V) z (l1 : mm_V) (l2 : mm_V), mm_E d 208 58 [(.inr (.inr z)), l1, l2] [] st n I L P = mm_E d 208 59 [(.inr (.inr z)), l1, l2] [] ((.inr (.inr z)) :: st) n I L P) ∧
  (∀ (lv : List mm_V) a, (mm_ok n a 12) → mm_E d 208 59 lv [] (.inr (.inr (some a)) :: []) n I L P = mm_kv d 208 62 lv [] [] n (mm_rn d 199 [.inr (.inr (some a))] n I L P)) ∧
  (∀ (st : List mm_V) z (l0 : mm_V) (l1 : mm_V), mm_E d 208 62 [l0, l1, (.inl z)] [] st n I L P = mm_E d 208 65 [l0, l1, (.inl (mm_add z 1))] [] st n I L P) ∧
  (∀ (lv : List mm_V) (st : List mm_V), mm_E d 208 65 lv [] st n I L P = mm_E d 208 49 lv [] st n I L P) ∧
  (∀ (st : List mm_V) z (l1 : mm_V) (l2 : mm_V), mm_E d 208 68 [(.inr (.inr z)), l1, l2] [] st n I L P = mm_E d 208 69 [(.inr (.inr z)), l1, l2] [] ((.inr (.inr z)) :: st) n I L P) ∧
  (∀ (lv : List mm_V) (st : List mm_V) a, (mm_ok n a 12) → mm_E d 208 69 lv [] (.inr (.inr (some a)) :: st) n I L P = mm_E d 208 72 lv [] (.inr (.inr (P a 27)) :: st) n I L P) ∧
  (∀ (lv : List mm_V) (st : List mm_V), mm_E d 208 72 lv [] st n I L P = mm_E d 208 74 lv [] (.inl 29 :: st) n I L P) ∧
  (∀ (lv : List mm_V) (st : List mm_V) a i, (mm_ix n a 20 i) → mm_E d 208 74 lv [] (.inl i :: .inr (.inr (some a)) :: st) n I L P = mm_E d 208 75 lv [] (.inl (I a i.toNat) :: st) n I L P) ∧
  (∀ (lv : List mm_V) z, mm_E d 208 75 lv [] [.inl z] n I L P = some (some (.inl z), n, I, L, P)) :=
  ⟨fun _ _ _ _ => mq_al (i := 0) rfl rfl,
   fun _ _ _ _ => mq_al (i := 0) rfl rfl,
   fun _ _ _ h0 => mq_getI rfl h0,
   fun _ _ _ => mq_if_ne rfl,
   fun _ _ => mq_push rfl,
   fun _ _ => mq_go rfl,
   fun _ _ _ _ => mq_il (i := 1) rfl rfl,
   fun _ _ => mq_push rfl,
   fun _ _ => mq_push rfl,
   fun _ _ _ _ _ => mq_cSr (na := 3) rfl (Nat.le_of_ble_eq_true rfl) (Nat.le_of_ble_eq_true rfl),
   fun _ _ _ => mq_if_ne rfl,
   fun _ _ => mq_push rfl,
   fun _ _ => mq_go rfl,
   fun _ _ _ _ => mq_al (i := 0) rfl rfl,
   fun _ _ _ _ => mq_il (i := 1) rfl rfl,
   fun _ _ _ _ h0 => mq_cVr (na := 1) rfl rfl (Nat.le_of_ble_eq_true rfl) (Nat.le_of_ble_eq_true rfl) h0,
   fun _ _ _ => mq_if_ne rfl,
   fun _ _ => mq_push rfl,
   fun _ _ => mq_go rfl,
   fun _ _ => mq_push rfl,
   fun _ _ _ h0 => mq_cVr (na := 1) rfl rfl (Nat.le_of_ble_eq_true rfl) (Nat.le_of_ble_eq_true rfl) h0,
   fun _ _ _ => mq_if_eq rfl,
   fun _ _ => mq_push rfl,
   fun _ _ => mq_ri rfl,
   fun _ _ => mq_push rfl,
   fun _ _ _ _ _ => mq_is (i := 2) rfl rfl rfl,
   fun _ _ _ _ => mq_il (i := 1) rfl rfl,
   fun _ _ _ _ => mq_ic_ge rfl,
   fun _ _ _ _ => mq_al (i := 0) rfl rfl,
   fun _ _ h0 => mq_cVv (na := 0) rfl rfl (Nat.le_of_ble_eq_true rfl) (Nat.le_of_ble_eq_true rfl) h0,
   fun _ _ _ _ => mq_al (i := 0) rfl rfl,
   fun _ _ h0 => mq_cVv (na := 0) rfl rfl (Nat.le_of_ble_eq_true rfl) (Nat.le_of_ble_eq_true rfl) h0,
   fun _ _ _ _ => mq_iinc (i := 2) rfl rfl rfl rfl,
   fun _ _ => mq_go rfl,
   fun _ _ _ _ => mq_al (i := 0) rfl rfl,
   fun _ _ _ h0 => mq_getR rfl h0,
   fun _ _ => mq_push rfl,
   fun _ _ _ _ h0 => mq_iald rfl h0,
   fun _ _ => mq_ri rfl⟩
theorem hX12_hours_49 (d n : Nat) (I L : mm_I) (P : mm_P) : ∀ (st : List mm_V) z (l0 : mm_V) (l1 : mm_V), mm_E d 208 49 [l0, l1, (.inl z)] [] st n I L P = mm_E d 208 50 [l0, l1, (.inl z)] [] ((.inl z) :: st) n I L P := fun _ _ _ _ => mq_il (i := 2) rfl rfl
theorem eX12_hours (d n : Nat) (I L : mm_I) (P : mm_P) (x0 : Option Nat) (x1 : Int) : mm_rn (d + 1) 208 [.inr (.inr x0), .inl x1] n I L P = mm_E d 208 0 [.inr (.inr x0), .inl x1, mm_junk] [] [] n I L P := rfl

set_option maxRecDepth 20000 in
set_option maxHeartbeats 8000000 in
theorem kX12_walk (d n : Nat) (I L : mm_I) (P : mm_P) :
  (∀ (st : List mm_V) z (l1 : mm_V), mm_E d 209 0 [(.inr (.inr z)), l1] [] st n I L P = mm_E d 209 1 [(.inr (.inr z)), l1] [] ((.inr (.inr z)) :: st) n I L P) ∧
  (∀ (st : List mm_V) z (l1 : mm_V), mm_E d 209 1 [(.inr (.inr z)), l1] [] st n I L P = mm_E d 209 2 [(.inr (.inr z)), l1] [] ((.inr (.inr z)) :: st) n I L P) ∧
  (∀ (st : List mm_V) z (l0 : mm_V), mm_E d 209 2 [l0, (.inl z)] [] st n I L P = mm_E d 209 3 [l0, (.inl z)] [] ((.inl z) :: st) n I L P) ∧
  (∀ (lv : List mm_V) a x0 w0, (mm_ok n a 12) → mm_E d 209 3 lv [] (.inl x0 :: .inr (.inr (some a)) :: [.inr (.inr w0)]) n I L P = mm_kr d 209 6 lv [] [.inr (.inr w0)] n (mm_rn d 191 [.inr (.inr (some a)), .inl x0] n I L P)) ∧
  (∀ (lv : List mm_V) (st : List mm_V) a, mm_E d 209 6 lv [] (.inl a :: st) n I L P = if a = 0 then mm_E d 209 9 lv [] st n I L P else mm_E d 209 13 lv [] st n I L P) ∧
  (∀ (lv : List mm_V) (st : List mm_V), mm_E d 209 9 lv [] st n I L P = mm_E d 209 10 lv [] (.inl 0 :: st) n I L P) ∧
  (∀ (lv : List mm_V) (st : List mm_V), mm_E d 209 10 lv [] st n I L P = mm_E d 209 51 lv [] st n I L P) ∧
  (∀ (st : List mm_V) z (l1 : mm_V), mm_E d 209 13 [(.inr (.inr z)), l1] [] st n I L P = mm_E d 209 14 [(.inr (.inr z)), l1] [] ((.inr (.inr z)) :: st) n I L P) ∧
  (∀ (lv : List mm_V) (st : List mm_V) a, (mm_ok n a 12) → mm_E d 209 14 lv [] (.inr (.inr (some a)) :: st) n I L P = mm_E d 209 17 lv [] (.inr (.inr (P a 24)) :: st) n I L P) ∧
  (∀ (st : List mm_V) z (l1 : mm_V), mm_E d 209 17 [(.inr (.inr z)), l1] [] st n I L P = mm_E d 209 18 [(.inr (.inr z)), l1] [] ((.inr (.inr z)) :: st) n I L P) ∧
  (∀ (lv : List mm_V) (st : List mm_V) a, (mm_ok n a 12) → mm_E d 209 18 lv [] (.inr (.inr (some a)) :: st) n I L P = mm_E d 209 21 lv [] (.inr (.inr (P a 27)) :: st) n I L P) ∧
  (∀ (lv : List mm_V) (st : List mm_V), mm_E d 209 21 lv [] st n I L P = mm_E d 209 23 lv [] (.inl 24 :: st) n I L P) ∧
  (∀ (lv : List mm_V) (st : List mm_V) a i, (mm_ix n a 20 i) → mm_E d 209 23 lv [] (.inl i :: .inr (.inr (some a)) :: st) n I L P = mm_E d 209 24 lv [] (.inl (I a i.toNat) :: st) n I L P) ∧
  (∀ (lv : List mm_V) (st : List mm_V) a i, (mm_ix n a 20 i) → mm_E d 209 24 lv [] (.inl i :: .inr (.inr (some a)) :: st) n I L P = mm_E d 209 25 lv [] (.inl (I a i.toNat) :: st) n I L P) ∧
  (∀ (st : List mm_V) z (l0 : mm_V), mm_E d 209 25 [l0, (.inl z)] [] st n I L P = mm_E d 209 26 [l0, (.inl z)] [] ((.inl z) :: st) n I L P) ∧
  (∀ (lv : List mm_V) x0 x1 w0, mm_E d 209 26 lv [] (.inl x1 :: .inl x0 :: [.inr (.inr w0)]) n I L P = mm_kr d 209 29 lv [] [.inr (.inr w0)] n (mm_rn d 146 [.inl x0, .inl x1] n I L P)) ∧
  (∀ (lv : List mm_V) (st : List mm_V) a, mm_E d 209 29 lv [] (.inl a :: st) n I L P = if a = 0 then mm_E d 209 32 lv [] st n I L P else mm_E d 209 36 lv [] st n I L P) ∧
  (∀ (lv : List mm_V) (st : List mm_V), mm_E d 209 32 lv [] st n I L P = mm_E d 209 33 lv [] (.inl 2 :: st) n I L P) ∧
  (∀ (lv : List mm_V) (st : List mm_V), mm_E d 209 33 lv [] st n I L P = mm_E d 209 51 lv [] st n I L P) ∧
  (∀ (st : List mm_V) z (l1 : mm_V), mm_E d 209 36 [(.inr (.inr z)), l1] [] st n I L P = mm_E d 209 37 [(.inr (.inr z)), l1] [] ((.inr (.inr z)) :: st) n I L P) ∧
  (∀ (lv : List mm_V) (st : List mm_V) a, (mm_ok n a 12) → mm_E d 209 37 lv [] (.inr (.inr (some a)) :: st) n I L P = mm_E d 209 40 lv [] (.inr (.inr (P a 27)) :: st) n I L P) ∧
  (∀ (lv : List mm_V) (st : List mm_V), mm_E d 209 40 lv [] st n I L P = mm_E d 209 42 lv [] (.inl 25 :: st) n I L P) ∧
  (∀ (lv : List mm_V) (st : List mm_V) a i, (mm_ix n a 20 i) → mm_E d 209 42 lv [] (.inl i :: .inr (.inr (some a)) :: st) n I L P = mm_E d 209 43 lv [] (.inl (I a i.toNat) :: st) n I L P) ∧
  (∀ (lv : List mm_V) (st : List mm_V) a, mm_E d 209 43 lv [] (.inl a :: st) n I L P = if a = 0 then mm_E d 209 46 lv [] st n I L P else mm_E d 209 50 lv [] st n I L P) ∧
  (∀ (lv : List mm_V) (st : List mm_V), mm_E d 209 46 lv [] st n I L P = mm_E d 209 47 lv [] (.inl 3 :: st) n I L P) ∧
  (∀ (lv : List mm_V) (st : List mm_V), mm_E d 209 47 lv [] st n I L P = mm_E d 209 51 lv [] st n I L P) ∧
  (∀ (lv : List mm_V) (st : List mm_V), mm_E d 209 50 lv [] st n I L P = mm_E d 209 51 lv [] (.inl (-1) :: st) n I L P) ∧
  (∀ (lv : List mm_V) a x0, (mm_ok n a 12) → mm_E d 209 51 lv [] (.inl x0 :: .inr (.inr (some a)) :: []) n I L P = mm_kr d 209 54 lv [] [] n (mm_rn d 206 [.inr (.inr (some a)), .inl x0] n I L P)) ∧
  (∀ (lv : List mm_V) (st : List mm_V) a, mm_E d 209 54 lv [] (.inl a :: st) n I L P = if a = 0 then mm_E d 209 59 lv [] st n I L P else mm_E d 209 57 lv [] st n I L P) ∧
  (∀ (lv : List mm_V) (st : List mm_V), mm_E d 209 57 lv [] st n I L P = mm_E d 209 58 lv [] (.inl (-1) :: st) n I L P) ∧
  (∀ (lv : List mm_V) z, mm_E d 209 58 lv [] [.inl z] n I L P = some (some (.inl z), n, I, L, P)) ∧
  (∀ (st : List mm_V) z (l1 : mm_V), mm_E d 209 59 [(.inr (.inr z)), l1] [] st n I L P = mm_E d 209 60 [(.inr (.inr z)), l1] [] ((.inr (.inr z)) :: st) n I L P) ∧
  (∀ (lv : List mm_V) a, (mm_ok n a 12) → mm_E d 209 60 lv [] (.inr (.inr (some a)) :: []) n I L P = mm_kv d 209 63 lv [] [] n (mm_rn d 205 [.inr (.inr (some a))] n I L P)) ∧
  (∀ (st : List mm_V) z (l1 : mm_V), mm_E d 209 63 [(.inr (.inr z)), l1] [] st n I L P = mm_E d 209 64 [(.inr (.inr z)), l1] [] ((.inr (.inr z)) :: st) n I L P) ∧
  (∀ (lv : List mm_V) (st : List mm_V) a, (mm_ok n a 12) → mm_E d 209 64 lv [] (.inr (.inr (some a)) :: st) n I L P = mm_E d 209 67 lv [] (.inr (.inr (P a 27)) :: st) n I L P) ∧
  (∀ (lv : List mm_V) (st : List mm_V), mm_E d 209 67 lv [] st n I L P = mm_E d 209 69 lv [] (.inl 24 :: st) n I L P) ∧
  (∀ (st : List mm_V) z (l0 : mm_V), mm_E d 209 69 [l0, (.inl z)] [] st n I L P = mm_E d 209 70 [l0, (.inl z)] [] ((.inl z) :: st) n I L P) ∧
  (∀ (lv : List mm_V) (st : List mm_V) a i z, (mm_ix n a 20 i) → mm_E d 209 70 lv [] (.inl z :: .inl i :: .inr (.inr (some a)) :: st) n I L P = mm_E d 209 71 lv [] st n (mm_ui I a i.toNat z) L P) ∧
  (∀ (st : List mm_V) z (l1 : mm_V), mm_E d 209 71 [(.inr (.inr z)), l1] [] st n I L P = mm_E d 209 72 [(.inr (.inr z)), l1] [] ((.inr (.inr z)) :: st) n I L P) ∧
  (∀ (lv : List mm_V) (st : List mm_V) a, (mm_ok n a 12) → mm_E d 209 72 lv [] (.inr (.inr (some a)) :: st) n I L P = mm_E d 209 75 lv [] (.inr (.inr (P a 27)) :: st) n I L P) ∧
  (∀ (lv : List mm_V) (st : List mm_V), mm_E d 209 75 lv [] st n I L P = mm_E d 209 77 lv [] (.inl 25 :: st) n I L P) ∧
  (∀ (lv : List mm_V) (st : List mm_V) a b, mm_E d 209 77 lv [] ((.inl a) :: (.inr (.inr b)) :: st) n I L P = mm_E d 209 78 lv [] ((.inl a) :: (.inr (.inr b)) :: (.inl a) :: (.inr (.inr b)) :: st) n I L P) ∧
  (∀ (lv : List mm_V) (st : List mm_V) a i, (mm_ix n a 20 i) → mm_E d 209 78 lv [] (.inl i :: .inr (.inr (some a)) :: st) n I L P = mm_E d 209 79 lv [] (.inl (I a i.toNat) :: st) n I L P) ∧
  (∀ (lv : List mm_V) (st : List mm_V), mm_E d 209 79 lv [] st n I L P = mm_E d 209 80 lv [] (.inl 1 :: st) n I L P) ∧
  (∀ (lv : List mm_V) (st : List mm_V) a b, mm_E d 209 80 lv [] (.inl b :: .inl a :: st) n I L P = mm_E d 209 81 lv [] (.inl (mm_sub a b) :: st) n I L P) ∧
  (∀ (lv : List mm_V) (st : List mm_V) a i z, (mm_ix n a 20 i) → mm_E d 209 81 lv [] (.inl z :: .inl i :: .inr (.inr (some a)) :: st) n I L P = mm_E d 209 82 lv [] st n (mm_ui I a i.toNat z) L P) ∧
  (∀ (st : List mm_V) z (l1 : mm_V), mm_E d 209 82 [(.inr (.inr z)), l1] [] st n I L P = mm_E d 209 83 [(.inr (.inr z)), l1] [] ((.inr (.inr z)) :: st) n I L P) ∧
  (∀ (lv : List mm_V) (st : List mm_V) a, (mm_ok n a 12) → mm_E d 209 83 lv [] (.inr (.inr (some a)) :: st) n I L P = mm_E d 209 86 lv [] (.inr (.inr (P a 27)) :: st) n I L P) ∧
  (∀ (lv : List mm_V) (st : List mm_V), mm_E d 209 86 lv [] st n I L P = mm_E d 209 88 lv [] (.inl 25 :: st) n I L P) ∧
  (∀ (lv : List mm_V) (st : List mm_V) a i, (mm_ix n a 20 i) → mm_E d 209 88 lv [] (.inl i :: .inr (.inr (some a)) :: st) n I L P = mm_E d 209 89 lv [] (.inl (I a i.toNat) :: st) n I L P) ∧
  (∀ (lv : List mm_V) z, mm_E d 209 89 lv [] [.inl z] n I L P = some (some (.inl z), n, I, L, P)) :=
  ⟨fun _ _ _ => mq_al (i := 0) rfl rfl,
   fun _ _ _ => mq_al (i := 0) rfl rfl,
   fun _ _ _ => mq_il (i := 1) rfl rfl,
   fun _ _ _ _ h0 => mq_cVr (na := 1) rfl rfl (Nat.le_of_ble_eq_true rfl) (Nat.le_of_ble_eq_true rfl) h0,
   fun _ _ _ => mq_if_ne rfl,
   fun _ _ => mq_push rfl,
   fun _ _ => mq_go rfl,
   fun _ _ _ => mq_al (i := 0) rfl rfl,
   fun _ _ _ h0 => mq_getR rfl h0,
   fun _ _ _ => mq_al (i := 0) rfl rfl,
   fun _ _ _ h0 => mq_getR rfl h0,
   fun _ _ => mq_push rfl,
   fun _ _ _ _ h0 => mq_iald rfl h0,
   fun _ _ _ _ h0 => mq_iald rfl h0,
   fun _ _ _ => mq_il (i := 1) rfl rfl,
   fun _ _ _ _ => mq_cSr (na := 2) rfl (Nat.le_of_ble_eq_true rfl) (Nat.le_of_ble_eq_true rfl),
   fun _ _ _ => mq_if_ne rfl,
   fun _ _ => mq_push rfl,
   fun _ _ => mq_go rfl,
   fun _ _ _ => mq_al (i := 0) rfl rfl,
   fun _ _ _ h0 => mq_getR rfl h0,
   fun _ _ => mq_push rfl,
   fun _ _ _ _ h0 => mq_iald rfl h0,
   fun _ _ _ => mq_if_ne rfl,
   fun _ _ => mq_push rfl,
   fun _ _ => mq_go rfl,
   fun _ _ => mq_push rfl,
   fun _ _ _ h0 => mq_cVr (na := 1) rfl rfl (Nat.le_of_ble_eq_true rfl) (Nat.le_of_ble_eq_true rfl) h0,
   fun _ _ _ => mq_if_eq rfl,
   fun _ _ => mq_push rfl,
   fun _ _ => mq_ri rfl,
   fun _ _ _ => mq_al (i := 0) rfl rfl,
   fun _ _ h0 => mq_cVv (na := 0) rfl rfl (Nat.le_of_ble_eq_true rfl) (Nat.le_of_ble_eq_true rfl) h0,
   fun _ _ _ => mq_al (i := 0) rfl rfl,
   fun _ _ _ h0 => mq_getR rfl h0,
   fun _ _ => mq_push rfl,
   fun _ _ _ => mq_il (i := 1) rfl rfl,
   fun _ _ _ _ _ h0 => mq_iast rfl h0,
   fun _ _ _ => mq_al (i := 0) rfl rfl,
   fun _ _ _ h0 => mq_getR rfl h0,
   fun _ _ => mq_push rfl,
   fun _ _ _ _ => mq_dup2 rfl rfl rfl,
   fun _ _ _ _ h0 => mq_iald rfl h0,
   fun _ _ => mq_push rfl,
   fun _ _ _ _ => mq_bi rfl,
   fun _ _ _ _ _ h0 => mq_iast rfl h0,
   fun _ _ _ => mq_al (i := 0) rfl rfl,
   fun _ _ _ h0 => mq_getR rfl h0,
   fun _ _ => mq_push rfl,
   fun _ _ _ _ h0 => mq_iald rfl h0,
   fun _ _ => mq_ri rfl⟩
theorem eX12_walk (d n : Nat) (I L : mm_I) (P : mm_P) (x0 : Option Nat) (x1 : Int) : mm_rn (d + 1) 209 [.inr (.inr x0), .inl x1] n I L P = mm_E d 209 0 [.inr (.inr x0), .inl x1] [] [] n I L P := rfl

set_option maxRecDepth 20000 in
set_option maxHeartbeats 8000000 in
theorem kX12_cryNow (d n : Nat) (I L : mm_I) (P : mm_P) :
  (∀ (st : List mm_V) z (l1 : mm_V) (l2 : mm_V), mm_E d 210 0 [(.inr (.inr z)), l1, l2] [] st n I L P = mm_E d 210 1 [(.inr (.inr z)), l1, l2] [] ((.inr (.inr z)) :: st) n I L P) ∧
  (∀ (lv : List mm_V) a, (mm_ok n a 12) → mm_E d 210 1 lv [] (.inr (.inr (some a)) :: []) n I L P = mm_kr d 210 4 lv [] [] n (mm_rn d 194 [.inr (.inr (some a))] n I L P)) ∧
  (∀ (st : List mm_V) z (l1 : mm_V) (l2 : mm_V), mm_E d 210 4 [(.inr (.inr z)), l1, l2] [] st n I L P = mm_E d 210 5 [(.inr (.inr z)), l1, l2] [] ((.inr (.inr z)) :: st) n I L P) ∧
  (∀ (st : List mm_V) z (l1 : mm_V) (l2 : mm_V), mm_E d 210 5 [(.inr (.inr z)), l1, l2] [] st n I L P = mm_E d 210 6 [(.inr (.inr z)), l1, l2] [] ((.inr (.inr z)) :: st) n I L P) ∧
  (∀ (lv : List mm_V) (st : List mm_V) a, (mm_ok n a 12) → mm_E d 210 6 lv [] (.inr (.inr (some a)) :: st) n I L P = mm_E d 210 9 lv [] (.inr (.inr (P a 27)) :: st) n I L P) ∧
  (∀ (lv : List mm_V) (st : List mm_V), mm_E d 210 9 lv [] st n I L P = mm_E d 210 11 lv [] (.inl 24 :: st) n I L P) ∧
  (∀ (lv : List mm_V) (st : List mm_V) a i, (mm_ix n a 20 i) → mm_E d 210 11 lv [] (.inl i :: .inr (.inr (some a)) :: st) n I L P = mm_E d 210 12 lv [] (.inl (I a i.toNat) :: st) n I L P) ∧
  (∀ (lv : List mm_V) a x0 w0, (mm_ok n a 12) → mm_E d 210 12 lv [] (.inl x0 :: .inr (.inr (some a)) :: [.inl w0]) n I L P = mm_kr d 210 15 lv [] [.inl w0] n (mm_rn d 195 [.inr (.inr (some a)), .inl x0] n I L P)) ∧
  (∀ (lv : List mm_V) (st : List mm_V) a b, mm_E d 210 15 lv [] (.inl b :: .inl a :: st) n I L P = mm_E d 210 16 lv [] (.inl (mm_and a b) :: st) n I L P) ∧
  (∀ (st : List mm_V) z (l0 : mm_V) (l1 : mm_V) (l2 : mm_V), mm_E d 210 16 [l0, l1, l2] [] ((.inl z) :: st) n I L P = mm_E d 210 17 [l0, (.inl z), l2] [] st n I L P) ∧
  (∀ (lv : List mm_V) (st : List mm_V), mm_E d 210 17 lv [] st n I L P = mm_E d 210 18 lv [] (.inl 0 :: st) n I L P) ∧
  (∀ (st : List mm_V) z (l0 : mm_V) (l1 : mm_V) (l2 : mm_V), mm_E d 210 18 [l0, l1, l2] [] ((.inl z) :: st) n I L P = mm_E d 210 19 [l0, l1, (.inl z)] [] st n I L P) ∧
  (∀ (st : List mm_V) z (l1 : mm_V) (l2 : mm_V), mm_E d 210 20 [(.inr (.inr z)), l1, l2] [] st n I L P = mm_E d 210 21 [(.inr (.inr z)), l1, l2] [] ((.inr (.inr z)) :: st) n I L P) ∧
  (∀ (lv : List mm_V) (st : List mm_V) a, (mm_ok n a 12) → mm_E d 210 21 lv [] (.inr (.inr (some a)) :: st) n I L P = mm_E d 210 24 lv [] (.inl (I a 26) :: st) n I L P) ∧
  (∀ (lv : List mm_V) (st : List mm_V) a b, mm_E d 210 24 lv [] (.inl b :: .inl a :: st) n I L P = if b ≤ a then mm_E d 210 63 lv [] st n I L P else mm_E d 210 27 lv [] st n I L P) ∧
  (∀ (st : List mm_V) z (l1 : mm_V) (l2 : mm_V), mm_E d 210 27 [(.inr (.inr z)), l1, l2] [] st n I L P = mm_E d 210 28 [(.inr (.inr z)), l1, l2] [] ((.inr (.inr z)) :: st) n I L P) ∧
  (∀ (lv : List mm_V) (st : List mm_V) a, (mm_ok n a 12) → mm_E d 210 28 lv [] (.inr (.inr (some a)) :: st) n I L P = mm_E d 210 31 lv [] (.inr (.inr (P a 27)) :: st) n I L P) ∧
  (∀ (lv : List mm_V) (st : List mm_V), mm_E d 210 31 lv [] st n I L P = mm_E d 210 33 lv [] (.inl 16 :: st) n I L P) ∧
  (∀ (st : List mm_V) z (l0 : mm_V) (l1 : mm_V), mm_E d 210 33 [l0, l1, (.inl z)] [] st n I L P = mm_E d 210 34 [l0, l1, (.inl z)] [] ((.inl z) :: st) n I L P) ∧
  (∀ (lv : List mm_V) (st : List mm_V) a b, mm_E d 210 34 lv [] (.inl b :: .inl a :: st) n I L P = mm_E d 210 35 lv [] (.inl (mm_add a b) :: st) n I L P) ∧
  (∀ (st : List mm_V) z (l0 : mm_V) (l2 : mm_V), mm_E d 210 35 [l0, (.inl z), l2] [] st n I L P = mm_E d 210 36 [l0, (.inl z), l2] [] ((.inl z) :: st) n I L P) ∧
  (∀ (st : List mm_V) z (l0 : mm_V) (l1 : mm_V), mm_E d 210 36 [l0, l1, (.inl z)] [] st n I L P = mm_E d 210 37 [l0, l1, (.inl z)] [] ((.inl z) :: st) n I L P) ∧
  (∀ (lv : List mm_V) x0 x1 w0 w1, mm_E d 210 37 lv [] (.inl x1 :: .inl x0 :: [.inl w0, .inr (.inr w1)]) n I L P = mm_kr d 210 40 lv [] [.inl w0, .inr (.inr w1)] n (mm_rn d 146 [.inl x0, .inl x1] n I L P)) ∧
  (∀ (lv : List mm_V) (st : List mm_V) a, mm_E d 210 40 lv [] (.inl a :: st) n I L P = if a = 0 then mm_E d 210 47 lv [] st n I L P else mm_E d 210 43 lv [] st n I L P) ∧
  (∀ (lv : List mm_V) (st : List mm_V), mm_E d 210 43 lv [] st n I L P = mm_E d 210 44 lv [] (.inl 0 :: st) n I L P) ∧
  (∀ (lv : List mm_V) (st : List mm_V), mm_E d 210 44 lv [] st n I L P = mm_E d 210 56 lv [] st n I L P) ∧
  (∀ (st : List mm_V) z (l1 : mm_V) (l2 : mm_V), mm_E d 210 47 [(.inr (.inr z)), l1, l2] [] st n I L P = mm_E d 210 48 [(.inr (.inr z)), l1, l2] [] ((.inr (.inr z)) :: st) n I L P) ∧
  (∀ (lv : List mm_V) (st : List mm_V) a, (mm_ok n a 12) → mm_E d 210 48 lv [] (.inr (.inr (some a)) :: st) n I L P = mm_E d 210 51 lv [] (.inr (.inr (P a 27)) :: st) n I L P) ∧
  (∀ (lv : List mm_V) (st : List mm_V), mm_E d 210 51 lv [] st n I L P = mm_E d 210 53 lv [] (.inl 16 :: st) n I L P) ∧
  (∀ (st : List mm_V) z (l0 : mm_V) (l1 : mm_V), mm_E d 210 53 [l0, l1, (.inl z)] [] st n I L P = mm_E d 210 54 [l0, l1, (.inl z)] [] ((.inl z) :: st) n I L P) ∧
  (∀ (lv : List mm_V) (st : List mm_V) a b, mm_E d 210 54 lv [] (.inl b :: .inl a :: st) n I L P = mm_E d 210 55 lv [] (.inl (mm_add a b) :: st) n I L P) ∧
  (∀ (lv : List mm_V) (st : List mm_V) a i, (mm_ix n a 20 i) → mm_E d 210 55 lv [] (.inl i :: .inr (.inr (some a)) :: st) n I L P = mm_E d 210 56 lv [] (.inl (I a i.toNat) :: st) n I L P) ∧
  (∀ (lv : List mm_V) (st : List mm_V) a i z, (mm_ix n a 20 i) → mm_E d 210 56 lv [] (.inl z :: .inl i :: .inr (.inr (some a)) :: st) n I L P = mm_E d 210 57 lv [] st n (mm_ui I a i.toNat z) L P) ∧
  (∀ (st : List mm_V) z (l0 : mm_V) (l1 : mm_V), mm_E d 210 57 [l0, l1, (.inl z)] [] st n I L P = mm_E d 210 60 [l0, l1, (.inl (mm_add z 1))] [] st n I L P) ∧
  (∀ (lv : List mm_V) (st : List mm_V), mm_E d 210 60 lv [] st n I L P = mm_E d 210 19 lv [] st n I L P) ∧
  (∀ (st : List mm_V) z (l0 : mm_V) (l2 : mm_V), mm_E d 210 63 [l0, (.inl z), l2] [] st n I L P = mm_E d 210 64 [l0, (.inl z), l2] [] ((.inl z) :: st) n I L P) ∧
  (∀ (lv : List mm_V) x0, mm_E d 210 64 lv [] (.inl x0 :: []) n I L P = mm_kr d 210 67 lv [] [] n (mm_rn d 263 [.inl x0] n I L P)) ∧
  (∀ (lv : List mm_V) z, mm_E d 210 67 lv [] [.inl z] n I L P = some (some (.inl z), n, I, L, P)) :=
  ⟨fun _ _ _ _ => mq_al (i := 0) rfl rfl,
   fun _ _ h0 => mq_cVr (na := 0) rfl rfl (Nat.le_of_ble_eq_true rfl) (Nat.le_of_ble_eq_true rfl) h0,
   fun _ _ _ _ => mq_al (i := 0) rfl rfl,
   fun _ _ _ _ => mq_al (i := 0) rfl rfl,
   fun _ _ _ h0 => mq_getR rfl h0,
   fun _ _ => mq_push rfl,
   fun _ _ _ _ h0 => mq_iald rfl h0,
   fun _ _ _ _ h0 => mq_cVr (na := 1) rfl rfl (Nat.le_of_ble_eq_true rfl) (Nat.le_of_ble_eq_true rfl) h0,
   fun _ _ _ _ => mq_bi rfl,
   fun _ _ _ _ _ => mq_is (i := 1) rfl rfl rfl,
   fun _ _ => mq_push rfl,
   fun _ _ _ _ _ => mq_is (i := 2) rfl rfl rfl,
   fun _ _ _ _ => mq_al (i := 0) rfl rfl,
   fun _ _ _ h0 => mq_getI rfl h0,
   fun _ _ _ _ => mq_ic_ge rfl,
   fun _ _ _ _ => mq_al (i := 0) rfl rfl,
   fun _ _ _ h0 => mq_getR rfl h0,
   fun _ _ => mq_push rfl,
   fun _ _ _ _ => mq_il (i := 2) rfl rfl,
   fun _ _ _ _ => mq_bi rfl,
   fun _ _ _ _ => mq_il (i := 1) rfl rfl,
   fun _ _ _ _ => mq_il (i := 2) rfl rfl,
   fun _ _ _ _ _ => mq_cSr (na := 2) rfl (Nat.le_of_ble_eq_true rfl) (Nat.le_of_ble_eq_true rfl),
   fun _ _ _ => mq_if_eq rfl,
   fun _ _ => mq_push rfl,
   fun _ _ => mq_go rfl,
   fun _ _ _ _ => mq_al (i := 0) rfl rfl,
   fun _ _ _ h0 => mq_getR rfl h0,
   fun _ _ => mq_push rfl,
   fun _ _ _ _ => mq_il (i := 2) rfl rfl,
   fun _ _ _ _ => mq_bi rfl,
   fun _ _ _ _ h0 => mq_iald rfl h0,
   fun _ _ _ _ _ h0 => mq_iast rfl h0,
   fun _ _ _ _ => mq_iinc (i := 2) rfl rfl rfl rfl,
   fun _ _ => mq_go rfl,
   fun _ _ _ _ => mq_il (i := 1) rfl rfl,
   fun _ _ => mq_cSr (na := 1) rfl (Nat.le_of_ble_eq_true rfl) (Nat.le_of_ble_eq_true rfl),
   fun _ _ => mq_ri rfl⟩
theorem hX12_cryNow_19 (d n : Nat) (I L : mm_I) (P : mm_P) : ∀ (st : List mm_V) z (l0 : mm_V) (l1 : mm_V), mm_E d 210 19 [l0, l1, (.inl z)] [] st n I L P = mm_E d 210 20 [l0, l1, (.inl z)] [] ((.inl z) :: st) n I L P := fun _ _ _ _ => mq_il (i := 2) rfl rfl
theorem eX12_cryNow (d n : Nat) (I L : mm_I) (P : mm_P) (x0 : Option Nat) : mm_rn (d + 1) 210 [.inr (.inr x0)] n I L P = mm_E d 210 0 [.inr (.inr x0), mm_junk, mm_junk] [] [] n I L P := rfl

set_option maxRecDepth 20000 in
set_option maxHeartbeats 8000000 in
theorem kX12_cry (d n : Nat) (I L : mm_I) (P : mm_P) :
  (∀ (st : List mm_V) z, mm_E d 211 0 [(.inr (.inr z))] [] st n I L P = mm_E d 211 1 [(.inr (.inr z))] [] ((.inr (.inr z)) :: st) n I L P) ∧
  (∀ (st : List mm_V) z, mm_E d 211 1 [(.inr (.inr z))] [] st n I L P = mm_E d 211 2 [(.inr (.inr z))] [] ((.inr (.inr z)) :: st) n I L P) ∧
  (∀ (lv : List mm_V) (st : List mm_V) a, (mm_ok n a 12) → mm_E d 211 2 lv [] (.inr (.inr (some a)) :: st) n I L P = mm_E d 211 5 lv [] (.inl (I a 26) :: st) n I L P) ∧
  (∀ (lv : List mm_V) (st : List mm_V) a, mm_E d 211 5 lv [] (.inl a :: st) n I L P = if a = 0 then mm_E d 211 8 lv [] st n I L P else mm_E d 211 12 lv [] st n I L P) ∧
  (∀ (lv : List mm_V) (st : List mm_V), mm_E d 211 8 lv [] st n I L P = mm_E d 211 9 lv [] (.inl 0 :: st) n I L P) ∧
  (∀ (lv : List mm_V) (st : List mm_V), mm_E d 211 9 lv [] st n I L P = mm_E d 211 28 lv [] st n I L P) ∧
  (∀ (st : List mm_V) z, mm_E d 211 12 [(.inr (.inr z))] [] st n I L P = mm_E d 211 13 [(.inr (.inr z))] [] ((.inr (.inr z)) :: st) n I L P) ∧
  (∀ (lv : List mm_V) (st : List mm_V) a, (mm_ok n a 12) → mm_E d 211 13 lv [] (.inr (.inr (some a)) :: st) n I L P = mm_E d 211 16 lv [] (.inr (.inr (P a 27)) :: st) n I L P) ∧
  (∀ (lv : List mm_V) (st : List mm_V), mm_E d 211 16 lv [] st n I L P = mm_E d 211 18 lv [] (.inl 26 :: st) n I L P) ∧
  (∀ (lv : List mm_V) (st : List mm_V) a i, (mm_ix n a 20 i) → mm_E d 211 18 lv [] (.inl i :: .inr (.inr (some a)) :: st) n I L P = mm_E d 211 19 lv [] (.inl (I a i.toNat) :: st) n I L P) ∧
  (∀ (lv : List mm_V) (st : List mm_V), mm_E d 211 19 lv [] st n I L P = mm_E d 211 20 lv [] (.inl 3 :: st) n I L P) ∧
  (∀ (lv : List mm_V) (st : List mm_V) a b, mm_E d 211 20 lv [] (.inl b :: .inl a :: st) n I L P = if b ≤ a then mm_E d 211 27 lv [] st n I L P else mm_E d 211 23 lv [] st n I L P) ∧
  (∀ (lv : List mm_V) (st : List mm_V), mm_E d 211 23 lv [] st n I L P = mm_E d 211 24 lv [] (.inl 3 :: st) n I L P) ∧
  (∀ (lv : List mm_V) (st : List mm_V), mm_E d 211 24 lv [] st n I L P = mm_E d 211 28 lv [] st n I L P) ∧
  (∀ (lv : List mm_V) (st : List mm_V), mm_E d 211 27 lv [] st n I L P = mm_E d 211 28 lv [] (.inl (-1) :: st) n I L P) ∧
  (∀ (lv : List mm_V) a x0, (mm_ok n a 12) → mm_E d 211 28 lv [] (.inl x0 :: .inr (.inr (some a)) :: []) n I L P = mm_kr d 211 31 lv [] [] n (mm_rn d 206 [.inr (.inr (some a)), .inl x0] n I L P)) ∧
  (∀ (lv : List mm_V) (st : List mm_V) a, mm_E d 211 31 lv [] (.inl a :: st) n I L P = if a = 0 then mm_E d 211 36 lv [] st n I L P else mm_E d 211 34 lv [] st n I L P) ∧
  (∀ (lv : List mm_V) (st : List mm_V), mm_E d 211 34 lv [] st n I L P = mm_E d 211 35 lv [] (.inl (-1) :: st) n I L P) ∧
  (∀ (lv : List mm_V) z, mm_E d 211 35 lv [] [.inl z] n I L P = some (some (.inl z), n, I, L, P)) ∧
  (∀ (st : List mm_V) z, mm_E d 211 36 [(.inr (.inr z))] [] st n I L P = mm_E d 211 37 [(.inr (.inr z))] [] ((.inr (.inr z)) :: st) n I L P) ∧
  (∀ (lv : List mm_V) a, (mm_ok n a 12) → mm_E d 211 37 lv [] (.inr (.inr (some a)) :: []) n I L P = mm_kv d 211 40 lv [] [] n (mm_rn d 205 [.inr (.inr (some a))] n I L P)) ∧
  (∀ (st : List mm_V) z, mm_E d 211 40 [(.inr (.inr z))] [] st n I L P = mm_E d 211 41 [(.inr (.inr z))] [] ((.inr (.inr z)) :: st) n I L P) ∧
  (∀ (lv : List mm_V) (st : List mm_V) a, (mm_ok n a 12) → mm_E d 211 41 lv [] (.inr (.inr (some a)) :: st) n I L P = mm_E d 211 44 lv [] (.inr (.inr (P a 27)) :: st) n I L P) ∧
  (∀ (lv : List mm_V) (st : List mm_V), mm_E d 211 44 lv [] st n I L P = mm_E d 211 46 lv [] (.inl 26 :: st) n I L P) ∧
  (∀ (lv : List mm_V) (st : List mm_V), mm_E d 211 46 lv [] st n I L P = mm_E d 211 47 lv [] (.inl 0 :: st) n I L P) ∧
  (∀ (lv : List mm_V) (st : List mm_V) a i z, (mm_ix n a 20 i) → mm_E d 211 47 lv [] (.inl z :: .inl i :: .inr (.inr (some a)) :: st) n I L P = mm_E d 211 48 lv [] st n (mm_ui I a i.toNat z) L P) ∧
  (∀ (st : List mm_V) z, mm_E d 211 48 [(.inr (.inr z))] [] st n I L P = mm_E d 211 49 [(.inr (.inr z))] [] ((.inr (.inr z)) :: st) n I L P) ∧
  (∀ (lv : List mm_V) a, (mm_ok n a 12) → mm_E d 211 49 lv [] (.inr (.inr (some a)) :: []) n I L P = mm_kr d 211 52 lv [] [] n (mm_rn d 210 [.inr (.inr (some a))] n I L P)) ∧
  (∀ (lv : List mm_V) z, mm_E d 211 52 lv [] [.inl z] n I L P = some (some (.inl z), n, I, L, P)) :=
  ⟨fun _ _ => mq_al (i := 0) rfl rfl,
   fun _ _ => mq_al (i := 0) rfl rfl,
   fun _ _ _ h0 => mq_getI rfl h0,
   fun _ _ _ => mq_if_ne rfl,
   fun _ _ => mq_push rfl,
   fun _ _ => mq_go rfl,
   fun _ _ => mq_al (i := 0) rfl rfl,
   fun _ _ _ h0 => mq_getR rfl h0,
   fun _ _ => mq_push rfl,
   fun _ _ _ _ h0 => mq_iald rfl h0,
   fun _ _ => mq_push rfl,
   fun _ _ _ _ => mq_ic_ge rfl,
   fun _ _ => mq_push rfl,
   fun _ _ => mq_go rfl,
   fun _ _ => mq_push rfl,
   fun _ _ _ h0 => mq_cVr (na := 1) rfl rfl (Nat.le_of_ble_eq_true rfl) (Nat.le_of_ble_eq_true rfl) h0,
   fun _ _ _ => mq_if_eq rfl,
   fun _ _ => mq_push rfl,
   fun _ _ => mq_ri rfl,
   fun _ _ => mq_al (i := 0) rfl rfl,
   fun _ _ h0 => mq_cVv (na := 0) rfl rfl (Nat.le_of_ble_eq_true rfl) (Nat.le_of_ble_eq_true rfl) h0,
   fun _ _ => mq_al (i := 0) rfl rfl,
   fun _ _ _ h0 => mq_getR rfl h0,
   fun _ _ => mq_push rfl,
   fun _ _ => mq_push rfl,
   fun _ _ _ _ _ h0 => mq_iast rfl h0,
   fun _ _ => mq_al (i := 0) rfl rfl,
   fun _ _ h0 => mq_cVr (na := 0) rfl rfl (Nat.le_of_ble_eq_true rfl) (Nat.le_of_ble_eq_true rfl) h0,
   fun _ _ => mq_ri rfl⟩
theorem eX12_cry (d n : Nat) (I L : mm_I) (P : mm_P) (x0 : Option Nat) : mm_rn (d + 1) 211 [.inr (.inr x0)] n I L P = mm_E d 211 0 [.inr (.inr x0)] [] [] n I L P := rfl

set_option maxRecDepth 20000 in
set_option maxHeartbeats 8000000 in
theorem kX12_whisper (d n : Nat) (I L : mm_I) (P : mm_P) :
  (∀ (st : List mm_V) z (l1 : mm_V), mm_E d 212 0 [(.inr (.inr z)), l1] [] st n I L P = mm_E d 212 1 [(.inr (.inr z)), l1] [] ((.inr (.inr z)) :: st) n I L P) ∧
  (∀ (st : List mm_V) z (l1 : mm_V), mm_E d 212 1 [(.inr (.inr z)), l1] [] st n I L P = mm_E d 212 2 [(.inr (.inr z)), l1] [] ((.inr (.inr z)) :: st) n I L P) ∧
  (∀ (lv : List mm_V) (st : List mm_V) a, (mm_ok n a 12) → mm_E d 212 2 lv [] (.inr (.inr (some a)) :: st) n I L P = mm_E d 212 5 lv [] (.inl (I a 26) :: st) n I L P) ∧
  (∀ (lv : List mm_V) (st : List mm_V) a, mm_E d 212 5 lv [] (.inl a :: st) n I L P = if a = 0 then mm_E d 212 8 lv [] st n I L P else mm_E d 212 12 lv [] st n I L P) ∧
  (∀ (lv : List mm_V) (st : List mm_V), mm_E d 212 8 lv [] st n I L P = mm_E d 212 9 lv [] (.inl 0 :: st) n I L P) ∧
  (∀ (lv : List mm_V) (st : List mm_V), mm_E d 212 9 lv [] st n I L P = mm_E d 212 45 lv [] st n I L P) ∧
  (∀ (st : List mm_V) z (l1 : mm_V), mm_E d 212 12 [(.inr (.inr z)), l1] [] st n I L P = mm_E d 212 13 [(.inr (.inr z)), l1] [] ((.inr (.inr z)) :: st) n I L P) ∧
  (∀ (st : List mm_V) z (l1 : mm_V), mm_E d 212 13 [(.inr (.inr z)), l1] [] st n I L P = mm_E d 212 14 [(.inr (.inr z)), l1] [] ((.inr (.inr z)) :: st) n I L P) ∧
  (∀ (lv : List mm_V) (st : List mm_V) a, (mm_ok n a 12) → mm_E d 212 14 lv [] (.inr (.inr (some a)) :: st) n I L P = mm_E d 212 17 lv [] (.inr (.inr (P a 27)) :: st) n I L P) ∧
  (∀ (lv : List mm_V) (st : List mm_V), mm_E d 212 17 lv [] st n I L P = mm_E d 212 19 lv [] (.inl 24 :: st) n I L P) ∧
  (∀ (lv : List mm_V) (st : List mm_V) a i, (mm_ix n a 20 i) → mm_E d 212 19 lv [] (.inl i :: .inr (.inr (some a)) :: st) n I L P = mm_E d 212 20 lv [] (.inl (I a i.toNat) :: st) n I L P) ∧
  (∀ (lv : List mm_V) a x0 w0, (mm_ok n a 12) → mm_E d 212 20 lv [] (.inl x0 :: .inr (.inr (some a)) :: [.inr (.inr w0)]) n I L P = mm_kr d 212 23 lv [] [.inr (.inr w0)] n (mm_rn d 193 [.inr (.inr (some a)), .inl x0] n I L P)) ∧
  (∀ (lv : List mm_V) (st : List mm_V) a, mm_E d 212 23 lv [] (.inl a :: st) n I L P = if a = 0 then mm_E d 212 26 lv [] st n I L P else mm_E d 212 30 lv [] st n I L P) ∧
  (∀ (lv : List mm_V) (st : List mm_V), mm_E d 212 26 lv [] st n I L P = mm_E d 212 27 lv [] (.inl 2 :: st) n I L P) ∧
  (∀ (lv : List mm_V) (st : List mm_V), mm_E d 212 27 lv [] st n I L P = mm_E d 212 45 lv [] st n I L P) ∧
  (∀ (st : List mm_V) z (l1 : mm_V), mm_E d 212 30 [(.inr (.inr z)), l1] [] st n I L P = mm_E d 212 31 [(.inr (.inr z)), l1] [] ((.inr (.inr z)) :: st) n I L P) ∧
  (∀ (lv : List mm_V) (st : List mm_V) a, (mm_ok n a 12) → mm_E d 212 31 lv [] (.inr (.inr (some a)) :: st) n I L P = mm_E d 212 34 lv [] (.inr (.inr (P a 27)) :: st) n I L P) ∧
  (∀ (lv : List mm_V) (st : List mm_V), mm_E d 212 34 lv [] st n I L P = mm_E d 212 36 lv [] (.inl 26 :: st) n I L P) ∧
  (∀ (lv : List mm_V) (st : List mm_V) a i, (mm_ix n a 20 i) → mm_E d 212 36 lv [] (.inl i :: .inr (.inr (some a)) :: st) n I L P = mm_E d 212 37 lv [] (.inl (I a i.toNat) :: st) n I L P) ∧
  (∀ (lv : List mm_V) (st : List mm_V) a, mm_E d 212 37 lv [] (.inl a :: st) n I L P = if a = 0 then mm_E d 212 40 lv [] st n I L P else mm_E d 212 44 lv [] st n I L P) ∧
  (∀ (lv : List mm_V) (st : List mm_V), mm_E d 212 40 lv [] st n I L P = mm_E d 212 41 lv [] (.inl 3 :: st) n I L P) ∧
  (∀ (lv : List mm_V) (st : List mm_V), mm_E d 212 41 lv [] st n I L P = mm_E d 212 45 lv [] st n I L P) ∧
  (∀ (lv : List mm_V) (st : List mm_V), mm_E d 212 44 lv [] st n I L P = mm_E d 212 45 lv [] (.inl (-1) :: st) n I L P) ∧
  (∀ (lv : List mm_V) a x0, (mm_ok n a 12) → mm_E d 212 45 lv [] (.inl x0 :: .inr (.inr (some a)) :: []) n I L P = mm_kr d 212 48 lv [] [] n (mm_rn d 206 [.inr (.inr (some a)), .inl x0] n I L P)) ∧
  (∀ (lv : List mm_V) (st : List mm_V) a, mm_E d 212 48 lv [] (.inl a :: st) n I L P = if a = 0 then mm_E d 212 53 lv [] st n I L P else mm_E d 212 51 lv [] st n I L P) ∧
  (∀ (lv : List mm_V) (st : List mm_V), mm_E d 212 51 lv [] st n I L P = mm_E d 212 52 lv [] (.inl (-1) :: st) n I L P) ∧
  (∀ (lv : List mm_V) z, mm_E d 212 52 lv [] [.inl z] n I L P = some (some (.inl z), n, I, L, P)) ∧
  (∀ (st : List mm_V) z (l1 : mm_V), mm_E d 212 53 [(.inr (.inr z)), l1] [] st n I L P = mm_E d 212 54 [(.inr (.inr z)), l1] [] ((.inr (.inr z)) :: st) n I L P) ∧
  (∀ (lv : List mm_V) a, (mm_ok n a 12) → mm_E d 212 54 lv [] (.inr (.inr (some a)) :: []) n I L P = mm_kv d 212 57 lv [] [] n (mm_rn d 205 [.inr (.inr (some a))] n I L P)) ∧
  (∀ (lv : List mm_V) (st : List mm_V), mm_E d 212 57 lv [] st n I L P = mm_E d 212 59 lv [] (.inl 16 :: st) n I L P) ∧
  (∀ (st : List mm_V) z (l1 : mm_V), mm_E d 212 59 [(.inr (.inr z)), l1] [] st n I L P = mm_E d 212 60 [(.inr (.inr z)), l1] [] ((.inr (.inr z)) :: st) n I L P) ∧
  (∀ (lv : List mm_V) (st : List mm_V) a, (mm_ok n a 12) → mm_E d 212 60 lv [] (.inr (.inr (some a)) :: st) n I L P = mm_E d 212 63 lv [] (.inr (.inr (P a 27)) :: st) n I L P) ∧
  (∀ (lv : List mm_V) (st : List mm_V), mm_E d 212 63 lv [] st n I L P = mm_E d 212 65 lv [] (.inl 24 :: st) n I L P) ∧
  (∀ (lv : List mm_V) (st : List mm_V) a i, (mm_ix n a 20 i) → mm_E d 212 65 lv [] (.inl i :: .inr (.inr (some a)) :: st) n I L P = mm_E d 212 66 lv [] (.inl (I a i.toNat) :: st) n I L P) ∧
  (∀ (lv : List mm_V) (st : List mm_V) a b, mm_E d 212 66 lv [] (.inl b :: .inl a :: st) n I L P = mm_E d 212 67 lv [] (.inl (mm_add a b) :: st) n I L P) ∧
  (∀ (st : List mm_V) z (l0 : mm_V) (l1 : mm_V), mm_E d 212 67 [l0, l1] [] ((.inl z) :: st) n I L P = mm_E d 212 68 [l0, (.inl z)] [] st n I L P) ∧
  (∀ (st : List mm_V) z (l1 : mm_V), mm_E d 212 68 [(.inr (.inr z)), l1] [] st n I L P = mm_E d 212 69 [(.inr (.inr z)), l1] [] ((.inr (.inr z)) :: st) n I L P) ∧
  (∀ (lv : List mm_V) (st : List mm_V) a, (mm_ok n a 12) → mm_E d 212 69 lv [] (.inr (.inr (some a)) :: st) n I L P = mm_E d 212 72 lv [] (.inr (.inr (P a 27)) :: st) n I L P) ∧
  (∀ (lv : List mm_V) (st : List mm_V), mm_E d 212 72 lv [] st n I L P = mm_E d 212 74 lv [] (.inl 26 :: st) n I L P) ∧
  (∀ (lv : List mm_V) (st : List mm_V) a b, mm_E d 212 74 lv [] ((.inl a) :: (.inr (.inr b)) :: st) n I L P = mm_E d 212 75 lv [] ((.inl a) :: (.inr (.inr b)) :: (.inl a) :: (.inr (.inr b)) :: st) n I L P) ∧
  (∀ (lv : List mm_V) (st : List mm_V) a i, (mm_ix n a 20 i) → mm_E d 212 75 lv [] (.inl i :: .inr (.inr (some a)) :: st) n I L P = mm_E d 212 76 lv [] (.inl (I a i.toNat) :: st) n I L P) ∧
  (∀ (lv : List mm_V) (st : List mm_V), mm_E d 212 76 lv [] st n I L P = mm_E d 212 77 lv [] (.inl 1 :: st) n I L P) ∧
  (∀ (lv : List mm_V) (st : List mm_V) a b, mm_E d 212 77 lv [] (.inl b :: .inl a :: st) n I L P = mm_E d 212 78 lv [] (.inl (mm_sub a b) :: st) n I L P) ∧
  (∀ (lv : List mm_V) (st : List mm_V) a i z, (mm_ix n a 20 i) → mm_E d 212 78 lv [] (.inl z :: .inl i :: .inr (.inr (some a)) :: st) n I L P = mm_E d 212 79 lv [] st n (mm_ui I a i.toNat z) L P) ∧
  (∀ (st : List mm_V) z (l1 : mm_V), mm_E d 212 79 [(.inr (.inr z)), l1] [] st n I L P = mm_E d 212 80 [(.inr (.inr z)), l1] [] ((.inr (.inr z)) :: st) n I L P) ∧
  (∀ (lv : List mm_V) (st : List mm_V) a, (mm_ok n a 12) → mm_E d 212 80 lv [] (.inr (.inr (some a)) :: st) n I L P = mm_E d 212 83 lv [] (.inr (.inr (P a 27)) :: st) n I L P) ∧
  (∀ (st : List mm_V) z (l0 : mm_V), mm_E d 212 83 [l0, (.inl z)] [] st n I L P = mm_E d 212 84 [l0, (.inl z)] [] ((.inl z) :: st) n I L P) ∧
  (∀ (lv : List mm_V) (st : List mm_V), mm_E d 212 84 lv [] st n I L P = mm_E d 212 85 lv [] (.inl 0 :: st) n I L P) ∧
  (∀ (st : List mm_V) z (l1 : mm_V), mm_E d 212 85 [(.inr (.inr z)), l1] [] st n I L P = mm_E d 212 86 [(.inr (.inr z)), l1] [] ((.inr (.inr z)) :: st) n I L P) ∧
  (∀ (lv : List mm_V) (st : List mm_V) a, (mm_ok n a 12) → mm_E d 212 86 lv [] (.inr (.inr (some a)) :: st) n I L P = mm_E d 212 89 lv [] (.inr (.inr (P a 27)) :: st) n I L P) ∧
  (∀ (st : List mm_V) z (l0 : mm_V), mm_E d 212 89 [l0, (.inl z)] [] st n I L P = mm_E d 212 90 [l0, (.inl z)] [] ((.inl z) :: st) n I L P) ∧
  (∀ (lv : List mm_V) (st : List mm_V) a i, (mm_ix n a 20 i) → mm_E d 212 90 lv [] (.inl i :: .inr (.inr (some a)) :: st) n I L P = mm_E d 212 91 lv [] (.inl (I a i.toNat) :: st) n I L P) ∧
  (∀ (lv : List mm_V) (st : List mm_V), mm_E d 212 91 lv [] st n I L P = mm_E d 212 92 lv [] (.inl 3 :: st) n I L P) ∧
  (∀ (lv : List mm_V) (st : List mm_V) a b, mm_E d 212 92 lv [] (.inl b :: .inl a :: st) n I L P = mm_E d 212 93 lv [] (.inl (mm_sub a b) :: st) n I L P) ∧
  (∀ (lv : List mm_V) x0 x1 w0 w1, mm_E d 212 93 lv [] (.inl x1 :: .inl x0 :: [.inl w0, .inr (.inr w1)]) n I L P = mm_kr d 212 96 lv [] [.inl w0, .inr (.inr w1)] n (mm_rn d 265 [.inl x0, .inl x1] n I L P)) ∧
  (∀ (lv : List mm_V) (st : List mm_V) a i z, (mm_ix n a 20 i) → mm_E d 212 96 lv [] (.inl z :: .inl i :: .inr (.inr (some a)) :: st) n I L P = mm_E d 212 97 lv [] st n (mm_ui I a i.toNat z) L P) ∧
  (∀ (st : List mm_V) z (l1 : mm_V), mm_E d 212 97 [(.inr (.inr z)), l1] [] st n I L P = mm_E d 212 98 [(.inr (.inr z)), l1] [] ((.inr (.inr z)) :: st) n I L P) ∧
  (∀ (lv : List mm_V) (st : List mm_V) a, (mm_ok n a 12) → mm_E d 212 98 lv [] (.inr (.inr (some a)) :: st) n I L P = mm_E d 212 101 lv [] (.inr (.inr (P a 27)) :: st) n I L P) ∧
  (∀ (st : List mm_V) z (l0 : mm_V), mm_E d 212 101 [l0, (.inl z)] [] st n I L P = mm_E d 212 102 [l0, (.inl z)] [] ((.inl z) :: st) n I L P) ∧
  (∀ (lv : List mm_V) (st : List mm_V) a i, (mm_ix n a 20 i) → mm_E d 212 102 lv [] (.inl i :: .inr (.inr (some a)) :: st) n I L P = mm_E d 212 103 lv [] (.inl (I a i.toNat) :: st) n I L P) ∧
  (∀ (lv : List mm_V) z, mm_E d 212 103 lv [] [.inl z] n I L P = some (some (.inl z), n, I, L, P)) :=
  ⟨fun _ _ _ => mq_al (i := 0) rfl rfl,
   fun _ _ _ => mq_al (i := 0) rfl rfl,
   fun _ _ _ h0 => mq_getI rfl h0,
   fun _ _ _ => mq_if_ne rfl,
   fun _ _ => mq_push rfl,
   fun _ _ => mq_go rfl,
   fun _ _ _ => mq_al (i := 0) rfl rfl,
   fun _ _ _ => mq_al (i := 0) rfl rfl,
   fun _ _ _ h0 => mq_getR rfl h0,
   fun _ _ => mq_push rfl,
   fun _ _ _ _ h0 => mq_iald rfl h0,
   fun _ _ _ _ h0 => mq_cVr (na := 1) rfl rfl (Nat.le_of_ble_eq_true rfl) (Nat.le_of_ble_eq_true rfl) h0,
   fun _ _ _ => mq_if_ne rfl,
   fun _ _ => mq_push rfl,
   fun _ _ => mq_go rfl,
   fun _ _ _ => mq_al (i := 0) rfl rfl,
   fun _ _ _ h0 => mq_getR rfl h0,
   fun _ _ => mq_push rfl,
   fun _ _ _ _ h0 => mq_iald rfl h0,
   fun _ _ _ => mq_if_ne rfl,
   fun _ _ => mq_push rfl,
   fun _ _ => mq_go rfl,
   fun _ _ => mq_push rfl,
   fun _ _ _ h0 => mq_cVr (na := 1) rfl rfl (Nat.le_of_ble_eq_true rfl) (Nat.le_of_ble_eq_true rfl) h0,
   fun _ _ _ => mq_if_eq rfl,
   fun _ _ => mq_push rfl,
   fun _ _ => mq_ri rfl,
   fun _ _ _ => mq_al (i := 0) rfl rfl,
   fun _ _ h0 => mq_cVv (na := 0) rfl rfl (Nat.le_of_ble_eq_true rfl) (Nat.le_of_ble_eq_true rfl) h0,
   fun _ _ => mq_push rfl,
   fun _ _ _ => mq_al (i := 0) rfl rfl,
   fun _ _ _ h0 => mq_getR rfl h0,
   fun _ _ => mq_push rfl,
   fun _ _ _ _ h0 => mq_iald rfl h0,
   fun _ _ _ _ => mq_bi rfl,
   fun _ _ _ _ => mq_is (i := 1) rfl rfl rfl,
   fun _ _ _ => mq_al (i := 0) rfl rfl,
   fun _ _ _ h0 => mq_getR rfl h0,
   fun _ _ => mq_push rfl,
   fun _ _ _ _ => mq_dup2 rfl rfl rfl,
   fun _ _ _ _ h0 => mq_iald rfl h0,
   fun _ _ => mq_push rfl,
   fun _ _ _ _ => mq_bi rfl,
   fun _ _ _ _ _ h0 => mq_iast rfl h0,
   fun _ _ _ => mq_al (i := 0) rfl rfl,
   fun _ _ _ h0 => mq_getR rfl h0,
   fun _ _ _ => mq_il (i := 1) rfl rfl,
   fun _ _ => mq_push rfl,
   fun _ _ _ => mq_al (i := 0) rfl rfl,
   fun _ _ _ h0 => mq_getR rfl h0,
   fun _ _ _ => mq_il (i := 1) rfl rfl,
   fun _ _ _ _ h0 => mq_iald rfl h0,
   fun _ _ => mq_push rfl,
   fun _ _ _ _ => mq_bi rfl,
   fun _ _ _ _ _ => mq_cSr (na := 2) rfl (Nat.le_of_ble_eq_true rfl) (Nat.le_of_ble_eq_true rfl),
   fun _ _ _ _ _ h0 => mq_iast rfl h0,
   fun _ _ _ => mq_al (i := 0) rfl rfl,
   fun _ _ _ h0 => mq_getR rfl h0,
   fun _ _ _ => mq_il (i := 1) rfl rfl,
   fun _ _ _ _ h0 => mq_iald rfl h0,
   fun _ _ => mq_ri rfl⟩
theorem eX12_whisper (d n : Nat) (I L : mm_I) (P : mm_P) (x0 : Option Nat) : mm_rn (d + 1) 212 [.inr (.inr x0)] n I L P = mm_E d 212 0 [.inr (.inr x0), mm_junk] [] [] n I L P := rfl

set_option maxRecDepth 20000 in
set_option maxHeartbeats 8000000 in
theorem kX12_heir (d n : Nat) (I L : mm_I) (P : mm_P) :
  (∀ (st : List mm_V) z, mm_E d 213 0 [(.inr (.inr z))] [] st n I L P = mm_E d 213 1 [(.inr (.inr z))] [] ((.inr (.inr z)) :: st) n I L P) ∧
  (∀ (st : List mm_V) z, mm_E d 213 1 [(.inr (.inr z))] [] st n I L P = mm_E d 213 2 [(.inr (.inr z))] [] ((.inr (.inr z)) :: st) n I L P) ∧
  (∀ (lv : List mm_V) (st : List mm_V) a, (mm_ok n a 12) → mm_E d 213 2 lv [] (.inr (.inr (some a)) :: st) n I L P = mm_E d 213 5 lv [] (.inl (I a 26) :: st) n I L P) ∧
  (∀ (lv : List mm_V) (st : List mm_V) a, mm_E d 213 5 lv [] (.inl a :: st) n I L P = if a = 0 then mm_E d 213 8 lv [] st n I L P else mm_E d 213 12 lv [] st n I L P) ∧
  (∀ (lv : List mm_V) (st : List mm_V), mm_E d 213 8 lv [] st n I L P = mm_E d 213 9 lv [] (.inl 0 :: st) n I L P) ∧
  (∀ (lv : List mm_V) (st : List mm_V), mm_E d 213 9 lv [] st n I L P = mm_E d 213 43 lv [] st n I L P) ∧
  (∀ (st : List mm_V) z, mm_E d 213 12 [(.inr (.inr z))] [] st n I L P = mm_E d 213 13 [(.inr (.inr z))] [] ((.inr (.inr z)) :: st) n I L P) ∧
  (∀ (lv : List mm_V) (st : List mm_V) a, (mm_ok n a 12) → mm_E d 213 13 lv [] (.inr (.inr (some a)) :: st) n I L P = mm_E d 213 16 lv [] (.inr (.inr (P a 27)) :: st) n I L P) ∧
  (∀ (lv : List mm_V) (st : List mm_V), mm_E d 213 16 lv [] st n I L P = mm_E d 213 18 lv [] (.inl 26 :: st) n I L P) ∧
  (∀ (lv : List mm_V) (st : List mm_V) a i, (mm_ix n a 20 i) → mm_E d 213 18 lv [] (.inl i :: .inr (.inr (some a)) :: st) n I L P = mm_E d 213 19 lv [] (.inl (I a i.toNat) :: st) n I L P) ∧
  (∀ (lv : List mm_V) (st : List mm_V), mm_E d 213 19 lv [] st n I L P = mm_E d 213 20 lv [] (.inl 3 :: st) n I L P) ∧
  (∀ (lv : List mm_V) (st : List mm_V) a b, mm_E d 213 20 lv [] (.inl b :: .inl a :: st) n I L P = if a = b then mm_E d 213 23 lv [] st n I L P else mm_E d 213 27 lv [] st n I L P) ∧
  (∀ (lv : List mm_V) (st : List mm_V), mm_E d 213 23 lv [] st n I L P = mm_E d 213 24 lv [] (.inl 2 :: st) n I L P) ∧
  (∀ (lv : List mm_V) (st : List mm_V), mm_E d 213 24 lv [] st n I L P = mm_E d 213 43 lv [] st n I L P) ∧
  (∀ (st : List mm_V) z, mm_E d 213 27 [(.inr (.inr z))] [] st n I L P = mm_E d 213 28 [(.inr (.inr z))] [] ((.inr (.inr z)) :: st) n I L P) ∧
  (∀ (lv : List mm_V) (st : List mm_V) a, (mm_ok n a 12) → mm_E d 213 28 lv [] (.inr (.inr (some a)) :: st) n I L P = mm_E d 213 31 lv [] (.inr (.inr (P a 27)) :: st) n I L P) ∧
  (∀ (lv : List mm_V) (st : List mm_V), mm_E d 213 31 lv [] st n I L P = mm_E d 213 33 lv [] (.inl 27 :: st) n I L P) ∧
  (∀ (lv : List mm_V) (st : List mm_V) a i, (mm_ix n a 20 i) → mm_E d 213 33 lv [] (.inl i :: .inr (.inr (some a)) :: st) n I L P = mm_E d 213 34 lv [] (.inl (I a i.toNat) :: st) n I L P) ∧
  (∀ (lv : List mm_V) (st : List mm_V), mm_E d 213 34 lv [] st n I L P = mm_E d 213 35 lv [] (.inl 5 :: st) n I L P) ∧
  (∀ (lv : List mm_V) (st : List mm_V) a b, mm_E d 213 35 lv [] (.inl b :: .inl a :: st) n I L P = if b ≤ a then mm_E d 213 42 lv [] st n I L P else mm_E d 213 38 lv [] st n I L P) ∧
  (∀ (lv : List mm_V) (st : List mm_V), mm_E d 213 38 lv [] st n I L P = mm_E d 213 39 lv [] (.inl 3 :: st) n I L P) ∧
  (∀ (lv : List mm_V) (st : List mm_V), mm_E d 213 39 lv [] st n I L P = mm_E d 213 43 lv [] st n I L P) ∧
  (∀ (lv : List mm_V) (st : List mm_V), mm_E d 213 42 lv [] st n I L P = mm_E d 213 43 lv [] (.inl (-1) :: st) n I L P) ∧
  (∀ (lv : List mm_V) a x0, (mm_ok n a 12) → mm_E d 213 43 lv [] (.inl x0 :: .inr (.inr (some a)) :: []) n I L P = mm_kr d 213 46 lv [] [] n (mm_rn d 206 [.inr (.inr (some a)), .inl x0] n I L P)) ∧
  (∀ (lv : List mm_V) (st : List mm_V) a, mm_E d 213 46 lv [] (.inl a :: st) n I L P = if a = 0 then mm_E d 213 51 lv [] st n I L P else mm_E d 213 49 lv [] st n I L P) ∧
  (∀ (lv : List mm_V) (st : List mm_V), mm_E d 213 49 lv [] st n I L P = mm_E d 213 50 lv [] (.inl (-1) :: st) n I L P) ∧
  (∀ (lv : List mm_V) z, mm_E d 213 50 lv [] [.inl z] n I L P = some (some (.inl z), n, I, L, P)) ∧
  (∀ (st : List mm_V) z, mm_E d 213 51 [(.inr (.inr z))] [] st n I L P = mm_E d 213 52 [(.inr (.inr z))] [] ((.inr (.inr z)) :: st) n I L P) ∧
  (∀ (lv : List mm_V) a, (mm_ok n a 12) → mm_E d 213 52 lv [] (.inr (.inr (some a)) :: []) n I L P = mm_kv d 213 55 lv [] [] n (mm_rn d 205 [.inr (.inr (some a))] n I L P)) ∧
  (∀ (st : List mm_V) z, mm_E d 213 55 [(.inr (.inr z))] [] st n I L P = mm_E d 213 56 [(.inr (.inr z))] [] ((.inr (.inr z)) :: st) n I L P) ∧
  (∀ (lv : List mm_V) (st : List mm_V) a, (mm_ok n a 12) → mm_E d 213 56 lv [] (.inr (.inr (some a)) :: st) n I L P = mm_E d 213 59 lv [] (.inr (.inr (P a 27)) :: st) n I L P) ∧
  (∀ (lv : List mm_V) (st : List mm_V), mm_E d 213 59 lv [] st n I L P = mm_E d 213 61 lv [] (.inl 27 :: st) n I L P) ∧
  (∀ (lv : List mm_V) (st : List mm_V) a b, mm_E d 213 61 lv [] ((.inl a) :: (.inr (.inr b)) :: st) n I L P = mm_E d 213 62 lv [] ((.inl a) :: (.inr (.inr b)) :: (.inl a) :: (.inr (.inr b)) :: st) n I L P) ∧
  (∀ (lv : List mm_V) (st : List mm_V) a i, (mm_ix n a 20 i) → mm_E d 213 62 lv [] (.inl i :: .inr (.inr (some a)) :: st) n I L P = mm_E d 213 63 lv [] (.inl (I a i.toNat) :: st) n I L P) ∧
  (∀ (lv : List mm_V) (st : List mm_V), mm_E d 213 63 lv [] st n I L P = mm_E d 213 64 lv [] (.inl 5 :: st) n I L P) ∧
  (∀ (lv : List mm_V) (st : List mm_V) a b, mm_E d 213 64 lv [] (.inl b :: .inl a :: st) n I L P = mm_E d 213 65 lv [] (.inl (mm_sub a b) :: st) n I L P) ∧
  (∀ (lv : List mm_V) (st : List mm_V) a i z, (mm_ix n a 20 i) → mm_E d 213 65 lv [] (.inl z :: .inl i :: .inr (.inr (some a)) :: st) n I L P = mm_E d 213 66 lv [] st n (mm_ui I a i.toNat z) L P) ∧
  (∀ (st : List mm_V) z, mm_E d 213 66 [(.inr (.inr z))] [] st n I L P = mm_E d 213 67 [(.inr (.inr z))] [] ((.inr (.inr z)) :: st) n I L P) ∧
  (∀ (lv : List mm_V) (st : List mm_V) a, (mm_ok n a 12) → mm_E d 213 67 lv [] (.inr (.inr (some a)) :: st) n I L P = mm_E d 213 70 lv [] (.inr (.inr (P a 27)) :: st) n I L P) ∧
  (∀ (lv : List mm_V) (st : List mm_V), mm_E d 213 70 lv [] st n I L P = mm_E d 213 72 lv [] (.inl 26 :: st) n I L P) ∧
  (∀ (lv : List mm_V) (st : List mm_V), mm_E d 213 72 lv [] st n I L P = mm_E d 213 73 lv [] (.inl 3 :: st) n I L P) ∧
  (∀ (lv : List mm_V) (st : List mm_V) a i z, (mm_ix n a 20 i) → mm_E d 213 73 lv [] (.inl z :: .inl i :: .inr (.inr (some a)) :: st) n I L P = mm_E d 213 74 lv [] st n (mm_ui I a i.toNat z) L P) ∧
  (∀ (st : List mm_V) z, mm_E d 213 74 [(.inr (.inr z))] [] st n I L P = mm_E d 213 75 [(.inr (.inr z))] [] ((.inr (.inr z)) :: st) n I L P) ∧
  (∀ (lv : List mm_V) (st : List mm_V) a, (mm_ok n a 12) → mm_E d 213 75 lv [] (.inr (.inr (some a)) :: st) n I L P = mm_E d 213 78 lv [] (.inr (.inr (P a 27)) :: st) n I L P) ∧
  (∀ (lv : List mm_V) (st : List mm_V), mm_E d 213 78 lv [] st n I L P = mm_E d 213 80 lv [] (.inl 24 :: st) n I L P) ∧
  (∀ (lv : List mm_V) (st : List mm_V), mm_E d 213 80 lv [] st n I L P = mm_E d 213 81 lv [] (.inl 0 :: st) n I L P) ∧
  (∀ (lv : List mm_V) (st : List mm_V) a i z, (mm_ix n a 20 i) → mm_E d 213 81 lv [] (.inl z :: .inl i :: .inr (.inr (some a)) :: st) n I L P = mm_E d 213 82 lv [] st n (mm_ui I a i.toNat z) L P) ∧
  (∀ (st : List mm_V) z, mm_E d 213 82 [(.inr (.inr z))] [] st n I L P = mm_E d 213 83 [(.inr (.inr z))] [] ((.inr (.inr z)) :: st) n I L P) ∧
  (∀ (lv : List mm_V) (st : List mm_V) a, (mm_ok n a 12) → mm_E d 213 83 lv [] (.inr (.inr (some a)) :: st) n I L P = mm_E d 213 86 lv [] (.inr (.inr (P a 27)) :: st) n I L P) ∧
  (∀ (lv : List mm_V) (st : List mm_V), mm_E d 213 86 lv [] st n I L P = mm_E d 213 88 lv [] (.inl 27 :: st) n I L P) ∧
  (∀ (lv : List mm_V) (st : List mm_V) a i, (mm_ix n a 20 i) → mm_E d 213 88 lv [] (.inl i :: .inr (.inr (some a)) :: st) n I L P = mm_E d 213 89 lv [] (.inl (I a i.toNat) :: st) n I L P) ∧
  (∀ (lv : List mm_V) z, mm_E d 213 89 lv [] [.inl z] n I L P = some (some (.inl z), n, I, L, P)) :=
  ⟨fun _ _ => mq_al (i := 0) rfl rfl,
   fun _ _ => mq_al (i := 0) rfl rfl,
   fun _ _ _ h0 => mq_getI rfl h0,
   fun _ _ _ => mq_if_ne rfl,
   fun _ _ => mq_push rfl,
   fun _ _ => mq_go rfl,
   fun _ _ => mq_al (i := 0) rfl rfl,
   fun _ _ _ h0 => mq_getR rfl h0,
   fun _ _ => mq_push rfl,
   fun _ _ _ _ h0 => mq_iald rfl h0,
   fun _ _ => mq_push rfl,
   fun _ _ _ _ => mq_ic_ne rfl,
   fun _ _ => mq_push rfl,
   fun _ _ => mq_go rfl,
   fun _ _ => mq_al (i := 0) rfl rfl,
   fun _ _ _ h0 => mq_getR rfl h0,
   fun _ _ => mq_push rfl,
   fun _ _ _ _ h0 => mq_iald rfl h0,
   fun _ _ => mq_push rfl,
   fun _ _ _ _ => mq_ic_ge rfl,
   fun _ _ => mq_push rfl,
   fun _ _ => mq_go rfl,
   fun _ _ => mq_push rfl,
   fun _ _ _ h0 => mq_cVr (na := 1) rfl rfl (Nat.le_of_ble_eq_true rfl) (Nat.le_of_ble_eq_true rfl) h0,
   fun _ _ _ => mq_if_eq rfl,
   fun _ _ => mq_push rfl,
   fun _ _ => mq_ri rfl,
   fun _ _ => mq_al (i := 0) rfl rfl,
   fun _ _ h0 => mq_cVv (na := 0) rfl rfl (Nat.le_of_ble_eq_true rfl) (Nat.le_of_ble_eq_true rfl) h0,
   fun _ _ => mq_al (i := 0) rfl rfl,
   fun _ _ _ h0 => mq_getR rfl h0,
   fun _ _ => mq_push rfl,
   fun _ _ _ _ => mq_dup2 rfl rfl rfl,
   fun _ _ _ _ h0 => mq_iald rfl h0,
   fun _ _ => mq_push rfl,
   fun _ _ _ _ => mq_bi rfl,
   fun _ _ _ _ _ h0 => mq_iast rfl h0,
   fun _ _ => mq_al (i := 0) rfl rfl,
   fun _ _ _ h0 => mq_getR rfl h0,
   fun _ _ => mq_push rfl,
   fun _ _ => mq_push rfl,
   fun _ _ _ _ _ h0 => mq_iast rfl h0,
   fun _ _ => mq_al (i := 0) rfl rfl,
   fun _ _ _ h0 => mq_getR rfl h0,
   fun _ _ => mq_push rfl,
   fun _ _ => mq_push rfl,
   fun _ _ _ _ _ h0 => mq_iast rfl h0,
   fun _ _ => mq_al (i := 0) rfl rfl,
   fun _ _ _ h0 => mq_getR rfl h0,
   fun _ _ => mq_push rfl,
   fun _ _ _ _ h0 => mq_iald rfl h0,
   fun _ _ => mq_ri rfl⟩
theorem eX12_heir (d n : Nat) (I L : mm_I) (P : mm_P) (x0 : Option Nat) : mm_rn (d + 1) 213 [.inr (.inr x0)] n I L P = mm_E d 213 0 [.inr (.inr x0)] [] [] n I L P := rfl

set_option maxRecDepth 20000 in
set_option maxHeartbeats 8000000 in
theorem kX12_beginNow (d n : Nat) (I L : mm_I) (P : mm_P) :
  (∀ (st : List mm_V) z (l1 : mm_V) (l2 : mm_V) (l3 : mm_V), mm_E d 214 0 [(.inr (.inr z)), l1, l2, l3] [] st n I L P = mm_E d 214 1 [(.inr (.inr z)), l1, l2, l3] [] ((.inr (.inr z)) :: st) n I L P) ∧
  (∀ (lv : List mm_V) (st : List mm_V) a, (mm_ok n a 12) → mm_E d 214 1 lv [] (.inr (.inr (some a)) :: st) n I L P = mm_E d 214 4 lv [] (.inr (.inr (P a 27)) :: st) n I L P) ∧
  (∀ (lv : List mm_V) (st : List mm_V), mm_E d 214 4 lv [] st n I L P = mm_E d 214 6 lv [] (.inl 8 :: st) n I L P) ∧
  (∀ (st : List mm_V) z (l0 : mm_V) (l2 : mm_V) (l3 : mm_V), mm_E d 214 6 [l0, (.inl z), l2, l3] [] st n I L P = mm_E d 214 7 [l0, (.inl z), l2, l3] [] ((.inl z) :: st) n I L P) ∧
  (∀ (lv : List mm_V) (st : List mm_V) a b, mm_E d 214 7 lv [] (.inl b :: .inl a :: st) n I L P = mm_E d 214 8 lv [] (.inl (mm_add a b) :: st) n I L P) ∧
  (∀ (st : List mm_V) z (l0 : mm_V) (l1 : mm_V) (l3 : mm_V), mm_E d 214 8 [l0, l1, (.inl z), l3] [] st n I L P = mm_E d 214 9 [l0, l1, (.inl z), l3] [] ((.inl z) :: st) n I L P) ∧
  (∀ (lv : List mm_V) (st : List mm_V) a i z, (mm_ix n a 20 i) → mm_E d 214 9 lv [] (.inl z :: .inl i :: .inr (.inr (some a)) :: st) n I L P = mm_E d 214 10 lv [] st n (mm_ui I a i.toNat z) L P) ∧
  (∀ (st : List mm_V) z (l1 : mm_V) (l2 : mm_V) (l3 : mm_V), mm_E d 214 10 [(.inr (.inr z)), l1, l2, l3] [] st n I L P = mm_E d 214 11 [(.inr (.inr z)), l1, l2, l3] [] ((.inr (.inr z)) :: st) n I L P) ∧
  (∀ (lv : List mm_V) (st : List mm_V) a, (mm_ok n a 12) → mm_E d 214 11 lv [] (.inr (.inr (some a)) :: st) n I L P = mm_E d 214 14 lv [] (.inr (.inr (P a 27)) :: st) n I L P) ∧
  (∀ (lv : List mm_V) (st : List mm_V), mm_E d 214 14 lv [] st n I L P = mm_E d 214 16 lv [] (.inl 16 :: st) n I L P) ∧
  (∀ (st : List mm_V) z (l0 : mm_V) (l2 : mm_V) (l3 : mm_V), mm_E d 214 16 [l0, (.inl z), l2, l3] [] st n I L P = mm_E d 214 17 [l0, (.inl z), l2, l3] [] ((.inl z) :: st) n I L P) ∧
  (∀ (lv : List mm_V) (st : List mm_V) a b, mm_E d 214 17 lv [] (.inl b :: .inl a :: st) n I L P = mm_E d 214 18 lv [] (.inl (mm_add a b) :: st) n I L P) ∧
  (∀ (st : List mm_V) z (l0 : mm_V) (l1 : mm_V) (l2 : mm_V), mm_E d 214 18 [l0, l1, l2, (.inl z)] [] st n I L P = mm_E d 214 19 [l0, l1, l2, (.inl z)] [] ((.inl z) :: st) n I L P) ∧
  (∀ (lv : List mm_V) (st : List mm_V) a i z, (mm_ix n a 20 i) → mm_E d 214 19 lv [] (.inl z :: .inl i :: .inr (.inr (some a)) :: st) n I L P = mm_E d 214 20 lv [] st n (mm_ui I a i.toNat z) L P) ∧
  (∀ (lv : List mm_V), mm_E d 214 20 lv [] [] n I L P = some (none, n, I, L, P)) :=
  ⟨fun _ _ _ _ _ => mq_al (i := 0) rfl rfl,
   fun _ _ _ h0 => mq_getR rfl h0,
   fun _ _ => mq_push rfl,
   fun _ _ _ _ _ => mq_il (i := 1) rfl rfl,
   fun _ _ _ _ => mq_bi rfl,
   fun _ _ _ _ _ => mq_il (i := 2) rfl rfl,
   fun _ _ _ _ _ h0 => mq_iast rfl h0,
   fun _ _ _ _ _ => mq_al (i := 0) rfl rfl,
   fun _ _ _ h0 => mq_getR rfl h0,
   fun _ _ => mq_push rfl,
   fun _ _ _ _ _ => mq_il (i := 1) rfl rfl,
   fun _ _ _ _ => mq_bi rfl,
   fun _ _ _ _ _ => mq_il (i := 3) rfl rfl,
   fun _ _ _ _ _ h0 => mq_iast rfl h0,
   fun _ => mq_rv rfl⟩
theorem eX12_beginNow (d n : Nat) (I L : mm_I) (P : mm_P) (x0 : Option Nat) (x1 : Int) (x2 : Int) (x3 : Int) : mm_rn (d + 1) 214 [.inr (.inr x0), .inl x1, .inl x2, .inl x3] n I L P = mm_E d 214 0 [.inr (.inr x0), .inl x1, .inl x2, .inl x3] [] [] n I L P := rfl

set_option maxRecDepth 20000 in
set_option maxHeartbeats 8000000 in
theorem kX12_begin (d n : Nat) (I L : mm_I) (P : mm_P) :
  (∀ (st : List mm_V) z (l1 : mm_V) (l2 : mm_V) (l3 : mm_V), mm_E d 215 0 [(.inr (.inr z)), l1, l2, l3] [] st n I L P = mm_E d 215 1 [(.inr (.inr z)), l1, l2, l3] [] ((.inr (.inr z)) :: st) n I L P) ∧
  (∀ (st : List mm_V) z (l1 : mm_V) (l2 : mm_V) (l3 : mm_V), mm_E d 215 1 [(.inr (.inr z)), l1, l2, l3] [] st n I L P = mm_E d 215 2 [(.inr (.inr z)), l1, l2, l3] [] ((.inr (.inr z)) :: st) n I L P) ∧
  (∀ (st : List mm_V) z (l0 : mm_V) (l2 : mm_V) (l3 : mm_V), mm_E d 215 2 [l0, (.inl z), l2, l3] [] st n I L P = mm_E d 215 3 [l0, (.inl z), l2, l3] [] ((.inl z) :: st) n I L P) ∧
  (∀ (lv : List mm_V) a x0 w0, (mm_ok n a 12) → mm_E d 215 3 lv [] (.inl x0 :: .inr (.inr (some a)) :: [.inr (.inr w0)]) n I L P = mm_kr d 215 6 lv [] [.inr (.inr w0)] n (mm_rn d 191 [.inr (.inr (some a)), .inl x0] n I L P)) ∧
  (∀ (lv : List mm_V) (st : List mm_V) a, mm_E d 215 6 lv [] (.inl a :: st) n I L P = if a = 0 then mm_E d 215 9 lv [] st n I L P else mm_E d 215 13 lv [] st n I L P) ∧
  (∀ (lv : List mm_V) (st : List mm_V), mm_E d 215 9 lv [] st n I L P = mm_E d 215 10 lv [] (.inl 0 :: st) n I L P) ∧
  (∀ (lv : List mm_V) (st : List mm_V), mm_E d 215 10 lv [] st n I L P = mm_E d 215 49 lv [] st n I L P) ∧
  (∀ (st : List mm_V) z (l0 : mm_V) (l1 : mm_V) (l3 : mm_V), mm_E d 215 13 [l0, l1, (.inl z), l3] [] st n I L P = mm_E d 215 14 [l0, l1, (.inl z), l3] [] ((.inl z) :: st) n I L P) ∧
  (∀ (lv : List mm_V) (st : List mm_V), mm_E d 215 14 lv [] st n I L P = mm_E d 215 15 lv [] (.inl 0 :: st) n I L P) ∧
  (∀ (lv : List mm_V) (st : List mm_V), mm_E d 215 15 lv [] st n I L P = mm_E d 215 16 lv [] (.inl 2 :: st) n I L P) ∧
  (∀ (lv : List mm_V) x0 x1 x2 w0, mm_E d 215 16 lv [] (.inl x2 :: .inl x1 :: .inl x0 :: [.inr (.inr w0)]) n I L P = mm_kr d 215 19 lv [] [.inr (.inr w0)] n (mm_rn d 145 [.inl x0, .inl x1, .inl x2] n I L P)) ∧
  (∀ (lv : List mm_V) (st : List mm_V) a, mm_E d 215 19 lv [] (.inl a :: st) n I L P = if a = 0 then mm_E d 215 32 lv [] st n I L P else mm_E d 215 22 lv [] st n I L P) ∧
  (∀ (st : List mm_V) z (l0 : mm_V) (l1 : mm_V) (l2 : mm_V), mm_E d 215 22 [l0, l1, l2, (.inl z)] [] st n I L P = mm_E d 215 23 [l0, l1, l2, (.inl z)] [] ((.inl z) :: st) n I L P) ∧
  (∀ (lv : List mm_V) (st : List mm_V), mm_E d 215 23 lv [] st n I L P = mm_E d 215 24 lv [] (.inl 1 :: st) n I L P) ∧
  (∀ (lv : List mm_V) (st : List mm_V), mm_E d 215 24 lv [] st n I L P = mm_E d 215 26 lv [] (.inl 9 :: st) n I L P) ∧
  (∀ (lv : List mm_V) x0 x1 x2 w0, mm_E d 215 26 lv [] (.inl x2 :: .inl x1 :: .inl x0 :: [.inr (.inr w0)]) n I L P = mm_kr d 215 29 lv [] [.inr (.inr w0)] n (mm_rn d 145 [.inl x0, .inl x1, .inl x2] n I L P)) ∧
  (∀ (lv : List mm_V) (st : List mm_V) a, mm_E d 215 29 lv [] (.inl a :: st) n I L P = if a = 0 then mm_E d 215 32 lv [] st n I L P else mm_E d 215 36 lv [] st n I L P) ∧
  (∀ (lv : List mm_V) (st : List mm_V), mm_E d 215 32 lv [] st n I L P = mm_E d 215 33 lv [] (.inl 1 :: st) n I L P) ∧
  (∀ (lv : List mm_V) (st : List mm_V), mm_E d 215 33 lv [] st n I L P = mm_E d 215 49 lv [] st n I L P) ∧
  (∀ (st : List mm_V) z (l1 : mm_V) (l2 : mm_V) (l3 : mm_V), mm_E d 215 36 [(.inr (.inr z)), l1, l2, l3] [] st n I L P = mm_E d 215 37 [(.inr (.inr z)), l1, l2, l3] [] ((.inr (.inr z)) :: st) n I L P) ∧
  (∀ (st : List mm_V) z (l0 : mm_V) (l2 : mm_V) (l3 : mm_V), mm_E d 215 37 [l0, (.inl z), l2, l3] [] st n I L P = mm_E d 215 38 [l0, (.inl z), l2, l3] [] ((.inl z) :: st) n I L P) ∧
  (∀ (lv : List mm_V) a x0 w0, (mm_ok n a 12) → mm_E d 215 38 lv [] (.inl x0 :: .inr (.inr (some a)) :: [.inr (.inr w0)]) n I L P = mm_kr d 215 41 lv [] [.inr (.inr w0)] n (mm_rn d 193 [.inr (.inr (some a)), .inl x0] n I L P)) ∧
  (∀ (lv : List mm_V) (st : List mm_V) a, mm_E d 215 41 lv [] (.inl a :: st) n I L P = if a = 0 then mm_E d 215 48 lv [] st n I L P else mm_E d 215 44 lv [] st n I L P) ∧
  (∀ (lv : List mm_V) (st : List mm_V), mm_E d 215 44 lv [] st n I L P = mm_E d 215 45 lv [] (.inl 2 :: st) n I L P) ∧
  (∀ (lv : List mm_V) (st : List mm_V), mm_E d 215 45 lv [] st n I L P = mm_E d 215 49 lv [] st n I L P) ∧
  (∀ (lv : List mm_V) (st : List mm_V), mm_E d 215 48 lv [] st n I L P = mm_E d 215 49 lv [] (.inl (-1) :: st) n I L P) ∧
  (∀ (lv : List mm_V) a x0, (mm_ok n a 12) → mm_E d 215 49 lv [] (.inl x0 :: .inr (.inr (some a)) :: []) n I L P = mm_kr d 215 52 lv [] [] n (mm_rn d 206 [.inr (.inr (some a)), .inl x0] n I L P)) ∧
  (∀ (lv : List mm_V) (st : List mm_V) a, mm_E d 215 52 lv [] (.inl a :: st) n I L P = if a = 0 then mm_E d 215 57 lv [] st n I L P else mm_E d 215 55 lv [] st n I L P) ∧
  (∀ (lv : List mm_V) (st : List mm_V), mm_E d 215 55 lv [] st n I L P = mm_E d 215 56 lv [] (.inl (-1) :: st) n I L P) ∧
  (∀ (lv : List mm_V) z, mm_E d 215 56 lv [] [.inl z] n I L P = some (some (.inl z), n, I, L, P)) ∧
  (∀ (st : List mm_V) z (l1 : mm_V) (l2 : mm_V) (l3 : mm_V), mm_E d 215 57 [(.inr (.inr z)), l1, l2, l3] [] st n I L P = mm_E d 215 58 [(.inr (.inr z)), l1, l2, l3] [] ((.inr (.inr z)) :: st) n I L P) ∧
  (∀ (lv : List mm_V) a, (mm_ok n a 12) → mm_E d 215 58 lv [] (.inr (.inr (some a)) :: []) n I L P = mm_kv d 215 61 lv [] [] n (mm_rn d 205 [.inr (.inr (some a))] n I L P)) ∧
  (∀ (st : List mm_V) z (l1 : mm_V) (l2 : mm_V) (l3 : mm_V), mm_E d 215 61 [(.inr (.inr z)), l1, l2, l3] [] st n I L P = mm_E d 215 62 [(.inr (.inr z)), l1, l2, l3] [] ((.inr (.inr z)) :: st) n I L P) ∧
  (∀ (st : List mm_V) z (l0 : mm_V) (l2 : mm_V) (l3 : mm_V), mm_E d 215 62 [l0, (.inl z), l2, l3] [] st n I L P = mm_E d 215 63 [l0, (.inl z), l2, l3] [] ((.inl z) :: st) n I L P) ∧
  (∀ (st : List mm_V) z (l0 : mm_V) (l1 : mm_V) (l3 : mm_V), mm_E d 215 63 [l0, l1, (.inl z), l3] [] st n I L P = mm_E d 215 64 [l0, l1, (.inl z), l3] [] ((.inl z) :: st) n I L P) ∧
  (∀ (st : List mm_V) z (l0 : mm_V) (l1 : mm_V) (l2 : mm_V), mm_E d 215 64 [l0, l1, l2, (.inl z)] [] st n I L P = mm_E d 215 65 [l0, l1, l2, (.inl z)] [] ((.inl z) :: st) n I L P) ∧
  (∀ (lv : List mm_V) a x0 x1 x2, (mm_ok n a 12) → mm_E d 215 65 lv [] (.inl x2 :: .inl x1 :: .inl x0 :: .inr (.inr (some a)) :: []) n I L P = mm_kv d 215 68 lv [] [] n (mm_rn d 214 [.inr (.inr (some a)), .inl x0, .inl x1, .inl x2] n I L P)) ∧
  (∀ (st : List mm_V) z (l1 : mm_V) (l2 : mm_V) (l3 : mm_V), mm_E d 215 68 [(.inr (.inr z)), l1, l2, l3] [] st n I L P = mm_E d 215 69 [(.inr (.inr z)), l1, l2, l3] [] ((.inr (.inr z)) :: st) n I L P) ∧
  (∀ (lv : List mm_V) a, (mm_ok n a 12) → mm_E d 215 69 lv [] (.inr (.inr (some a)) :: []) n I L P = mm_kr d 215 72 lv [] [] n (mm_rn d 194 [.inr (.inr (some a))] n I L P)) ∧
  (∀ (lv : List mm_V) x0, mm_E d 215 72 lv [] (.inl x0 :: []) n I L P = mm_kr d 215 75 lv [] [] n (mm_rn d 263 [.inl x0] n I L P)) ∧
  (∀ (lv : List mm_V) z, mm_E d 215 75 lv [] [.inl z] n I L P = some (some (.inl z), n, I, L, P)) :=
  ⟨fun _ _ _ _ _ => mq_al (i := 0) rfl rfl,
   fun _ _ _ _ _ => mq_al (i := 0) rfl rfl,
   fun _ _ _ _ _ => mq_il (i := 1) rfl rfl,
   fun _ _ _ _ h0 => mq_cVr (na := 1) rfl rfl (Nat.le_of_ble_eq_true rfl) (Nat.le_of_ble_eq_true rfl) h0,
   fun _ _ _ => mq_if_ne rfl,
   fun _ _ => mq_push rfl,
   fun _ _ => mq_go rfl,
   fun _ _ _ _ _ => mq_il (i := 2) rfl rfl,
   fun _ _ => mq_push rfl,
   fun _ _ => mq_push rfl,
   fun _ _ _ _ _ => mq_cSr (na := 3) rfl (Nat.le_of_ble_eq_true rfl) (Nat.le_of_ble_eq_true rfl),
   fun _ _ _ => mq_if_eq rfl,
   fun _ _ _ _ _ => mq_il (i := 3) rfl rfl,
   fun _ _ => mq_push rfl,
   fun _ _ => mq_push rfl,
   fun _ _ _ _ _ => mq_cSr (na := 3) rfl (Nat.le_of_ble_eq_true rfl) (Nat.le_of_ble_eq_true rfl),
   fun _ _ _ => mq_if_ne rfl,
   fun _ _ => mq_push rfl,
   fun _ _ => mq_go rfl,
   fun _ _ _ _ _ => mq_al (i := 0) rfl rfl,
   fun _ _ _ _ _ => mq_il (i := 1) rfl rfl,
   fun _ _ _ _ h0 => mq_cVr (na := 1) rfl rfl (Nat.le_of_ble_eq_true rfl) (Nat.le_of_ble_eq_true rfl) h0,
   fun _ _ _ => mq_if_eq rfl,
   fun _ _ => mq_push rfl,
   fun _ _ => mq_go rfl,
   fun _ _ => mq_push rfl,
   fun _ _ _ h0 => mq_cVr (na := 1) rfl rfl (Nat.le_of_ble_eq_true rfl) (Nat.le_of_ble_eq_true rfl) h0,
   fun _ _ _ => mq_if_eq rfl,
   fun _ _ => mq_push rfl,
   fun _ _ => mq_ri rfl,
   fun _ _ _ _ _ => mq_al (i := 0) rfl rfl,
   fun _ _ h0 => mq_cVv (na := 0) rfl rfl (Nat.le_of_ble_eq_true rfl) (Nat.le_of_ble_eq_true rfl) h0,
   fun _ _ _ _ _ => mq_al (i := 0) rfl rfl,
   fun _ _ _ _ _ => mq_il (i := 1) rfl rfl,
   fun _ _ _ _ _ => mq_il (i := 2) rfl rfl,
   fun _ _ _ _ _ => mq_il (i := 3) rfl rfl,
   fun _ _ _ _ _ h0 => mq_cVv (na := 3) rfl rfl (Nat.le_of_ble_eq_true rfl) (Nat.le_of_ble_eq_true rfl) h0,
   fun _ _ _ _ _ => mq_al (i := 0) rfl rfl,
   fun _ _ h0 => mq_cVr (na := 0) rfl rfl (Nat.le_of_ble_eq_true rfl) (Nat.le_of_ble_eq_true rfl) h0,
   fun _ _ => mq_cSr (na := 1) rfl (Nat.le_of_ble_eq_true rfl) (Nat.le_of_ble_eq_true rfl),
   fun _ _ => mq_ri rfl⟩
theorem eX12_begin (d n : Nat) (I L : mm_I) (P : mm_P) (x0 : Option Nat) (x1 : Int) (x2 : Int) (x3 : Int) : mm_rn (d + 1) 215 [.inr (.inr x0), .inl x1, .inl x2, .inl x3] n I L P = mm_E d 215 0 [.inr (.inr x0), .inl x1, .inl x2, .inl x3] [] [] n I L P := rfl

set_option maxRecDepth 20000 in
set_option maxHeartbeats 8000000 in
theorem kX12_give (d n : Nat) (I L : mm_I) (P : mm_P) :
  (∀ (st : List mm_V) z (l1 : mm_V), mm_E d 216 0 [(.inr (.inr z)), l1] [] st n I L P = mm_E d 216 1 [(.inr (.inr z)), l1] [] ((.inr (.inr z)) :: st) n I L P) ∧
  (∀ (st : List mm_V) z (l1 : mm_V), mm_E d 216 1 [(.inr (.inr z)), l1] [] st n I L P = mm_E d 216 2 [(.inr (.inr z)), l1] [] ((.inr (.inr z)) :: st) n I L P) ∧
  (∀ (lv : List mm_V) (st : List mm_V) a, (mm_ok n a 12) → mm_E d 216 2 lv [] (.inr (.inr (some a)) :: st) n I L P = mm_E d 216 5 lv [] (.inl (I a 26) :: st) n I L P) ∧
  (∀ (lv : List mm_V) (st : List mm_V) a, mm_E d 216 5 lv [] (.inl a :: st) n I L P = if a = 0 then mm_E d 216 8 lv [] st n I L P else mm_E d 216 12 lv [] st n I L P) ∧
  (∀ (lv : List mm_V) (st : List mm_V), mm_E d 216 8 lv [] st n I L P = mm_E d 216 9 lv [] (.inl 0 :: st) n I L P) ∧
  (∀ (lv : List mm_V) (st : List mm_V), mm_E d 216 9 lv [] st n I L P = mm_E d 216 46 lv [] st n I L P) ∧
  (∀ (st : List mm_V) z (l0 : mm_V), mm_E d 216 12 [l0, (.inl z)] [] st n I L P = mm_E d 216 13 [l0, (.inl z)] [] ((.inl z) :: st) n I L P) ∧
  (∀ (lv : List mm_V) (st : List mm_V), mm_E d 216 13 lv [] st n I L P = mm_E d 216 14 lv [] (.inl 1 :: st) n I L P) ∧
  (∀ (lv : List mm_V) (st : List mm_V), mm_E d 216 14 lv [] st n I L P = mm_E d 216 16 lv [] (.inl 50 :: st) n I L P) ∧
  (∀ (lv : List mm_V) x0 x1 x2 w0, mm_E d 216 16 lv [] (.inl x2 :: .inl x1 :: .inl x0 :: [.inr (.inr w0)]) n I L P = mm_kr d 216 19 lv [] [.inr (.inr w0)] n (mm_rn d 145 [.inl x0, .inl x1, .inl x2] n I L P)) ∧
  (∀ (lv : List mm_V) (st : List mm_V) a, mm_E d 216 19 lv [] (.inl a :: st) n I L P = if a = 0 then mm_E d 216 22 lv [] st n I L P else mm_E d 216 26 lv [] st n I L P) ∧
  (∀ (lv : List mm_V) (st : List mm_V), mm_E d 216 22 lv [] st n I L P = mm_E d 216 23 lv [] (.inl 1 :: st) n I L P) ∧
  (∀ (lv : List mm_V) (st : List mm_V), mm_E d 216 23 lv [] st n I L P = mm_E d 216 46 lv [] st n I L P) ∧
  (∀ (st : List mm_V) z (l1 : mm_V), mm_E d 216 26 [(.inr (.inr z)), l1] [] st n I L P = mm_E d 216 27 [(.inr (.inr z)), l1] [] ((.inr (.inr z)) :: st) n I L P) ∧
  (∀ (lv : List mm_V) (st : List mm_V) a, (mm_ok n a 12) → mm_E d 216 27 lv [] (.inr (.inr (some a)) :: st) n I L P = mm_E d 216 30 lv [] (.inr (.inr (P a 27)) :: st) n I L P) ∧
  (∀ (lv : List mm_V) (st : List mm_V), mm_E d 216 30 lv [] st n I L P = mm_E d 216 32 lv [] (.inl 27 :: st) n I L P) ∧
  (∀ (lv : List mm_V) (st : List mm_V) a i, (mm_ix n a 20 i) → mm_E d 216 32 lv [] (.inl i :: .inr (.inr (some a)) :: st) n I L P = mm_E d 216 33 lv [] (.inl (I a i.toNat) :: st) n I L P) ∧
  (∀ (st : List mm_V) z (l0 : mm_V), mm_E d 216 33 [l0, (.inl z)] [] st n I L P = mm_E d 216 34 [l0, (.inl z)] [] ((.inl z) :: st) n I L P) ∧
  (∀ (lv : List mm_V) (st : List mm_V) a b, mm_E d 216 34 lv [] (.inl b :: .inl a :: st) n I L P = mm_E d 216 35 lv [] (.inl (mm_add a b) :: st) n I L P) ∧
  (∀ (lv : List mm_V) (st : List mm_V), mm_E d 216 35 lv [] st n I L P = mm_E d 216 38 lv [] (.inl 999 :: st) n I L P) ∧
  (∀ (lv : List mm_V) (st : List mm_V) a b, mm_E d 216 38 lv [] (.inl b :: .inl a :: st) n I L P = if a ≤ b then mm_E d 216 45 lv [] st n I L P else mm_E d 216 41 lv [] st n I L P) ∧
  (∀ (lv : List mm_V) (st : List mm_V), mm_E d 216 41 lv [] st n I L P = mm_E d 216 42 lv [] (.inl 3 :: st) n I L P) ∧
  (∀ (lv : List mm_V) (st : List mm_V), mm_E d 216 42 lv [] st n I L P = mm_E d 216 46 lv [] st n I L P) ∧
  (∀ (lv : List mm_V) (st : List mm_V), mm_E d 216 45 lv [] st n I L P = mm_E d 216 46 lv [] (.inl (-1) :: st) n I L P) ∧
  (∀ (lv : List mm_V) a x0, (mm_ok n a 12) → mm_E d 216 46 lv [] (.inl x0 :: .inr (.inr (some a)) :: []) n I L P = mm_kr d 216 49 lv [] [] n (mm_rn d 206 [.inr (.inr (some a)), .inl x0] n I L P)) ∧
  (∀ (lv : List mm_V) (st : List mm_V) a, mm_E d 216 49 lv [] (.inl a :: st) n I L P = if a = 0 then mm_E d 216 54 lv [] st n I L P else mm_E d 216 52 lv [] st n I L P) ∧
  (∀ (lv : List mm_V) (st : List mm_V), mm_E d 216 52 lv [] st n I L P = mm_E d 216 53 lv [] (.inl (-1) :: st) n I L P) ∧
  (∀ (lv : List mm_V) z, mm_E d 216 53 lv [] [.inl z] n I L P = some (some (.inl z), n, I, L, P)) ∧
  (∀ (st : List mm_V) z (l1 : mm_V), mm_E d 216 54 [(.inr (.inr z)), l1] [] st n I L P = mm_E d 216 55 [(.inr (.inr z)), l1] [] ((.inr (.inr z)) :: st) n I L P) ∧
  (∀ (lv : List mm_V) a, (mm_ok n a 12) → mm_E d 216 55 lv [] (.inr (.inr (some a)) :: []) n I L P = mm_kv d 216 58 lv [] [] n (mm_rn d 205 [.inr (.inr (some a))] n I L P)) ∧
  (∀ (st : List mm_V) z (l1 : mm_V), mm_E d 216 58 [(.inr (.inr z)), l1] [] st n I L P = mm_E d 216 59 [(.inr (.inr z)), l1] [] ((.inr (.inr z)) :: st) n I L P) ∧
  (∀ (lv : List mm_V) (st : List mm_V) a, (mm_ok n a 12) → mm_E d 216 59 lv [] (.inr (.inr (some a)) :: st) n I L P = mm_E d 216 62 lv [] (.inr (.inr (P a 27)) :: st) n I L P) ∧
  (∀ (lv : List mm_V) (st : List mm_V), mm_E d 216 62 lv [] st n I L P = mm_E d 216 64 lv [] (.inl 27 :: st) n I L P) ∧
  (∀ (lv : List mm_V) (st : List mm_V) a b, mm_E d 216 64 lv [] ((.inl a) :: (.inr (.inr b)) :: st) n I L P = mm_E d 216 65 lv [] ((.inl a) :: (.inr (.inr b)) :: (.inl a) :: (.inr (.inr b)) :: st) n I L P) ∧
  (∀ (lv : List mm_V) (st : List mm_V) a i, (mm_ix n a 20 i) → mm_E d 216 65 lv [] (.inl i :: .inr (.inr (some a)) :: st) n I L P = mm_E d 216 66 lv [] (.inl (I a i.toNat) :: st) n I L P) ∧
  (∀ (st : List mm_V) z (l0 : mm_V), mm_E d 216 66 [l0, (.inl z)] [] st n I L P = mm_E d 216 67 [l0, (.inl z)] [] ((.inl z) :: st) n I L P) ∧
  (∀ (lv : List mm_V) (st : List mm_V) a b, mm_E d 216 67 lv [] (.inl b :: .inl a :: st) n I L P = mm_E d 216 68 lv [] (.inl (mm_add a b) :: st) n I L P) ∧
  (∀ (lv : List mm_V) (st : List mm_V) a i z, (mm_ix n a 20 i) → mm_E d 216 68 lv [] (.inl z :: .inl i :: .inr (.inr (some a)) :: st) n I L P = mm_E d 216 69 lv [] st n (mm_ui I a i.toNat z) L P) ∧
  (∀ (st : List mm_V) z (l1 : mm_V), mm_E d 216 69 [(.inr (.inr z)), l1] [] st n I L P = mm_E d 216 70 [(.inr (.inr z)), l1] [] ((.inr (.inr z)) :: st) n I L P) ∧
  (∀ (lv : List mm_V) (st : List mm_V) a, (mm_ok n a 12) → mm_E d 216 70 lv [] (.inr (.inr (some a)) :: st) n I L P = mm_E d 216 73 lv [] (.inr (.inr (P a 27)) :: st) n I L P) ∧
  (∀ (lv : List mm_V) (st : List mm_V), mm_E d 216 73 lv [] st n I L P = mm_E d 216 75 lv [] (.inl 27 :: st) n I L P) ∧
  (∀ (lv : List mm_V) (st : List mm_V) a i, (mm_ix n a 20 i) → mm_E d 216 75 lv [] (.inl i :: .inr (.inr (some a)) :: st) n I L P = mm_E d 216 76 lv [] (.inl (I a i.toNat) :: st) n I L P) ∧
  (∀ (lv : List mm_V) z, mm_E d 216 76 lv [] [.inl z] n I L P = some (some (.inl z), n, I, L, P)) :=
  ⟨fun _ _ _ => mq_al (i := 0) rfl rfl,
   fun _ _ _ => mq_al (i := 0) rfl rfl,
   fun _ _ _ h0 => mq_getI rfl h0,
   fun _ _ _ => mq_if_ne rfl,
   fun _ _ => mq_push rfl,
   fun _ _ => mq_go rfl,
   fun _ _ _ => mq_il (i := 1) rfl rfl,
   fun _ _ => mq_push rfl,
   fun _ _ => mq_push rfl,
   fun _ _ _ _ _ => mq_cSr (na := 3) rfl (Nat.le_of_ble_eq_true rfl) (Nat.le_of_ble_eq_true rfl),
   fun _ _ _ => mq_if_ne rfl,
   fun _ _ => mq_push rfl,
   fun _ _ => mq_go rfl,
   fun _ _ _ => mq_al (i := 0) rfl rfl,
   fun _ _ _ h0 => mq_getR rfl h0,
   fun _ _ => mq_push rfl,
   fun _ _ _ _ h0 => mq_iald rfl h0,
   fun _ _ _ => mq_il (i := 1) rfl rfl,
   fun _ _ _ _ => mq_bi rfl,
   fun _ _ => mq_push rfl,
   fun _ _ _ _ => mq_ic_le rfl,
   fun _ _ => mq_push rfl,
   fun _ _ => mq_go rfl,
   fun _ _ => mq_push rfl,
   fun _ _ _ h0 => mq_cVr (na := 1) rfl rfl (Nat.le_of_ble_eq_true rfl) (Nat.le_of_ble_eq_true rfl) h0,
   fun _ _ _ => mq_if_eq rfl,
   fun _ _ => mq_push rfl,
   fun _ _ => mq_ri rfl,
   fun _ _ _ => mq_al (i := 0) rfl rfl,
   fun _ _ h0 => mq_cVv (na := 0) rfl rfl (Nat.le_of_ble_eq_true rfl) (Nat.le_of_ble_eq_true rfl) h0,
   fun _ _ _ => mq_al (i := 0) rfl rfl,
   fun _ _ _ h0 => mq_getR rfl h0,
   fun _ _ => mq_push rfl,
   fun _ _ _ _ => mq_dup2 rfl rfl rfl,
   fun _ _ _ _ h0 => mq_iald rfl h0,
   fun _ _ _ => mq_il (i := 1) rfl rfl,
   fun _ _ _ _ => mq_bi rfl,
   fun _ _ _ _ _ h0 => mq_iast rfl h0,
   fun _ _ _ => mq_al (i := 0) rfl rfl,
   fun _ _ _ h0 => mq_getR rfl h0,
   fun _ _ => mq_push rfl,
   fun _ _ _ _ h0 => mq_iald rfl h0,
   fun _ _ => mq_ri rfl⟩
theorem eX12_give (d n : Nat) (I L : mm_I) (P : mm_P) (x0 : Option Nat) (x1 : Int) : mm_rn (d + 1) 216 [.inr (.inr x0), .inl x1] n I L P = mm_E d 216 0 [.inr (.inr x0), .inl x1] [] [] n I L P := rfl

set_option maxRecDepth 20000 in
set_option maxHeartbeats 8000000 in
theorem kX12_draw (d n : Nat) (I L : mm_I) (P : mm_P) :
  (∀ (st : List mm_V) z (l1 : mm_V), mm_E d 217 0 [(.inr (.inr z)), l1] [] st n I L P = mm_E d 217 1 [(.inr (.inr z)), l1] [] ((.inr (.inr z)) :: st) n I L P) ∧
  (∀ (st : List mm_V) z (l1 : mm_V), mm_E d 217 1 [(.inr (.inr z)), l1] [] st n I L P = mm_E d 217 2 [(.inr (.inr z)), l1] [] ((.inr (.inr z)) :: st) n I L P) ∧
  (∀ (lv : List mm_V) (st : List mm_V) a, (mm_ok n a 12) → mm_E d 217 2 lv [] (.inr (.inr (some a)) :: st) n I L P = mm_E d 217 5 lv [] (.inr (.inl (L a 34)) :: st) n I L P) ∧
  (∀ (lv : List mm_V) (st : List mm_V), mm_E d 217 5 lv [] st n I L P = mm_E d 217 8 lv [] (.inr (.inl 6364136223846793005) :: st) n I L P) ∧
  (∀ (lv : List mm_V) (st : List mm_V) a b, mm_E d 217 8 lv [] (.inr (.inl b) :: .inr (.inl a) :: st) n I L P = mm_E d 217 9 lv [] (.inr (.inl (mm_lmull a b)) :: st) n I L P) ∧
  (∀ (lv : List mm_V) (st : List mm_V), mm_E d 217 9 lv [] st n I L P = mm_E d 217 12 lv [] (.inr (.inl 1442695040888963407) :: st) n I L P) ∧
  (∀ (lv : List mm_V) (st : List mm_V) a b, mm_E d 217 12 lv [] (.inr (.inl b) :: .inr (.inl a) :: st) n I L P = mm_E d 217 13 lv [] (.inr (.inl (mm_laddl a b)) :: st) n I L P) ∧
  (∀ (lv : List mm_V) (st : List mm_V) a z, (mm_ok n a 12) → mm_E d 217 13 lv [] (.inr (.inl z) :: .inr (.inr (some a)) :: st) n I L P = mm_E d 217 16 lv [] st n I (mm_ui L a 34 z) P) ∧
  (∀ (st : List mm_V) z (l1 : mm_V), mm_E d 217 16 [(.inr (.inr z)), l1] [] st n I L P = mm_E d 217 17 [(.inr (.inr z)), l1] [] ((.inr (.inr z)) :: st) n I L P) ∧
  (∀ (lv : List mm_V) (st : List mm_V) a, (mm_ok n a 12) → mm_E d 217 17 lv [] (.inr (.inr (some a)) :: st) n I L P = mm_E d 217 20 lv [] (.inr (.inl (L a 34)) :: st) n I L P) ∧
  (∀ (lv : List mm_V) (st : List mm_V), mm_E d 217 20 lv [] st n I L P = mm_E d 217 22 lv [] (.inl 33 :: st) n I L P) ∧
  (∀ (lv : List mm_V) (st : List mm_V) a b, mm_E d 217 22 lv [] (.inl b :: .inr (.inl a) :: st) n I L P = mm_E d 217 23 lv [] (.inr (.inl (mm_lushr a b)) :: st) n I L P) ∧
  (∀ (st : List mm_V) z (l0 : mm_V), mm_E d 217 23 [l0, (.inl z)] [] st n I L P = mm_E d 217 24 [l0, (.inl z)] [] ((.inl z) :: st) n I L P) ∧
  (∀ (lv : List mm_V) (st : List mm_V) a, mm_E d 217 24 lv [] (.inl a :: st) n I L P = mm_E d 217 25 lv [] (.inr (.inl a) :: st) n I L P) ∧
  (∀ (lv : List mm_V) (st : List mm_V) a b, (¬ b = 0) → mm_E d 217 25 lv [] (.inr (.inl b) :: .inr (.inl a) :: st) n I L P = mm_E d 217 26 lv [] (.inr (.inl (mm_wl (Int.tmod a b))) :: st) n I L P) ∧
  (∀ (lv : List mm_V) (st : List mm_V) a, mm_E d 217 26 lv [] (.inr (.inl a) :: st) n I L P = mm_E d 217 27 lv [] (.inl (mm_w a) :: st) n I L P) ∧
  (∀ (lv : List mm_V) z, mm_E d 217 27 lv [] [.inl z] n I L P = some (some (.inl z), n, I, L, P)) :=
  ⟨fun _ _ _ => mq_al (i := 0) rfl rfl,
   fun _ _ _ => mq_al (i := 0) rfl rfl,
   fun _ _ _ h0 => mq_getL rfl h0,
   fun _ _ => mq_push rfl,
   fun _ _ _ _ => mq_bl rfl,
   fun _ _ => mq_push rfl,
   fun _ _ _ _ => mq_bl rfl,
   fun _ _ _ _ h0 => mq_putL rfl h0,
   fun _ _ _ => mq_al (i := 0) rfl rfl,
   fun _ _ _ h0 => mq_getL rfl h0,
   fun _ _ => mq_push rfl,
   fun _ _ _ _ => mq_sl rfl,
   fun _ _ _ => mq_il (i := 1) rfl rfl,
   fun _ _ _ => mq_i2l rfl,
   fun _ _ _ _ h0 => mq_dl rfl h0,
   fun _ _ _ => mq_l2i rfl,
   fun _ _ => mq_ri rfl⟩
theorem eX12_draw (d n : Nat) (I L : mm_I) (P : mm_P) (x0 : Option Nat) (x1 : Int) : mm_rn (d + 1) 217 [.inr (.inr x0), .inl x1] n I L P = mm_E d 217 0 [.inr (.inr x0), .inl x1] [] [] n I L P := rfl

set_option maxRecDepth 20000 in
set_option maxHeartbeats 8000000 in
theorem kX12_drawHour (d n : Nat) (I L : mm_I) (P : mm_P) :
  (∀ (st : List mm_V) z (l1 : mm_V) (l2 : mm_V) (l3 : mm_V), mm_E d 218 0 [(.inr (.inr z)), l1, l2, l3] [] st n I L P = mm_E d 218 1 [(.inr (.inr z)), l1, l2, l3] [] ((.inr (.inr z)) :: st) n I L P) ∧
  (∀ (lv : List mm_V) (st : List mm_V), mm_E d 218 1 lv [] st n I L P = mm_E d 218 3 lv [] (.inl 10 :: st) n I L P) ∧
  (∀ (lv : List mm_V) a x0, (mm_ok n a 12) → mm_E d 218 3 lv [] (.inl x0 :: .inr (.inr (some a)) :: []) n I L P = mm_kr d 218 6 lv [] [] n (mm_rn d 217 [.inr (.inr (some a)), .inl x0] n I L P)) ∧
  (∀ (st : List mm_V) z (l1 : mm_V) (l2 : mm_V) (l3 : mm_V), mm_E d 218 6 [(.inr (.inr z)), l1, l2, l3] [] st n I L P = mm_E d 218 7 [(.inr (.inr z)), l1, l2, l3] [] ((.inr (.inr z)) :: st) n I L P) ∧
  (∀ (lv : List mm_V) (st : List mm_V) a, (mm_ok n a 12) → mm_E d 218 7 lv [] (.inr (.inr (some a)) :: st) n I L P = mm_E d 218 10 lv [] (.inl (I a 30) :: st) n I L P) ∧
  (∀ (lv : List mm_V) (st : List mm_V) a b, mm_E d 218 10 lv [] (.inl b :: .inl a :: st) n I L P = if b ≤ a then mm_E d 218 51 lv [] st n I L P else mm_E d 218 13 lv [] st n I L P) ∧
  (∀ (st : List mm_V) z (l1 : mm_V) (l2 : mm_V) (l3 : mm_V), mm_E d 218 13 [(.inr (.inr z)), l1, l2, l3] [] st n I L P = mm_E d 218 14 [(.inr (.inr z)), l1, l2, l3] [] ((.inr (.inr z)) :: st) n I L P) ∧
  (∀ (st : List mm_V) z (l1 : mm_V) (l2 : mm_V) (l3 : mm_V), mm_E d 218 14 [(.inr (.inr z)), l1, l2, l3] [] st n I L P = mm_E d 218 15 [(.inr (.inr z)), l1, l2, l3] [] ((.inr (.inr z)) :: st) n I L P) ∧
  (∀ (lv : List mm_V) (st : List mm_V) a, (mm_ok n a 12) → mm_E d 218 15 lv [] (.inr (.inr (some a)) :: st) n I L P = mm_E d 218 18 lv [] (.inl (I a 26) :: st) n I L P) ∧
  (∀ (lv : List mm_V) a x0, (mm_ok n a 12) → mm_E d 218 18 lv [] (.inl x0 :: .inr (.inr (some a)) :: []) n I L P = mm_kr d 218 21 lv [] [] n (mm_rn d 217 [.inr (.inr (some a)), .inl x0] n I L P)) ∧
  (∀ (st : List mm_V) z (l0 : mm_V) (l1 : mm_V) (l2 : mm_V) (l3 : mm_V), mm_E d 218 21 [l0, l1, l2, l3] [] ((.inl z) :: st) n I L P = mm_E d 218 22 [l0, (.inl z), l2, l3] [] st n I L P) ∧
  (∀ (st : List mm_V) z (l1 : mm_V) (l2 : mm_V) (l3 : mm_V), mm_E d 218 22 [(.inr (.inr z)), l1, l2, l3] [] st n I L P = mm_E d 218 23 [(.inr (.inr z)), l1, l2, l3] [] ((.inr (.inr z)) :: st) n I L P) ∧
  (∀ (lv : List mm_V) (st : List mm_V), mm_E d 218 23 lv [] st n I L P = mm_E d 218 24 lv [] (.inl 3 :: st) n I L P) ∧
  (∀ (lv : List mm_V) a x0, (mm_ok n a 12) → mm_E d 218 24 lv [] (.inl x0 :: .inr (.inr (some a)) :: []) n I L P = mm_kr d 218 27 lv [] [] n (mm_rn d 217 [.inr (.inr (some a)), .inl x0] n I L P)) ∧
  (∀ (st : List mm_V) z (l0 : mm_V) (l1 : mm_V) (l2 : mm_V) (l3 : mm_V), mm_E d 218 27 [l0, l1, l2, l3] [] ((.inl z) :: st) n I L P = mm_E d 218 28 [l0, l1, (.inl z), l3] [] st n I L P) ∧
  (∀ (st : List mm_V) z (l1 : mm_V) (l2 : mm_V) (l3 : mm_V), mm_E d 218 28 [(.inr (.inr z)), l1, l2, l3] [] st n I L P = mm_E d 218 29 [(.inr (.inr z)), l1, l2, l3] [] ((.inr (.inr z)) :: st) n I L P) ∧
  (∀ (lv : List mm_V) (st : List mm_V), mm_E d 218 29 lv [] st n I L P = mm_E d 218 30 lv [] (.inl 3 :: st) n I L P) ∧
  (∀ (lv : List mm_V) a x0, (mm_ok n a 12) → mm_E d 218 30 lv [] (.inl x0 :: .inr (.inr (some a)) :: []) n I L P = mm_kr d 218 33 lv [] [] n (mm_rn d 217 [.inr (.inr (some a)), .inl x0] n I L P)) ∧
  (∀ (lv : List mm_V) (st : List mm_V), mm_E d 218 33 lv [] st n I L P = mm_E d 218 34 lv [] (.inl 1 :: st) n I L P) ∧
  (∀ (lv : List mm_V) (st : List mm_V) a b, mm_E d 218 34 lv [] (.inl b :: .inl a :: st) n I L P = mm_E d 218 35 lv [] (.inl (mm_add a b) :: st) n I L P) ∧
  (∀ (st : List mm_V) z (l0 : mm_V) (l1 : mm_V) (l2 : mm_V) (l3 : mm_V), mm_E d 218 35 [l0, l1, l2, l3] [] ((.inl z) :: st) n I L P = mm_E d 218 36 [l0, l1, l2, (.inl z)] [] st n I L P) ∧
  (∀ (st : List mm_V) z (l1 : mm_V) (l2 : mm_V) (l3 : mm_V), mm_E d 218 36 [(.inr (.inr z)), l1, l2, l3] [] st n I L P = mm_E d 218 37 [(.inr (.inr z)), l1, l2, l3] [] ((.inr (.inr z)) :: st) n I L P) ∧
  (∀ (st : List mm_V) z (l0 : mm_V) (l2 : mm_V) (l3 : mm_V), mm_E d 218 37 [l0, (.inl z), l2, l3] [] st n I L P = mm_E d 218 38 [l0, (.inl z), l2, l3] [] ((.inl z) :: st) n I L P) ∧
  (∀ (lv : List mm_V) a x0, (mm_ok n a 12) → mm_E d 218 38 lv [] (.inl x0 :: .inr (.inr (some a)) :: []) n I L P = mm_kr d 218 41 lv [] [] n (mm_rn d 193 [.inr (.inr (some a)), .inl x0] n I L P)) ∧
  (∀ (lv : List mm_V) (st : List mm_V) a, mm_E d 218 41 lv [] (.inl a :: st) n I L P = if a = 0 then mm_E d 218 44 lv [] st n I L P else mm_E d 218 51 lv [] st n I L P) ∧
  (∀ (st : List mm_V) z (l1 : mm_V) (l2 : mm_V) (l3 : mm_V), mm_E d 218 44 [(.inr (.inr z)), l1, l2, l3] [] st n I L P = mm_E d 218 45 [(.inr (.inr z)), l1, l2, l3] [] ((.inr (.inr z)) :: st) n I L P) ∧
  (∀ (st : List mm_V) z (l0 : mm_V) (l2 : mm_V) (l3 : mm_V), mm_E d 218 45 [l0, (.inl z), l2, l3] [] st n I L P = mm_E d 218 46 [l0, (.inl z), l2, l3] [] ((.inl z) :: st) n I L P) ∧
  (∀ (st : List mm_V) z (l0 : mm_V) (l1 : mm_V) (l3 : mm_V), mm_E d 218 46 [l0, l1, (.inl z), l3] [] st n I L P = mm_E d 218 47 [l0, l1, (.inl z), l3] [] ((.inl z) :: st) n I L P) ∧
  (∀ (st : List mm_V) z (l0 : mm_V) (l1 : mm_V) (l2 : mm_V), mm_E d 218 47 [l0, l1, l2, (.inl z)] [] st n I L P = mm_E d 218 48 [l0, l1, l2, (.inl z)] [] ((.inl z) :: st) n I L P) ∧
  (∀ (lv : List mm_V) a x0 x1 x2, (mm_ok n a 12) → mm_E d 218 48 lv [] (.inl x2 :: .inl x1 :: .inl x0 :: .inr (.inr (some a)) :: []) n I L P = mm_kv d 218 51 lv [] [] n (mm_rn d 214 [.inr (.inr (some a)), .inl x0, .inl x1, .inl x2] n I L P)) ∧
  (∀ (st : List mm_V) z (l1 : mm_V) (l2 : mm_V) (l3 : mm_V), mm_E d 218 51 [(.inr (.inr z)), l1, l2, l3] [] st n I L P = mm_E d 218 52 [(.inr (.inr z)), l1, l2, l3] [] ((.inr (.inr z)) :: st) n I L P) ∧
  (∀ (st : List mm_V) z (l1 : mm_V) (l2 : mm_V) (l3 : mm_V), mm_E d 218 52 [(.inr (.inr z)), l1, l2, l3] [] st n I L P = mm_E d 218 53 [(.inr (.inr z)), l1, l2, l3] [] ((.inr (.inr z)) :: st) n I L P) ∧
  (∀ (lv : List mm_V) (st : List mm_V) a, (mm_ok n a 12) → mm_E d 218 53 lv [] (.inr (.inr (some a)) :: st) n I L P = mm_E d 218 56 lv [] (.inl (I a 26) :: st) n I L P) ∧
  (∀ (lv : List mm_V) a x0, (mm_ok n a 12) → mm_E d 218 56 lv [] (.inl x0 :: .inr (.inr (some a)) :: []) n I L P = mm_kr d 218 59 lv [] [] n (mm_rn d 217 [.inr (.inr (some a)), .inl x0] n I L P)) ∧
  (∀ (st : List mm_V) z (l0 : mm_V) (l1 : mm_V) (l2 : mm_V) (l3 : mm_V), mm_E d 218 59 [l0, l1, l2, l3] [] ((.inl z) :: st) n I L P = mm_E d 218 60 [l0, (.inl z), l2, l3] [] st n I L P) ∧
  (∀ (st : List mm_V) z (l1 : mm_V) (l2 : mm_V) (l3 : mm_V), mm_E d 218 60 [(.inr (.inr z)), l1, l2, l3] [] st n I L P = mm_E d 218 61 [(.inr (.inr z)), l1, l2, l3] [] ((.inr (.inr z)) :: st) n I L P) ∧
  (∀ (lv : List mm_V) (st : List mm_V) a, (mm_ok n a 12) → mm_E d 218 61 lv [] (.inr (.inr (some a)) :: st) n I L P = mm_E d 218 64 lv [] (.inr (.inr (P a 27)) :: st) n I L P) ∧
  (∀ (lv : List mm_V) (st : List mm_V), mm_E d 218 64 lv [] st n I L P = mm_E d 218 66 lv [] (.inl 24 :: st) n I L P) ∧
  (∀ (st : List mm_V) z (l1 : mm_V) (l2 : mm_V) (l3 : mm_V), mm_E d 218 66 [(.inr (.inr z)), l1, l2, l3] [] st n I L P = mm_E d 218 67 [(.inr (.inr z)), l1, l2, l3] [] ((.inr (.inr z)) :: st) n I L P) ∧
  (∀ (lv : List mm_V) (st : List mm_V) a, (mm_ok n a 12) → mm_E d 218 67 lv [] (.inr (.inr (some a)) :: st) n I L P = mm_E d 218 70 lv [] (.inr (.inr (P a 24)) :: st) n I L P) ∧
  (∀ (st : List mm_V) z (l1 : mm_V) (l2 : mm_V) (l3 : mm_V), mm_E d 218 70 [(.inr (.inr z)), l1, l2, l3] [] st n I L P = mm_E d 218 71 [(.inr (.inr z)), l1, l2, l3] [] ((.inr (.inr z)) :: st) n I L P) ∧
  (∀ (lv : List mm_V) (st : List mm_V) a, (mm_ok n a 12) → mm_E d 218 71 lv [] (.inr (.inr (some a)) :: st) n I L P = mm_E d 218 74 lv [] (.inr (.inr (P a 27)) :: st) n I L P) ∧
  (∀ (lv : List mm_V) (st : List mm_V), mm_E d 218 74 lv [] st n I L P = mm_E d 218 76 lv [] (.inl 24 :: st) n I L P) ∧
  (∀ (lv : List mm_V) (st : List mm_V) a i, (mm_ix n a 20 i) → mm_E d 218 76 lv [] (.inl i :: .inr (.inr (some a)) :: st) n I L P = mm_E d 218 77 lv [] (.inl (I a i.toNat) :: st) n I L P) ∧
  (∀ (lv : List mm_V) (st : List mm_V) a i, (mm_ix n a 20 i) → mm_E d 218 77 lv [] (.inl i :: .inr (.inr (some a)) :: st) n I L P = mm_E d 218 78 lv [] (.inl (I a i.toNat) :: st) n I L P) ∧
  (∀ (st : List mm_V) z (l0 : mm_V) (l2 : mm_V) (l3 : mm_V), mm_E d 218 78 [l0, (.inl z), l2, l3] [] st n I L P = mm_E d 218 79 [l0, (.inl z), l2, l3] [] ((.inl z) :: st) n I L P) ∧
  (∀ (lv : List mm_V) x0 x1 w0 w1, mm_E d 218 79 lv [] (.inl x1 :: .inl x0 :: [.inl w0, .inr (.inr w1)]) n I L P = mm_kr d 218 82 lv [] [.inl w0, .inr (.inr w1)] n (mm_rn d 146 [.inl x0, .inl x1] n I L P)) ∧
  (∀ (lv : List mm_V) (st : List mm_V) a, mm_E d 218 82 lv [] (.inl a :: st) n I L P = if a = 0 then mm_E d 218 89 lv [] st n I L P else mm_E d 218 85 lv [] st n I L P) ∧
  (∀ (st : List mm_V) z (l0 : mm_V) (l2 : mm_V) (l3 : mm_V), mm_E d 218 85 [l0, (.inl z), l2, l3] [] st n I L P = mm_E d 218 86 [l0, (.inl z), l2, l3] [] ((.inl z) :: st) n I L P) ∧
  (∀ (lv : List mm_V) (st : List mm_V), mm_E d 218 86 lv [] st n I L P = mm_E d 218 96 lv [] st n I L P) ∧
  (∀ (st : List mm_V) z (l1 : mm_V) (l2 : mm_V) (l3 : mm_V), mm_E d 218 89 [(.inr (.inr z)), l1, l2, l3] [] st n I L P = mm_E d 218 90 [(.inr (.inr z)), l1, l2, l3] [] ((.inr (.inr z)) :: st) n I L P) ∧
  (∀ (lv : List mm_V) (st : List mm_V) a, (mm_ok n a 12) → mm_E d 218 90 lv [] (.inr (.inr (some a)) :: st) n I L P = mm_E d 218 93 lv [] (.inr (.inr (P a 27)) :: st) n I L P) ∧
  (∀ (lv : List mm_V) (st : List mm_V), mm_E d 218 93 lv [] st n I L P = mm_E d 218 95 lv [] (.inl 24 :: st) n I L P) ∧
  (∀ (lv : List mm_V) (st : List mm_V) a i, (mm_ix n a 20 i) → mm_E d 218 95 lv [] (.inl i :: .inr (.inr (some a)) :: st) n I L P = mm_E d 218 96 lv [] (.inl (I a i.toNat) :: st) n I L P) ∧
  (∀ (lv : List mm_V) (st : List mm_V) a i z, (mm_ix n a 20 i) → mm_E d 218 96 lv [] (.inl z :: .inl i :: .inr (.inr (some a)) :: st) n I L P = mm_E d 218 97 lv [] st n (mm_ui I a i.toNat z) L P) ∧
  (∀ (lv : List mm_V), mm_E d 218 97 lv [] [] n I L P = some (none, n, I, L, P)) :=
  ⟨fun _ _ _ _ _ => mq_al (i := 0) rfl rfl,
   fun _ _ => mq_push rfl,
   fun _ _ _ h0 => mq_cVr (na := 1) rfl rfl (Nat.le_of_ble_eq_true rfl) (Nat.le_of_ble_eq_true rfl) h0,
   fun _ _ _ _ _ => mq_al (i := 0) rfl rfl,
   fun _ _ _ h0 => mq_getI rfl h0,
   fun _ _ _ _ => mq_ic_ge rfl,
   fun _ _ _ _ _ => mq_al (i := 0) rfl rfl,
   fun _ _ _ _ _ => mq_al (i := 0) rfl rfl,
   fun _ _ _ h0 => mq_getI rfl h0,
   fun _ _ _ h0 => mq_cVr (na := 1) rfl rfl (Nat.le_of_ble_eq_true rfl) (Nat.le_of_ble_eq_true rfl) h0,
   fun _ _ _ _ _ _ => mq_is (i := 1) rfl rfl rfl,
   fun _ _ _ _ _ => mq_al (i := 0) rfl rfl,
   fun _ _ => mq_push rfl,
   fun _ _ _ h0 => mq_cVr (na := 1) rfl rfl (Nat.le_of_ble_eq_true rfl) (Nat.le_of_ble_eq_true rfl) h0,
   fun _ _ _ _ _ _ => mq_is (i := 2) rfl rfl rfl,
   fun _ _ _ _ _ => mq_al (i := 0) rfl rfl,
   fun _ _ => mq_push rfl,
   fun _ _ _ h0 => mq_cVr (na := 1) rfl rfl (Nat.le_of_ble_eq_true rfl) (Nat.le_of_ble_eq_true rfl) h0,
   fun _ _ => mq_push rfl,
   fun _ _ _ _ => mq_bi rfl,
   fun _ _ _ _ _ _ => mq_is (i := 3) rfl rfl rfl,
   fun _ _ _ _ _ => mq_al (i := 0) rfl rfl,
   fun _ _ _ _ _ => mq_il (i := 1) rfl rfl,
   fun _ _ _ h0 => mq_cVr (na := 1) rfl rfl (Nat.le_of_ble_eq_true rfl) (Nat.le_of_ble_eq_true rfl) h0,
   fun _ _ _ => mq_if_ne rfl,
   fun _ _ _ _ _ => mq_al (i := 0) rfl rfl,
   fun _ _ _ _ _ => mq_il (i := 1) rfl rfl,
   fun _ _ _ _ _ => mq_il (i := 2) rfl rfl,
   fun _ _ _ _ _ => mq_il (i := 3) rfl rfl,
   fun _ _ _ _ _ h0 => mq_cVv (na := 3) rfl rfl (Nat.le_of_ble_eq_true rfl) (Nat.le_of_ble_eq_true rfl) h0,
   fun _ _ _ _ _ => mq_al (i := 0) rfl rfl,
   fun _ _ _ _ _ => mq_al (i := 0) rfl rfl,
   fun _ _ _ h0 => mq_getI rfl h0,
   fun _ _ _ h0 => mq_cVr (na := 1) rfl rfl (Nat.le_of_ble_eq_true rfl) (Nat.le_of_ble_eq_true rfl) h0,
   fun _ _ _ _ _ _ => mq_is (i := 1) rfl rfl rfl,
   fun _ _ _ _ _ => mq_al (i := 0) rfl rfl,
   fun _ _ _ h0 => mq_getR rfl h0,
   fun _ _ => mq_push rfl,
   fun _ _ _ _ _ => mq_al (i := 0) rfl rfl,
   fun _ _ _ h0 => mq_getR rfl h0,
   fun _ _ _ _ _ => mq_al (i := 0) rfl rfl,
   fun _ _ _ h0 => mq_getR rfl h0,
   fun _ _ => mq_push rfl,
   fun _ _ _ _ h0 => mq_iald rfl h0,
   fun _ _ _ _ h0 => mq_iald rfl h0,
   fun _ _ _ _ _ => mq_il (i := 1) rfl rfl,
   fun _ _ _ _ _ => mq_cSr (na := 2) rfl (Nat.le_of_ble_eq_true rfl) (Nat.le_of_ble_eq_true rfl),
   fun _ _ _ => mq_if_eq rfl,
   fun _ _ _ _ _ => mq_il (i := 1) rfl rfl,
   fun _ _ => mq_go rfl,
   fun _ _ _ _ _ => mq_al (i := 0) rfl rfl,
   fun _ _ _ h0 => mq_getR rfl h0,
   fun _ _ => mq_push rfl,
   fun _ _ _ _ h0 => mq_iald rfl h0,
   fun _ _ _ _ _ h0 => mq_iast rfl h0,
   fun _ => mq_rv rfl⟩
theorem eX12_drawHour (d n : Nat) (I L : mm_I) (P : mm_P) (x0 : Option Nat) : mm_rn (d + 1) 218 [.inr (.inr x0)] n I L P = mm_E d 218 0 [.inr (.inr x0), mm_junk, mm_junk, mm_junk] [] [] n I L P := rfl

set_option maxRecDepth 20000 in
set_option maxHeartbeats 8000000 in
theorem kX12_years (d n : Nat) (I L : mm_I) (P : mm_P) :
  (∀ (ll : List (Option Int)) (st : List mm_V) z (l1 : mm_V) (l2 : mm_V) (l3 : mm_V) (l4 : mm_V), mm_E d 219 0 [(.inr (.inr z)), l1, l2, l3, l4] ll st n I L P = mm_E d 219 1 [(.inr (.inr z)), l1, l2, l3, l4] ll ((.inr (.inr z)) :: st) n I L P) ∧
  (∀ (lv : List mm_V) (ll : List (Option Int)) (st : List mm_V) a, (mm_ok n a 12) → mm_E d 219 1 lv ll (.inr (.inr (some a)) :: st) n I L P = mm_E d 219 4 lv ll (.inl (I a 26) :: st) n I L P) ∧
  (∀ (lv : List mm_V) (ll : List (Option Int)) (st : List mm_V) a, mm_E d 219 4 lv ll (.inl a :: st) n I L P = if a = 0 then mm_E d 219 15 lv ll st n I L P else mm_E d 219 7 lv ll st n I L P) ∧
  (∀ (ll : List (Option Int)) (st : List mm_V) z (l1 : mm_V) (l2 : mm_V) (l3 : mm_V) (l4 : mm_V), mm_E d 219 7 [(.inr (.inr z)), l1, l2, l3, l4] ll st n I L P = mm_E d 219 8 [(.inr (.inr z)), l1, l2, l3, l4] ll ((.inr (.inr z)) :: st) n I L P) ∧
  (∀ (ll : List (Option Int)) (st : List mm_V) z (l0 : mm_V) (l2 : mm_V) (l3 : mm_V) (l4 : mm_V), mm_E d 219 8 [l0, (.inl z), l2, l3, l4] ll st n I L P = mm_E d 219 9 [l0, (.inl z), l2, l3, l4] ll ((.inl z) :: st) n I L P) ∧
  (∀ (lv : List mm_V) (ll : List (Option Int)) a x0, (mm_ok n a 12) → mm_E d 219 9 lv ll (.inl x0 :: .inr (.inr (some a)) :: []) n I L P = mm_kr d 219 12 lv ll [] n (mm_rn d 207 [.inr (.inr (some a)), .inl x0] n I L P)) ∧
  (∀ (lv : List mm_V) (ll : List (Option Int)) (st : List mm_V) a, mm_E d 219 12 lv ll (.inl a :: st) n I L P = if a = 0 then mm_E d 219 15 lv ll st n I L P else mm_E d 219 17 lv ll st n I L P) ∧
  (∀ (ll : List (Option Int)) (lv : List mm_V) (st : List mm_V), mm_E d 219 15 lv ll st n I L P = mm_E d 219 16 lv ll (.inl (-1) :: st) n I L P) ∧
  (∀ (lv : List mm_V) (ll : List (Option Int)) z, mm_E d 219 16 lv ll [.inl z] n I L P = some (some (.inl z), n, I, L, P)) ∧
  (∀ (ll : List (Option Int)) (st : List mm_V) z (l1 : mm_V) (l2 : mm_V) (l3 : mm_V) (l4 : mm_V), mm_E d 219 17 [(.inr (.inr z)), l1, l2, l3, l4] ll st n I L P = mm_E d 219 18 [(.inr (.inr z)), l1, l2, l3, l4] ll ((.inr (.inr z)) :: st) n I L P) ∧
  (∀ (lv : List mm_V) (st : List mm_V) z (g0 : Option Int) (g1 : Option Int) (g3 : Option Int) (g4 : Option Int), mm_E d 219 18 lv [g0, g1, (some z), g3, g4] st n I L P = mm_E d 219 19 lv [g0, g1, (some z), g3, g4] (.inr (.inl z) :: st) n I L P) ∧
  (∀ (lv : List mm_V) (ll : List (Option Int)) (st : List mm_V) a z, (mm_ok n a 12) → mm_E d 219 19 lv ll (.inr (.inl z) :: .inr (.inr (some a)) :: st) n I L P = mm_E d 219 22 lv ll st n I (mm_ui L a 34 z) P) ∧
  (∀ (ll : List (Option Int)) (lv : List mm_V) (st : List mm_V), mm_E d 219 22 lv ll st n I L P = mm_E d 219 23 lv ll (.inl 0 :: st) n I L P) ∧
  (∀ (st : List mm_V) z (l0 : mm_V) (l1 : mm_V) (l2 : mm_V) (l3 : mm_V) (l4 : mm_V) (g0 : Option Int) (g1 : Option Int) (g2 : Option Int) (g3 : Option Int) (g4 : Option Int), mm_E d 219 23 [l0, l1, l2, l3, l4] [g0, g1, g2, g3, g4] ((.inl z) :: st) n I L P = mm_E d 219 25 [l0, l1, l2, l3, (.inl z)] [g0, g1, g2, none, none] st n I L P) ∧
  (∀ (ll : List (Option Int)) (st : List mm_V) z (l0 : mm_V) (l2 : mm_V) (l3 : mm_V) (l4 : mm_V), mm_E d 219 27 [l0, (.inl z), l2, l3, l4] ll st n I L P = mm_E d 219 28 [l0, (.inl z), l2, l3, l4] ll ((.inl z) :: st) n I L P) ∧
  (∀ (lv : List mm_V) (ll : List (Option Int)) (st : List mm_V) a b, mm_E d 219 28 lv ll (.inl b :: .inl a :: st) n I L P = if b ≤ a then mm_E d 219 49 lv ll st n I L P else mm_E d 219 31 lv ll st n I L P) ∧
  (∀ (ll : List (Option Int)) (st : List mm_V) z (l1 : mm_V) (l2 : mm_V) (l3 : mm_V) (l4 : mm_V), mm_E d 219 31 [(.inr (.inr z)), l1, l2, l3, l4] ll st n I L P = mm_E d 219 32 [(.inr (.inr z)), l1, l2, l3, l4] ll ((.inr (.inr z)) :: st) n I L P) ∧
  (∀ (lv : List mm_V) (ll : List (Option Int)) a, (mm_ok n a 12) → mm_E d 219 32 lv ll (.inr (.inr (some a)) :: []) n I L P = mm_kv d 219 35 lv ll [] n (mm_rn d 205 [.inr (.inr (some a))] n I L P)) ∧
  (∀ (ll : List (Option Int)) (st : List mm_V) z (l1 : mm_V) (l2 : mm_V) (l3 : mm_V) (l4 : mm_V), mm_E d 219 35 [(.inr (.inr z)), l1, l2, l3, l4] ll st n I L P = mm_E d 219 36 [(.inr (.inr z)), l1, l2, l3, l4] ll ((.inr (.inr z)) :: st) n I L P) ∧
  (∀ (lv : List mm_V) (ll : List (Option Int)) a, (mm_ok n a 12) → mm_E d 219 36 lv ll (.inr (.inr (some a)) :: []) n I L P = mm_kv d 219 39 lv ll [] n (mm_rn d 218 [.inr (.inr (some a))] n I L P)) ∧
  (∀ (ll : List (Option Int)) (st : List mm_V) z (l1 : mm_V) (l2 : mm_V) (l3 : mm_V) (l4 : mm_V), mm_E d 219 39 [(.inr (.inr z)), l1, l2, l3, l4] ll st n I L P = mm_E d 219 40 [(.inr (.inr z)), l1, l2, l3, l4] ll ((.inr (.inr z)) :: st) n I L P) ∧
  (∀ (lv : List mm_V) (ll : List (Option Int)) a, (mm_ok n a 12) → mm_E d 219 40 lv ll (.inr (.inr (some a)) :: []) n I L P = mm_kv d 219 43 lv ll [] n (mm_rn d 199 [.inr (.inr (some a))] n I L P)) ∧
  (∀ (st : List mm_V) z (l0 : mm_V) (l1 : mm_V) (l2 : mm_V) (l3 : mm_V) (g0 : Option Int) (g1 : Option Int) (g2 : Option Int) (g3 : Option Int) (g4 : Option Int), mm_E d 219 43 [l0, l1, l2, l3, (.inl z)] [g0, g1, g2, g3, g4] st n I L P = mm_E d 219 46 [l0, l1, l2, l3, (.inl (mm_add z 1))] [g0, g1, g2, none, none] st n I L P) ∧
  (∀ (lv : List mm_V) (ll : List (Option Int)) (st : List mm_V), mm_E d 219 46 lv ll st n I L P = mm_E d 219 25 lv ll st n I L P) ∧
  (∀ (ll : List (Option Int)) (st : List mm_V) z (l1 : mm_V) (l2 : mm_V) (l3 : mm_V) (l4 : mm_V), mm_E d 219 49 [(.inr (.inr z)), l1, l2, l3, l4] ll st n I L P = mm_E d 219 50 [(.inr (.inr z)), l1, l2, l3, l4] ll ((.inr (.inr z)) :: st) n I L P) ∧
  (∀ (lv : List mm_V) (ll : List (Option Int)) (st : List mm_V) a, (mm_ok n a 12) → mm_E d 219 50 lv ll (.inr (.inr (some a)) :: st) n I L P = mm_E d 219 53 lv ll (.inr (.inr (P a 27)) :: st) n I L P) ∧
  (∀ (ll : List (Option Int)) (lv : List mm_V) (st : List mm_V), mm_E d 219 53 lv ll st n I L P = mm_E d 219 55 lv ll (.inl 29 :: st) n I L P) ∧
  (∀ (lv : List mm_V) (ll : List (Option Int)) (st : List mm_V) a i, (mm_ix n a 20 i) → mm_E d 219 55 lv ll (.inl i :: .inr (.inr (some a)) :: st) n I L P = mm_E d 219 56 lv ll (.inl (I a i.toNat) :: st) n I L P) ∧
  (∀ (lv : List mm_V) (ll : List (Option Int)) z, mm_E d 219 56 lv ll [.inl z] n I L P = some (some (.inl z), n, I, L, P)) :=
  ⟨fun _ _ _ _ _ _ _ => mq_al (i := 0) rfl rfl,
   fun _ _ _ _ h0 => mq_getI rfl h0,
   fun _ _ _ _ => mq_if_eq rfl,
   fun _ _ _ _ _ _ _ => mq_al (i := 0) rfl rfl,
   fun _ _ _ _ _ _ _ => mq_il (i := 1) rfl rfl,
   fun _ _ _ _ h0 => mq_cVr (na := 1) rfl rfl (Nat.le_of_ble_eq_true rfl) (Nat.le_of_ble_eq_true rfl) h0,
   fun _ _ _ _ => mq_if_ne rfl,
   fun _ _ _ => mq_push rfl,
   fun _ _ _ => mq_ri rfl,
   fun _ _ _ _ _ _ _ => mq_al (i := 0) rfl rfl,
   fun _ _ _ _ _ _ _ => mq_ll (i := 2) rfl rfl,
   fun _ _ _ _ _ h0 => mq_putL rfl h0,
   fun _ _ _ => mq_push rfl,
   fun _ _ _ _ _ _ _ _ _ _ _ _ => mq_is (i := 4) rfl rfl rfl,
   fun _ _ _ _ _ _ _ => mq_il (i := 1) rfl rfl,
   fun _ _ _ _ _ => mq_ic_ge rfl,
   fun _ _ _ _ _ _ _ => mq_al (i := 0) rfl rfl,
   fun _ _ _ h0 => mq_cVv (na := 0) rfl rfl (Nat.le_of_ble_eq_true rfl) (Nat.le_of_ble_eq_true rfl) h0,
   fun _ _ _ _ _ _ _ => mq_al (i := 0) rfl rfl,
   fun _ _ _ h0 => mq_cVv (na := 0) rfl rfl (Nat.le_of_ble_eq_true rfl) (Nat.le_of_ble_eq_true rfl) h0,
   fun _ _ _ _ _ _ _ => mq_al (i := 0) rfl rfl,
   fun _ _ _ h0 => mq_cVv (na := 0) rfl rfl (Nat.le_of_ble_eq_true rfl) (Nat.le_of_ble_eq_true rfl) h0,
   fun _ _ _ _ _ _ _ _ _ _ _ => mq_iinc (i := 4) rfl rfl rfl rfl,
   fun _ _ _ => mq_go rfl,
   fun _ _ _ _ _ _ _ => mq_al (i := 0) rfl rfl,
   fun _ _ _ _ h0 => mq_getR rfl h0,
   fun _ _ _ => mq_push rfl,
   fun _ _ _ _ _ h0 => mq_iald rfl h0,
   fun _ _ _ => mq_ri rfl⟩
theorem hX12_years_25 (d n : Nat) (I L : mm_I) (P : mm_P) : ∀ (ll : List (Option Int)) (st : List mm_V) z (l0 : mm_V) (l1 : mm_V) (l2 : mm_V) (l3 : mm_V), mm_E d 219 25 [l0, l1, l2, l3, (.inl z)] ll st n I L P = mm_E d 219 27 [l0, l1, l2, l3, (.inl z)] ll ((.inl z) :: st) n I L P := fun _ _ _ _ _ _ _ => mq_il (i := 4) rfl rfl
theorem eX12_years (d n : Nat) (I L : mm_I) (P : mm_P) (x0 : Option Nat) (x1 : Int) (x2 : Int) : mm_rn (d + 1) 219 [.inr (.inr x0), .inl x1, .inr (.inl x2)] n I L P = mm_E d 219 0 [.inr (.inr x0), .inl x1, mm_junk, mm_junk, mm_junk] [none, none, some x2, none, none] [] n I L P := rfl

set_option maxRecDepth 20000 in
set_option maxHeartbeats 8000000 in
theorem kX12_status (d n : Nat) (I L : mm_I) (P : mm_P) :
  (∀ (st : List mm_V) z (l0 : mm_V), mm_E d 220 0 [l0, (.inl z)] [] st n I L P = mm_E d 220 1 [l0, (.inl z)] [] ((.inl z) :: st) n I L P) ∧
  (∀ (lv : List mm_V) (st : List mm_V), mm_E d 220 1 lv [] st n I L P = mm_E d 220 2 lv [] (.inl 0 :: st) n I L P) ∧
  (∀ (lv : List mm_V) (st : List mm_V), mm_E d 220 2 lv [] st n I L P = mm_E d 220 3 lv [] (.inl 4 :: st) n I L P) ∧
  (∀ (lv : List mm_V) x0 x1 x2, mm_E d 220 3 lv [] (.inl x2 :: .inl x1 :: .inl x0 :: []) n I L P = mm_kr d 220 6 lv [] [] n (mm_rn d 145 [.inl x0, .inl x1, .inl x2] n I L P)) ∧
  (∀ (lv : List mm_V) (st : List mm_V) a, mm_E d 220 6 lv [] (.inl a :: st) n I L P = if a = 0 then mm_E d 220 18 lv [] st n I L P else mm_E d 220 9 lv [] st n I L P) ∧
  (∀ (st : List mm_V) z (l1 : mm_V), mm_E d 220 9 [(.inr (.inr z)), l1] [] st n I L P = mm_E d 220 10 [(.inr (.inr z)), l1] [] ((.inr (.inr z)) :: st) n I L P) ∧
  (∀ (lv : List mm_V) (st : List mm_V) a, (mm_ok n a 12) → mm_E d 220 10 lv [] (.inr (.inr (some a)) :: st) n I L P = mm_E d 220 13 lv [] (.inr (.inr (P a 28)) :: st) n I L P) ∧
  (∀ (st : List mm_V) z (l0 : mm_V), mm_E d 220 13 [l0, (.inl z)] [] st n I L P = mm_E d 220 14 [l0, (.inl z)] [] ((.inl z) :: st) n I L P) ∧
  (∀ (lv : List mm_V) (st : List mm_V) a i, (mm_ix n a 20 i) → mm_E d 220 14 lv [] (.inl i :: .inr (.inr (some a)) :: st) n I L P = mm_E d 220 15 lv [] (.inl (I a i.toNat) :: st) n I L P) ∧
  (∀ (lv : List mm_V) (st : List mm_V), mm_E d 220 15 lv [] st n I L P = mm_E d 220 19 lv [] st n I L P) ∧
  (∀ (lv : List mm_V) (st : List mm_V), mm_E d 220 18 lv [] st n I L P = mm_E d 220 19 lv [] (.inl (-1) :: st) n I L P) ∧
  (∀ (lv : List mm_V) z, mm_E d 220 19 lv [] [.inl z] n I L P = some (some (.inl z), n, I, L, P)) :=
  ⟨fun _ _ _ => mq_il (i := 1) rfl rfl,
   fun _ _ => mq_push rfl,
   fun _ _ => mq_push rfl,
   fun _ _ _ _ => mq_cSr (na := 3) rfl (Nat.le_of_ble_eq_true rfl) (Nat.le_of_ble_eq_true rfl),
   fun _ _ _ => mq_if_eq rfl,
   fun _ _ _ => mq_al (i := 0) rfl rfl,
   fun _ _ _ h0 => mq_getR rfl h0,
   fun _ _ _ => mq_il (i := 1) rfl rfl,
   fun _ _ _ _ h0 => mq_iald rfl h0,
   fun _ _ => mq_go rfl,
   fun _ _ => mq_push rfl,
   fun _ _ => mq_ri rfl⟩
theorem eX12_status (d n : Nat) (I L : mm_I) (P : mm_P) (x0 : Option Nat) (x1 : Int) : mm_rn (d + 1) 220 [.inr (.inr x0), .inl x1] n I L P = mm_E d 220 0 [.inr (.inr x0), .inl x1] [] [] n I L P := rfl

set_option maxRecDepth 20000 in
set_option maxHeartbeats 8000000 in
theorem kX12_undo (d n : Nat) (I L : mm_I) (P : mm_P) :
  (∀ (st : List mm_V) z (l1 : mm_V), mm_E d 221 0 [(.inr (.inr z)), l1] [] st n I L P = mm_E d 221 1 [(.inr (.inr z)), l1] [] ((.inr (.inr z)) :: st) n I L P) ∧
  (∀ (lv : List mm_V) (st : List mm_V) a, (mm_ok n a 12) → mm_E d 221 1 lv [] (.inr (.inr (some a)) :: st) n I L P = mm_E d 221 4 lv [] (.inl (I a 33) :: st) n I L P) ∧
  (∀ (lv : List mm_V) (st : List mm_V) a, mm_E d 221 4 lv [] (.inl a :: st) n I L P = if a = 0 then mm_E d 221 7 lv [] st n I L P else mm_E d 221 9 lv [] st n I L P) ∧
  (∀ (lv : List mm_V) (st : List mm_V), mm_E d 221 7 lv [] st n I L P = mm_E d 221 8 lv [] (.inl (-1) :: st) n I L P) ∧
  (∀ (lv : List mm_V) z, mm_E d 221 8 lv [] [.inl z] n I L P = some (some (.inl z), n, I, L, P)) ∧
  (∀ (st : List mm_V) z (l1 : mm_V), mm_E d 221 9 [(.inr (.inr z)), l1] [] st n I L P = mm_E d 221 10 [(.inr (.inr z)), l1] [] ((.inr (.inr z)) :: st) n I L P) ∧
  (∀ (lv : List mm_V) (st : List mm_V) a, mm_E d 221 10 lv [] ((.inr (.inr a)) :: st) n I L P = mm_E d 221 11 lv [] ((.inr (.inr a)) :: (.inr (.inr a)) :: st) n I L P) ∧
  (∀ (lv : List mm_V) (st : List mm_V) a, (mm_ok n a 12) → mm_E d 221 11 lv [] (.inr (.inr (some a)) :: st) n I L P = mm_E d 221 14 lv [] (.inl (I a 33) :: st) n I L P) ∧
  (∀ (lv : List mm_V) (st : List mm_V), mm_E d 221 14 lv [] st n I L P = mm_E d 221 15 lv [] (.inl 1 :: st) n I L P) ∧
  (∀ (lv : List mm_V) (st : List mm_V) a b, mm_E d 221 15 lv [] (.inl b :: .inl a :: st) n I L P = mm_E d 221 16 lv [] (.inl (mm_sub a b) :: st) n I L P) ∧
  (∀ (lv : List mm_V) (st : List mm_V) a z, (mm_ok n a 12) → mm_E d 221 16 lv [] (.inl z :: .inr (.inr (some a)) :: st) n I L P = mm_E d 221 19 lv [] st n (mm_ui I a 33 z) L P) ∧
  (∀ (lv : List mm_V) (st : List mm_V), mm_E d 221 19 lv [] st n I L P = mm_E d 221 20 lv [] (.inl 0 :: st) n I L P) ∧
  (∀ (st : List mm_V) z (l0 : mm_V) (l1 : mm_V), mm_E d 221 20 [l0, l1] [] ((.inl z) :: st) n I L P = mm_E d 221 21 [l0, (.inl z)] [] st n I L P) ∧
  (∀ (lv : List mm_V) (st : List mm_V), mm_E d 221 22 lv [] st n I L P = mm_E d 221 25 lv [] (.inl 211 :: st) n I L P) ∧
  (∀ (lv : List mm_V) (st : List mm_V) a b, mm_E d 221 25 lv [] (.inl b :: .inl a :: st) n I L P = if b ≤ a then mm_E d 221 55 lv [] st n I L P else mm_E d 221 28 lv [] st n I L P) ∧
  (∀ (st : List mm_V) z (l1 : mm_V), mm_E d 221 28 [(.inr (.inr z)), l1] [] st n I L P = mm_E d 221 29 [(.inr (.inr z)), l1] [] ((.inr (.inr z)) :: st) n I L P) ∧
  (∀ (lv : List mm_V) (st : List mm_V) a, (mm_ok n a 12) → mm_E d 221 29 lv [] (.inr (.inr (some a)) :: st) n I L P = mm_E d 221 32 lv [] (.inr (.inr (P a 27)) :: st) n I L P) ∧
  (∀ (st : List mm_V) z (l0 : mm_V), mm_E d 221 32 [l0, (.inl z)] [] st n I L P = mm_E d 221 33 [l0, (.inl z)] [] ((.inl z) :: st) n I L P) ∧
  (∀ (st : List mm_V) z (l1 : mm_V), mm_E d 221 33 [(.inr (.inr z)), l1] [] st n I L P = mm_E d 221 34 [(.inr (.inr z)), l1] [] ((.inr (.inr z)) :: st) n I L P) ∧
  (∀ (lv : List mm_V) (st : List mm_V) a, (mm_ok n a 12) → mm_E d 221 34 lv [] (.inr (.inr (some a)) :: st) n I L P = mm_E d 221 37 lv [] (.inr (.inr (P a 32)) :: st) n I L P) ∧
  (∀ (lv : List mm_V) (st : List mm_V), mm_E d 221 37 lv [] st n I L P = mm_E d 221 40 lv [] (.inl 211 :: st) n I L P) ∧
  (∀ (st : List mm_V) z (l1 : mm_V), mm_E d 221 40 [(.inr (.inr z)), l1] [] st n I L P = mm_E d 221 41 [(.inr (.inr z)), l1] [] ((.inr (.inr z)) :: st) n I L P) ∧
  (∀ (lv : List mm_V) (st : List mm_V) a, (mm_ok n a 12) → mm_E d 221 41 lv [] (.inr (.inr (some a)) :: st) n I L P = mm_E d 221 44 lv [] (.inl (I a 33) :: st) n I L P) ∧
  (∀ (lv : List mm_V) (st : List mm_V) a b, mm_E d 221 44 lv [] (.inl b :: .inl a :: st) n I L P = mm_E d 221 45 lv [] (.inl (mm_mul a b) :: st) n I L P) ∧
  (∀ (st : List mm_V) z (l0 : mm_V), mm_E d 221 45 [l0, (.inl z)] [] st n I L P = mm_E d 221 46 [l0, (.inl z)] [] ((.inl z) :: st) n I L P) ∧
  (∀ (lv : List mm_V) (st : List mm_V) a b, mm_E d 221 46 lv [] (.inl b :: .inl a :: st) n I L P = mm_E d 221 47 lv [] (.inl (mm_add a b) :: st) n I L P) ∧
  (∀ (lv : List mm_V) (st : List mm_V) a i, (mm_ix n a 20 i) → mm_E d 221 47 lv [] (.inl i :: .inr (.inr (some a)) :: st) n I L P = mm_E d 221 48 lv [] (.inl (I a i.toNat) :: st) n I L P) ∧
  (∀ (lv : List mm_V) (st : List mm_V) a i z, (mm_ix n a 20 i) → mm_E d 221 48 lv [] (.inl z :: .inl i :: .inr (.inr (some a)) :: st) n I L P = mm_E d 221 49 lv [] st n (mm_ui I a i.toNat z) L P) ∧
  (∀ (st : List mm_V) z (l0 : mm_V), mm_E d 221 49 [l0, (.inl z)] [] st n I L P = mm_E d 221 52 [l0, (.inl (mm_add z 1))] [] st n I L P) ∧
  (∀ (lv : List mm_V) (st : List mm_V), mm_E d 221 52 lv [] st n I L P = mm_E d 221 21 lv [] st n I L P) ∧
  (∀ (st : List mm_V) z (l1 : mm_V), mm_E d 221 55 [(.inr (.inr z)), l1] [] st n I L P = mm_E d 221 56 [(.inr (.inr z)), l1] [] ((.inr (.inr z)) :: st) n I L P) ∧
  (∀ (lv : List mm_V) (st : List mm_V) a, (mm_ok n a 12) → mm_E d 221 56 lv [] (.inr (.inr (some a)) :: st) n I L P = mm_E d 221 59 lv [] (.inl (I a 33) :: st) n I L P) ∧
  (∀ (lv : List mm_V) z, mm_E d 221 59 lv [] [.inl z] n I L P = some (some (.inl z), n, I, L, P)) :=
  ⟨fun _ _ _ => mq_al (i := 0) rfl rfl,
   fun _ _ _ h0 => mq_getI rfl h0,
   fun _ _ _ => mq_if_ne rfl,
   fun _ _ => mq_push rfl,
   fun _ _ => mq_ri rfl,
   fun _ _ _ => mq_al (i := 0) rfl rfl,
   fun _ _ _ => mq_dup rfl rfl,
   fun _ _ _ h0 => mq_getI rfl h0,
   fun _ _ => mq_push rfl,
   fun _ _ _ _ => mq_bi rfl,
   fun _ _ _ _ h0 => mq_putI rfl h0,
   fun _ _ => mq_push rfl,
   fun _ _ _ _ => mq_is (i := 1) rfl rfl rfl,
   fun _ _ => mq_push rfl,
   fun _ _ _ _ => mq_ic_ge rfl,
   fun _ _ _ => mq_al (i := 0) rfl rfl,
   fun _ _ _ h0 => mq_getR rfl h0,
   fun _ _ _ => mq_il (i := 1) rfl rfl,
   fun _ _ _ => mq_al (i := 0) rfl rfl,
   fun _ _ _ h0 => mq_getR rfl h0,
   fun _ _ => mq_push rfl,
   fun _ _ _ => mq_al (i := 0) rfl rfl,
   fun _ _ _ h0 => mq_getI rfl h0,
   fun _ _ _ _ => mq_bi rfl,
   fun _ _ _ => mq_il (i := 1) rfl rfl,
   fun _ _ _ _ => mq_bi rfl,
   fun _ _ _ _ h0 => mq_iald rfl h0,
   fun _ _ _ _ _ h0 => mq_iast rfl h0,
   fun _ _ _ => mq_iinc (i := 1) rfl rfl rfl rfl,
   fun _ _ => mq_go rfl,
   fun _ _ _ => mq_al (i := 0) rfl rfl,
   fun _ _ _ h0 => mq_getI rfl h0,
   fun _ _ => mq_ri rfl⟩
theorem hX12_undo_21 (d n : Nat) (I L : mm_I) (P : mm_P) : ∀ (st : List mm_V) z (l0 : mm_V), mm_E d 221 21 [l0, (.inl z)] [] st n I L P = mm_E d 221 22 [l0, (.inl z)] [] ((.inl z) :: st) n I L P := fun _ _ _ => mq_il (i := 1) rfl rfl
theorem eX12_undo (d n : Nat) (I L : mm_I) (P : mm_P) (x0 : Option Nat) : mm_rn (d + 1) 221 [.inr (.inr x0)] n I L P = mm_E d 221 0 [.inr (.inr x0), mm_junk] [] [] n I L P := rfl

set_option maxRecDepth 20000 in
set_option maxHeartbeats 8000000 in
theorem kX12_log (d n : Nat) (I L : mm_I) (P : mm_P) :
  (∀ (st : List mm_V) z (l0 : mm_V) (l2 : mm_V), mm_E d 222 0 [l0, (.inl z), l2] [] st n I L P = mm_E d 222 1 [l0, (.inl z), l2] [] ((.inl z) :: st) n I L P) ∧
  (∀ (lv : List mm_V) (st : List mm_V), mm_E d 222 1 lv [] st n I L P = mm_E d 222 2 lv [] (.inl 0 :: st) n I L P) ∧
  (∀ (st : List mm_V) z (l1 : mm_V) (l2 : mm_V), mm_E d 222 2 [(.inr (.inr z)), l1, l2] [] st n I L P = mm_E d 222 3 [(.inr (.inr z)), l1, l2] [] ((.inr (.inr z)) :: st) n I L P) ∧
  (∀ (lv : List mm_V) (st : List mm_V) a, (mm_ok n a 12) → mm_E d 222 3 lv [] (.inr (.inr (some a)) :: st) n I L P = mm_E d 222 6 lv [] (.inr (.inr (P a 27)) :: st) n I L P) ∧
  (∀ (lv : List mm_V) (st : List mm_V), mm_E d 222 6 lv [] st n I L P = mm_E d 222 8 lv [] (.inl 30 :: st) n I L P) ∧
  (∀ (lv : List mm_V) (st : List mm_V) a i, (mm_ix n a 20 i) → mm_E d 222 8 lv [] (.inl i :: .inr (.inr (some a)) :: st) n I L P = mm_E d 222 9 lv [] (.inl (I a i.toNat) :: st) n I L P) ∧
  (∀ (lv : List mm_V) (st : List mm_V), mm_E d 222 9 lv [] st n I L P = mm_E d 222 10 lv [] (.inl 1 :: st) n I L P) ∧
  (∀ (lv : List mm_V) (st : List mm_V) a b, mm_E d 222 10 lv [] (.inl b :: .inl a :: st) n I L P = mm_E d 222 11 lv [] (.inl (mm_sub a b) :: st) n I L P) ∧
  (∀ (lv : List mm_V) x0 x1 x2, mm_E d 222 11 lv [] (.inl x2 :: .inl x1 :: .inl x0 :: []) n I L P = mm_kr d 222 14 lv [] [] n (mm_rn d 145 [.inl x0, .inl x1, .inl x2] n I L P)) ∧
  (∀ (lv : List mm_V) (st : List mm_V) a, mm_E d 222 14 lv [] (.inl a :: st) n I L P = if a = 0 then mm_E d 222 52 lv [] st n I L P else mm_E d 222 17 lv [] st n I L P) ∧
  (∀ (st : List mm_V) z (l0 : mm_V) (l1 : mm_V), mm_E d 222 17 [l0, l1, (.inl z)] [] st n I L P = mm_E d 222 18 [l0, l1, (.inl z)] [] ((.inl z) :: st) n I L P) ∧
  (∀ (lv : List mm_V) (st : List mm_V), mm_E d 222 18 lv [] st n I L P = mm_E d 222 19 lv [] (.inl 0 :: st) n I L P) ∧
  (∀ (lv : List mm_V) (st : List mm_V), mm_E d 222 19 lv [] st n I L P = mm_E d 222 20 lv [] (.inl 2 :: st) n I L P) ∧
  (∀ (lv : List mm_V) x0 x1 x2, mm_E d 222 20 lv [] (.inl x2 :: .inl x1 :: .inl x0 :: []) n I L P = mm_kr d 222 23 lv [] [] n (mm_rn d 145 [.inl x0, .inl x1, .inl x2] n I L P)) ∧
  (∀ (lv : List mm_V) (st : List mm_V) a, mm_E d 222 23 lv [] (.inl a :: st) n I L P = if a = 0 then mm_E d 222 52 lv [] st n I L P else mm_E d 222 26 lv [] st n I L P) ∧
  (∀ (st : List mm_V) z (l1 : mm_V) (l2 : mm_V), mm_E d 222 26 [(.inr (.inr z)), l1, l2] [] st n I L P = mm_E d 222 27 [(.inr (.inr z)), l1, l2] [] ((.inr (.inr z)) :: st) n I L P) ∧
  (∀ (lv : List mm_V) (st : List mm_V) a, (mm_ok n a 12) → mm_E d 222 27 lv [] (.inr (.inr (some a)) :: st) n I L P = mm_E d 222 30 lv [] (.inr (.inr (P a 27)) :: st) n I L P) ∧
  (∀ (lv : List mm_V) (st : List mm_V), mm_E d 222 30 lv [] st n I L P = mm_E d 222 32 lv [] (.inl 31 :: st) n I L P) ∧
  (∀ (lv : List mm_V) (st : List mm_V), mm_E d 222 32 lv [] st n I L P = mm_E d 222 33 lv [] (.inl 3 :: st) n I L P) ∧
  (∀ (st : List mm_V) z (l1 : mm_V) (l2 : mm_V), mm_E d 222 33 [(.inr (.inr z)), l1, l2] [] st n I L P = mm_E d 222 34 [(.inr (.inr z)), l1, l2] [] ((.inr (.inr z)) :: st) n I L P) ∧
  (∀ (lv : List mm_V) (st : List mm_V) a, (mm_ok n a 12) → mm_E d 222 34 lv [] (.inr (.inr (some a)) :: st) n I L P = mm_E d 222 37 lv [] (.inr (.inr (P a 27)) :: st) n I L P) ∧
  (∀ (lv : List mm_V) (st : List mm_V), mm_E d 222 37 lv [] st n I L P = mm_E d 222 39 lv [] (.inl 30 :: st) n I L P) ∧
  (∀ (lv : List mm_V) (st : List mm_V) a i, (mm_ix n a 20 i) → mm_E d 222 39 lv [] (.inl i :: .inr (.inr (some a)) :: st) n I L P = mm_E d 222 40 lv [] (.inl (I a i.toNat) :: st) n I L P) ∧
  (∀ (lv : List mm_V) (st : List mm_V), mm_E d 222 40 lv [] st n I L P = mm_E d 222 41 lv [] (.inl 1 :: st) n I L P) ∧
  (∀ (lv : List mm_V) (st : List mm_V) a b, mm_E d 222 41 lv [] (.inl b :: .inl a :: st) n I L P = mm_E d 222 42 lv [] (.inl (mm_sub a b) :: st) n I L P) ∧
  (∀ (st : List mm_V) z (l0 : mm_V) (l2 : mm_V), mm_E d 222 42 [l0, (.inl z), l2] [] st n I L P = mm_E d 222 43 [l0, (.inl z), l2] [] ((.inl z) :: st) n I L P) ∧
  (∀ (lv : List mm_V) (st : List mm_V) a b, mm_E d 222 43 lv [] (.inl b :: .inl a :: st) n I L P = mm_E d 222 44 lv [] (.inl (mm_sub a b) :: st) n I L P) ∧
  (∀ (lv : List mm_V) (st : List mm_V) a b, mm_E d 222 44 lv [] (.inl b :: .inl a :: st) n I L P = mm_E d 222 45 lv [] (.inl (mm_mul a b) :: st) n I L P) ∧
  (∀ (lv : List mm_V) (st : List mm_V) a b, mm_E d 222 45 lv [] (.inl b :: .inl a :: st) n I L P = mm_E d 222 46 lv [] (.inl (mm_add a b) :: st) n I L P) ∧
  (∀ (st : List mm_V) z (l0 : mm_V) (l1 : mm_V), mm_E d 222 46 [l0, l1, (.inl z)] [] st n I L P = mm_E d 222 47 [l0, l1, (.inl z)] [] ((.inl z) :: st) n I L P) ∧
  (∀ (lv : List mm_V) (st : List mm_V) a b, mm_E d 222 47 lv [] (.inl b :: .inl a :: st) n I L P = mm_E d 222 48 lv [] (.inl (mm_add a b) :: st) n I L P) ∧
  (∀ (lv : List mm_V) (st : List mm_V) a i, (mm_ix n a 20 i) → mm_E d 222 48 lv [] (.inl i :: .inr (.inr (some a)) :: st) n I L P = mm_E d 222 49 lv [] (.inl (I a i.toNat) :: st) n I L P) ∧
  (∀ (lv : List mm_V) (st : List mm_V), mm_E d 222 49 lv [] st n I L P = mm_E d 222 53 lv [] st n I L P) ∧
  (∀ (lv : List mm_V) (st : List mm_V), mm_E d 222 52 lv [] st n I L P = mm_E d 222 53 lv [] (.inl (-1) :: st) n I L P) ∧
  (∀ (lv : List mm_V) z, mm_E d 222 53 lv [] [.inl z] n I L P = some (some (.inl z), n, I, L, P)) :=
  ⟨fun _ _ _ _ => mq_il (i := 1) rfl rfl,
   fun _ _ => mq_push rfl,
   fun _ _ _ _ => mq_al (i := 0) rfl rfl,
   fun _ _ _ h0 => mq_getR rfl h0,
   fun _ _ => mq_push rfl,
   fun _ _ _ _ h0 => mq_iald rfl h0,
   fun _ _ => mq_push rfl,
   fun _ _ _ _ => mq_bi rfl,
   fun _ _ _ _ => mq_cSr (na := 3) rfl (Nat.le_of_ble_eq_true rfl) (Nat.le_of_ble_eq_true rfl),
   fun _ _ _ => mq_if_eq rfl,
   fun _ _ _ _ => mq_il (i := 2) rfl rfl,
   fun _ _ => mq_push rfl,
   fun _ _ => mq_push rfl,
   fun _ _ _ _ => mq_cSr (na := 3) rfl (Nat.le_of_ble_eq_true rfl) (Nat.le_of_ble_eq_true rfl),
   fun _ _ _ => mq_if_eq rfl,
   fun _ _ _ _ => mq_al (i := 0) rfl rfl,
   fun _ _ _ h0 => mq_getR rfl h0,
   fun _ _ => mq_push rfl,
   fun _ _ => mq_push rfl,
   fun _ _ _ _ => mq_al (i := 0) rfl rfl,
   fun _ _ _ h0 => mq_getR rfl h0,
   fun _ _ => mq_push rfl,
   fun _ _ _ _ h0 => mq_iald rfl h0,
   fun _ _ => mq_push rfl,
   fun _ _ _ _ => mq_bi rfl,
   fun _ _ _ _ => mq_il (i := 1) rfl rfl,
   fun _ _ _ _ => mq_bi rfl,
   fun _ _ _ _ => mq_bi rfl,
   fun _ _ _ _ => mq_bi rfl,
   fun _ _ _ _ => mq_il (i := 2) rfl rfl,
   fun _ _ _ _ => mq_bi rfl,
   fun _ _ _ _ h0 => mq_iald rfl h0,
   fun _ _ => mq_go rfl,
   fun _ _ => mq_push rfl,
   fun _ _ => mq_ri rfl⟩
theorem eX12_log (d n : Nat) (I L : mm_I) (P : mm_P) (x0 : Option Nat) (x1 : Int) (x2 : Int) : mm_rn (d + 1) 222 [.inr (.inr x0), .inl x1, .inl x2] n I L P = mm_E d 222 0 [.inr (.inr x0), .inl x1, .inl x2] [] [] n I L P := rfl

set_option maxRecDepth 20000 in
set_option maxHeartbeats 8000000 in
theorem kX12_putAside (d n : Nat) (I L : mm_I) (P : mm_P) :
  (∀ (lv : List mm_V) (st : List mm_V), mm_E d 223 0 lv [] st n I L P = mm_E d 223 1 lv [] (.inl 0 :: st) n I L P) ∧
  (∀ (st : List mm_V) z (l0 : mm_V) (l1 : mm_V) (l2 : mm_V), mm_E d 223 1 [l0, l1, l2] [] ((.inl z) :: st) n I L P = mm_E d 223 2 [l0, l1, (.inl z)] [] st n I L P) ∧
  (∀ (lv : List mm_V) (st : List mm_V), mm_E d 223 3 lv [] st n I L P = mm_E d 223 5 lv [] (.inl 30 :: st) n I L P) ∧
  (∀ (lv : List mm_V) (st : List mm_V) a b, mm_E d 223 5 lv [] (.inl b :: .inl a :: st) n I L P = if b ≤ a then mm_E d 223 31 lv [] st n I L P else mm_E d 223 8 lv [] st n I L P) ∧
  (∀ (st : List mm_V) z (l1 : mm_V) (l2 : mm_V), mm_E d 223 8 [(.inr (.inr z)), l1, l2] [] st n I L P = mm_E d 223 9 [(.inr (.inr z)), l1, l2] [] ((.inr (.inr z)) :: st) n I L P) ∧
  (∀ (lv : List mm_V) (st : List mm_V) a, (mm_ok n a 12) → mm_E d 223 9 lv [] (.inr (.inr (some a)) :: st) n I L P = mm_E d 223 12 lv [] (.inr (.inr (P a 35)) :: st) n I L P) ∧
  (∀ (lv : List mm_V) (st : List mm_V), mm_E d 223 12 lv [] st n I L P = mm_E d 223 14 lv [] (.inl 30 :: st) n I L P) ∧
  (∀ (st : List mm_V) z (l0 : mm_V) (l2 : mm_V), mm_E d 223 14 [l0, (.inl z), l2] [] st n I L P = mm_E d 223 15 [l0, (.inl z), l2] [] ((.inl z) :: st) n I L P) ∧
  (∀ (lv : List mm_V) (st : List mm_V) a b, mm_E d 223 15 lv [] (.inl b :: .inl a :: st) n I L P = mm_E d 223 16 lv [] (.inl (mm_mul a b) :: st) n I L P) ∧
  (∀ (st : List mm_V) z (l0 : mm_V) (l1 : mm_V), mm_E d 223 16 [l0, l1, (.inl z)] [] st n I L P = mm_E d 223 17 [l0, l1, (.inl z)] [] ((.inl z) :: st) n I L P) ∧
  (∀ (lv : List mm_V) (st : List mm_V) a b, mm_E d 223 17 lv [] (.inl b :: .inl a :: st) n I L P = mm_E d 223 18 lv [] (.inl (mm_add a b) :: st) n I L P) ∧
  (∀ (st : List mm_V) z (l1 : mm_V) (l2 : mm_V), mm_E d 223 18 [(.inr (.inr z)), l1, l2] [] st n I L P = mm_E d 223 19 [(.inr (.inr z)), l1, l2] [] ((.inr (.inr z)) :: st) n I L P) ∧
  (∀ (lv : List mm_V) (st : List mm_V) a, (mm_ok n a 12) → mm_E d 223 19 lv [] (.inr (.inr (some a)) :: st) n I L P = mm_E d 223 22 lv [] (.inr (.inr (P a 27)) :: st) n I L P) ∧
  (∀ (st : List mm_V) z (l0 : mm_V) (l1 : mm_V), mm_E d 223 22 [l0, l1, (.inl z)] [] st n I L P = mm_E d 223 23 [l0, l1, (.inl z)] [] ((.inl z) :: st) n I L P) ∧
  (∀ (lv : List mm_V) (st : List mm_V) a i, (mm_ix n a 20 i) → mm_E d 223 23 lv [] (.inl i :: .inr (.inr (some a)) :: st) n I L P = mm_E d 223 24 lv [] (.inl (I a i.toNat) :: st) n I L P) ∧
  (∀ (lv : List mm_V) (st : List mm_V) a i z, (mm_ix n a 20 i) → mm_E d 223 24 lv [] (.inl z :: .inl i :: .inr (.inr (some a)) :: st) n I L P = mm_E d 223 25 lv [] st n (mm_ui I a i.toNat z) L P) ∧
  (∀ (st : List mm_V) z (l0 : mm_V) (l1 : mm_V), mm_E d 223 25 [l0, l1, (.inl z)] [] st n I L P = mm_E d 223 28 [l0, l1, (.inl (mm_add z 1))] [] st n I L P) ∧
  (∀ (lv : List mm_V) (st : List mm_V), mm_E d 223 28 lv [] st n I L P = mm_E d 223 2 lv [] st n I L P) ∧
  (∀ (lv : List mm_V), mm_E d 223 31 lv [] [] n I L P = some (none, n, I, L, P)) :=
  ⟨fun _ _ => mq_push rfl,
   fun _ _ _ _ _ => mq_is (i := 2) rfl rfl rfl,
   fun _ _ => mq_push rfl,
   fun _ _ _ _ => mq_ic_ge rfl,
   fun _ _ _ _ => mq_al (i := 0) rfl rfl,
   fun _ _ _ h0 => mq_getR rfl h0,
   fun _ _ => mq_push rfl,
   fun _ _ _ _ => mq_il (i := 1) rfl rfl,
   fun _ _ _ _ => mq_bi rfl,
   fun _ _ _ _ => mq_il (i := 2) rfl rfl,
   fun _ _ _ _ => mq_bi rfl,
   fun _ _ _ _ => mq_al (i := 0) rfl rfl,
   fun _ _ _ h0 => mq_getR rfl h0,
   fun _ _ _ _ => mq_il (i := 2) rfl rfl,
   fun _ _ _ _ h0 => mq_iald rfl h0,
   fun _ _ _ _ _ h0 => mq_iast rfl h0,
   fun _ _ _ _ => mq_iinc (i := 2) rfl rfl rfl rfl,
   fun _ _ => mq_go rfl,
   fun _ => mq_rv rfl⟩
theorem hX12_putAside_2 (d n : Nat) (I L : mm_I) (P : mm_P) : ∀ (st : List mm_V) z (l0 : mm_V) (l1 : mm_V), mm_E d 223 2 [l0, l1, (.inl z)] [] st n I L P = mm_E d 223 3 [l0, l1, (.inl z)] [] ((.inl z) :: st) n I L P := fun _ _ _ _ => mq_il (i := 2) rfl rfl
theorem eX12_putAside (d n : Nat) (I L : mm_I) (P : mm_P) (x0 : Option Nat) (x1 : Int) : mm_rn (d + 1) 223 [.inr (.inr x0), .inl x1] n I L P = mm_E d 223 0 [.inr (.inr x0), .inl x1, mm_junk] [] [] n I L P := rfl

set_option maxRecDepth 20000 in
set_option maxHeartbeats 8000000 in
theorem kX12_takeBack (d n : Nat) (I L : mm_I) (P : mm_P) :
  (∀ (lv : List mm_V) (st : List mm_V), mm_E d 224 0 lv [] st n I L P = mm_E d 224 1 lv [] (.inl 0 :: st) n I L P) ∧
  (∀ (st : List mm_V) z (l0 : mm_V) (l1 : mm_V) (l2 : mm_V), mm_E d 224 1 [l0, l1, l2] [] ((.inl z) :: st) n I L P = mm_E d 224 2 [l0, l1, (.inl z)] [] st n I L P) ∧
  (∀ (lv : List mm_V) (st : List mm_V), mm_E d 224 3 lv [] st n I L P = mm_E d 224 5 lv [] (.inl 30 :: st) n I L P) ∧
  (∀ (lv : List mm_V) (st : List mm_V) a b, mm_E d 224 5 lv [] (.inl b :: .inl a :: st) n I L P = if b ≤ a then mm_E d 224 31 lv [] st n I L P else mm_E d 224 8 lv [] st n I L P) ∧
  (∀ (st : List mm_V) z (l1 : mm_V) (l2 : mm_V), mm_E d 224 8 [(.inr (.inr z)), l1, l2] [] st n I L P = mm_E d 224 9 [(.inr (.inr z)), l1, l2] [] ((.inr (.inr z)) :: st) n I L P) ∧
  (∀ (lv : List mm_V) (st : List mm_V) a, (mm_ok n a 12) → mm_E d 224 9 lv [] (.inr (.inr (some a)) :: st) n I L P = mm_E d 224 12 lv [] (.inr (.inr (P a 27)) :: st) n I L P) ∧
  (∀ (st : List mm_V) z (l0 : mm_V) (l1 : mm_V), mm_E d 224 12 [l0, l1, (.inl z)] [] st n I L P = mm_E d 224 13 [l0, l1, (.inl z)] [] ((.inl z) :: st) n I L P) ∧
  (∀ (st : List mm_V) z (l1 : mm_V) (l2 : mm_V), mm_E d 224 13 [(.inr (.inr z)), l1, l2] [] st n I L P = mm_E d 224 14 [(.inr (.inr z)), l1, l2] [] ((.inr (.inr z)) :: st) n I L P) ∧
  (∀ (lv : List mm_V) (st : List mm_V) a, (mm_ok n a 12) → mm_E d 224 14 lv [] (.inr (.inr (some a)) :: st) n I L P = mm_E d 224 17 lv [] (.inr (.inr (P a 35)) :: st) n I L P) ∧
  (∀ (lv : List mm_V) (st : List mm_V), mm_E d 224 17 lv [] st n I L P = mm_E d 224 19 lv [] (.inl 30 :: st) n I L P) ∧
  (∀ (st : List mm_V) z (l0 : mm_V) (l2 : mm_V), mm_E d 224 19 [l0, (.inl z), l2] [] st n I L P = mm_E d 224 20 [l0, (.inl z), l2] [] ((.inl z) :: st) n I L P) ∧
  (∀ (lv : List mm_V) (st : List mm_V) a b, mm_E d 224 20 lv [] (.inl b :: .inl a :: st) n I L P = mm_E d 224 21 lv [] (.inl (mm_mul a b) :: st) n I L P) ∧
  (∀ (st : List mm_V) z (l0 : mm_V) (l1 : mm_V), mm_E d 224 21 [l0, l1, (.inl z)] [] st n I L P = mm_E d 224 22 [l0, l1, (.inl z)] [] ((.inl z) :: st) n I L P) ∧
  (∀ (lv : List mm_V) (st : List mm_V) a b, mm_E d 224 22 lv [] (.inl b :: .inl a :: st) n I L P = mm_E d 224 23 lv [] (.inl (mm_add a b) :: st) n I L P) ∧
  (∀ (lv : List mm_V) (st : List mm_V) a i, (mm_ix n a 20 i) → mm_E d 224 23 lv [] (.inl i :: .inr (.inr (some a)) :: st) n I L P = mm_E d 224 24 lv [] (.inl (I a i.toNat) :: st) n I L P) ∧
  (∀ (lv : List mm_V) (st : List mm_V) a i z, (mm_ix n a 20 i) → mm_E d 224 24 lv [] (.inl z :: .inl i :: .inr (.inr (some a)) :: st) n I L P = mm_E d 224 25 lv [] st n (mm_ui I a i.toNat z) L P) ∧
  (∀ (st : List mm_V) z (l0 : mm_V) (l1 : mm_V), mm_E d 224 25 [l0, l1, (.inl z)] [] st n I L P = mm_E d 224 28 [l0, l1, (.inl (mm_add z 1))] [] st n I L P) ∧
  (∀ (lv : List mm_V) (st : List mm_V), mm_E d 224 28 lv [] st n I L P = mm_E d 224 2 lv [] st n I L P) ∧
  (∀ (lv : List mm_V), mm_E d 224 31 lv [] [] n I L P = some (none, n, I, L, P)) :=
  ⟨fun _ _ => mq_push rfl,
   fun _ _ _ _ _ => mq_is (i := 2) rfl rfl rfl,
   fun _ _ => mq_push rfl,
   fun _ _ _ _ => mq_ic_ge rfl,
   fun _ _ _ _ => mq_al (i := 0) rfl rfl,
   fun _ _ _ h0 => mq_getR rfl h0,
   fun _ _ _ _ => mq_il (i := 2) rfl rfl,
   fun _ _ _ _ => mq_al (i := 0) rfl rfl,
   fun _ _ _ h0 => mq_getR rfl h0,
   fun _ _ => mq_push rfl,
   fun _ _ _ _ => mq_il (i := 1) rfl rfl,
   fun _ _ _ _ => mq_bi rfl,
   fun _ _ _ _ => mq_il (i := 2) rfl rfl,
   fun _ _ _ _ => mq_bi rfl,
   fun _ _ _ _ h0 => mq_iald rfl h0,
   fun _ _ _ _ _ h0 => mq_iast rfl h0,
   fun _ _ _ _ => mq_iinc (i := 2) rfl rfl rfl rfl,
   fun _ _ => mq_go rfl,
   fun _ => mq_rv rfl⟩
theorem hX12_takeBack_2 (d n : Nat) (I L : mm_I) (P : mm_P) : ∀ (st : List mm_V) z (l0 : mm_V) (l1 : mm_V), mm_E d 224 2 [l0, l1, (.inl z)] [] st n I L P = mm_E d 224 3 [l0, l1, (.inl z)] [] ((.inl z) :: st) n I L P := fun _ _ _ _ => mq_il (i := 2) rfl rfl
theorem eX12_takeBack (d n : Nat) (I L : mm_I) (P : mm_P) (x0 : Option Nat) (x1 : Int) : mm_rn (d + 1) 224 [.inr (.inr x0), .inl x1] n I L P = mm_E d 224 0 [.inr (.inr x0), .inl x1, mm_junk] [] [] n I L P := rfl

set_option maxRecDepth 20000 in
set_option maxHeartbeats 8000000 in
theorem kX12_liveHours (d n : Nat) (I L : mm_I) (P : mm_P) :
  (∀ (lv : List mm_V) (st : List mm_V), mm_E d 225 0 lv [] st n I L P = mm_E d 225 1 lv [] (.inl 0 :: st) n I L P) ∧
  (∀ (st : List mm_V) z (l0 : mm_V) (l1 : mm_V) (l2 : mm_V) (l3 : mm_V), mm_E d 225 1 [l0, l1, l2, l3] [] ((.inl z) :: st) n I L P = mm_E d 225 2 [l0, l1, (.inl z), l3] [] st n I L P) ∧
  (∀ (lv : List mm_V) (st : List mm_V), mm_E d 225 2 lv [] st n I L P = mm_E d 225 3 lv [] (.inl 0 :: st) n I L P) ∧
  (∀ (st : List mm_V) z (l0 : mm_V) (l1 : mm_V) (l2 : mm_V) (l3 : mm_V), mm_E d 225 3 [l0, l1, l2, l3] [] ((.inl z) :: st) n I L P = mm_E d 225 4 [l0, l1, l2, (.inl z)] [] st n I L P) ∧
  (∀ (st : List mm_V) z (l0 : mm_V) (l2 : mm_V) (l3 : mm_V), mm_E d 225 5 [l0, (.inl z), l2, l3] [] st n I L P = mm_E d 225 6 [l0, (.inl z), l2, l3] [] ((.inl z) :: st) n I L P) ∧
  (∀ (lv : List mm_V) (st : List mm_V) a b, mm_E d 225 6 lv [] (.inl b :: .inl a :: st) n I L P = if b ≤ a then mm_E d 225 22 lv [] st n I L P else mm_E d 225 9 lv [] st n I L P) ∧
  (∀ (st : List mm_V) z (l0 : mm_V) (l1 : mm_V) (l3 : mm_V), mm_E d 225 9 [l0, l1, (.inl z), l3] [] st n I L P = mm_E d 225 10 [l0, l1, (.inl z), l3] [] ((.inl z) :: st) n I L P) ∧
  (∀ (st : List mm_V) z (l1 : mm_V) (l2 : mm_V) (l3 : mm_V), mm_E d 225 10 [(.inr (.inr z)), l1, l2, l3] [] st n I L P = mm_E d 225 11 [(.inr (.inr z)), l1, l2, l3] [] ((.inr (.inr z)) :: st) n I L P) ∧
  (∀ (lv : List mm_V) a w0, (mm_ok n a 12) → mm_E d 225 11 lv [] (.inr (.inr (some a)) :: [.inl w0]) n I L P = mm_kr d 225 14 lv [] [.inl w0] n (mm_rn d 198 [.inr (.inr (some a))] n I L P)) ∧
  (∀ (lv : List mm_V) (st : List mm_V) a b, mm_E d 225 14 lv [] (.inl b :: .inl a :: st) n I L P = mm_E d 225 15 lv [] (.inl (mm_add a b) :: st) n I L P) ∧
  (∀ (st : List mm_V) z (l0 : mm_V) (l1 : mm_V) (l2 : mm_V) (l3 : mm_V), mm_E d 225 15 [l0, l1, l2, l3] [] ((.inl z) :: st) n I L P = mm_E d 225 16 [l0, l1, (.inl z), l3] [] st n I L P) ∧
  (∀ (st : List mm_V) z (l0 : mm_V) (l1 : mm_V) (l2 : mm_V), mm_E d 225 16 [l0, l1, l2, (.inl z)] [] st n I L P = mm_E d 225 19 [l0, l1, l2, (.inl (mm_add z 1))] [] st n I L P) ∧
  (∀ (lv : List mm_V) (st : List mm_V), mm_E d 225 19 lv [] st n I L P = mm_E d 225 4 lv [] st n I L P) ∧
  (∀ (st : List mm_V) z (l0 : mm_V) (l1 : mm_V) (l3 : mm_V), mm_E d 225 22 [l0, l1, (.inl z), l3] [] st n I L P = mm_E d 225 23 [l0, l1, (.inl z), l3] [] ((.inl z) :: st) n I L P) ∧
  (∀ (lv : List mm_V) z, mm_E d 225 23 lv [] [.inl z] n I L P = some (some (.inl z), n, I, L, P)) :=
  ⟨fun _ _ => mq_push rfl,
   fun _ _ _ _ _ _ => mq_is (i := 2) rfl rfl rfl,
   fun _ _ => mq_push rfl,
   fun _ _ _ _ _ _ => mq_is (i := 3) rfl rfl rfl,
   fun _ _ _ _ _ => mq_il (i := 1) rfl rfl,
   fun _ _ _ _ => mq_ic_ge rfl,
   fun _ _ _ _ _ => mq_il (i := 2) rfl rfl,
   fun _ _ _ _ _ => mq_al (i := 0) rfl rfl,
   fun _ _ _ h0 => mq_cVr (na := 0) rfl rfl (Nat.le_of_ble_eq_true rfl) (Nat.le_of_ble_eq_true rfl) h0,
   fun _ _ _ _ => mq_bi rfl,
   fun _ _ _ _ _ _ => mq_is (i := 2) rfl rfl rfl,
   fun _ _ _ _ _ => mq_iinc (i := 3) rfl rfl rfl rfl,
   fun _ _ => mq_go rfl,
   fun _ _ _ _ _ => mq_il (i := 2) rfl rfl,
   fun _ _ => mq_ri rfl⟩
theorem hX12_liveHours_4 (d n : Nat) (I L : mm_I) (P : mm_P) : ∀ (st : List mm_V) z (l0 : mm_V) (l1 : mm_V) (l2 : mm_V), mm_E d 225 4 [l0, l1, l2, (.inl z)] [] st n I L P = mm_E d 225 5 [l0, l1, l2, (.inl z)] [] ((.inl z) :: st) n I L P := fun _ _ _ _ _ => mq_il (i := 3) rfl rfl
theorem eX12_liveHours (d n : Nat) (I L : mm_I) (P : mm_P) (x0 : Option Nat) (x1 : Int) : mm_rn (d + 1) 225 [.inr (.inr x0), .inl x1] n I L P = mm_E d 225 0 [.inr (.inr x0), .inl x1, mm_junk, mm_junk] [] [] n I L P := rfl

set_option maxRecDepth 20000 in
set_option maxHeartbeats 8000000 in
theorem kX12_lostBy (d n : Nat) (I L : mm_I) (P : mm_P) :
  (∀ (st : List mm_V) z (l1 : mm_V) (l2 : mm_V) (l3 : mm_V), mm_E d 226 0 [(.inr (.inr z)), l1, l2, l3] [] st n I L P = mm_E d 226 1 [(.inr (.inr z)), l1, l2, l3] [] ((.inr (.inr z)) :: st) n I L P) ∧
  (∀ (lv : List mm_V) (st : List mm_V), mm_E d 226 1 lv [] st n I L P = mm_E d 226 2 lv [] (.inl 0 :: st) n I L P) ∧
  (∀ (lv : List mm_V) a x0, (mm_ok n a 12) → mm_E d 226 2 lv [] (.inl x0 :: .inr (.inr (some a)) :: []) n I L P = mm_kv d 226 5 lv [] [] n (mm_rn d 223 [.inr (.inr (some a)), .inl x0] n I L P)) ∧
  (∀ (st : List mm_V) z (l1 : mm_V) (l2 : mm_V) (l3 : mm_V), mm_E d 226 5 [(.inr (.inr z)), l1, l2, l3] [] st n I L P = mm_E d 226 6 [(.inr (.inr z)), l1, l2, l3] [] ((.inr (.inr z)) :: st) n I L P) ∧
  (∀ (st : List mm_V) z (l0 : mm_V) (l1 : mm_V) (l3 : mm_V), mm_E d 226 6 [l0, l1, (.inl z), l3] [] st n I L P = mm_E d 226 7 [l0, l1, (.inl z), l3] [] ((.inl z) :: st) n I L P) ∧
  (∀ (lv : List mm_V) a x0, (mm_ok n a 12) → mm_E d 226 7 lv [] (.inl x0 :: .inr (.inr (some a)) :: []) n I L P = mm_kr d 226 10 lv [] [] n (mm_rn d 225 [.inr (.inr (some a)), .inl x0] n I L P)) ∧
  (∀ (st : List mm_V) z (l0 : mm_V) (l1 : mm_V) (l2 : mm_V) (l3 : mm_V), mm_E d 226 10 [l0, l1, l2, l3] [] ((.inl z) :: st) n I L P = mm_E d 226 11 [l0, l1, l2, (.inl z)] [] st n I L P) ∧
  (∀ (st : List mm_V) z (l1 : mm_V) (l2 : mm_V) (l3 : mm_V), mm_E d 226 11 [(.inr (.inr z)), l1, l2, l3] [] st n I L P = mm_E d 226 12 [(.inr (.inr z)), l1, l2, l3] [] ((.inr (.inr z)) :: st) n I L P) ∧
  (∀ (lv : List mm_V) a, (mm_ok n a 12) → mm_E d 226 12 lv [] (.inr (.inr (some a)) :: []) n I L P = mm_kr d 226 15 lv [] [] n (mm_rn d 210 [.inr (.inr (some a))] n I L P)) ∧
  (∀ (lv : List mm_V) (st : List mm_V) a, mm_E d 226 15 lv [] ((.inl a) :: st) n I L P = mm_E d 226 16 lv [] st n I L P) ∧
  (∀ (st : List mm_V) z (l0 : mm_V) (l1 : mm_V) (l2 : mm_V), mm_E d 226 16 [l0, l1, l2, (.inl z)] [] st n I L P = mm_E d 226 17 [l0, l1, l2, (.inl z)] [] ((.inl z) :: st) n I L P) ∧
  (∀ (st : List mm_V) z (l1 : mm_V) (l2 : mm_V) (l3 : mm_V), mm_E d 226 17 [(.inr (.inr z)), l1, l2, l3] [] st n I L P = mm_E d 226 18 [(.inr (.inr z)), l1, l2, l3] [] ((.inr (.inr z)) :: st) n I L P) ∧
  (∀ (st : List mm_V) z (l0 : mm_V) (l2 : mm_V) (l3 : mm_V), mm_E d 226 18 [l0, (.inl z), l2, l3] [] st n I L P = mm_E d 226 19 [l0, (.inl z), l2, l3] [] ((.inl z) :: st) n I L P) ∧
  (∀ (st : List mm_V) z (l0 : mm_V) (l1 : mm_V) (l3 : mm_V), mm_E d 226 19 [l0, l1, (.inl z), l3] [] st n I L P = mm_E d 226 20 [l0, l1, (.inl z), l3] [] ((.inl z) :: st) n I L P) ∧
  (∀ (lv : List mm_V) (st : List mm_V) a b, mm_E d 226 20 lv [] (.inl b :: .inl a :: st) n I L P = mm_E d 226 21 lv [] (.inl (mm_sub a b) :: st) n I L P) ∧
  (∀ (lv : List mm_V) a x0 w0, (mm_ok n a 12) → mm_E d 226 21 lv [] (.inl x0 :: .inr (.inr (some a)) :: [.inl w0]) n I L P = mm_kr d 226 24 lv [] [.inl w0] n (mm_rn d 225 [.inr (.inr (some a)), .inl x0] n I L P)) ∧
  (∀ (lv : List mm_V) (st : List mm_V) a b, mm_E d 226 24 lv [] (.inl b :: .inl a :: st) n I L P = mm_E d 226 25 lv [] (.inl (mm_add a b) :: st) n I L P) ∧
  (∀ (st : List mm_V) z (l0 : mm_V) (l1 : mm_V) (l2 : mm_V) (l3 : mm_V), mm_E d 226 25 [l0, l1, l2, l3] [] ((.inl z) :: st) n I L P = mm_E d 226 26 [l0, l1, l2, (.inl z)] [] st n I L P) ∧
  (∀ (st : List mm_V) z (l1 : mm_V) (l2 : mm_V) (l3 : mm_V), mm_E d 226 26 [(.inr (.inr z)), l1, l2, l3] [] st n I L P = mm_E d 226 27 [(.inr (.inr z)), l1, l2, l3] [] ((.inr (.inr z)) :: st) n I L P) ∧
  (∀ (lv : List mm_V) (st : List mm_V), mm_E d 226 27 lv [] st n I L P = mm_E d 226 28 lv [] (.inl 0 :: st) n I L P) ∧
  (∀ (lv : List mm_V) a x0, (mm_ok n a 12) → mm_E d 226 28 lv [] (.inl x0 :: .inr (.inr (some a)) :: []) n I L P = mm_kv d 226 31 lv [] [] n (mm_rn d 224 [.inr (.inr (some a)), .inl x0] n I L P)) ∧
  (∀ (st : List mm_V) z (l0 : mm_V) (l1 : mm_V) (l2 : mm_V), mm_E d 226 31 [l0, l1, l2, (.inl z)] [] st n I L P = mm_E d 226 32 [l0, l1, l2, (.inl z)] [] ((.inl z) :: st) n I L P) ∧
  (∀ (lv : List mm_V) z, mm_E d 226 32 lv [] [.inl z] n I L P = some (some (.inl z), n, I, L, P)) :=
  ⟨fun _ _ _ _ _ => mq_al (i := 0) rfl rfl,
   fun _ _ => mq_push rfl,
   fun _ _ _ h0 => mq_cVv (na := 1) rfl rfl (Nat.le_of_ble_eq_true rfl) (Nat.le_of_ble_eq_true rfl) h0,
   fun _ _ _ _ _ => mq_al (i := 0) rfl rfl,
   fun _ _ _ _ _ => mq_il (i := 2) rfl rfl,
   fun _ _ _ h0 => mq_cVr (na := 1) rfl rfl (Nat.le_of_ble_eq_true rfl) (Nat.le_of_ble_eq_true rfl) h0,
   fun _ _ _ _ _ _ => mq_is (i := 3) rfl rfl rfl,
   fun _ _ _ _ _ => mq_al (i := 0) rfl rfl,
   fun _ _ h0 => mq_cVr (na := 0) rfl rfl (Nat.le_of_ble_eq_true rfl) (Nat.le_of_ble_eq_true rfl) h0,
   fun _ _ _ => mq_pop rfl rfl,
   fun _ _ _ _ _ => mq_il (i := 3) rfl rfl,
   fun _ _ _ _ _ => mq_al (i := 0) rfl rfl,
   fun _ _ _ _ _ => mq_il (i := 1) rfl rfl,
   fun _ _ _ _ _ => mq_il (i := 2) rfl rfl,
   fun _ _ _ _ => mq_bi rfl,
   fun _ _ _ _ h0 => mq_cVr (na := 1) rfl rfl (Nat.le_of_ble_eq_true rfl) (Nat.le_of_ble_eq_true rfl) h0,
   fun _ _ _ _ => mq_bi rfl,
   fun _ _ _ _ _ _ => mq_is (i := 3) rfl rfl rfl,
   fun _ _ _ _ _ => mq_al (i := 0) rfl rfl,
   fun _ _ => mq_push rfl,
   fun _ _ _ h0 => mq_cVv (na := 1) rfl rfl (Nat.le_of_ble_eq_true rfl) (Nat.le_of_ble_eq_true rfl) h0,
   fun _ _ _ _ _ => mq_il (i := 3) rfl rfl,
   fun _ _ => mq_ri rfl⟩
theorem eX12_lostBy (d n : Nat) (I L : mm_I) (P : mm_P) (x0 : Option Nat) (x1 : Int) (x2 : Int) : mm_rn (d + 1) 226 [.inr (.inr x0), .inl x1, .inl x2] n I L P = mm_E d 226 0 [.inr (.inr x0), .inl x1, .inl x2, mm_junk] [] [] n I L P := rfl

set_option maxRecDepth 20000 in
set_option maxHeartbeats 8000000 in
theorem kX12_lost (d n : Nat) (I L : mm_I) (P : mm_P) :
  (∀ (st : List mm_V) z (l1 : mm_V), mm_E d 227 0 [(.inr (.inr z)), l1] [] st n I L P = mm_E d 227 1 [(.inr (.inr z)), l1] [] ((.inr (.inr z)) :: st) n I L P) ∧
  (∀ (lv : List mm_V) (st : List mm_V) a, (mm_ok n a 12) → mm_E d 227 1 lv [] (.inr (.inr (some a)) :: st) n I L P = mm_E d 227 4 lv [] (.inl (I a 26) :: st) n I L P) ∧
  (∀ (lv : List mm_V) (st : List mm_V) a, mm_E d 227 4 lv [] (.inl a :: st) n I L P = if a ≤ 0 then mm_E d 227 26 lv [] st n I L P else mm_E d 227 7 lv [] st n I L P) ∧
  (∀ (st : List mm_V) z (l0 : mm_V), mm_E d 227 7 [l0, (.inl z)] [] st n I L P = mm_E d 227 8 [l0, (.inl z)] [] ((.inl z) :: st) n I L P) ∧
  (∀ (lv : List mm_V) (st : List mm_V), mm_E d 227 8 lv [] st n I L P = mm_E d 227 9 lv [] (.inl 0 :: st) n I L P) ∧
  (∀ (lv : List mm_V) (st : List mm_V), mm_E d 227 9 lv [] st n I L P = mm_E d 227 11 lv [] (.inl 60 :: st) n I L P) ∧
  (∀ (lv : List mm_V) x0 x1 x2, mm_E d 227 11 lv [] (.inl x2 :: .inl x1 :: .inl x0 :: []) n I L P = mm_kr d 227 14 lv [] [] n (mm_rn d 145 [.inl x0, .inl x1, .inl x2] n I L P)) ∧
  (∀ (lv : List mm_V) (st : List mm_V) a, mm_E d 227 14 lv [] (.inl a :: st) n I L P = if a = 0 then mm_E d 227 26 lv [] st n I L P else mm_E d 227 17 lv [] st n I L P) ∧
  (∀ (st : List mm_V) z (l1 : mm_V), mm_E d 227 17 [(.inr (.inr z)), l1] [] st n I L P = mm_E d 227 18 [(.inr (.inr z)), l1] [] ((.inr (.inr z)) :: st) n I L P) ∧
  (∀ (st : List mm_V) z (l0 : mm_V), mm_E d 227 18 [l0, (.inl z)] [] st n I L P = mm_E d 227 19 [l0, (.inl z)] [] ((.inl z) :: st) n I L P) ∧
  (∀ (st : List mm_V) z (l0 : mm_V), mm_E d 227 19 [l0, (.inl z)] [] st n I L P = mm_E d 227 20 [l0, (.inl z)] [] ((.inl z) :: st) n I L P) ∧
  (∀ (lv : List mm_V) a x0 x1, (mm_ok n a 12) → mm_E d 227 20 lv [] (.inl x1 :: .inl x0 :: .inr (.inr (some a)) :: []) n I L P = mm_kr d 227 23 lv [] [] n (mm_rn d 226 [.inr (.inr (some a)), .inl x0, .inl x1] n I L P)) ∧
  (∀ (lv : List mm_V) (st : List mm_V), mm_E d 227 23 lv [] st n I L P = mm_E d 227 27 lv [] st n I L P) ∧
  (∀ (lv : List mm_V) (st : List mm_V), mm_E d 227 26 lv [] st n I L P = mm_E d 227 27 lv [] (.inl (-1) :: st) n I L P) ∧
  (∀ (lv : List mm_V) z, mm_E d 227 27 lv [] [.inl z] n I L P = some (some (.inl z), n, I, L, P)) :=
  ⟨fun _ _ _ => mq_al (i := 0) rfl rfl,
   fun _ _ _ h0 => mq_getI rfl h0,
   fun _ _ _ => mq_if_le rfl,
   fun _ _ _ => mq_il (i := 1) rfl rfl,
   fun _ _ => mq_push rfl,
   fun _ _ => mq_push rfl,
   fun _ _ _ _ => mq_cSr (na := 3) rfl (Nat.le_of_ble_eq_true rfl) (Nat.le_of_ble_eq_true rfl),
   fun _ _ _ => mq_if_eq rfl,
   fun _ _ _ => mq_al (i := 0) rfl rfl,
   fun _ _ _ => mq_il (i := 1) rfl rfl,
   fun _ _ _ => mq_il (i := 1) rfl rfl,
   fun _ _ _ _ h0 => mq_cVr (na := 2) rfl rfl (Nat.le_of_ble_eq_true rfl) (Nat.le_of_ble_eq_true rfl) h0,
   fun _ _ => mq_go rfl,
   fun _ _ => mq_push rfl,
   fun _ _ => mq_ri rfl⟩
theorem eX12_lost (d n : Nat) (I L : mm_I) (P : mm_P) (x0 : Option Nat) (x1 : Int) : mm_rn (d + 1) 227 [.inr (.inr x0), .inl x1] n I L P = mm_E d 227 0 [.inr (.inr x0), .inl x1] [] [] n I L P := rfl

set_option maxRecDepth 20000 in
set_option maxHeartbeats 8000000 in
theorem kX12_left (d n : Nat) (I L : mm_I) (P : mm_P) :
  (∀ (st : List mm_V) z (l1 : mm_V) (l2 : mm_V) (l3 : mm_V), mm_E d 228 0 [(.inr (.inr z)), l1, l2, l3] [] st n I L P = mm_E d 228 1 [(.inr (.inr z)), l1, l2, l3] [] ((.inr (.inr z)) :: st) n I L P) ∧
  (∀ (st : List mm_V) z (l0 : mm_V) (l2 : mm_V) (l3 : mm_V), mm_E d 228 1 [l0, (.inl z), l2, l3] [] st n I L P = mm_E d 228 2 [l0, (.inl z), l2, l3] [] ((.inl z) :: st) n I L P) ∧
  (∀ (lv : List mm_V) a x0, (mm_ok n a 12) → mm_E d 228 2 lv [] (.inl x0 :: .inr (.inr (some a)) :: []) n I L P = mm_kr d 228 5 lv [] [] n (mm_rn d 191 [.inr (.inr (some a)), .inl x0] n I L P)) ∧
  (∀ (lv : List mm_V) (st : List mm_V) a, mm_E d 228 5 lv [] (.inl a :: st) n I L P = if a = 0 then mm_E d 228 18 lv [] st n I L P else mm_E d 228 8 lv [] st n I L P) ∧
  (∀ (st : List mm_V) z (l0 : mm_V) (l1 : mm_V) (l3 : mm_V), mm_E d 228 8 [l0, l1, (.inl z), l3] [] st n I L P = mm_E d 228 9 [l0, l1, (.inl z), l3] [] ((.inl z) :: st) n I L P) ∧
  (∀ (lv : List mm_V) (st : List mm_V), mm_E d 228 9 lv [] st n I L P = mm_E d 228 10 lv [] (.inl 0 :: st) n I L P) ∧
  (∀ (lv : List mm_V) (st : List mm_V), mm_E d 228 10 lv [] st n I L P = mm_E d 228 12 lv [] (.inl 60 :: st) n I L P) ∧
  (∀ (lv : List mm_V) x0 x1 x2, mm_E d 228 12 lv [] (.inl x2 :: .inl x1 :: .inl x0 :: []) n I L P = mm_kr d 228 15 lv [] [] n (mm_rn d 145 [.inl x0, .inl x1, .inl x2] n I L P)) ∧
  (∀ (lv : List mm_V) (st : List mm_V) a, mm_E d 228 15 lv [] (.inl a :: st) n I L P = if a = 0 then mm_E d 228 18 lv [] st n I L P else mm_E d 228 20 lv [] st n I L P) ∧
  (∀ (lv : List mm_V) (st : List mm_V), mm_E d 228 18 lv [] st n I L P = mm_E d 228 19 lv [] (.inl (-1) :: st) n I L P) ∧
  (∀ (lv : List mm_V) z, mm_E d 228 19 lv [] [.inl z] n I L P = some (some (.inl z), n, I, L, P)) ∧
  (∀ (st : List mm_V) z (l1 : mm_V) (l2 : mm_V) (l3 : mm_V), mm_E d 228 20 [(.inr (.inr z)), l1, l2, l3] [] st n I L P = mm_E d 228 21 [(.inr (.inr z)), l1, l2, l3] [] ((.inr (.inr z)) :: st) n I L P) ∧
  (∀ (lv : List mm_V) (st : List mm_V), mm_E d 228 21 lv [] st n I L P = mm_E d 228 22 lv [] (.inl 0 :: st) n I L P) ∧
  (∀ (lv : List mm_V) a x0, (mm_ok n a 12) → mm_E d 228 22 lv [] (.inl x0 :: .inr (.inr (some a)) :: []) n I L P = mm_kv d 228 25 lv [] [] n (mm_rn d 223 [.inr (.inr (some a)), .inl x0] n I L P)) ∧
  (∀ (st : List mm_V) z (l1 : mm_V) (l2 : mm_V) (l3 : mm_V), mm_E d 228 25 [(.inr (.inr z)), l1, l2, l3] [] st n I L P = mm_E d 228 26 [(.inr (.inr z)), l1, l2, l3] [] ((.inr (.inr z)) :: st) n I L P) ∧
  (∀ (st : List mm_V) z (l0 : mm_V) (l1 : mm_V) (l3 : mm_V), mm_E d 228 26 [l0, l1, (.inl z), l3] [] st n I L P = mm_E d 228 27 [l0, l1, (.inl z), l3] [] ((.inl z) :: st) n I L P) ∧
  (∀ (lv : List mm_V) a x0, (mm_ok n a 12) → mm_E d 228 27 lv [] (.inl x0 :: .inr (.inr (some a)) :: []) n I L P = mm_kr d 228 30 lv [] [] n (mm_rn d 225 [.inr (.inr (some a)), .inl x0] n I L P)) ∧
  (∀ (lv : List mm_V) (st : List mm_V) a, mm_E d 228 30 lv [] ((.inl a) :: st) n I L P = mm_E d 228 31 lv [] st n I L P) ∧
  (∀ (st : List mm_V) z (l1 : mm_V) (l2 : mm_V) (l3 : mm_V), mm_E d 228 31 [(.inr (.inr z)), l1, l2, l3] [] st n I L P = mm_E d 228 32 [(.inr (.inr z)), l1, l2, l3] [] ((.inr (.inr z)) :: st) n I L P) ∧
  (∀ (lv : List mm_V) (st : List mm_V) a, (mm_ok n a 12) → mm_E d 228 32 lv [] (.inr (.inr (some a)) :: st) n I L P = mm_E d 228 35 lv [] (.inr (.inr (P a 27)) :: st) n I L P) ∧
  (∀ (lv : List mm_V) (st : List mm_V), mm_E d 228 35 lv [] st n I L P = mm_E d 228 36 lv [] (.inl 0 :: st) n I L P) ∧
  (∀ (st : List mm_V) z (l0 : mm_V) (l2 : mm_V) (l3 : mm_V), mm_E d 228 36 [l0, (.inl z), l2, l3] [] st n I L P = mm_E d 228 37 [l0, (.inl z), l2, l3] [] ((.inl z) :: st) n I L P) ∧
  (∀ (lv : List mm_V) (st : List mm_V) a b, mm_E d 228 37 lv [] (.inl b :: .inl a :: st) n I L P = mm_E d 228 38 lv [] (.inl (mm_add a b) :: st) n I L P) ∧
  (∀ (lv : List mm_V) (st : List mm_V) a i, (mm_ix n a 20 i) → mm_E d 228 38 lv [] (.inl i :: .inr (.inr (some a)) :: st) n I L P = mm_E d 228 39 lv [] (.inl (I a i.toNat) :: st) n I L P) ∧
  (∀ (st : List mm_V) z (l0 : mm_V) (l1 : mm_V) (l2 : mm_V) (l3 : mm_V), mm_E d 228 39 [l0, l1, l2, l3] [] ((.inl z) :: st) n I L P = mm_E d 228 40 [l0, l1, l2, (.inl z)] [] st n I L P) ∧
  (∀ (st : List mm_V) z (l1 : mm_V) (l2 : mm_V) (l3 : mm_V), mm_E d 228 40 [(.inr (.inr z)), l1, l2, l3] [] st n I L P = mm_E d 228 41 [(.inr (.inr z)), l1, l2, l3] [] ((.inr (.inr z)) :: st) n I L P) ∧
  (∀ (lv : List mm_V) (st : List mm_V), mm_E d 228 41 lv [] st n I L P = mm_E d 228 42 lv [] (.inl 0 :: st) n I L P) ∧
  (∀ (lv : List mm_V) a x0, (mm_ok n a 12) → mm_E d 228 42 lv [] (.inl x0 :: .inr (.inr (some a)) :: []) n I L P = mm_kv d 228 45 lv [] [] n (mm_rn d 224 [.inr (.inr (some a)), .inl x0] n I L P)) ∧
  (∀ (st : List mm_V) z (l0 : mm_V) (l1 : mm_V) (l2 : mm_V), mm_E d 228 45 [l0, l1, l2, (.inl z)] [] st n I L P = mm_E d 228 46 [l0, l1, l2, (.inl z)] [] ((.inl z) :: st) n I L P) ∧
  (∀ (lv : List mm_V) z, mm_E d 228 46 lv [] [.inl z] n I L P = some (some (.inl z), n, I, L, P)) :=
  ⟨fun _ _ _ _ _ => mq_al (i := 0) rfl rfl,
   fun _ _ _ _ _ => mq_il (i := 1) rfl rfl,
   fun _ _ _ h0 => mq_cVr (na := 1) rfl rfl (Nat.le_of_ble_eq_true rfl) (Nat.le_of_ble_eq_true rfl) h0,
   fun _ _ _ => mq_if_eq rfl,
   fun _ _ _ _ _ => mq_il (i := 2) rfl rfl,
   fun _ _ => mq_push rfl,
   fun _ _ => mq_push rfl,
   fun _ _ _ _ => mq_cSr (na := 3) rfl (Nat.le_of_ble_eq_true rfl) (Nat.le_of_ble_eq_true rfl),
   fun _ _ _ => mq_if_ne rfl,
   fun _ _ => mq_push rfl,
   fun _ _ => mq_ri rfl,
   fun _ _ _ _ _ => mq_al (i := 0) rfl rfl,
   fun _ _ => mq_push rfl,
   fun _ _ _ h0 => mq_cVv (na := 1) rfl rfl (Nat.le_of_ble_eq_true rfl) (Nat.le_of_ble_eq_true rfl) h0,
   fun _ _ _ _ _ => mq_al (i := 0) rfl rfl,
   fun _ _ _ _ _ => mq_il (i := 2) rfl rfl,
   fun _ _ _ h0 => mq_cVr (na := 1) rfl rfl (Nat.le_of_ble_eq_true rfl) (Nat.le_of_ble_eq_true rfl) h0,
   fun _ _ _ => mq_pop rfl rfl,
   fun _ _ _ _ _ => mq_al (i := 0) rfl rfl,
   fun _ _ _ h0 => mq_getR rfl h0,
   fun _ _ => mq_push rfl,
   fun _ _ _ _ _ => mq_il (i := 1) rfl rfl,
   fun _ _ _ _ => mq_bi rfl,
   fun _ _ _ _ h0 => mq_iald rfl h0,
   fun _ _ _ _ _ _ => mq_is (i := 3) rfl rfl rfl,
   fun _ _ _ _ _ => mq_al (i := 0) rfl rfl,
   fun _ _ => mq_push rfl,
   fun _ _ _ h0 => mq_cVv (na := 1) rfl rfl (Nat.le_of_ble_eq_true rfl) (Nat.le_of_ble_eq_true rfl) h0,
   fun _ _ _ _ _ => mq_il (i := 3) rfl rfl,
   fun _ _ => mq_ri rfl⟩
theorem eX12_left (d n : Nat) (I L : mm_I) (P : mm_P) (x0 : Option Nat) (x1 : Int) (x2 : Int) : mm_rn (d + 1) 228 [.inr (.inr x0), .inl x1, .inl x2] n I L P = mm_E d 228 0 [.inr (.inr x0), .inl x1, .inl x2, mm_junk] [] [] n I L P := rfl

set_option maxRecDepth 20000 in
set_option maxHeartbeats 8000000 in
theorem kX12_saved (d n : Nat) (I L : mm_I) (P : mm_P) :
  (∀ (st : List mm_V) z (l1 : mm_V), mm_E d 229 0 [(.inr (.inr z)), l1] [] st n I L P = mm_E d 229 1 [(.inr (.inr z)), l1] [] ((.inr (.inr z)) :: st) n I L P) ∧
  (∀ (lv : List mm_V) (st : List mm_V) a, (mm_ok n a 12) → mm_E d 229 1 lv [] (.inr (.inr (some a)) :: st) n I L P = mm_E d 229 4 lv [] (.inl (I a 26) :: st) n I L P) ∧
  (∀ (lv : List mm_V) (st : List mm_V) a, mm_E d 229 4 lv [] (.inl a :: st) n I L P = if a ≤ 0 then mm_E d 229 33 lv [] st n I L P else mm_E d 229 7 lv [] st n I L P) ∧
  (∀ (st : List mm_V) z (l0 : mm_V), mm_E d 229 7 [l0, (.inl z)] [] st n I L P = mm_E d 229 8 [l0, (.inl z)] [] ((.inl z) :: st) n I L P) ∧
  (∀ (lv : List mm_V) (st : List mm_V), mm_E d 229 8 lv [] st n I L P = mm_E d 229 9 lv [] (.inl 1 :: st) n I L P) ∧
  (∀ (lv : List mm_V) (st : List mm_V), mm_E d 229 9 lv [] st n I L P = mm_E d 229 11 lv [] (.inl 60 :: st) n I L P) ∧
  (∀ (lv : List mm_V) x0 x1 x2, mm_E d 229 11 lv [] (.inl x2 :: .inl x1 :: .inl x0 :: []) n I L P = mm_kr d 229 14 lv [] [] n (mm_rn d 145 [.inl x0, .inl x1, .inl x2] n I L P)) ∧
  (∀ (lv : List mm_V) (st : List mm_V) a, mm_E d 229 14 lv [] (.inl a :: st) n I L P = if a = 0 then mm_E d 229 33 lv [] st n I L P else mm_E d 229 17 lv [] st n I L P) ∧
  (∀ (st : List mm_V) z (l1 : mm_V), mm_E d 229 17 [(.inr (.inr z)), l1] [] st n I L P = mm_E d 229 18 [(.inr (.inr z)), l1] [] ((.inr (.inr z)) :: st) n I L P) ∧
  (∀ (st : List mm_V) z (l0 : mm_V), mm_E d 229 18 [l0, (.inl z)] [] st n I L P = mm_E d 229 19 [l0, (.inl z)] [] ((.inl z) :: st) n I L P) ∧
  (∀ (st : List mm_V) z (l0 : mm_V), mm_E d 229 19 [l0, (.inl z)] [] st n I L P = mm_E d 229 20 [l0, (.inl z)] [] ((.inl z) :: st) n I L P) ∧
  (∀ (lv : List mm_V) a x0 x1, (mm_ok n a 12) → mm_E d 229 20 lv [] (.inl x1 :: .inl x0 :: .inr (.inr (some a)) :: []) n I L P = mm_kr d 229 23 lv [] [] n (mm_rn d 226 [.inr (.inr (some a)), .inl x0, .inl x1] n I L P)) ∧
  (∀ (st : List mm_V) z (l1 : mm_V), mm_E d 229 23 [(.inr (.inr z)), l1] [] st n I L P = mm_E d 229 24 [(.inr (.inr z)), l1] [] ((.inr (.inr z)) :: st) n I L P) ∧
  (∀ (st : List mm_V) z (l0 : mm_V), mm_E d 229 24 [l0, (.inl z)] [] st n I L P = mm_E d 229 25 [l0, (.inl z)] [] ((.inl z) :: st) n I L P) ∧
  (∀ (lv : List mm_V) (st : List mm_V), mm_E d 229 25 lv [] st n I L P = mm_E d 229 26 lv [] (.inl 0 :: st) n I L P) ∧
  (∀ (lv : List mm_V) a x0 x1 w0, (mm_ok n a 12) → mm_E d 229 26 lv [] (.inl x1 :: .inl x0 :: .inr (.inr (some a)) :: [.inl w0]) n I L P = mm_kr d 229 29 lv [] [.inl w0] n (mm_rn d 226 [.inr (.inr (some a)), .inl x0, .inl x1] n I L P)) ∧
  (∀ (lv : List mm_V) (st : List mm_V) a b, mm_E d 229 29 lv [] (.inl b :: .inl a :: st) n I L P = mm_E d 229 30 lv [] (.inl (mm_sub a b) :: st) n I L P) ∧
  (∀ (lv : List mm_V) (st : List mm_V), mm_E d 229 30 lv [] st n I L P = mm_E d 229 36 lv [] st n I L P) ∧
  (∀ (lv : List mm_V) (st : List mm_V), mm_E d 229 33 lv [] st n I L P = mm_E d 229 36 lv [] (.inl (-1000000) :: st) n I L P) ∧
  (∀ (lv : List mm_V) z, mm_E d 229 36 lv [] [.inl z] n I L P = some (some (.inl z), n, I, L, P)) :=
  ⟨fun _ _ _ => mq_al (i := 0) rfl rfl,
   fun _ _ _ h0 => mq_getI rfl h0,
   fun _ _ _ => mq_if_le rfl,
   fun _ _ _ => mq_il (i := 1) rfl rfl,
   fun _ _ => mq_push rfl,
   fun _ _ => mq_push rfl,
   fun _ _ _ _ => mq_cSr (na := 3) rfl (Nat.le_of_ble_eq_true rfl) (Nat.le_of_ble_eq_true rfl),
   fun _ _ _ => mq_if_eq rfl,
   fun _ _ _ => mq_al (i := 0) rfl rfl,
   fun _ _ _ => mq_il (i := 1) rfl rfl,
   fun _ _ _ => mq_il (i := 1) rfl rfl,
   fun _ _ _ _ h0 => mq_cVr (na := 2) rfl rfl (Nat.le_of_ble_eq_true rfl) (Nat.le_of_ble_eq_true rfl) h0,
   fun _ _ _ => mq_al (i := 0) rfl rfl,
   fun _ _ _ => mq_il (i := 1) rfl rfl,
   fun _ _ => mq_push rfl,
   fun _ _ _ _ _ h0 => mq_cVr (na := 2) rfl rfl (Nat.le_of_ble_eq_true rfl) (Nat.le_of_ble_eq_true rfl) h0,
   fun _ _ _ _ => mq_bi rfl,
   fun _ _ => mq_go rfl,
   fun _ _ => mq_push rfl,
   fun _ _ => mq_ri rfl⟩
theorem eX12_saved (d n : Nat) (I L : mm_I) (P : mm_P) (x0 : Option Nat) (x1 : Int) : mm_rn (d + 1) 229 [.inr (.inr x0), .inl x1] n I L P = mm_E d 229 0 [.inr (.inr x0), .inl x1] [] [] n I L P := rfl

set_option maxRecDepth 20000 in
set_option maxHeartbeats 8000000 in
theorem kX12_cryAt (d n : Nat) (I L : mm_I) (P : mm_P) :
  (∀ (st : List mm_V) z (l1 : mm_V) (l2 : mm_V) (l3 : mm_V) (l4 : mm_V) (l5 : mm_V) (l6 : mm_V), mm_E d 230 0 [(.inr (.inr z)), l1, l2, l3, l4, l5, l6] [] st n I L P = mm_E d 230 1 [(.inr (.inr z)), l1, l2, l3, l4, l5, l6] [] ((.inr (.inr z)) :: st) n I L P) ∧
  (∀ (lv : List mm_V) (st : List mm_V) a, (mm_ok n a 12) → mm_E d 230 1 lv [] (.inr (.inr (some a)) :: st) n I L P = mm_E d 230 4 lv [] (.inl (I a 26) :: st) n I L P) ∧
  (∀ (lv : List mm_V) (st : List mm_V) a, mm_E d 230 4 lv [] (.inl a :: st) n I L P = if a = 0 then mm_E d 230 26 lv [] st n I L P else mm_E d 230 7 lv [] st n I L P) ∧
  (∀ (st : List mm_V) z (l0 : mm_V) (l2 : mm_V) (l3 : mm_V) (l4 : mm_V) (l5 : mm_V) (l6 : mm_V), mm_E d 230 7 [l0, (.inl z), l2, l3, l4, l5, l6] [] st n I L P = mm_E d 230 8 [l0, (.inl z), l2, l3, l4, l5, l6] [] ((.inl z) :: st) n I L P) ∧
  (∀ (lv : List mm_V) (st : List mm_V), mm_E d 230 8 lv [] st n I L P = mm_E d 230 9 lv [] (.inl 1 :: st) n I L P) ∧
  (∀ (lv : List mm_V) (st : List mm_V), mm_E d 230 9 lv [] st n I L P = mm_E d 230 11 lv [] (.inl 24 :: st) n I L P) ∧
  (∀ (lv : List mm_V) x0 x1 x2, mm_E d 230 11 lv [] (.inl x2 :: .inl x1 :: .inl x0 :: []) n I L P = mm_kr d 230 14 lv [] [] n (mm_rn d 145 [.inl x0, .inl x1, .inl x2] n I L P)) ∧
  (∀ (lv : List mm_V) (st : List mm_V) a, mm_E d 230 14 lv [] (.inl a :: st) n I L P = if a = 0 then mm_E d 230 26 lv [] st n I L P else mm_E d 230 17 lv [] st n I L P) ∧
  (∀ (st : List mm_V) z (l0 : mm_V) (l1 : mm_V) (l3 : mm_V) (l4 : mm_V) (l5 : mm_V) (l6 : mm_V), mm_E d 230 17 [l0, l1, (.inl z), l3, l4, l5, l6] [] st n I L P = mm_E d 230 18 [l0, l1, (.inl z), l3, l4, l5, l6] [] ((.inl z) :: st) n I L P) ∧
  (∀ (lv : List mm_V) (st : List mm_V), mm_E d 230 18 lv [] st n I L P = mm_E d 230 19 lv [] (.inl 0 :: st) n I L P) ∧
  (∀ (lv : List mm_V) (st : List mm_V), mm_E d 230 19 lv [] st n I L P = mm_E d 230 20 lv [] (.inl 1 :: st) n I L P) ∧
  (∀ (lv : List mm_V) x0 x1 x2, mm_E d 230 20 lv [] (.inl x2 :: .inl x1 :: .inl x0 :: []) n I L P = mm_kr d 230 23 lv [] [] n (mm_rn d 145 [.inl x0, .inl x1, .inl x2] n I L P)) ∧
  (∀ (lv : List mm_V) (st : List mm_V) a, mm_E d 230 23 lv [] (.inl a :: st) n I L P = if a = 0 then mm_E d 230 26 lv [] st n I L P else mm_E d 230 28 lv [] st n I L P) ∧
  (∀ (lv : List mm_V) (st : List mm_V), mm_E d 230 26 lv [] st n I L P = mm_E d 230 27 lv [] (.inl (-1) :: st) n I L P) ∧
  (∀ (lv : List mm_V) z, mm_E d 230 27 lv [] [.inl z] n I L P = some (some (.inl z), n, I, L, P)) ∧
  (∀ (lv : List mm_V) (st : List mm_V), mm_E d 230 28 lv [] st n I L P = mm_E d 230 29 lv [] (.inl (-1) :: st) n I L P) ∧
  (∀ (st : List mm_V) z (l0 : mm_V) (l1 : mm_V) (l2 : mm_V) (l3 : mm_V) (l4 : mm_V) (l5 : mm_V) (l6 : mm_V), mm_E d 230 29 [l0, l1, l2, l3, l4, l5, l6] [] ((.inl z) :: st) n I L P = mm_E d 230 30 [l0, l1, l2, (.inl z), l4, l5, l6] [] st n I L P) ∧
  (∀ (lv : List mm_V) (st : List mm_V), mm_E d 230 30 lv [] st n I L P = mm_E d 230 31 lv [] (.inl 0 :: st) n I L P) ∧
  (∀ (st : List mm_V) z (l0 : mm_V) (l1 : mm_V) (l2 : mm_V) (l3 : mm_V) (l4 : mm_V) (l5 : mm_V) (l6 : mm_V), mm_E d 230 31 [l0, l1, l2, l3, l4, l5, l6] [] ((.inl z) :: st) n I L P = mm_E d 230 33 [l0, l1, l2, l3, (.inl z), l5, l6] [] st n I L P) ∧
  (∀ (lv : List mm_V) (st : List mm_V), mm_E d 230 33 lv [] st n I L P = mm_E d 230 34 lv [] (.inl 0 :: st) n I L P) ∧
  (∀ (st : List mm_V) z (l0 : mm_V) (l1 : mm_V) (l2 : mm_V) (l3 : mm_V) (l4 : mm_V) (l5 : mm_V) (l6 : mm_V), mm_E d 230 34 [l0, l1, l2, l3, l4, l5, l6] [] ((.inl z) :: st) n I L P = mm_E d 230 36 [l0, l1, l2, l3, l4, (.inl z), l6] [] st n I L P) ∧
  (∀ (st : List mm_V) z (l0 : mm_V) (l2 : mm_V) (l3 : mm_V) (l4 : mm_V) (l5 : mm_V) (l6 : mm_V), mm_E d 230 38 [l0, (.inl z), l2, l3, l4, l5, l6] [] st n I L P = mm_E d 230 39 [l0, (.inl z), l2, l3, l4, l5, l6] [] ((.inl z) :: st) n I L P) ∧
  (∀ (lv : List mm_V) (st : List mm_V) a b, mm_E d 230 39 lv [] (.inl b :: .inl a :: st) n I L P = if b < a then mm_E d 230 76 lv [] st n I L P else mm_E d 230 42 lv [] st n I L P) ∧
  (∀ (st : List mm_V) z (l1 : mm_V) (l2 : mm_V) (l3 : mm_V) (l4 : mm_V) (l5 : mm_V) (l6 : mm_V), mm_E d 230 42 [(.inr (.inr z)), l1, l2, l3, l4, l5, l6] [] st n I L P = mm_E d 230 43 [(.inr (.inr z)), l1, l2, l3, l4, l5, l6] [] ((.inr (.inr z)) :: st) n I L P) ∧
  (∀ (st : List mm_V) z (l0 : mm_V) (l2 : mm_V) (l3 : mm_V) (l4 : mm_V) (l5 : mm_V) (l6 : mm_V), mm_E d 230 43 [l0, (.inl z), l2, l3, l4, l5, l6] [] st n I L P = mm_E d 230 44 [l0, (.inl z), l2, l3, l4, l5, l6] [] ((.inl z) :: st) n I L P) ∧
  (∀ (st : List mm_V) z (l0 : mm_V) (l1 : mm_V) (l2 : mm_V) (l3 : mm_V) (l4 : mm_V) (l6 : mm_V), mm_E d 230 44 [l0, l1, l2, l3, l4, (.inl z), l6] [] st n I L P = mm_E d 230 46 [l0, l1, l2, l3, l4, (.inl z), l6] [] ((.inl z) :: st) n I L P) ∧
  (∀ (lv : List mm_V) a x0 x1, (mm_ok n a 12) → mm_E d 230 46 lv [] (.inl x1 :: .inl x0 :: .inr (.inr (some a)) :: []) n I L P = mm_kr d 230 49 lv [] [] n (mm_rn d 226 [.inr (.inr (some a)), .inl x0, .inl x1] n I L P)) ∧
  (∀ (st : List mm_V) z (l0 : mm_V) (l1 : mm_V) (l2 : mm_V) (l3 : mm_V) (l4 : mm_V) (l5 : mm_V) (l6 : mm_V), mm_E d 230 49 [l0, l1, l2, l3, l4, l5, l6] [] ((.inl z) :: st) n I L P = mm_E d 230 51 [l0, l1, l2, l3, l4, l5, (.inl z)] [] st n I L P) ∧
  (∀ (st : List mm_V) z (l0 : mm_V) (l1 : mm_V) (l2 : mm_V) (l4 : mm_V) (l5 : mm_V) (l6 : mm_V), mm_E d 230 51 [l0, l1, l2, (.inl z), l4, l5, l6] [] st n I L P = mm_E d 230 52 [l0, l1, l2, (.inl z), l4, l5, l6] [] ((.inl z) :: st) n I L P) ∧
  (∀ (lv : List mm_V) (st : List mm_V), mm_E d 230 52 lv [] st n I L P = mm_E d 230 53 lv [] (.inl (-1) :: st) n I L P) ∧
  (∀ (lv : List mm_V) (st : List mm_V) a b, mm_E d 230 53 lv [] (.inl b :: .inl a :: st) n I L P = if a = b then mm_E d 230 63 lv [] st n I L P else mm_E d 230 56 lv [] st n I L P) ∧
  (∀ (st : List mm_V) z (l0 : mm_V) (l1 : mm_V) (l2 : mm_V) (l3 : mm_V) (l4 : mm_V) (l5 : mm_V), mm_E d 230 56 [l0, l1, l2, l3, l4, l5, (.inl z)] [] st n I L P = mm_E d 230 58 [l0, l1, l2, l3, l4, l5, (.inl z)] [] ((.inl z) :: st) n I L P) ∧
  (∀ (st : List mm_V) z (l0 : mm_V) (l1 : mm_V) (l2 : mm_V) (l3 : mm_V) (l5 : mm_V) (l6 : mm_V), mm_E d 230 58 [l0, l1, l2, l3, (.inl z), l5, l6] [] st n I L P = mm_E d 230 60 [l0, l1, l2, l3, (.inl z), l5, l6] [] ((.inl z) :: st) n I L P) ∧
  (∀ (lv : List mm_V) (st : List mm_V) a b, mm_E d 230 60 lv [] (.inl b :: .inl a :: st) n I L P = if b ≤ a then mm_E d 230 70 lv [] st n I L P else mm_E d 230 63 lv [] st n I L P) ∧
  (∀ (st : List mm_V) z (l0 : mm_V) (l1 : mm_V) (l2 : mm_V) (l3 : mm_V) (l4 : mm_V) (l6 : mm_V), mm_E d 230 63 [l0, l1, l2, l3, l4, (.inl z), l6] [] st n I L P = mm_E d 230 65 [l0, l1, l2, l3, l4, (.inl z), l6] [] ((.inl z) :: st) n I L P) ∧
  (∀ (st : List mm_V) z (l0 : mm_V) (l1 : mm_V) (l2 : mm_V) (l3 : mm_V) (l4 : mm_V) (l5 : mm_V) (l6 : mm_V), mm_E d 230 65 [l0, l1, l2, l3, l4, l5, l6] [] ((.inl z) :: st) n I L P = mm_E d 230 66 [l0, l1, l2, (.inl z), l4, l5, l6] [] st n I L P) ∧
  (∀ (st : List mm_V) z (l0 : mm_V) (l1 : mm_V) (l2 : mm_V) (l3 : mm_V) (l4 : mm_V) (l5 : mm_V), mm_E d 230 66 [l0, l1, l2, l3, l4, l5, (.inl z)] [] st n I L P = mm_E d 230 68 [l0, l1, l2, l3, l4, l5, (.inl z)] [] ((.inl z) :: st) n I L P) ∧
  (∀ (st : List mm_V) z (l0 : mm_V) (l1 : mm_V) (l2 : mm_V) (l3 : mm_V) (l4 : mm_V) (l5 : mm_V) (l6 : mm_V), mm_E d 230 68 [l0, l1, l2, l3, l4, l5, l6] [] ((.inl z) :: st) n I L P = mm_E d 230 70 [l0, l1, l2, l3, (.inl z), l5, l6] [] st n I L P) ∧
  (∀ (st : List mm_V) z (l0 : mm_V) (l1 : mm_V) (l2 : mm_V) (l3 : mm_V) (l4 : mm_V) (l6 : mm_V), mm_E d 230 70 [l0, l1, l2, l3, l4, (.inl z), l6] [] st n I L P = mm_E d 230 73 [l0, l1, l2, l3, l4, (.inl (mm_add z 1)), l6] [] st n I L P) ∧
  (∀ (lv : List mm_V) (st : List mm_V), mm_E d 230 73 lv [] st n I L P = mm_E d 230 36 lv [] st n I L P) ∧
  (∀ (st : List mm_V) z (l0 : mm_V) (l1 : mm_V) (l3 : mm_V) (l4 : mm_V) (l5 : mm_V) (l6 : mm_V), mm_E d 230 76 [l0, l1, (.inl z), l3, l4, l5, l6] [] st n I L P = mm_E d 230 77 [l0, l1, (.inl z), l3, l4, l5, l6] [] ((.inl z) :: st) n I L P) ∧
  (∀ (lv : List mm_V) (st : List mm_V) a, mm_E d 230 77 lv [] (.inl a :: st) n I L P = if a = 0 then mm_E d 230 80 lv [] st n I L P else mm_E d 230 84 lv [] st n I L P) ∧
  (∀ (st : List mm_V) z (l0 : mm_V) (l1 : mm_V) (l2 : mm_V) (l4 : mm_V) (l5 : mm_V) (l6 : mm_V), mm_E d 230 80 [l0, l1, l2, (.inl z), l4, l5, l6] [] st n I L P = mm_E d 230 81 [l0, l1, l2, (.inl z), l4, l5, l6] [] ((.inl z) :: st) n I L P) ∧
  (∀ (lv : List mm_V) (st : List mm_V), mm_E d 230 81 lv [] st n I L P = mm_E d 230 86 lv [] st n I L P) ∧
  (∀ (st : List mm_V) z (l0 : mm_V) (l1 : mm_V) (l2 : mm_V) (l3 : mm_V) (l5 : mm_V) (l6 : mm_V), mm_E d 230 84 [l0, l1, l2, l3, (.inl z), l5, l6] [] st n I L P = mm_E d 230 86 [l0, l1, l2, l3, (.inl z), l5, l6] [] ((.inl z) :: st) n I L P) ∧
  (∀ (lv : List mm_V) z, mm_E d 230 86 lv [] [.inl z] n I L P = some (some (.inl z), n, I, L, P)) :=
  ⟨fun _ _ _ _ _ _ _ _ => mq_al (i := 0) rfl rfl,
   fun _ _ _ h0 => mq_getI rfl h0,
   fun _ _ _ => mq_if_eq rfl,
   fun _ _ _ _ _ _ _ _ => mq_il (i := 1) rfl rfl,
   fun _ _ => mq_push rfl,
   fun _ _ => mq_push rfl,
   fun _ _ _ _ => mq_cSr (na := 3) rfl (Nat.le_of_ble_eq_true rfl) (Nat.le_of_ble_eq_true rfl),
   fun _ _ _ => mq_if_eq rfl,
   fun _ _ _ _ _ _ _ _ => mq_il (i := 2) rfl rfl,
   fun _ _ => mq_push rfl,
   fun _ _ => mq_push rfl,
   fun _ _ _ _ => mq_cSr (na := 3) rfl (Nat.le_of_ble_eq_true rfl) (Nat.le_of_ble_eq_true rfl),
   fun _ _ _ => mq_if_ne rfl,
   fun _ _ => mq_push rfl,
   fun _ _ => mq_ri rfl,
   fun _ _ => mq_push rfl,
   fun _ _ _ _ _ _ _ _ _ => mq_is (i := 3) rfl rfl rfl,
   fun _ _ => mq_push rfl,
   fun _ _ _ _ _ _ _ _ _ => mq_is (i := 4) rfl rfl rfl,
   fun _ _ => mq_push rfl,
   fun _ _ _ _ _ _ _ _ _ => mq_is (i := 5) rfl rfl rfl,
   fun _ _ _ _ _ _ _ _ => mq_il (i := 1) rfl rfl,
   fun _ _ _ _ => mq_ic_gt rfl,
   fun _ _ _ _ _ _ _ _ => mq_al (i := 0) rfl rfl,
   fun _ _ _ _ _ _ _ _ => mq_il (i := 1) rfl rfl,
   fun _ _ _ _ _ _ _ _ => mq_il (i := 5) rfl rfl,
   fun _ _ _ _ h0 => mq_cVr (na := 2) rfl rfl (Nat.le_of_ble_eq_true rfl) (Nat.le_of_ble_eq_true rfl) h0,
   fun _ _ _ _ _ _ _ _ _ => mq_is (i := 6) rfl rfl rfl,
   fun _ _ _ _ _ _ _ _ => mq_il (i := 3) rfl rfl,
   fun _ _ => mq_push rfl,
   fun _ _ _ _ => mq_ic_eq rfl,
   fun _ _ _ _ _ _ _ _ => mq_il (i := 6) rfl rfl,
   fun _ _ _ _ _ _ _ _ => mq_il (i := 4) rfl rfl,
   fun _ _ _ _ => mq_ic_ge rfl,
   fun _ _ _ _ _ _ _ _ => mq_il (i := 5) rfl rfl,
   fun _ _ _ _ _ _ _ _ _ => mq_is (i := 3) rfl rfl rfl,
   fun _ _ _ _ _ _ _ _ => mq_il (i := 6) rfl rfl,
   fun _ _ _ _ _ _ _ _ _ => mq_is (i := 4) rfl rfl rfl,
   fun _ _ _ _ _ _ _ _ => mq_iinc (i := 5) rfl rfl rfl rfl,
   fun _ _ => mq_go rfl,
   fun _ _ _ _ _ _ _ _ => mq_il (i := 2) rfl rfl,
   fun _ _ _ => mq_if_ne rfl,
   fun _ _ _ _ _ _ _ _ => mq_il (i := 3) rfl rfl,
   fun _ _ => mq_go rfl,
   fun _ _ _ _ _ _ _ _ => mq_il (i := 4) rfl rfl,
   fun _ _ => mq_ri rfl⟩
theorem hX12_cryAt_36 (d n : Nat) (I L : mm_I) (P : mm_P) : ∀ (st : List mm_V) z (l0 : mm_V) (l1 : mm_V) (l2 : mm_V) (l3 : mm_V) (l4 : mm_V) (l6 : mm_V), mm_E d 230 36 [l0, l1, l2, l3, l4, (.inl z), l6] [] st n I L P = mm_E d 230 38 [l0, l1, l2, l3, l4, (.inl z), l6] [] ((.inl z) :: st) n I L P := fun _ _ _ _ _ _ _ _ => mq_il (i := 5) rfl rfl
theorem eX12_cryAt (d n : Nat) (I L : mm_I) (P : mm_P) (x0 : Option Nat) (x1 : Int) (x2 : Int) : mm_rn (d + 1) 230 [.inr (.inr x0), .inl x1, .inl x2] n I L P = mm_E d 230 0 [.inr (.inr x0), .inl x1, .inl x2, mm_junk, mm_junk, mm_junk, mm_junk] [] [] n I L P := rfl

set_option maxRecDepth 20000 in
set_option maxHeartbeats 8000000 in
theorem kX12_quiet (d n : Nat) (I L : mm_I) (P : mm_P) :
  (∀ (st : List mm_V) z (l1 : mm_V) (l2 : mm_V), mm_E d 231 0 [(.inr (.inr z)), l1, l2] [] st n I L P = mm_E d 231 1 [(.inr (.inr z)), l1, l2] [] ((.inr (.inr z)) :: st) n I L P) ∧
  (∀ (lv : List mm_V) (st : List mm_V) a, (mm_ok n a 12) → mm_E d 231 1 lv [] (.inr (.inr (some a)) :: st) n I L P = mm_E d 231 4 lv [] (.inl (I a 26) :: st) n I L P) ∧
  (∀ (lv : List mm_V) (st : List mm_V) a, mm_E d 231 4 lv [] (.inl a :: st) n I L P = if a = 0 then mm_E d 231 7 lv [] st n I L P else mm_E d 231 9 lv [] st n I L P) ∧
  (∀ (lv : List mm_V) (st : List mm_V), mm_E d 231 7 lv [] st n I L P = mm_E d 231 8 lv [] (.inl (-1) :: st) n I L P) ∧
  (∀ (lv : List mm_V) z, mm_E d 231 8 lv [] [.inl z] n I L P = some (some (.inl z), n, I, L, P)) ∧
  (∀ (st : List mm_V) z (l1 : mm_V) (l2 : mm_V), mm_E d 231 9 [(.inr (.inr z)), l1, l2] [] st n I L P = mm_E d 231 10 [(.inr (.inr z)), l1, l2] [] ((.inr (.inr z)) :: st) n I L P) ∧
  (∀ (lv : List mm_V) (st : List mm_V), mm_E d 231 10 lv [] st n I L P = mm_E d 231 11 lv [] (.inl 0 :: st) n I L P) ∧
  (∀ (lv : List mm_V) a x0, (mm_ok n a 12) → mm_E d 231 11 lv [] (.inl x0 :: .inr (.inr (some a)) :: []) n I L P = mm_kv d 231 14 lv [] [] n (mm_rn d 223 [.inr (.inr (some a)), .inl x0] n I L P)) ∧
  (∀ (lv : List mm_V) (st : List mm_V), mm_E d 231 14 lv [] st n I L P = mm_E d 231 15 lv [] (.inl 0 :: st) n I L P) ∧
  (∀ (st : List mm_V) z (l0 : mm_V) (l1 : mm_V) (l2 : mm_V), mm_E d 231 15 [l0, l1, l2] [] ((.inl z) :: st) n I L P = mm_E d 231 16 [l0, (.inl z), l2] [] st n I L P) ∧
  (∀ (lv : List mm_V) (st : List mm_V), mm_E d 231 17 lv [] st n I L P = mm_E d 231 19 lv [] (.inl 99 :: st) n I L P) ∧
  (∀ (lv : List mm_V) (st : List mm_V) a b, mm_E d 231 19 lv [] (.inl b :: .inl a :: st) n I L P = if b ≤ a then mm_E d 231 40 lv [] st n I L P else mm_E d 231 22 lv [] st n I L P) ∧
  (∀ (st : List mm_V) z (l1 : mm_V) (l2 : mm_V), mm_E d 231 22 [(.inr (.inr z)), l1, l2] [] st n I L P = mm_E d 231 23 [(.inr (.inr z)), l1, l2] [] ((.inr (.inr z)) :: st) n I L P) ∧
  (∀ (lv : List mm_V) a, (mm_ok n a 12) → mm_E d 231 23 lv [] (.inr (.inr (some a)) :: []) n I L P = mm_kr d 231 26 lv [] [] n (mm_rn d 194 [.inr (.inr (some a))] n I L P)) ∧
  (∀ (lv : List mm_V) (st : List mm_V) a, mm_E d 231 26 lv [] (.inl a :: st) n I L P = if a = 0 then mm_E d 231 40 lv [] st n I L P else mm_E d 231 29 lv [] st n I L P) ∧
  (∀ (st : List mm_V) z (l1 : mm_V) (l2 : mm_V), mm_E d 231 29 [(.inr (.inr z)), l1, l2] [] st n I L P = mm_E d 231 30 [(.inr (.inr z)), l1, l2] [] ((.inr (.inr z)) :: st) n I L P) ∧
  (∀ (lv : List mm_V) a, (mm_ok n a 12) → mm_E d 231 30 lv [] (.inr (.inr (some a)) :: []) n I L P = mm_kr d 231 33 lv [] [] n (mm_rn d 198 [.inr (.inr (some a))] n I L P)) ∧
  (∀ (lv : List mm_V) (st : List mm_V) a, mm_E d 231 33 lv [] ((.inl a) :: st) n I L P = mm_E d 231 34 lv [] st n I L P) ∧
  (∀ (st : List mm_V) z (l0 : mm_V) (l2 : mm_V), mm_E d 231 34 [l0, (.inl z), l2] [] st n I L P = mm_E d 231 37 [l0, (.inl (mm_add z 1)), l2] [] st n I L P) ∧
  (∀ (lv : List mm_V) (st : List mm_V), mm_E d 231 37 lv [] st n I L P = mm_E d 231 16 lv [] st n I L P) ∧
  (∀ (st : List mm_V) z (l1 : mm_V) (l2 : mm_V), mm_E d 231 40 [(.inr (.inr z)), l1, l2] [] st n I L P = mm_E d 231 41 [(.inr (.inr z)), l1, l2] [] ((.inr (.inr z)) :: st) n I L P) ∧
  (∀ (lv : List mm_V) a, (mm_ok n a 12) → mm_E d 231 41 lv [] (.inr (.inr (some a)) :: []) n I L P = mm_kr d 231 44 lv [] [] n (mm_rn d 194 [.inr (.inr (some a))] n I L P)) ∧
  (∀ (lv : List mm_V) (st : List mm_V) a, mm_E d 231 44 lv [] (.inl a :: st) n I L P = if a = 0 then mm_E d 231 47 lv [] st n I L P else mm_E d 231 51 lv [] st n I L P) ∧
  (∀ (lv : List mm_V) (st : List mm_V), mm_E d 231 47 lv [] st n I L P = mm_E d 231 48 lv [] (.inl 1 :: st) n I L P) ∧
  (∀ (lv : List mm_V) (st : List mm_V), mm_E d 231 48 lv [] st n I L P = mm_E d 231 52 lv [] st n I L P) ∧
  (∀ (lv : List mm_V) (st : List mm_V), mm_E d 231 51 lv [] st n I L P = mm_E d 231 52 lv [] (.inl 0 :: st) n I L P) ∧
  (∀ (st : List mm_V) z (l0 : mm_V) (l1 : mm_V) (l2 : mm_V), mm_E d 231 52 [l0, l1, l2] [] ((.inl z) :: st) n I L P = mm_E d 231 53 [l0, l1, (.inl z)] [] st n I L P) ∧
  (∀ (st : List mm_V) z (l1 : mm_V) (l2 : mm_V), mm_E d 231 53 [(.inr (.inr z)), l1, l2] [] st n I L P = mm_E d 231 54 [(.inr (.inr z)), l1, l2] [] ((.inr (.inr z)) :: st) n I L P) ∧
  (∀ (lv : List mm_V) (st : List mm_V), mm_E d 231 54 lv [] st n I L P = mm_E d 231 55 lv [] (.inl 0 :: st) n I L P) ∧
  (∀ (lv : List mm_V) a x0, (mm_ok n a 12) → mm_E d 231 55 lv [] (.inl x0 :: .inr (.inr (some a)) :: []) n I L P = mm_kv d 231 58 lv [] [] n (mm_rn d 224 [.inr (.inr (some a)), .inl x0] n I L P)) ∧
  (∀ (st : List mm_V) z (l0 : mm_V) (l1 : mm_V), mm_E d 231 58 [l0, l1, (.inl z)] [] st n I L P = mm_E d 231 59 [l0, l1, (.inl z)] [] ((.inl z) :: st) n I L P) ∧
  (∀ (lv : List mm_V) (st : List mm_V) a, mm_E d 231 59 lv [] (.inl a :: st) n I L P = if a = 0 then mm_E d 231 66 lv [] st n I L P else mm_E d 231 62 lv [] st n I L P) ∧
  (∀ (st : List mm_V) z (l0 : mm_V) (l2 : mm_V), mm_E d 231 62 [l0, (.inl z), l2] [] st n I L P = mm_E d 231 63 [l0, (.inl z), l2] [] ((.inl z) :: st) n I L P) ∧
  (∀ (lv : List mm_V) (st : List mm_V), mm_E d 231 63 lv [] st n I L P = mm_E d 231 67 lv [] st n I L P) ∧
  (∀ (lv : List mm_V) (st : List mm_V), mm_E d 231 66 lv [] st n I L P = mm_E d 231 67 lv [] (.inl (-1) :: st) n I L P) ∧
  (∀ (lv : List mm_V) z, mm_E d 231 67 lv [] [.inl z] n I L P = some (some (.inl z), n, I, L, P)) :=
  ⟨fun _ _ _ _ => mq_al (i := 0) rfl rfl,
   fun _ _ _ h0 => mq_getI rfl h0,
   fun _ _ _ => mq_if_ne rfl,
   fun _ _ => mq_push rfl,
   fun _ _ => mq_ri rfl,
   fun _ _ _ _ => mq_al (i := 0) rfl rfl,
   fun _ _ => mq_push rfl,
   fun _ _ _ h0 => mq_cVv (na := 1) rfl rfl (Nat.le_of_ble_eq_true rfl) (Nat.le_of_ble_eq_true rfl) h0,
   fun _ _ => mq_push rfl,
   fun _ _ _ _ _ => mq_is (i := 1) rfl rfl rfl,
   fun _ _ => mq_push rfl,
   fun _ _ _ _ => mq_ic_ge rfl,
   fun _ _ _ _ => mq_al (i := 0) rfl rfl,
   fun _ _ h0 => mq_cVr (na := 0) rfl rfl (Nat.le_of_ble_eq_true rfl) (Nat.le_of_ble_eq_true rfl) h0,
   fun _ _ _ => mq_if_eq rfl,
   fun _ _ _ _ => mq_al (i := 0) rfl rfl,
   fun _ _ h0 => mq_cVr (na := 0) rfl rfl (Nat.le_of_ble_eq_true rfl) (Nat.le_of_ble_eq_true rfl) h0,
   fun _ _ _ => mq_pop rfl rfl,
   fun _ _ _ _ => mq_iinc (i := 1) rfl rfl rfl rfl,
   fun _ _ => mq_go rfl,
   fun _ _ _ _ => mq_al (i := 0) rfl rfl,
   fun _ _ h0 => mq_cVr (na := 0) rfl rfl (Nat.le_of_ble_eq_true rfl) (Nat.le_of_ble_eq_true rfl) h0,
   fun _ _ _ => mq_if_ne rfl,
   fun _ _ => mq_push rfl,
   fun _ _ => mq_go rfl,
   fun _ _ => mq_push rfl,
   fun _ _ _ _ _ => mq_is (i := 2) rfl rfl rfl,
   fun _ _ _ _ => mq_al (i := 0) rfl rfl,
   fun _ _ => mq_push rfl,
   fun _ _ _ h0 => mq_cVv (na := 1) rfl rfl (Nat.le_of_ble_eq_true rfl) (Nat.le_of_ble_eq_true rfl) h0,
   fun _ _ _ _ => mq_il (i := 2) rfl rfl,
   fun _ _ _ => mq_if_eq rfl,
   fun _ _ _ _ => mq_il (i := 1) rfl rfl,
   fun _ _ => mq_go rfl,
   fun _ _ => mq_push rfl,
   fun _ _ => mq_ri rfl⟩
theorem hX12_quiet_16 (d n : Nat) (I L : mm_I) (P : mm_P) : ∀ (st : List mm_V) z (l0 : mm_V) (l2 : mm_V), mm_E d 231 16 [l0, (.inl z), l2] [] st n I L P = mm_E d 231 17 [l0, (.inl z), l2] [] ((.inl z) :: st) n I L P := fun _ _ _ _ => mq_il (i := 1) rfl rfl
theorem eX12_quiet (d n : Nat) (I L : mm_I) (P : mm_P) (x0 : Option Nat) : mm_rn (d + 1) 231 [.inr (.inr x0)] n I L P = mm_E d 231 0 [.inr (.inr x0), mm_junk, mm_junk] [] [] n I L P := rfl

set_option maxRecDepth 20000 in
set_option maxHeartbeats 8000000 in
theorem kX12_chancesAll (d n : Nat) (I L : mm_I) (P : mm_P) :
  (∀ (lv : List mm_V) (st : List mm_V), mm_E d 232 0 lv [] st n I L P = mm_E d 232 1 lv [] (.inl 0 :: st) n I L P) ∧
  (∀ (st : List mm_V) z (l0 : mm_V) (l1 : mm_V) (l2 : mm_V), mm_E d 232 1 [l0, l1, l2] [] ((.inl z) :: st) n I L P = mm_E d 232 2 [l0, (.inl z), l2] [] st n I L P) ∧
  (∀ (lv : List mm_V) (st : List mm_V), mm_E d 232 2 lv [] st n I L P = mm_E d 232 3 lv [] (.inl 0 :: st) n I L P) ∧
  (∀ (st : List mm_V) z (l0 : mm_V) (l1 : mm_V) (l2 : mm_V), mm_E d 232 3 [l0, l1, l2] [] ((.inl z) :: st) n I L P = mm_E d 232 4 [l0, l1, (.inl z)] [] st n I L P) ∧
  (∀ (st : List mm_V) z (l1 : mm_V) (l2 : mm_V), mm_E d 232 5 [(.inr (.inr z)), l1, l2] [] st n I L P = mm_E d 232 6 [(.inr (.inr z)), l1, l2] [] ((.inr (.inr z)) :: st) n I L P) ∧
  (∀ (lv : List mm_V) (st : List mm_V) a, (mm_ok n a 12) → mm_E d 232 6 lv [] (.inr (.inr (some a)) :: st) n I L P = mm_E d 232 9 lv [] (.inl (I a 26) :: st) n I L P) ∧
  (∀ (lv : List mm_V) (st : List mm_V) a b, mm_E d 232 9 lv [] (.inl b :: .inl a :: st) n I L P = if b ≤ a then mm_E d 232 31 lv [] st n I L P else mm_E d 232 12 lv [] st n I L P) ∧
  (∀ (st : List mm_V) z (l0 : mm_V) (l2 : mm_V), mm_E d 232 12 [l0, (.inl z), l2] [] st n I L P = mm_E d 232 13 [l0, (.inl z), l2] [] ((.inl z) :: st) n I L P) ∧
  (∀ (st : List mm_V) z (l1 : mm_V) (l2 : mm_V), mm_E d 232 13 [(.inr (.inr z)), l1, l2] [] st n I L P = mm_E d 232 14 [(.inr (.inr z)), l1, l2] [] ((.inr (.inr z)) :: st) n I L P) ∧
  (∀ (lv : List mm_V) (st : List mm_V) a, (mm_ok n a 12) → mm_E d 232 14 lv [] (.inr (.inr (some a)) :: st) n I L P = mm_E d 232 17 lv [] (.inr (.inr (P a 23)) :: st) n I L P) ∧
  (∀ (lv : List mm_V) (st : List mm_V), mm_E d 232 17 lv [] st n I L P = mm_E d 232 18 lv [] (.inl 2 :: st) n I L P) ∧
  (∀ (st : List mm_V) z (l0 : mm_V) (l1 : mm_V), mm_E d 232 18 [l0, l1, (.inl z)] [] st n I L P = mm_E d 232 19 [l0, l1, (.inl z)] [] ((.inl z) :: st) n I L P) ∧
  (∀ (lv : List mm_V) (st : List mm_V) a b, mm_E d 232 19 lv [] (.inl b :: .inl a :: st) n I L P = mm_E d 232 20 lv [] (.inl (mm_mul a b) :: st) n I L P) ∧
  (∀ (lv : List mm_V) (st : List mm_V), mm_E d 232 20 lv [] st n I L P = mm_E d 232 21 lv [] (.inl 1 :: st) n I L P) ∧
  (∀ (lv : List mm_V) (st : List mm_V) a b, mm_E d 232 21 lv [] (.inl b :: .inl a :: st) n I L P = mm_E d 232 22 lv [] (.inl (mm_add a b) :: st) n I L P) ∧
  (∀ (lv : List mm_V) (st : List mm_V) a i, (mm_ix n a 20 i) → mm_E d 232 22 lv [] (.inl i :: .inr (.inr (some a)) :: st) n I L P = mm_E d 232 23 lv [] (.inl (I a i.toNat) :: st) n I L P) ∧
  (∀ (lv : List mm_V) (st : List mm_V) a b, mm_E d 232 23 lv [] (.inl b :: .inl a :: st) n I L P = mm_E d 232 24 lv [] (.inl (mm_add a b) :: st) n I L P) ∧
  (∀ (st : List mm_V) z (l0 : mm_V) (l1 : mm_V) (l2 : mm_V), mm_E d 232 24 [l0, l1, l2] [] ((.inl z) :: st) n I L P = mm_E d 232 25 [l0, (.inl z), l2] [] st n I L P) ∧
  (∀ (st : List mm_V) z (l0 : mm_V) (l1 : mm_V), mm_E d 232 25 [l0, l1, (.inl z)] [] st n I L P = mm_E d 232 28 [l0, l1, (.inl (mm_add z 1))] [] st n I L P) ∧
  (∀ (lv : List mm_V) (st : List mm_V), mm_E d 232 28 lv [] st n I L P = mm_E d 232 4 lv [] st n I L P) ∧
  (∀ (st : List mm_V) z (l0 : mm_V) (l2 : mm_V), mm_E d 232 31 [l0, (.inl z), l2] [] st n I L P = mm_E d 232 32 [l0, (.inl z), l2] [] ((.inl z) :: st) n I L P) ∧
  (∀ (lv : List mm_V) z, mm_E d 232 32 lv [] [.inl z] n I L P = some (some (.inl z), n, I, L, P)) :=
  ⟨fun _ _ => mq_push rfl,
   fun _ _ _ _ _ => mq_is (i := 1) rfl rfl rfl,
   fun _ _ => mq_push rfl,
   fun _ _ _ _ _ => mq_is (i := 2) rfl rfl rfl,
   fun _ _ _ _ => mq_al (i := 0) rfl rfl,
   fun _ _ _ h0 => mq_getI rfl h0,
   fun _ _ _ _ => mq_ic_ge rfl,
   fun _ _ _ _ => mq_il (i := 1) rfl rfl,
   fun _ _ _ _ => mq_al (i := 0) rfl rfl,
   fun _ _ _ h0 => mq_getR rfl h0,
   fun _ _ => mq_push rfl,
   fun _ _ _ _ => mq_il (i := 2) rfl rfl,
   fun _ _ _ _ => mq_bi rfl,
   fun _ _ => mq_push rfl,
   fun _ _ _ _ => mq_bi rfl,
   fun _ _ _ _ h0 => mq_iald rfl h0,
   fun _ _ _ _ => mq_bi rfl,
   fun _ _ _ _ _ => mq_is (i := 1) rfl rfl rfl,
   fun _ _ _ _ => mq_iinc (i := 2) rfl rfl rfl rfl,
   fun _ _ => mq_go rfl,
   fun _ _ _ _ => mq_il (i := 1) rfl rfl,
   fun _ _ => mq_ri rfl⟩
theorem hX12_chancesAll_4 (d n : Nat) (I L : mm_I) (P : mm_P) : ∀ (st : List mm_V) z (l0 : mm_V) (l1 : mm_V), mm_E d 232 4 [l0, l1, (.inl z)] [] st n I L P = mm_E d 232 5 [l0, l1, (.inl z)] [] ((.inl z) :: st) n I L P := fun _ _ _ _ => mq_il (i := 2) rfl rfl
theorem eX12_chancesAll (d n : Nat) (I L : mm_I) (P : mm_P) (x0 : Option Nat) : mm_rn (d + 1) 232 [.inr (.inr x0)] n I L P = mm_E d 232 0 [.inr (.inr x0), mm_junk, mm_junk] [] [] n I L P := rfl

set_option maxRecDepth 20000 in
set_option maxHeartbeats 8000000 in
theorem kX12_valueWith (d n : Nat) (I L : mm_I) (P : mm_P) :
  (∀ (lv : List mm_V) (st : List mm_V), mm_E d 233 0 lv [] st n I L P = mm_E d 233 1 lv [] (.inl 0 :: st) n I L P) ∧
  (∀ (st : List mm_V) z (l0 : mm_V) (l1 : mm_V) (l2 : mm_V) (l3 : mm_V) (l4 : mm_V) (l5 : mm_V) (l6 : mm_V), mm_E d 233 1 [l0, l1, l2, l3, l4, l5, l6] [] ((.inl z) :: st) n I L P = mm_E d 233 2 [l0, l1, (.inl z), l3, l4, l5, l6] [] st n I L P) ∧
  (∀ (st : List mm_V) z (l1 : mm_V) (l2 : mm_V) (l3 : mm_V) (l4 : mm_V) (l5 : mm_V) (l6 : mm_V), mm_E d 233 2 [(.inr (.inr z)), l1, l2, l3, l4, l5, l6] [] st n I L P = mm_E d 233 3 [(.inr (.inr z)), l1, l2, l3, l4, l5, l6] [] ((.inr (.inr z)) :: st) n I L P) ∧
  (∀ (lv : List mm_V) a, (mm_ok n a 12) → mm_E d 233 3 lv [] (.inr (.inr (some a)) :: []) n I L P = mm_kr d 233 6 lv [] [] n (mm_rn d 232 [.inr (.inr (some a))] n I L P)) ∧
  (∀ (st : List mm_V) z (l0 : mm_V) (l1 : mm_V) (l2 : mm_V) (l3 : mm_V) (l4 : mm_V) (l5 : mm_V) (l6 : mm_V), mm_E d 233 6 [l0, l1, l2, l3, l4, l5, l6] [] ((.inl z) :: st) n I L P = mm_E d 233 7 [l0, l1, l2, (.inl z), l4, l5, l6] [] st n I L P) ∧
  (∀ (lv : List mm_V) (st : List mm_V), mm_E d 233 7 lv [] st n I L P = mm_E d 233 8 lv [] (.inl 0 :: st) n I L P) ∧
  (∀ (st : List mm_V) z (l0 : mm_V) (l1 : mm_V) (l2 : mm_V) (l3 : mm_V) (l4 : mm_V) (l5 : mm_V) (l6 : mm_V), mm_E d 233 8 [l0, l1, l2, l3, l4, l5, l6] [] ((.inl z) :: st) n I L P = mm_E d 233 10 [l0, l1, l2, l3, (.inl z), l5, l6] [] st n I L P) ∧
  (∀ (st : List mm_V) z (l0 : mm_V) (l2 : mm_V) (l3 : mm_V) (l4 : mm_V) (l5 : mm_V) (l6 : mm_V), mm_E d 233 12 [l0, (.inl z), l2, l3, l4, l5, l6] [] st n I L P = mm_E d 233 13 [l0, (.inl z), l2, l3, l4, l5, l6] [] ((.inl z) :: st) n I L P) ∧
  (∀ (lv : List mm_V) (st : List mm_V) a b, mm_E d 233 13 lv [] (.inl b :: .inl a :: st) n I L P = if b ≤ a then mm_E d 233 90 lv [] st n I L P else mm_E d 233 16 lv [] st n I L P) ∧
  (∀ (lv : List mm_V) (st : List mm_V), mm_E d 233 16 lv [] st n I L P = mm_E d 233 17 lv [] (.inl 0 :: st) n I L P) ∧
  (∀ (st : List mm_V) z (l0 : mm_V) (l1 : mm_V) (l2 : mm_V) (l3 : mm_V) (l4 : mm_V) (l5 : mm_V) (l6 : mm_V), mm_E d 233 17 [l0, l1, l2, l3, l4, l5, l6] [] ((.inl z) :: st) n I L P = mm_E d 233 19 [l0, l1, l2, l3, l4, (.inl z), l6] [] st n I L P) ∧
  (∀ (lv : List mm_V) (st : List mm_V), mm_E d 233 19 lv [] st n I L P = mm_E d 233 20 lv [] (.inl 0 :: st) n I L P) ∧
  (∀ (st : List mm_V) z (l0 : mm_V) (l1 : mm_V) (l2 : mm_V) (l3 : mm_V) (l4 : mm_V) (l5 : mm_V) (l6 : mm_V), mm_E d 233 20 [l0, l1, l2, l3, l4, l5, l6] [] ((.inl z) :: st) n I L P = mm_E d 233 22 [l0, l1, l2, l3, l4, l5, (.inl z)] [] st n I L P) ∧
  (∀ (st : List mm_V) z (l1 : mm_V) (l2 : mm_V) (l3 : mm_V) (l4 : mm_V) (l5 : mm_V) (l6 : mm_V), mm_E d 233 24 [(.inr (.inr z)), l1, l2, l3, l4, l5, l6] [] st n I L P = mm_E d 233 25 [(.inr (.inr z)), l1, l2, l3, l4, l5, l6] [] ((.inr (.inr z)) :: st) n I L P) ∧
  (∀ (lv : List mm_V) (st : List mm_V) a, (mm_ok n a 12) → mm_E d 233 25 lv [] (.inr (.inr (some a)) :: st) n I L P = mm_E d 233 28 lv [] (.inl (I a 26) :: st) n I L P) ∧
  (∀ (lv : List mm_V) (st : List mm_V) a b, mm_E d 233 28 lv [] (.inl b :: .inl a :: st) n I L P = if b ≤ a then mm_E d 233 71 lv [] st n I L P else mm_E d 233 31 lv [] st n I L P) ∧
  (∀ (st : List mm_V) z (l0 : mm_V) (l1 : mm_V) (l2 : mm_V) (l3 : mm_V) (l4 : mm_V) (l6 : mm_V), mm_E d 233 31 [l0, l1, l2, l3, l4, (.inl z), l6] [] st n I L P = mm_E d 233 33 [l0, l1, l2, l3, l4, (.inl z), l6] [] ((.inl z) :: st) n I L P) ∧
  (∀ (st : List mm_V) z (l1 : mm_V) (l2 : mm_V) (l3 : mm_V) (l4 : mm_V) (l5 : mm_V) (l6 : mm_V), mm_E d 233 33 [(.inr (.inr z)), l1, l2, l3, l4, l5, l6] [] st n I L P = mm_E d 233 34 [(.inr (.inr z)), l1, l2, l3, l4, l5, l6] [] ((.inr (.inr z)) :: st) n I L P) ∧
  (∀ (lv : List mm_V) (st : List mm_V) a, (mm_ok n a 12) → mm_E d 233 34 lv [] (.inr (.inr (some a)) :: st) n I L P = mm_E d 233 37 lv [] (.inr (.inr (P a 23)) :: st) n I L P) ∧
  (∀ (lv : List mm_V) (st : List mm_V), mm_E d 233 37 lv [] st n I L P = mm_E d 233 38 lv [] (.inl 2 :: st) n I L P) ∧
  (∀ (st : List mm_V) z (l0 : mm_V) (l1 : mm_V) (l2 : mm_V) (l3 : mm_V) (l4 : mm_V) (l5 : mm_V), mm_E d 233 38 [l0, l1, l2, l3, l4, l5, (.inl z)] [] st n I L P = mm_E d 233 40 [l0, l1, l2, l3, l4, l5, (.inl z)] [] ((.inl z) :: st) n I L P) ∧
  (∀ (lv : List mm_V) (st : List mm_V) a b, mm_E d 233 40 lv [] (.inl b :: .inl a :: st) n I L P = mm_E d 233 41 lv [] (.inl (mm_mul a b) :: st) n I L P) ∧
  (∀ (lv : List mm_V) (st : List mm_V), mm_E d 233 41 lv [] st n I L P = mm_E d 233 42 lv [] (.inl 1 :: st) n I L P) ∧
  (∀ (lv : List mm_V) (st : List mm_V) a b, mm_E d 233 42 lv [] (.inl b :: .inl a :: st) n I L P = mm_E d 233 43 lv [] (.inl (mm_add a b) :: st) n I L P) ∧
  (∀ (lv : List mm_V) (st : List mm_V) a i, (mm_ix n a 20 i) → mm_E d 233 43 lv [] (.inl i :: .inr (.inr (some a)) :: st) n I L P = mm_E d 233 44 lv [] (.inl (I a i.toNat) :: st) n I L P) ∧
  (∀ (lv : List mm_V) (st : List mm_V), mm_E d 233 44 lv [] st n I L P = mm_E d 233 47 lv [] (.inl 1000 :: st) n I L P) ∧
  (∀ (st : List mm_V) z (l1 : mm_V) (l2 : mm_V) (l3 : mm_V) (l4 : mm_V) (l5 : mm_V) (l6 : mm_V), mm_E d 233 47 [(.inr (.inr z)), l1, l2, l3, l4, l5, l6] [] st n I L P = mm_E d 233 48 [(.inr (.inr z)), l1, l2, l3, l4, l5, l6] [] ((.inr (.inr z)) :: st) n I L P) ∧
  (∀ (lv : List mm_V) (st : List mm_V) a, (mm_ok n a 12) → mm_E d 233 48 lv [] (.inr (.inr (some a)) :: st) n I L P = mm_E d 233 51 lv [] (.inr (.inr (P a 27)) :: st) n I L P) ∧
  (∀ (lv : List mm_V) (st : List mm_V), mm_E d 233 51 lv [] st n I L P = mm_E d 233 52 lv [] (.inl 0 :: st) n I L P) ∧
  (∀ (st : List mm_V) z (l0 : mm_V) (l1 : mm_V) (l2 : mm_V) (l3 : mm_V) (l4 : mm_V) (l5 : mm_V), mm_E d 233 52 [l0, l1, l2, l3, l4, l5, (.inl z)] [] st n I L P = mm_E d 233 54 [l0, l1, l2, l3, l4, l5, (.inl z)] [] ((.inl z) :: st) n I L P) ∧
  (∀ (lv : List mm_V) (st : List mm_V) a b, mm_E d 233 54 lv [] (.inl b :: .inl a :: st) n I L P = mm_E d 233 55 lv [] (.inl (mm_add a b) :: st) n I L P) ∧
  (∀ (lv : List mm_V) (st : List mm_V) a i, (mm_ix n a 20 i) → mm_E d 233 55 lv [] (.inl i :: .inr (.inr (some a)) :: st) n I L P = mm_E d 233 56 lv [] (.inl (I a i.toNat) :: st) n I L P) ∧
  (∀ (lv : List mm_V) (st : List mm_V) a b, mm_E d 233 56 lv [] (.inl b :: .inl a :: st) n I L P = mm_E d 233 57 lv [] (.inl (mm_mul a b) :: st) n I L P) ∧
  (∀ (st : List mm_V) z (l0 : mm_V) (l1 : mm_V) (l3 : mm_V) (l4 : mm_V) (l5 : mm_V) (l6 : mm_V), mm_E d 233 57 [l0, l1, (.inl z), l3, l4, l5, l6] [] st n I L P = mm_E d 233 58 [l0, l1, (.inl z), l3, l4, l5, l6] [] ((.inl z) :: st) n I L P) ∧
  (∀ (lv : List mm_V) x0 x1 w0 w1, mm_E d 233 58 lv [] (.inl x1 :: .inl x0 :: [.inl w0, .inl w1]) n I L P = mm_kr d 233 61 lv [] [.inl w0, .inl w1] n (mm_rn d 265 [.inl x0, .inl x1] n I L P)) ∧
  (∀ (lv : List mm_V) (st : List mm_V) a b, mm_E d 233 61 lv [] (.inl b :: .inl a :: st) n I L P = mm_E d 233 62 lv [] (.inl (mm_mul a b) :: st) n I L P) ∧
  (∀ (lv : List mm_V) (st : List mm_V) a b, mm_E d 233 62 lv [] (.inl b :: .inl a :: st) n I L P = mm_E d 233 63 lv [] (.inl (mm_add a b) :: st) n I L P) ∧
  (∀ (st : List mm_V) z (l0 : mm_V) (l1 : mm_V) (l2 : mm_V) (l3 : mm_V) (l4 : mm_V) (l5 : mm_V) (l6 : mm_V), mm_E d 233 63 [l0, l1, l2, l3, l4, l5, l6] [] ((.inl z) :: st) n I L P = mm_E d 233 65 [l0, l1, l2, l3, l4, (.inl z), l6] [] st n I L P) ∧
  (∀ (st : List mm_V) z (l0 : mm_V) (l1 : mm_V) (l2 : mm_V) (l3 : mm_V) (l4 : mm_V) (l5 : mm_V), mm_E d 233 65 [l0, l1, l2, l3, l4, l5, (.inl z)] [] st n I L P = mm_E d 233 68 [l0, l1, l2, l3, l4, l5, (.inl (mm_add z 1))] [] st n I L P) ∧
  (∀ (lv : List mm_V) (st : List mm_V), mm_E d 233 68 lv [] st n I L P = mm_E d 233 22 lv [] st n I L P) ∧
  (∀ (st : List mm_V) z (l0 : mm_V) (l1 : mm_V) (l2 : mm_V) (l4 : mm_V) (l5 : mm_V) (l6 : mm_V), mm_E d 233 71 [l0, l1, l2, (.inl z), l4, l5, l6] [] st n I L P = mm_E d 233 72 [l0, l1, l2, (.inl z), l4, l5, l6] [] ((.inl z) :: st) n I L P) ∧
  (∀ (lv : List mm_V) (st : List mm_V) a, mm_E d 233 72 lv [] (.inl a :: st) n I L P = if a = 0 then mm_E d 233 75 lv [] st n I L P else mm_E d 233 79 lv [] st n I L P) ∧
  (∀ (lv : List mm_V) (st : List mm_V), mm_E d 233 75 lv [] st n I L P = mm_E d 233 76 lv [] (.inl 0 :: st) n I L P) ∧
  (∀ (lv : List mm_V) (st : List mm_V), mm_E d 233 76 lv [] st n I L P = mm_E d 233 83 lv [] st n I L P) ∧
  (∀ (st : List mm_V) z (l0 : mm_V) (l1 : mm_V) (l2 : mm_V) (l3 : mm_V) (l4 : mm_V) (l6 : mm_V), mm_E d 233 79 [l0, l1, l2, l3, l4, (.inl z), l6] [] st n I L P = mm_E d 233 81 [l0, l1, l2, l3, l4, (.inl z), l6] [] ((.inl z) :: st) n I L P) ∧
  (∀ (st : List mm_V) z (l0 : mm_V) (l1 : mm_V) (l2 : mm_V) (l4 : mm_V) (l5 : mm_V) (l6 : mm_V), mm_E d 233 81 [l0, l1, l2, (.inl z), l4, l5, l6] [] st n I L P = mm_E d 233 82 [l0, l1, l2, (.inl z), l4, l5, l6] [] ((.inl z) :: st) n I L P) ∧
  (∀ (lv : List mm_V) (st : List mm_V) a b, (¬ b = 0) → mm_E d 233 82 lv [] (.inl b :: .inl a :: st) n I L P = mm_E d 233 83 lv [] (.inl (mm_w (Int.tdiv a b)) :: st) n I L P) ∧
  (∀ (st : List mm_V) z (l0 : mm_V) (l1 : mm_V) (l2 : mm_V) (l3 : mm_V) (l4 : mm_V) (l5 : mm_V) (l6 : mm_V), mm_E d 233 83 [l0, l1, l2, l3, l4, l5, l6] [] ((.inl z) :: st) n I L P = mm_E d 233 84 [l0, l1, (.inl z), l3, l4, l5, l6] [] st n I L P) ∧
  (∀ (st : List mm_V) z (l0 : mm_V) (l1 : mm_V) (l2 : mm_V) (l3 : mm_V) (l5 : mm_V) (l6 : mm_V), mm_E d 233 84 [l0, l1, l2, l3, (.inl z), l5, l6] [] st n I L P = mm_E d 233 87 [l0, l1, l2, l3, (.inl (mm_add z 1)), l5, l6] [] st n I L P) ∧
  (∀ (lv : List mm_V) (st : List mm_V), mm_E d 233 87 lv [] st n I L P = mm_E d 233 10 lv [] st n I L P) ∧
  (∀ (st : List mm_V) z (l0 : mm_V) (l1 : mm_V) (l3 : mm_V) (l4 : mm_V) (l5 : mm_V) (l6 : mm_V), mm_E d 233 90 [l0, l1, (.inl z), l3, l4, l5, l6] [] st n I L P = mm_E d 233 91 [l0, l1, (.inl z), l3, l4, l5, l6] [] ((.inl z) :: st) n I L P) ∧
  (∀ (lv : List mm_V) z, mm_E d 233 91 lv [] [.inl z] n I L P = some (some (.inl z), n, I, L, P)) :=
  ⟨fun _ _ => mq_push rfl,
   fun _ _ _ _ _ _ _ _ _ => mq_is (i := 2) rfl rfl rfl,
   fun _ _ _ _ _ _ _ _ => mq_al (i := 0) rfl rfl,
   fun _ _ h0 => mq_cVr (na := 0) rfl rfl (Nat.le_of_ble_eq_true rfl) (Nat.le_of_ble_eq_true rfl) h0,
   fun _ _ _ _ _ _ _ _ _ => mq_is (i := 3) rfl rfl rfl,
   fun _ _ => mq_push rfl,
   fun _ _ _ _ _ _ _ _ _ => mq_is (i := 4) rfl rfl rfl,
   fun _ _ _ _ _ _ _ _ => mq_il (i := 1) rfl rfl,
   fun _ _ _ _ => mq_ic_ge rfl,
   fun _ _ => mq_push rfl,
   fun _ _ _ _ _ _ _ _ _ => mq_is (i := 5) rfl rfl rfl,
   fun _ _ => mq_push rfl,
   fun _ _ _ _ _ _ _ _ _ => mq_is (i := 6) rfl rfl rfl,
   fun _ _ _ _ _ _ _ _ => mq_al (i := 0) rfl rfl,
   fun _ _ _ h0 => mq_getI rfl h0,
   fun _ _ _ _ => mq_ic_ge rfl,
   fun _ _ _ _ _ _ _ _ => mq_il (i := 5) rfl rfl,
   fun _ _ _ _ _ _ _ _ => mq_al (i := 0) rfl rfl,
   fun _ _ _ h0 => mq_getR rfl h0,
   fun _ _ => mq_push rfl,
   fun _ _ _ _ _ _ _ _ => mq_il (i := 6) rfl rfl,
   fun _ _ _ _ => mq_bi rfl,
   fun _ _ => mq_push rfl,
   fun _ _ _ _ => mq_bi rfl,
   fun _ _ _ _ h0 => mq_iald rfl h0,
   fun _ _ => mq_push rfl,
   fun _ _ _ _ _ _ _ _ => mq_al (i := 0) rfl rfl,
   fun _ _ _ h0 => mq_getR rfl h0,
   fun _ _ => mq_push rfl,
   fun _ _ _ _ _ _ _ _ => mq_il (i := 6) rfl rfl,
   fun _ _ _ _ => mq_bi rfl,
   fun _ _ _ _ h0 => mq_iald rfl h0,
   fun _ _ _ _ => mq_bi rfl,
   fun _ _ _ _ _ _ _ _ => mq_il (i := 2) rfl rfl,
   fun _ _ _ _ _ => mq_cSr (na := 2) rfl (Nat.le_of_ble_eq_true rfl) (Nat.le_of_ble_eq_true rfl),
   fun _ _ _ _ => mq_bi rfl,
   fun _ _ _ _ => mq_bi rfl,
   fun _ _ _ _ _ _ _ _ _ => mq_is (i := 5) rfl rfl rfl,
   fun _ _ _ _ _ _ _ _ => mq_iinc (i := 6) rfl rfl rfl rfl,
   fun _ _ => mq_go rfl,
   fun _ _ _ _ _ _ _ _ => mq_il (i := 3) rfl rfl,
   fun _ _ _ => mq_if_ne rfl,
   fun _ _ => mq_push rfl,
   fun _ _ => mq_go rfl,
   fun _ _ _ _ _ _ _ _ => mq_il (i := 5) rfl rfl,
   fun _ _ _ _ _ _ _ _ => mq_il (i := 3) rfl rfl,
   fun _ _ _ _ h0 => mq_di rfl h0,
   fun _ _ _ _ _ _ _ _ _ => mq_is (i := 2) rfl rfl rfl,
   fun _ _ _ _ _ _ _ _ => mq_iinc (i := 4) rfl rfl rfl rfl,
   fun _ _ => mq_go rfl,
   fun _ _ _ _ _ _ _ _ => mq_il (i := 2) rfl rfl,
   fun _ _ => mq_ri rfl⟩
theorem hX12_valueWith_10 (d n : Nat) (I L : mm_I) (P : mm_P) : ∀ (st : List mm_V) z (l0 : mm_V) (l1 : mm_V) (l2 : mm_V) (l3 : mm_V) (l5 : mm_V) (l6 : mm_V), mm_E d 233 10 [l0, l1, l2, l3, (.inl z), l5, l6] [] st n I L P = mm_E d 233 12 [l0, l1, l2, l3, (.inl z), l5, l6] [] ((.inl z) :: st) n I L P := fun _ _ _ _ _ _ _ _ => mq_il (i := 4) rfl rfl
theorem hX12_valueWith_22 (d n : Nat) (I L : mm_I) (P : mm_P) : ∀ (st : List mm_V) z (l0 : mm_V) (l1 : mm_V) (l2 : mm_V) (l3 : mm_V) (l4 : mm_V) (l5 : mm_V), mm_E d 233 22 [l0, l1, l2, l3, l4, l5, (.inl z)] [] st n I L P = mm_E d 233 24 [l0, l1, l2, l3, l4, l5, (.inl z)] [] ((.inl z) :: st) n I L P := fun _ _ _ _ _ _ _ _ => mq_il (i := 6) rfl rfl
theorem eX12_valueWith (d n : Nat) (I L : mm_I) (P : mm_P) (x0 : Option Nat) (x1 : Int) : mm_rn (d + 1) 233 [.inr (.inr x0), .inl x1] n I L P = mm_E d 233 0 [.inr (.inr x0), .inl x1, mm_junk, mm_junk, mm_junk, mm_junk, mm_junk] [] [] n I L P := rfl

set_option maxRecDepth 20000 in
set_option maxHeartbeats 8000000 in
theorem kX12_call (d n : Nat) (I L : mm_I) (P : mm_P) :
  (∀ (st : List mm_V) z (l1 : mm_V) (l2 : mm_V) (l3 : mm_V) (l4 : mm_V) (l5 : mm_V), mm_E d 234 0 [(.inr (.inr z)), l1, l2, l3, l4, l5] [] st n I L P = mm_E d 234 1 [(.inr (.inr z)), l1, l2, l3, l4, l5] [] ((.inr (.inr z)) :: st) n I L P) ∧
  (∀ (lv : List mm_V) (st : List mm_V) a, (mm_ok n a 12) → mm_E d 234 1 lv [] (.inr (.inr (some a)) :: st) n I L P = mm_E d 234 4 lv [] (.inl (I a 26) :: st) n I L P) ∧
  (∀ (lv : List mm_V) (st : List mm_V) a, mm_E d 234 4 lv [] (.inl a :: st) n I L P = if a = 0 then mm_E d 234 26 lv [] st n I L P else mm_E d 234 7 lv [] st n I L P) ∧
  (∀ (st : List mm_V) z (l0 : mm_V) (l2 : mm_V) (l3 : mm_V) (l4 : mm_V) (l5 : mm_V), mm_E d 234 7 [l0, (.inl z), l2, l3, l4, l5] [] st n I L P = mm_E d 234 8 [l0, (.inl z), l2, l3, l4, l5] [] ((.inl z) :: st) n I L P) ∧
  (∀ (lv : List mm_V) (st : List mm_V), mm_E d 234 8 lv [] st n I L P = mm_E d 234 9 lv [] (.inl 1 :: st) n I L P) ∧
  (∀ (lv : List mm_V) (st : List mm_V), mm_E d 234 9 lv [] st n I L P = mm_E d 234 11 lv [] (.inl 40 :: st) n I L P) ∧
  (∀ (lv : List mm_V) x0 x1 x2, mm_E d 234 11 lv [] (.inl x2 :: .inl x1 :: .inl x0 :: []) n I L P = mm_kr d 234 14 lv [] [] n (mm_rn d 145 [.inl x0, .inl x1, .inl x2] n I L P)) ∧
  (∀ (lv : List mm_V) (st : List mm_V) a, mm_E d 234 14 lv [] (.inl a :: st) n I L P = if a = 0 then mm_E d 234 26 lv [] st n I L P else mm_E d 234 17 lv [] st n I L P) ∧
  (∀ (st : List mm_V) z (l0 : mm_V) (l1 : mm_V) (l3 : mm_V) (l4 : mm_V) (l5 : mm_V), mm_E d 234 17 [l0, l1, (.inl z), l3, l4, l5] [] st n I L P = mm_E d 234 18 [l0, l1, (.inl z), l3, l4, l5] [] ((.inl z) :: st) n I L P) ∧
  (∀ (lv : List mm_V) (st : List mm_V), mm_E d 234 18 lv [] st n I L P = mm_E d 234 19 lv [] (.inl 0 :: st) n I L P) ∧
  (∀ (lv : List mm_V) (st : List mm_V), mm_E d 234 19 lv [] st n I L P = mm_E d 234 20 lv [] (.inl 1 :: st) n I L P) ∧
  (∀ (lv : List mm_V) x0 x1 x2, mm_E d 234 20 lv [] (.inl x2 :: .inl x1 :: .inl x0 :: []) n I L P = mm_kr d 234 23 lv [] [] n (mm_rn d 145 [.inl x0, .inl x1, .inl x2] n I L P)) ∧
  (∀ (lv : List mm_V) (st : List mm_V) a, mm_E d 234 23 lv [] (.inl a :: st) n I L P = if a = 0 then mm_E d 234 26 lv [] st n I L P else mm_E d 234 28 lv [] st n I L P) ∧
  (∀ (lv : List mm_V) (st : List mm_V), mm_E d 234 26 lv [] st n I L P = mm_E d 234 27 lv [] (.inl (-1) :: st) n I L P) ∧
  (∀ (lv : List mm_V) z, mm_E d 234 27 lv [] [.inl z] n I L P = some (some (.inl z), n, I, L, P)) ∧
  (∀ (st : List mm_V) z (l0 : mm_V) (l1 : mm_V) (l3 : mm_V) (l4 : mm_V) (l5 : mm_V), mm_E d 234 28 [l0, l1, (.inl z), l3, l4, l5] [] st n I L P = mm_E d 234 29 [l0, l1, (.inl z), l3, l4, l5] [] ((.inl z) :: st) n I L P) ∧
  (∀ (lv : List mm_V) (st : List mm_V) a, mm_E d 234 29 lv [] (.inl a :: st) n I L P = if a = 0 then mm_E d 234 32 lv [] st n I L P else mm_E d 234 38 lv [] st n I L P) ∧
  (∀ (st : List mm_V) z (l1 : mm_V) (l2 : mm_V) (l3 : mm_V) (l4 : mm_V) (l5 : mm_V), mm_E d 234 32 [(.inr (.inr z)), l1, l2, l3, l4, l5] [] st n I L P = mm_E d 234 33 [(.inr (.inr z)), l1, l2, l3, l4, l5] [] ((.inr (.inr z)) :: st) n I L P) ∧
  (∀ (st : List mm_V) z (l0 : mm_V) (l2 : mm_V) (l3 : mm_V) (l4 : mm_V) (l5 : mm_V), mm_E d 234 33 [l0, (.inl z), l2, l3, l4, l5] [] st n I L P = mm_E d 234 34 [l0, (.inl z), l2, l3, l4, l5] [] ((.inl z) :: st) n I L P) ∧
  (∀ (lv : List mm_V) a x0, (mm_ok n a 12) → mm_E d 234 34 lv [] (.inl x0 :: .inr (.inr (some a)) :: []) n I L P = mm_kr d 234 37 lv [] [] n (mm_rn d 233 [.inr (.inr (some a)), .inl x0] n I L P)) ∧
  (∀ (lv : List mm_V) z, mm_E d 234 37 lv [] [.inl z] n I L P = some (some (.inl z), n, I, L, P)) ∧
  (∀ (st : List mm_V) z (l1 : mm_V) (l2 : mm_V) (l3 : mm_V) (l4 : mm_V) (l5 : mm_V), mm_E d 234 38 [(.inr (.inr z)), l1, l2, l3, l4, l5] [] st n I L P = mm_E d 234 39 [(.inr (.inr z)), l1, l2, l3, l4, l5] [] ((.inr (.inr z)) :: st) n I L P) ∧
  (∀ (st : List mm_V) z (l0 : mm_V) (l2 : mm_V) (l3 : mm_V) (l4 : mm_V) (l5 : mm_V), mm_E d 234 39 [l0, (.inl z), l2, l3, l4, l5] [] st n I L P = mm_E d 234 40 [l0, (.inl z), l2, l3, l4, l5] [] ((.inl z) :: st) n I L P) ∧
  (∀ (lv : List mm_V) (st : List mm_V), mm_E d 234 40 lv [] st n I L P = mm_E d 234 41 lv [] (.inl 1 :: st) n I L P) ∧
  (∀ (lv : List mm_V) (st : List mm_V) a b, mm_E d 234 41 lv [] (.inl b :: .inl a :: st) n I L P = mm_E d 234 42 lv [] (.inl (mm_sub a b) :: st) n I L P) ∧
  (∀ (lv : List mm_V) a x0, (mm_ok n a 12) → mm_E d 234 42 lv [] (.inl x0 :: .inr (.inr (some a)) :: []) n I L P = mm_kr d 234 45 lv [] [] n (mm_rn d 233 [.inr (.inr (some a)), .inl x0] n I L P)) ∧
  (∀ (st : List mm_V) z (l0 : mm_V) (l1 : mm_V) (l2 : mm_V) (l3 : mm_V) (l4 : mm_V) (l5 : mm_V), mm_E d 234 45 [l0, l1, l2, l3, l4, l5] [] ((.inl z) :: st) n I L P = mm_E d 234 46 [l0, l1, l2, (.inl z), l4, l5] [] st n I L P) ∧
  (∀ (lv : List mm_V) (st : List mm_V), mm_E d 234 46 lv [] st n I L P = mm_E d 234 47 lv [] (.inl 0 :: st) n I L P) ∧
  (∀ (st : List mm_V) z (l0 : mm_V) (l1 : mm_V) (l2 : mm_V) (l3 : mm_V) (l4 : mm_V) (l5 : mm_V), mm_E d 234 47 [l0, l1, l2, l3, l4, l5] [] ((.inl z) :: st) n I L P = mm_E d 234 49 [l0, l1, l2, l3, (.inl z), l5] [] st n I L P) ∧
  (∀ (lv : List mm_V) (st : List mm_V), mm_E d 234 49 lv [] st n I L P = mm_E d 234 50 lv [] (.inl 0 :: st) n I L P) ∧
  (∀ (st : List mm_V) z (l0 : mm_V) (l1 : mm_V) (l2 : mm_V) (l3 : mm_V) (l4 : mm_V) (l5 : mm_V), mm_E d 234 50 [l0, l1, l2, l3, l4, l5] [] ((.inl z) :: st) n I L P = mm_E d 234 52 [l0, l1, l2, l3, l4, (.inl z)] [] st n I L P) ∧
  (∀ (st : List mm_V) z (l1 : mm_V) (l2 : mm_V) (l3 : mm_V) (l4 : mm_V) (l5 : mm_V), mm_E d 234 54 [(.inr (.inr z)), l1, l2, l3, l4, l5] [] st n I L P = mm_E d 234 55 [(.inr (.inr z)), l1, l2, l3, l4, l5] [] ((.inr (.inr z)) :: st) n I L P) ∧
  (∀ (lv : List mm_V) (st : List mm_V) a, (mm_ok n a 12) → mm_E d 234 55 lv [] (.inr (.inr (some a)) :: st) n I L P = mm_E d 234 58 lv [] (.inl (I a 26) :: st) n I L P) ∧
  (∀ (lv : List mm_V) (st : List mm_V) a b, mm_E d 234 58 lv [] (.inl b :: .inl a :: st) n I L P = if b ≤ a then mm_E d 234 111 lv [] st n I L P else mm_E d 234 61 lv [] st n I L P) ∧
  (∀ (st : List mm_V) z (l0 : mm_V) (l1 : mm_V) (l2 : mm_V) (l3 : mm_V) (l5 : mm_V), mm_E d 234 61 [l0, l1, l2, l3, (.inl z), l5] [] st n I L P = mm_E d 234 63 [l0, l1, l2, l3, (.inl z), l5] [] ((.inl z) :: st) n I L P) ∧
  (∀ (st : List mm_V) z (l1 : mm_V) (l2 : mm_V) (l3 : mm_V) (l4 : mm_V) (l5 : mm_V), mm_E d 234 63 [(.inr (.inr z)), l1, l2, l3, l4, l5] [] st n I L P = mm_E d 234 64 [(.inr (.inr z)), l1, l2, l3, l4, l5] [] ((.inr (.inr z)) :: st) n I L P) ∧
  (∀ (lv : List mm_V) (st : List mm_V) a, (mm_ok n a 12) → mm_E d 234 64 lv [] (.inr (.inr (some a)) :: st) n I L P = mm_E d 234 67 lv [] (.inr (.inr (P a 23)) :: st) n I L P) ∧
  (∀ (lv : List mm_V) (st : List mm_V), mm_E d 234 67 lv [] st n I L P = mm_E d 234 68 lv [] (.inl 2 :: st) n I L P) ∧
  (∀ (st : List mm_V) z (l0 : mm_V) (l1 : mm_V) (l2 : mm_V) (l3 : mm_V) (l4 : mm_V), mm_E d 234 68 [l0, l1, l2, l3, l4, (.inl z)] [] st n I L P = mm_E d 234 70 [l0, l1, l2, l3, l4, (.inl z)] [] ((.inl z) :: st) n I L P) ∧
  (∀ (lv : List mm_V) (st : List mm_V) a b, mm_E d 234 70 lv [] (.inl b :: .inl a :: st) n I L P = mm_E d 234 71 lv [] (.inl (mm_mul a b) :: st) n I L P) ∧
  (∀ (lv : List mm_V) (st : List mm_V), mm_E d 234 71 lv [] st n I L P = mm_E d 234 72 lv [] (.inl 1 :: st) n I L P) ∧
  (∀ (lv : List mm_V) (st : List mm_V) a b, mm_E d 234 72 lv [] (.inl b :: .inl a :: st) n I L P = mm_E d 234 73 lv [] (.inl (mm_add a b) :: st) n I L P) ∧
  (∀ (lv : List mm_V) (st : List mm_V) a i, (mm_ix n a 20 i) → mm_E d 234 73 lv [] (.inl i :: .inr (.inr (some a)) :: st) n I L P = mm_E d 234 74 lv [] (.inl (I a i.toNat) :: st) n I L P) ∧
  (∀ (lv : List mm_V) (st : List mm_V) a, mm_E d 234 74 lv [] (.inl a :: st) n I L P = if a ≤ 0 then mm_E d 234 101 lv [] st n I L P else mm_E d 234 77 lv [] st n I L P) ∧
  (∀ (lv : List mm_V) (st : List mm_V), mm_E d 234 77 lv [] st n I L P = mm_E d 234 80 lv [] (.inl 1000 :: st) n I L P) ∧
  (∀ (st : List mm_V) z (l1 : mm_V) (l2 : mm_V) (l3 : mm_V) (l4 : mm_V) (l5 : mm_V), mm_E d 234 80 [(.inr (.inr z)), l1, l2, l3, l4, l5] [] st n I L P = mm_E d 234 81 [(.inr (.inr z)), l1, l2, l3, l4, l5] [] ((.inr (.inr z)) :: st) n I L P) ∧
  (∀ (lv : List mm_V) (st : List mm_V) a, (mm_ok n a 12) → mm_E d 234 81 lv [] (.inr (.inr (some a)) :: st) n I L P = mm_E d 234 84 lv [] (.inr (.inr (P a 27)) :: st) n I L P) ∧
  (∀ (lv : List mm_V) (st : List mm_V), mm_E d 234 84 lv [] st n I L P = mm_E d 234 85 lv [] (.inl 0 :: st) n I L P) ∧
  (∀ (st : List mm_V) z (l0 : mm_V) (l1 : mm_V) (l2 : mm_V) (l3 : mm_V) (l4 : mm_V), mm_E d 234 85 [l0, l1, l2, l3, l4, (.inl z)] [] st n I L P = mm_E d 234 87 [l0, l1, l2, l3, l4, (.inl z)] [] ((.inl z) :: st) n I L P) ∧
  (∀ (lv : List mm_V) (st : List mm_V) a b, mm_E d 234 87 lv [] (.inl b :: .inl a :: st) n I L P = mm_E d 234 88 lv [] (.inl (mm_add a b) :: st) n I L P) ∧
  (∀ (lv : List mm_V) (st : List mm_V) a i, (mm_ix n a 20 i) → mm_E d 234 88 lv [] (.inl i :: .inr (.inr (some a)) :: st) n I L P = mm_E d 234 89 lv [] (.inl (I a i.toNat) :: st) n I L P) ∧
  (∀ (lv : List mm_V) (st : List mm_V) a b, mm_E d 234 89 lv [] (.inl b :: .inl a :: st) n I L P = mm_E d 234 90 lv [] (.inl (mm_mul a b) :: st) n I L P) ∧
  (∀ (st : List mm_V) z (l0 : mm_V) (l1 : mm_V) (l2 : mm_V) (l4 : mm_V) (l5 : mm_V), mm_E d 234 90 [l0, l1, l2, (.inl z), l4, l5] [] st n I L P = mm_E d 234 91 [l0, l1, l2, (.inl z), l4, l5] [] ((.inl z) :: st) n I L P) ∧
  (∀ (lv : List mm_V) (st : List mm_V) a b, mm_E d 234 91 lv [] (.inl b :: .inl a :: st) n I L P = if a < b then mm_E d 234 101 lv [] st n I L P else mm_E d 234 94 lv [] st n I L P) ∧
  (∀ (lv : List mm_V) (st : List mm_V), mm_E d 234 94 lv [] st n I L P = mm_E d 234 95 lv [] (.inl 1 :: st) n I L P) ∧
  (∀ (st : List mm_V) z (l0 : mm_V) (l1 : mm_V) (l2 : mm_V) (l3 : mm_V) (l4 : mm_V), mm_E d 234 95 [l0, l1, l2, l3, l4, (.inl z)] [] st n I L P = mm_E d 234 97 [l0, l1, l2, l3, l4, (.inl z)] [] ((.inl z) :: st) n I L P) ∧
  (∀ (lv : List mm_V) (st : List mm_V) a b, mm_E d 234 97 lv [] (.inl b :: .inl a :: st) n I L P = mm_E d 234 98 lv [] (.inl (mm_shl a b) :: st) n I L P) ∧
  (∀ (lv : List mm_V) (st : List mm_V), mm_E d 234 98 lv [] st n I L P = mm_E d 234 102 lv [] st n I L P) ∧
  (∀ (lv : List mm_V) (st : List mm_V), mm_E d 234 101 lv [] st n I L P = mm_E d 234 102 lv [] (.inl 0 :: st) n I L P) ∧
  (∀ (lv : List mm_V) (st : List mm_V) a b, mm_E d 234 102 lv [] (.inl b :: .inl a :: st) n I L P = mm_E d 234 103 lv [] (.inl (mm_or a b) :: st) n I L P) ∧
  (∀ (st : List mm_V) z (l0 : mm_V) (l1 : mm_V) (l2 : mm_V) (l3 : mm_V) (l4 : mm_V) (l5 : mm_V), mm_E d 234 103 [l0, l1, l2, l3, l4, l5] [] ((.inl z) :: st) n I L P = mm_E d 234 105 [l0, l1, l2, l3, (.inl z), l5] [] st n I L P) ∧
  (∀ (st : List mm_V) z (l0 : mm_V) (l1 : mm_V) (l2 : mm_V) (l3 : mm_V) (l4 : mm_V), mm_E d 234 105 [l0, l1, l2, l3, l4, (.inl z)] [] st n I L P = mm_E d 234 108 [l0, l1, l2, l3, l4, (.inl (mm_add z 1))] [] st n I L P) ∧
  (∀ (lv : List mm_V) (st : List mm_V), mm_E d 234 108 lv [] st n I L P = mm_E d 234 52 lv [] st n I L P) ∧
  (∀ (st : List mm_V) z (l0 : mm_V) (l1 : mm_V) (l2 : mm_V) (l3 : mm_V) (l5 : mm_V), mm_E d 234 111 [l0, l1, l2, l3, (.inl z), l5] [] st n I L P = mm_E d 234 113 [l0, l1, l2, l3, (.inl z), l5] [] ((.inl z) :: st) n I L P) ∧
  (∀ (lv : List mm_V) z, mm_E d 234 113 lv [] [.inl z] n I L P = some (some (.inl z), n, I, L, P)) :=
  ⟨fun _ _ _ _ _ _ _ => mq_al (i := 0) rfl rfl,
   fun _ _ _ h0 => mq_getI rfl h0,
   fun _ _ _ => mq_if_eq rfl,
   fun _ _ _ _ _ _ _ => mq_il (i := 1) rfl rfl,
   fun _ _ => mq_push rfl,
   fun _ _ => mq_push rfl,
   fun _ _ _ _ => mq_cSr (na := 3) rfl (Nat.le_of_ble_eq_true rfl) (Nat.le_of_ble_eq_true rfl),
   fun _ _ _ => mq_if_eq rfl,
   fun _ _ _ _ _ _ _ => mq_il (i := 2) rfl rfl,
   fun _ _ => mq_push rfl,
   fun _ _ => mq_push rfl,
   fun _ _ _ _ => mq_cSr (na := 3) rfl (Nat.le_of_ble_eq_true rfl) (Nat.le_of_ble_eq_true rfl),
   fun _ _ _ => mq_if_ne rfl,
   fun _ _ => mq_push rfl,
   fun _ _ => mq_ri rfl,
   fun _ _ _ _ _ _ _ => mq_il (i := 2) rfl rfl,
   fun _ _ _ => mq_if_ne rfl,
   fun _ _ _ _ _ _ _ => mq_al (i := 0) rfl rfl,
   fun _ _ _ _ _ _ _ => mq_il (i := 1) rfl rfl,
   fun _ _ _ h0 => mq_cVr (na := 1) rfl rfl (Nat.le_of_ble_eq_true rfl) (Nat.le_of_ble_eq_true rfl) h0,
   fun _ _ => mq_ri rfl,
   fun _ _ _ _ _ _ _ => mq_al (i := 0) rfl rfl,
   fun _ _ _ _ _ _ _ => mq_il (i := 1) rfl rfl,
   fun _ _ => mq_push rfl,
   fun _ _ _ _ => mq_bi rfl,
   fun _ _ _ h0 => mq_cVr (na := 1) rfl rfl (Nat.le_of_ble_eq_true rfl) (Nat.le_of_ble_eq_true rfl) h0,
   fun _ _ _ _ _ _ _ _ => mq_is (i := 3) rfl rfl rfl,
   fun _ _ => mq_push rfl,
   fun _ _ _ _ _ _ _ _ => mq_is (i := 4) rfl rfl rfl,
   fun _ _ => mq_push rfl,
   fun _ _ _ _ _ _ _ _ => mq_is (i := 5) rfl rfl rfl,
   fun _ _ _ _ _ _ _ => mq_al (i := 0) rfl rfl,
   fun _ _ _ h0 => mq_getI rfl h0,
   fun _ _ _ _ => mq_ic_ge rfl,
   fun _ _ _ _ _ _ _ => mq_il (i := 4) rfl rfl,
   fun _ _ _ _ _ _ _ => mq_al (i := 0) rfl rfl,
   fun _ _ _ h0 => mq_getR rfl h0,
   fun _ _ => mq_push rfl,
   fun _ _ _ _ _ _ _ => mq_il (i := 5) rfl rfl,
   fun _ _ _ _ => mq_bi rfl,
   fun _ _ => mq_push rfl,
   fun _ _ _ _ => mq_bi rfl,
   fun _ _ _ _ h0 => mq_iald rfl h0,
   fun _ _ _ => mq_if_le rfl,
   fun _ _ => mq_push rfl,
   fun _ _ _ _ _ _ _ => mq_al (i := 0) rfl rfl,
   fun _ _ _ h0 => mq_getR rfl h0,
   fun _ _ => mq_push rfl,
   fun _ _ _ _ _ _ _ => mq_il (i := 5) rfl rfl,
   fun _ _ _ _ => mq_bi rfl,
   fun _ _ _ _ h0 => mq_iald rfl h0,
   fun _ _ _ _ => mq_bi rfl,
   fun _ _ _ _ _ _ _ => mq_il (i := 3) rfl rfl,
   fun _ _ _ _ => mq_ic_lt rfl,
   fun _ _ => mq_push rfl,
   fun _ _ _ _ _ _ _ => mq_il (i := 5) rfl rfl,
   fun _ _ _ _ => mq_bi rfl,
   fun _ _ => mq_go rfl,
   fun _ _ => mq_push rfl,
   fun _ _ _ _ => mq_bi rfl,
   fun _ _ _ _ _ _ _ _ => mq_is (i := 4) rfl rfl rfl,
   fun _ _ _ _ _ _ _ => mq_iinc (i := 5) rfl rfl rfl rfl,
   fun _ _ => mq_go rfl,
   fun _ _ _ _ _ _ _ => mq_il (i := 4) rfl rfl,
   fun _ _ => mq_ri rfl⟩
theorem hX12_call_52 (d n : Nat) (I L : mm_I) (P : mm_P) : ∀ (st : List mm_V) z (l0 : mm_V) (l1 : mm_V) (l2 : mm_V) (l3 : mm_V) (l4 : mm_V), mm_E d 234 52 [l0, l1, l2, l3, l4, (.inl z)] [] st n I L P = mm_E d 234 54 [l0, l1, l2, l3, l4, (.inl z)] [] ((.inl z) :: st) n I L P := fun _ _ _ _ _ _ _ => mq_il (i := 5) rfl rfl
theorem eX12_call (d n : Nat) (I L : mm_I) (P : mm_P) (x0 : Option Nat) (x1 : Int) (x2 : Int) : mm_rn (d + 1) 234 [.inr (.inr x0), .inl x1, .inl x2] n I L P = mm_E d 234 0 [.inr (.inr x0), .inl x1, .inl x2, mm_junk, mm_junk, mm_junk] [] [] n I L P := rfl

set_option maxRecDepth 20000 in
set_option maxHeartbeats 8000000 in
theorem kX12_worthOfAll (d n : Nat) (I L : mm_I) (P : mm_P) :
  (∀ (lv : List mm_V) (st : List mm_V), mm_E d 235 0 lv [] st n I L P = mm_E d 235 1 lv [] (.inl 0 :: st) n I L P) ∧
  (∀ (st : List mm_V) z (l0 : mm_V) (l1 : mm_V) (l2 : mm_V) (l3 : mm_V), mm_E d 235 1 [l0, l1, l2, l3] [] ((.inl z) :: st) n I L P = mm_E d 235 2 [l0, l1, (.inl z), l3] [] st n I L P) ∧
  (∀ (lv : List mm_V) (st : List mm_V), mm_E d 235 2 lv [] st n I L P = mm_E d 235 3 lv [] (.inl 0 :: st) n I L P) ∧
  (∀ (st : List mm_V) z (l0 : mm_V) (l1 : mm_V) (l2 : mm_V) (l3 : mm_V), mm_E d 235 3 [l0, l1, l2, l3] [] ((.inl z) :: st) n I L P = mm_E d 235 4 [l0, l1, l2, (.inl z)] [] st n I L P) ∧
  (∀ (st : List mm_V) z (l1 : mm_V) (l2 : mm_V) (l3 : mm_V), mm_E d 235 5 [(.inr (.inr z)), l1, l2, l3] [] st n I L P = mm_E d 235 6 [(.inr (.inr z)), l1, l2, l3] [] ((.inr (.inr z)) :: st) n I L P) ∧
  (∀ (lv : List mm_V) (st : List mm_V) a, (mm_ok n a 12) → mm_E d 235 6 lv [] (.inr (.inr (some a)) :: st) n I L P = mm_E d 235 9 lv [] (.inl (I a 26) :: st) n I L P) ∧
  (∀ (lv : List mm_V) (st : List mm_V) a b, mm_E d 235 9 lv [] (.inl b :: .inl a :: st) n I L P = if b ≤ a then mm_E d 235 41 lv [] st n I L P else mm_E d 235 12 lv [] st n I L P) ∧
  (∀ (st : List mm_V) z (l0 : mm_V) (l1 : mm_V) (l3 : mm_V), mm_E d 235 12 [l0, l1, (.inl z), l3] [] st n I L P = mm_E d 235 13 [l0, l1, (.inl z), l3] [] ((.inl z) :: st) n I L P) ∧
  (∀ (st : List mm_V) z (l0 : mm_V) (l2 : mm_V) (l3 : mm_V), mm_E d 235 13 [l0, (.inl z), l2, l3] [] st n I L P = mm_E d 235 14 [l0, (.inl z), l2, l3] [] ((.inl z) :: st) n I L P) ∧
  (∀ (st : List mm_V) z (l0 : mm_V) (l1 : mm_V) (l2 : mm_V), mm_E d 235 14 [l0, l1, l2, (.inl z)] [] st n I L P = mm_E d 235 15 [l0, l1, l2, (.inl z)] [] ((.inl z) :: st) n I L P) ∧
  (∀ (lv : List mm_V) x0 x1 w0, mm_E d 235 15 lv [] (.inl x1 :: .inl x0 :: [.inl w0]) n I L P = mm_kr d 235 18 lv [] [.inl w0] n (mm_rn d 146 [.inl x0, .inl x1] n I L P)) ∧
  (∀ (lv : List mm_V) (st : List mm_V) a, mm_E d 235 18 lv [] (.inl a :: st) n I L P = if a = 0 then mm_E d 235 32 lv [] st n I L P else mm_E d 235 21 lv [] st n I L P) ∧
  (∀ (st : List mm_V) z (l1 : mm_V) (l2 : mm_V) (l3 : mm_V), mm_E d 235 21 [(.inr (.inr z)), l1, l2, l3] [] st n I L P = mm_E d 235 22 [(.inr (.inr z)), l1, l2, l3] [] ((.inr (.inr z)) :: st) n I L P) ∧
  (∀ (lv : List mm_V) (st : List mm_V) a, (mm_ok n a 12) → mm_E d 235 22 lv [] (.inr (.inr (some a)) :: st) n I L P = mm_E d 235 25 lv [] (.inr (.inr (P a 27)) :: st) n I L P) ∧
  (∀ (lv : List mm_V) (st : List mm_V), mm_E d 235 25 lv [] st n I L P = mm_E d 235 26 lv [] (.inl 0 :: st) n I L P) ∧
  (∀ (st : List mm_V) z (l0 : mm_V) (l1 : mm_V) (l2 : mm_V), mm_E d 235 26 [l0, l1, l2, (.inl z)] [] st n I L P = mm_E d 235 27 [l0, l1, l2, (.inl z)] [] ((.inl z) :: st) n I L P) ∧
  (∀ (lv : List mm_V) (st : List mm_V) a b, mm_E d 235 27 lv [] (.inl b :: .inl a :: st) n I L P = mm_E d 235 28 lv [] (.inl (mm_add a b) :: st) n I L P) ∧
  (∀ (lv : List mm_V) (st : List mm_V) a i, (mm_ix n a 20 i) → mm_E d 235 28 lv [] (.inl i :: .inr (.inr (some a)) :: st) n I L P = mm_E d 235 29 lv [] (.inl (I a i.toNat) :: st) n I L P) ∧
  (∀ (lv : List mm_V) (st : List mm_V), mm_E d 235 29 lv [] st n I L P = mm_E d 235 33 lv [] st n I L P) ∧
  (∀ (lv : List mm_V) (st : List mm_V), mm_E d 235 32 lv [] st n I L P = mm_E d 235 33 lv [] (.inl 0 :: st) n I L P) ∧
  (∀ (lv : List mm_V) (st : List mm_V) a b, mm_E d 235 33 lv [] (.inl b :: .inl a :: st) n I L P = mm_E d 235 34 lv [] (.inl (mm_add a b) :: st) n I L P) ∧
  (∀ (st : List mm_V) z (l0 : mm_V) (l1 : mm_V) (l2 : mm_V) (l3 : mm_V), mm_E d 235 34 [l0, l1, l2, l3] [] ((.inl z) :: st) n I L P = mm_E d 235 35 [l0, l1, (.inl z), l3] [] st n I L P) ∧
  (∀ (st : List mm_V) z (l0 : mm_V) (l1 : mm_V) (l2 : mm_V), mm_E d 235 35 [l0, l1, l2, (.inl z)] [] st n I L P = mm_E d 235 38 [l0, l1, l2, (.inl (mm_add z 1))] [] st n I L P) ∧
  (∀ (lv : List mm_V) (st : List mm_V), mm_E d 235 38 lv [] st n I L P = mm_E d 235 4 lv [] st n I L P) ∧
  (∀ (st : List mm_V) z (l0 : mm_V) (l1 : mm_V) (l3 : mm_V), mm_E d 235 41 [l0, l1, (.inl z), l3] [] st n I L P = mm_E d 235 42 [l0, l1, (.inl z), l3] [] ((.inl z) :: st) n I L P) ∧
  (∀ (lv : List mm_V) z, mm_E d 235 42 lv [] [.inl z] n I L P = some (some (.inl z), n, I, L, P)) :=
  ⟨fun _ _ => mq_push rfl,
   fun _ _ _ _ _ _ => mq_is (i := 2) rfl rfl rfl,
   fun _ _ => mq_push rfl,
   fun _ _ _ _ _ _ => mq_is (i := 3) rfl rfl rfl,
   fun _ _ _ _ _ => mq_al (i := 0) rfl rfl,
   fun _ _ _ h0 => mq_getI rfl h0,
   fun _ _ _ _ => mq_ic_ge rfl,
   fun _ _ _ _ _ => mq_il (i := 2) rfl rfl,
   fun _ _ _ _ _ => mq_il (i := 1) rfl rfl,
   fun _ _ _ _ _ => mq_il (i := 3) rfl rfl,
   fun _ _ _ _ => mq_cSr (na := 2) rfl (Nat.le_of_ble_eq_true rfl) (Nat.le_of_ble_eq_true rfl),
   fun _ _ _ => mq_if_eq rfl,
   fun _ _ _ _ _ => mq_al (i := 0) rfl rfl,
   fun _ _ _ h0 => mq_getR rfl h0,
   fun _ _ => mq_push rfl,
   fun _ _ _ _ _ => mq_il (i := 3) rfl rfl,
   fun _ _ _ _ => mq_bi rfl,
   fun _ _ _ _ h0 => mq_iald rfl h0,
   fun _ _ => mq_go rfl,
   fun _ _ => mq_push rfl,
   fun _ _ _ _ => mq_bi rfl,
   fun _ _ _ _ _ _ => mq_is (i := 2) rfl rfl rfl,
   fun _ _ _ _ _ => mq_iinc (i := 3) rfl rfl rfl rfl,
   fun _ _ => mq_go rfl,
   fun _ _ _ _ _ => mq_il (i := 2) rfl rfl,
   fun _ _ => mq_ri rfl⟩
theorem hX12_worthOfAll_4 (d n : Nat) (I L : mm_I) (P : mm_P) : ∀ (st : List mm_V) z (l0 : mm_V) (l1 : mm_V) (l2 : mm_V), mm_E d 235 4 [l0, l1, l2, (.inl z)] [] st n I L P = mm_E d 235 5 [l0, l1, l2, (.inl z)] [] ((.inl z) :: st) n I L P := fun _ _ _ _ _ => mq_il (i := 3) rfl rfl
theorem eX12_worthOfAll (d n : Nat) (I L : mm_I) (P : mm_P) (x0 : Option Nat) (x1 : Int) : mm_rn (d + 1) 235 [.inr (.inr x0), .inl x1] n I L P = mm_E d 235 0 [.inr (.inr x0), .inl x1, mm_junk, mm_junk] [] [] n I L P := rfl

set_option maxRecDepth 20000 in
set_option maxHeartbeats 8000000 in
theorem kX12_tryRound (d n : Nat) (I L : mm_I) (P : mm_P) :
  (∀ (st : List mm_V) z (l0 : mm_V) (l1 : mm_V) (l3 : mm_V) (l4 : mm_V) (l5 : mm_V), mm_E d 236 0 [l0, l1, (.inl z), l3, l4, l5] [] st n I L P = mm_E d 236 1 [l0, l1, (.inl z), l3, l4, l5] [] ((.inl z) :: st) n I L P) ∧
  (∀ (lv : List mm_V) (st : List mm_V) a, mm_E d 236 1 lv [] (.inl a :: st) n I L P = if a = 0 then mm_E d 236 4 lv [] st n I L P else mm_E d 236 41 lv [] st n I L P) ∧
  (∀ (st : List mm_V) z (l1 : mm_V) (l2 : mm_V) (l3 : mm_V) (l4 : mm_V) (l5 : mm_V), mm_E d 236 4 [(.inr (.inr z)), l1, l2, l3, l4, l5] [] st n I L P = mm_E d 236 5 [(.inr (.inr z)), l1, l2, l3, l4, l5] [] ((.inr (.inr z)) :: st) n I L P) ∧
  (∀ (st : List mm_V) z (l0 : mm_V) (l1 : mm_V) (l2 : mm_V) (l4 : mm_V) (l5 : mm_V), mm_E d 236 5 [l0, l1, l2, (.inl z), l4, l5] [] st n I L P = mm_E d 236 6 [l0, l1, l2, (.inl z), l4, l5] [] ((.inl z) :: st) n I L P) ∧
  (∀ (lv : List mm_V) a x0, (mm_ok n a 12) → mm_E d 236 6 lv [] (.inl x0 :: .inr (.inr (some a)) :: []) n I L P = mm_kr d 236 9 lv [] [] n (mm_rn d 235 [.inr (.inr (some a)), .inl x0] n I L P)) ∧
  (∀ (st : List mm_V) z (l0 : mm_V) (l1 : mm_V) (l2 : mm_V) (l3 : mm_V) (l4 : mm_V) (l5 : mm_V), mm_E d 236 9 [l0, l1, l2, l3, l4, l5] [] ((.inl z) :: st) n I L P = mm_E d 236 11 [l0, l1, l2, l3, l4, (.inl z)] [] st n I L P) ∧
  (∀ (st : List mm_V) z (l1 : mm_V) (l2 : mm_V) (l3 : mm_V) (l4 : mm_V) (l5 : mm_V), mm_E d 236 11 [(.inr (.inr z)), l1, l2, l3, l4, l5] [] st n I L P = mm_E d 236 12 [(.inr (.inr z)), l1, l2, l3, l4, l5] [] ((.inr (.inr z)) :: st) n I L P) ∧
  (∀ (lv : List mm_V) (st : List mm_V) a, (mm_ok n a 12) → mm_E d 236 12 lv [] (.inr (.inr (some a)) :: st) n I L P = mm_E d 236 15 lv [] (.inl (I a 36) :: st) n I L P) ∧
  (∀ (lv : List mm_V) (st : List mm_V), mm_E d 236 15 lv [] st n I L P = mm_E d 236 16 lv [] (.inl (-1) :: st) n I L P) ∧
  (∀ (lv : List mm_V) (st : List mm_V) a b, mm_E d 236 16 lv [] (.inl b :: .inl a :: st) n I L P = if a = b then mm_E d 236 28 lv [] st n I L P else mm_E d 236 19 lv [] st n I L P) ∧
  (∀ (st : List mm_V) z (l0 : mm_V) (l1 : mm_V) (l2 : mm_V) (l3 : mm_V) (l4 : mm_V), mm_E d 236 19 [l0, l1, l2, l3, l4, (.inl z)] [] st n I L P = mm_E d 236 21 [l0, l1, l2, l3, l4, (.inl z)] [] ((.inl z) :: st) n I L P) ∧
  (∀ (st : List mm_V) z (l1 : mm_V) (l2 : mm_V) (l3 : mm_V) (l4 : mm_V) (l5 : mm_V), mm_E d 236 21 [(.inr (.inr z)), l1, l2, l3, l4, l5] [] st n I L P = mm_E d 236 22 [(.inr (.inr z)), l1, l2, l3, l4, l5] [] ((.inr (.inr z)) :: st) n I L P) ∧
  (∀ (lv : List mm_V) (st : List mm_V) a, (mm_ok n a 12) → mm_E d 236 22 lv [] (.inr (.inr (some a)) :: st) n I L P = mm_E d 236 25 lv [] (.inl (I a 37) :: st) n I L P) ∧
  (∀ (lv : List mm_V) (st : List mm_V) a b, mm_E d 236 25 lv [] (.inl b :: .inl a :: st) n I L P = if a ≤ b then mm_E d 236 40 lv [] st n I L P else mm_E d 236 28 lv [] st n I L P) ∧
  (∀ (st : List mm_V) z (l1 : mm_V) (l2 : mm_V) (l3 : mm_V) (l4 : mm_V) (l5 : mm_V), mm_E d 236 28 [(.inr (.inr z)), l1, l2, l3, l4, l5] [] st n I L P = mm_E d 236 29 [(.inr (.inr z)), l1, l2, l3, l4, l5] [] ((.inr (.inr z)) :: st) n I L P) ∧
  (∀ (st : List mm_V) z (l0 : mm_V) (l1 : mm_V) (l2 : mm_V) (l3 : mm_V) (l5 : mm_V), mm_E d 236 29 [l0, l1, l2, l3, (.inl z), l5] [] st n I L P = mm_E d 236 31 [l0, l1, l2, l3, (.inl z), l5] [] ((.inl z) :: st) n I L P) ∧
  (∀ (lv : List mm_V) (st : List mm_V) a z, (mm_ok n a 12) → mm_E d 236 31 lv [] (.inl z :: .inr (.inr (some a)) :: st) n I L P = mm_E d 236 34 lv [] st n (mm_ui I a 36 z) L P) ∧
  (∀ (st : List mm_V) z (l1 : mm_V) (l2 : mm_V) (l3 : mm_V) (l4 : mm_V) (l5 : mm_V), mm_E d 236 34 [(.inr (.inr z)), l1, l2, l3, l4, l5] [] st n I L P = mm_E d 236 35 [(.inr (.inr z)), l1, l2, l3, l4, l5] [] ((.inr (.inr z)) :: st) n I L P) ∧
  (∀ (st : List mm_V) z (l0 : mm_V) (l1 : mm_V) (l2 : mm_V) (l3 : mm_V) (l4 : mm_V), mm_E d 236 35 [l0, l1, l2, l3, l4, (.inl z)] [] st n I L P = mm_E d 236 37 [l0, l1, l2, l3, l4, (.inl z)] [] ((.inl z) :: st) n I L P) ∧
  (∀ (lv : List mm_V) (st : List mm_V) a z, (mm_ok n a 12) → mm_E d 236 37 lv [] (.inl z :: .inr (.inr (some a)) :: st) n I L P = mm_E d 236 40 lv [] st n (mm_ui I a 37 z) L P) ∧
  (∀ (lv : List mm_V), mm_E d 236 40 lv [] [] n I L P = some (none, n, I, L, P)) ∧
  (∀ (lv : List mm_V) (st : List mm_V), mm_E d 236 41 lv [] st n I L P = mm_E d 236 42 lv [] (.inl 0 :: st) n I L P) ∧
  (∀ (st : List mm_V) z (l0 : mm_V) (l1 : mm_V) (l2 : mm_V) (l3 : mm_V) (l4 : mm_V) (l5 : mm_V), mm_E d 236 42 [l0, l1, l2, l3, l4, l5] [] ((.inl z) :: st) n I L P = mm_E d 236 44 [l0, l1, l2, l3, l4, (.inl z)] [] st n I L P) ∧
  (∀ (st : List mm_V) z (l1 : mm_V) (l2 : mm_V) (l3 : mm_V) (l4 : mm_V) (l5 : mm_V), mm_E d 236 46 [(.inr (.inr z)), l1, l2, l3, l4, l5] [] st n I L P = mm_E d 236 47 [(.inr (.inr z)), l1, l2, l3, l4, l5] [] ((.inr (.inr z)) :: st) n I L P) ∧
  (∀ (lv : List mm_V) (st : List mm_V) a, (mm_ok n a 12) → mm_E d 236 47 lv [] (.inr (.inr (some a)) :: st) n I L P = mm_E d 236 50 lv [] (.inl (I a 26) :: st) n I L P) ∧
  (∀ (lv : List mm_V) (st : List mm_V) a b, mm_E d 236 50 lv [] (.inl b :: .inl a :: st) n I L P = if b ≤ a then mm_E d 236 98 lv [] st n I L P else mm_E d 236 53 lv [] st n I L P) ∧
  (∀ (st : List mm_V) z (l1 : mm_V) (l2 : mm_V) (l3 : mm_V) (l4 : mm_V) (l5 : mm_V), mm_E d 236 53 [(.inr (.inr z)), l1, l2, l3, l4, l5] [] st n I L P = mm_E d 236 54 [(.inr (.inr z)), l1, l2, l3, l4, l5] [] ((.inr (.inr z)) :: st) n I L P) ∧
  (∀ (lv : List mm_V) (st : List mm_V) a, (mm_ok n a 12) → mm_E d 236 54 lv [] (.inr (.inr (some a)) :: st) n I L P = mm_E d 236 57 lv [] (.inr (.inr (P a 24)) :: st) n I L P) ∧
  (∀ (st : List mm_V) z (l0 : mm_V) (l2 : mm_V) (l3 : mm_V) (l4 : mm_V) (l5 : mm_V), mm_E d 236 57 [l0, (.inl z), l2, l3, l4, l5] [] st n I L P = mm_E d 236 58 [l0, (.inl z), l2, l3, l4, l5] [] ((.inl z) :: st) n I L P) ∧
  (∀ (lv : List mm_V) (st : List mm_V) a i, (mm_ix n a 20 i) → mm_E d 236 58 lv [] (.inl i :: .inr (.inr (some a)) :: st) n I L P = mm_E d 236 59 lv [] (.inl (I a i.toNat) :: st) n I L P) ∧
  (∀ (st : List mm_V) z (l0 : mm_V) (l1 : mm_V) (l2 : mm_V) (l3 : mm_V) (l4 : mm_V), mm_E d 236 59 [l0, l1, l2, l3, l4, (.inl z)] [] st n I L P = mm_E d 236 61 [l0, l1, l2, l3, l4, (.inl z)] [] ((.inl z) :: st) n I L P) ∧
  (∀ (lv : List mm_V) x0 x1, mm_E d 236 61 lv [] (.inl x1 :: .inl x0 :: []) n I L P = mm_kr d 236 64 lv [] [] n (mm_rn d 146 [.inl x0, .inl x1] n I L P)) ∧
  (∀ (lv : List mm_V) (st : List mm_V) a, mm_E d 236 64 lv [] (.inl a :: st) n I L P = if a = 0 then mm_E d 236 92 lv [] st n I L P else mm_E d 236 67 lv [] st n I L P) ∧
  (∀ (st : List mm_V) z (l1 : mm_V) (l2 : mm_V) (l3 : mm_V) (l4 : mm_V) (l5 : mm_V), mm_E d 236 67 [(.inr (.inr z)), l1, l2, l3, l4, l5] [] st n I L P = mm_E d 236 68 [(.inr (.inr z)), l1, l2, l3, l4, l5] [] ((.inr (.inr z)) :: st) n I L P) ∧
  (∀ (st : List mm_V) z (l0 : mm_V) (l1 : mm_V) (l2 : mm_V) (l3 : mm_V) (l4 : mm_V), mm_E d 236 68 [l0, l1, l2, l3, l4, (.inl z)] [] st n I L P = mm_E d 236 70 [l0, l1, l2, l3, l4, (.inl z)] [] ((.inl z) :: st) n I L P) ∧
  (∀ (st : List mm_V) z (l0 : mm_V) (l1 : mm_V) (l3 : mm_V) (l4 : mm_V) (l5 : mm_V), mm_E d 236 70 [l0, l1, (.inl z), l3, l4, l5] [] st n I L P = mm_E d 236 71 [l0, l1, (.inl z), l3, l4, l5] [] ((.inl z) :: st) n I L P) ∧
  (∀ (lv : List mm_V) (st : List mm_V), mm_E d 236 71 lv [] st n I L P = mm_E d 236 72 lv [] (.inl 1 :: st) n I L P) ∧
  (∀ (lv : List mm_V) (st : List mm_V) a b, mm_E d 236 72 lv [] (.inl b :: .inl a :: st) n I L P = mm_E d 236 73 lv [] (.inl (mm_sub a b) :: st) n I L P) ∧
  (∀ (st : List mm_V) z (l0 : mm_V) (l1 : mm_V) (l2 : mm_V) (l4 : mm_V) (l5 : mm_V), mm_E d 236 73 [l0, l1, l2, (.inl z), l4, l5] [] st n I L P = mm_E d 236 74 [l0, l1, l2, (.inl z), l4, l5] [] ((.inl z) :: st) n I L P) ∧
  (∀ (st : List mm_V) z (l1 : mm_V) (l2 : mm_V) (l3 : mm_V) (l4 : mm_V) (l5 : mm_V), mm_E d 236 74 [(.inr (.inr z)), l1, l2, l3, l4, l5] [] st n I L P = mm_E d 236 75 [(.inr (.inr z)), l1, l2, l3, l4, l5] [] ((.inr (.inr z)) :: st) n I L P) ∧
  (∀ (st : List mm_V) z (l0 : mm_V) (l1 : mm_V) (l2 : mm_V) (l3 : mm_V) (l4 : mm_V), mm_E d 236 75 [l0, l1, l2, l3, l4, (.inl z)] [] st n I L P = mm_E d 236 77 [l0, l1, l2, l3, l4, (.inl z)] [] ((.inl z) :: st) n I L P) ∧
  (∀ (lv : List mm_V) a x0 w0 w1 w2 w3, (mm_ok n a 12) → mm_E d 236 77 lv [] (.inl x0 :: .inr (.inr (some a)) :: [.inl w0, .inl w1, .inl w2, .inr (.inr w3)]) n I L P = mm_kr d 236 80 lv [] [.inl w0, .inl w1, .inl w2, .inr (.inr w3)] n (mm_rn d 195 [.inr (.inr (some a)), .inl x0] n I L P)) ∧
  (∀ (lv : List mm_V) (st : List mm_V) a b, mm_E d 236 80 lv [] (.inl b :: .inl a :: st) n I L P = mm_E d 236 81 lv [] (.inl (mm_or a b) :: st) n I L P) ∧
  (∀ (lv : List mm_V) (st : List mm_V), mm_E d 236 81 lv [] st n I L P = mm_E d 236 83 lv [] (.inl 10 :: st) n I L P) ∧
  (∀ (st : List mm_V) z (l0 : mm_V) (l1 : mm_V) (l2 : mm_V) (l3 : mm_V) (l5 : mm_V), mm_E d 236 83 [l0, l1, l2, l3, (.inl z), l5] [] st n I L P = mm_E d 236 85 [l0, l1, l2, l3, (.inl z), l5] [] ((.inl z) :: st) n I L P) ∧
  (∀ (lv : List mm_V) (st : List mm_V) a b, mm_E d 236 85 lv [] (.inl b :: .inl a :: st) n I L P = mm_E d 236 86 lv [] (.inl (mm_mul a b) :: st) n I L P) ∧
  (∀ (st : List mm_V) z (l0 : mm_V) (l1 : mm_V) (l2 : mm_V) (l3 : mm_V) (l4 : mm_V), mm_E d 236 86 [l0, l1, l2, l3, l4, (.inl z)] [] st n I L P = mm_E d 236 88 [l0, l1, l2, l3, l4, (.inl z)] [] ((.inl z) :: st) n I L P) ∧
  (∀ (lv : List mm_V) (st : List mm_V) a b, mm_E d 236 88 lv [] (.inl b :: .inl a :: st) n I L P = mm_E d 236 89 lv [] (.inl (mm_add a b) :: st) n I L P) ∧
  (∀ (lv : List mm_V) a x0 x1 x2 x3, (mm_ok n a 12) → mm_E d 236 89 lv [] (.inl x3 :: .inl x2 :: .inl x1 :: .inl x0 :: .inr (.inr (some a)) :: []) n I L P = mm_kv d 236 92 lv [] [] n (mm_rn d 236 [.inr (.inr (some a)), .inl x0, .inl x1, .inl x2, .inl x3] n I L P)) ∧
  (∀ (st : List mm_V) z (l0 : mm_V) (l1 : mm_V) (l2 : mm_V) (l3 : mm_V) (l4 : mm_V), mm_E d 236 92 [l0, l1, l2, l3, l4, (.inl z)] [] st n I L P = mm_E d 236 95 [l0, l1, l2, l3, l4, (.inl (mm_add z 1))] [] st n I L P) ∧
  (∀ (lv : List mm_V) (st : List mm_V), mm_E d 236 95 lv [] st n I L P = mm_E d 236 44 lv [] st n I L P) ∧
  (∀ (lv : List mm_V), mm_E d 236 98 lv [] [] n I L P = some (none, n, I, L, P)) :=
  ⟨fun _ _ _ _ _ _ _ => mq_il (i := 2) rfl rfl,
   fun _ _ _ => mq_if_ne rfl,
   fun _ _ _ _ _ _ _ => mq_al (i := 0) rfl rfl,
   fun _ _ _ _ _ _ _ => mq_il (i := 3) rfl rfl,
   fun _ _ _ h0 => mq_cVr (na := 1) rfl rfl (Nat.le_of_ble_eq_true rfl) (Nat.le_of_ble_eq_true rfl) h0,
   fun _ _ _ _ _ _ _ _ => mq_is (i := 5) rfl rfl rfl,
   fun _ _ _ _ _ _ _ => mq_al (i := 0) rfl rfl,
   fun _ _ _ h0 => mq_getI rfl h0,
   fun _ _ => mq_push rfl,
   fun _ _ _ _ => mq_ic_eq rfl,
   fun _ _ _ _ _ _ _ => mq_il (i := 5) rfl rfl,
   fun _ _ _ _ _ _ _ => mq_al (i := 0) rfl rfl,
   fun _ _ _ h0 => mq_getI rfl h0,
   fun _ _ _ _ => mq_ic_le rfl,
   fun _ _ _ _ _ _ _ => mq_al (i := 0) rfl rfl,
   fun _ _ _ _ _ _ _ => mq_il (i := 4) rfl rfl,
   fun _ _ _ _ h0 => mq_putI rfl h0,
   fun _ _ _ _ _ _ _ => mq_al (i := 0) rfl rfl,
   fun _ _ _ _ _ _ _ => mq_il (i := 5) rfl rfl,
   fun _ _ _ _ h0 => mq_putI rfl h0,
   fun _ => mq_rv rfl,
   fun _ _ => mq_push rfl,
   fun _ _ _ _ _ _ _ _ => mq_is (i := 5) rfl rfl rfl,
   fun _ _ _ _ _ _ _ => mq_al (i := 0) rfl rfl,
   fun _ _ _ h0 => mq_getI rfl h0,
   fun _ _ _ _ => mq_ic_ge rfl,
   fun _ _ _ _ _ _ _ => mq_al (i := 0) rfl rfl,
   fun _ _ _ h0 => mq_getR rfl h0,
   fun _ _ _ _ _ _ _ => mq_il (i := 1) rfl rfl,
   fun _ _ _ _ h0 => mq_iald rfl h0,
   fun _ _ _ _ _ _ _ => mq_il (i := 5) rfl rfl,
   fun _ _ _ => mq_cSr (na := 2) rfl (Nat.le_of_ble_eq_true rfl) (Nat.le_of_ble_eq_true rfl),
   fun _ _ _ => mq_if_eq rfl,
   fun _ _ _ _ _ _ _ => mq_al (i := 0) rfl rfl,
   fun _ _ _ _ _ _ _ => mq_il (i := 5) rfl rfl,
   fun _ _ _ _ _ _ _ => mq_il (i := 2) rfl rfl,
   fun _ _ => mq_push rfl,
   fun _ _ _ _ => mq_bi rfl,
   fun _ _ _ _ _ _ _ => mq_il (i := 3) rfl rfl,
   fun _ _ _ _ _ _ _ => mq_al (i := 0) rfl rfl,
   fun _ _ _ _ _ _ _ => mq_il (i := 5) rfl rfl,
   fun _ _ _ _ _ _ _ h0 => mq_cVr (na := 1) rfl rfl (Nat.le_of_ble_eq_true rfl) (Nat.le_of_ble_eq_true rfl) h0,
   fun _ _ _ _ => mq_bi rfl,
   fun _ _ => mq_push rfl,
   fun _ _ _ _ _ _ _ => mq_il (i := 4) rfl rfl,
   fun _ _ _ _ => mq_bi rfl,
   fun _ _ _ _ _ _ _ => mq_il (i := 5) rfl rfl,
   fun _ _ _ _ => mq_bi rfl,
   fun _ _ _ _ _ _ h0 => mq_cVv (na := 4) rfl rfl (Nat.le_of_ble_eq_true rfl) (Nat.le_of_ble_eq_true rfl) h0,
   fun _ _ _ _ _ _ _ => mq_iinc (i := 5) rfl rfl rfl rfl,
   fun _ _ => mq_go rfl,
   fun _ => mq_rv rfl⟩
theorem hX12_tryRound_44 (d n : Nat) (I L : mm_I) (P : mm_P) : ∀ (st : List mm_V) z (l0 : mm_V) (l1 : mm_V) (l2 : mm_V) (l3 : mm_V) (l4 : mm_V), mm_E d 236 44 [l0, l1, l2, l3, l4, (.inl z)] [] st n I L P = mm_E d 236 46 [l0, l1, l2, l3, l4, (.inl z)] [] ((.inl z) :: st) n I L P := fun _ _ _ _ _ _ _ => mq_il (i := 5) rfl rfl
theorem eX12_tryRound (d n : Nat) (I L : mm_I) (P : mm_P) (x0 : Option Nat) (x1 : Int) (x2 : Int) (x3 : Int) (x4 : Int) : mm_rn (d + 1) 236 [.inr (.inr x0), .inl x1, .inl x2, .inl x3, .inl x4] n I L P = mm_E d 236 0 [.inr (.inr x0), .inl x1, .inl x2, .inl x3, .inl x4, mm_junk] [] [] n I L P := rfl

set_option maxRecDepth 20000 in
set_option maxHeartbeats 8000000 in
theorem kX12_round (d n : Nat) (I L : mm_I) (P : mm_P) :
  (∀ (st : List mm_V) z (l1 : mm_V) (l2 : mm_V), mm_E d 237 0 [(.inr (.inr z)), l1, l2] [] st n I L P = mm_E d 237 1 [(.inr (.inr z)), l1, l2] [] ((.inr (.inr z)) :: st) n I L P) ∧
  (∀ (lv : List mm_V) (st : List mm_V) a, (mm_ok n a 12) → mm_E d 237 1 lv [] (.inr (.inr (some a)) :: st) n I L P = mm_E d 237 4 lv [] (.inl (I a 26) :: st) n I L P) ∧
  (∀ (lv : List mm_V) (st : List mm_V) a, mm_E d 237 4 lv [] (.inl a :: st) n I L P = if a = 0 then mm_E d 237 25 lv [] st n I L P else mm_E d 237 7 lv [] st n I L P) ∧
  (∀ (st : List mm_V) z (l0 : mm_V) (l2 : mm_V), mm_E d 237 7 [l0, (.inl z), l2] [] st n I L P = mm_E d 237 8 [l0, (.inl z), l2] [] ((.inl z) :: st) n I L P) ∧
  (∀ (lv : List mm_V) (st : List mm_V), mm_E d 237 8 lv [] st n I L P = mm_E d 237 9 lv [] (.inl 1 :: st) n I L P) ∧
  (∀ (lv : List mm_V) (st : List mm_V), mm_E d 237 9 lv [] st n I L P = mm_E d 237 10 lv [] (.inl 5 :: st) n I L P) ∧
  (∀ (lv : List mm_V) x0 x1 x2, mm_E d 237 10 lv [] (.inl x2 :: .inl x1 :: .inl x0 :: []) n I L P = mm_kr d 237 13 lv [] [] n (mm_rn d 145 [.inl x0, .inl x1, .inl x2] n I L P)) ∧
  (∀ (lv : List mm_V) (st : List mm_V) a, mm_E d 237 13 lv [] (.inl a :: st) n I L P = if a = 0 then mm_E d 237 25 lv [] st n I L P else mm_E d 237 16 lv [] st n I L P) ∧
  (∀ (st : List mm_V) z (l0 : mm_V) (l1 : mm_V), mm_E d 237 16 [l0, l1, (.inl z)] [] st n I L P = mm_E d 237 17 [l0, l1, (.inl z)] [] ((.inl z) :: st) n I L P) ∧
  (∀ (lv : List mm_V) (st : List mm_V), mm_E d 237 17 lv [] st n I L P = mm_E d 237 18 lv [] (.inl 0 :: st) n I L P) ∧
  (∀ (lv : List mm_V) (st : List mm_V), mm_E d 237 18 lv [] st n I L P = mm_E d 237 19 lv [] (.inl 1 :: st) n I L P) ∧
  (∀ (lv : List mm_V) x0 x1 x2, mm_E d 237 19 lv [] (.inl x2 :: .inl x1 :: .inl x0 :: []) n I L P = mm_kr d 237 22 lv [] [] n (mm_rn d 145 [.inl x0, .inl x1, .inl x2] n I L P)) ∧
  (∀ (lv : List mm_V) (st : List mm_V) a, mm_E d 237 22 lv [] (.inl a :: st) n I L P = if a = 0 then mm_E d 237 25 lv [] st n I L P else mm_E d 237 27 lv [] st n I L P) ∧
  (∀ (lv : List mm_V) (st : List mm_V), mm_E d 237 25 lv [] st n I L P = mm_E d 237 26 lv [] (.inl (-1) :: st) n I L P) ∧
  (∀ (lv : List mm_V) z, mm_E d 237 26 lv [] [.inl z] n I L P = some (some (.inl z), n, I, L, P)) ∧
  (∀ (st : List mm_V) z (l1 : mm_V) (l2 : mm_V), mm_E d 237 27 [(.inr (.inr z)), l1, l2] [] st n I L P = mm_E d 237 28 [(.inr (.inr z)), l1, l2] [] ((.inr (.inr z)) :: st) n I L P) ∧
  (∀ (lv : List mm_V) (st : List mm_V), mm_E d 237 28 lv [] st n I L P = mm_E d 237 29 lv [] (.inl (-1) :: st) n I L P) ∧
  (∀ (lv : List mm_V) (st : List mm_V) a z, (mm_ok n a 12) → mm_E d 237 29 lv [] (.inl z :: .inr (.inr (some a)) :: st) n I L P = mm_E d 237 32 lv [] st n (mm_ui I a 36 z) L P) ∧
  (∀ (st : List mm_V) z (l1 : mm_V) (l2 : mm_V), mm_E d 237 32 [(.inr (.inr z)), l1, l2] [] st n I L P = mm_E d 237 33 [(.inr (.inr z)), l1, l2] [] ((.inr (.inr z)) :: st) n I L P) ∧
  (∀ (lv : List mm_V) (st : List mm_V), mm_E d 237 33 lv [] st n I L P = mm_E d 237 34 lv [] (.inl (-1) :: st) n I L P) ∧
  (∀ (lv : List mm_V) (st : List mm_V) a z, (mm_ok n a 12) → mm_E d 237 34 lv [] (.inl z :: .inr (.inr (some a)) :: st) n I L P = mm_E d 237 37 lv [] st n (mm_ui I a 37 z) L P) ∧
  (∀ (st : List mm_V) z (l1 : mm_V) (l2 : mm_V), mm_E d 237 37 [(.inr (.inr z)), l1, l2] [] st n I L P = mm_E d 237 38 [(.inr (.inr z)), l1, l2] [] ((.inr (.inr z)) :: st) n I L P) ∧
  (∀ (st : List mm_V) z (l1 : mm_V) (l2 : mm_V), mm_E d 237 38 [(.inr (.inr z)), l1, l2] [] st n I L P = mm_E d 237 39 [(.inr (.inr z)), l1, l2] [] ((.inr (.inr z)) :: st) n I L P) ∧
  (∀ (lv : List mm_V) (st : List mm_V) a, (mm_ok n a 12) → mm_E d 237 39 lv [] (.inr (.inr (some a)) :: st) n I L P = mm_E d 237 42 lv [] (.inr (.inr (P a 27)) :: st) n I L P) ∧
  (∀ (lv : List mm_V) (st : List mm_V), mm_E d 237 42 lv [] st n I L P = mm_E d 237 44 lv [] (.inl 24 :: st) n I L P) ∧
  (∀ (lv : List mm_V) (st : List mm_V) a i, (mm_ix n a 20 i) → mm_E d 237 44 lv [] (.inl i :: .inr (.inr (some a)) :: st) n I L P = mm_E d 237 45 lv [] (.inl (I a i.toNat) :: st) n I L P) ∧
  (∀ (st : List mm_V) z (l0 : mm_V) (l2 : mm_V), mm_E d 237 45 [l0, (.inl z), l2] [] st n I L P = mm_E d 237 46 [l0, (.inl z), l2] [] ((.inl z) :: st) n I L P) ∧
  (∀ (st : List mm_V) z (l1 : mm_V) (l2 : mm_V), mm_E d 237 46 [(.inr (.inr z)), l1, l2] [] st n I L P = mm_E d 237 47 [(.inr (.inr z)), l1, l2] [] ((.inr (.inr z)) :: st) n I L P) ∧
  (∀ (st : List mm_V) z (l1 : mm_V) (l2 : mm_V), mm_E d 237 47 [(.inr (.inr z)), l1, l2] [] st n I L P = mm_E d 237 48 [(.inr (.inr z)), l1, l2] [] ((.inr (.inr z)) :: st) n I L P) ∧
  (∀ (lv : List mm_V) (st : List mm_V) a, (mm_ok n a 12) → mm_E d 237 48 lv [] (.inr (.inr (some a)) :: st) n I L P = mm_E d 237 51 lv [] (.inr (.inr (P a 27)) :: st) n I L P) ∧
  (∀ (lv : List mm_V) (st : List mm_V), mm_E d 237 51 lv [] st n I L P = mm_E d 237 53 lv [] (.inl 24 :: st) n I L P) ∧
  (∀ (lv : List mm_V) (st : List mm_V) a i, (mm_ix n a 20 i) → mm_E d 237 53 lv [] (.inl i :: .inr (.inr (some a)) :: st) n I L P = mm_E d 237 54 lv [] (.inl (I a i.toNat) :: st) n I L P) ∧
  (∀ (lv : List mm_V) a x0 w0 w1 w2, (mm_ok n a 12) → mm_E d 237 54 lv [] (.inl x0 :: .inr (.inr (some a)) :: [.inl w0, .inl w1, .inr (.inr w2)]) n I L P = mm_kr d 237 57 lv [] [.inl w0, .inl w1, .inr (.inr w2)] n (mm_rn d 195 [.inr (.inr (some a)), .inl x0] n I L P)) ∧
  (∀ (lv : List mm_V) (st : List mm_V), mm_E d 237 57 lv [] st n I L P = mm_E d 237 58 lv [] (.inl 0 :: st) n I L P) ∧
  (∀ (lv : List mm_V) a x0 x1 x2 x3, (mm_ok n a 12) → mm_E d 237 58 lv [] (.inl x3 :: .inl x2 :: .inl x1 :: .inl x0 :: .inr (.inr (some a)) :: []) n I L P = mm_kv d 237 61 lv [] [] n (mm_rn d 236 [.inr (.inr (some a)), .inl x0, .inl x1, .inl x2, .inl x3] n I L P)) ∧
  (∀ (st : List mm_V) z (l0 : mm_V) (l1 : mm_V), mm_E d 237 61 [l0, l1, (.inl z)] [] st n I L P = mm_E d 237 62 [l0, l1, (.inl z)] [] ((.inl z) :: st) n I L P) ∧
  (∀ (lv : List mm_V) (st : List mm_V) a, mm_E d 237 62 lv [] (.inl a :: st) n I L P = if a = 0 then mm_E d 237 65 lv [] st n I L P else mm_E d 237 72 lv [] st n I L P) ∧
  (∀ (st : List mm_V) z (l1 : mm_V) (l2 : mm_V), mm_E d 237 65 [(.inr (.inr z)), l1, l2] [] st n I L P = mm_E d 237 66 [(.inr (.inr z)), l1, l2] [] ((.inr (.inr z)) :: st) n I L P) ∧
  (∀ (lv : List mm_V) (st : List mm_V) a, (mm_ok n a 12) → mm_E d 237 66 lv [] (.inr (.inr (some a)) :: st) n I L P = mm_E d 237 69 lv [] (.inl (I a 36) :: st) n I L P) ∧
  (∀ (lv : List mm_V) (st : List mm_V), mm_E d 237 69 lv [] st n I L P = mm_E d 237 76 lv [] st n I L P) ∧
  (∀ (st : List mm_V) z (l1 : mm_V) (l2 : mm_V), mm_E d 237 72 [(.inr (.inr z)), l1, l2] [] st n I L P = mm_E d 237 73 [(.inr (.inr z)), l1, l2] [] ((.inr (.inr z)) :: st) n I L P) ∧
  (∀ (lv : List mm_V) (st : List mm_V) a, (mm_ok n a 12) → mm_E d 237 73 lv [] (.inr (.inr (some a)) :: st) n I L P = mm_E d 237 76 lv [] (.inl (I a 37) :: st) n I L P) ∧
  (∀ (lv : List mm_V) z, mm_E d 237 76 lv [] [.inl z] n I L P = some (some (.inl z), n, I, L, P)) :=
  ⟨fun _ _ _ _ => mq_al (i := 0) rfl rfl,
   fun _ _ _ h0 => mq_getI rfl h0,
   fun _ _ _ => mq_if_eq rfl,
   fun _ _ _ _ => mq_il (i := 1) rfl rfl,
   fun _ _ => mq_push rfl,
   fun _ _ => mq_push rfl,
   fun _ _ _ _ => mq_cSr (na := 3) rfl (Nat.le_of_ble_eq_true rfl) (Nat.le_of_ble_eq_true rfl),
   fun _ _ _ => mq_if_eq rfl,
   fun _ _ _ _ => mq_il (i := 2) rfl rfl,
   fun _ _ => mq_push rfl,
   fun _ _ => mq_push rfl,
   fun _ _ _ _ => mq_cSr (na := 3) rfl (Nat.le_of_ble_eq_true rfl) (Nat.le_of_ble_eq_true rfl),
   fun _ _ _ => mq_if_ne rfl,
   fun _ _ => mq_push rfl,
   fun _ _ => mq_ri rfl,
   fun _ _ _ _ => mq_al (i := 0) rfl rfl,
   fun _ _ => mq_push rfl,
   fun _ _ _ _ h0 => mq_putI rfl h0,
   fun _ _ _ _ => mq_al (i := 0) rfl rfl,
   fun _ _ => mq_push rfl,
   fun _ _ _ _ h0 => mq_putI rfl h0,
   fun _ _ _ _ => mq_al (i := 0) rfl rfl,
   fun _ _ _ _ => mq_al (i := 0) rfl rfl,
   fun _ _ _ h0 => mq_getR rfl h0,
   fun _ _ => mq_push rfl,
   fun _ _ _ _ h0 => mq_iald rfl h0,
   fun _ _ _ _ => mq_il (i := 1) rfl rfl,
   fun _ _ _ _ => mq_al (i := 0) rfl rfl,
   fun _ _ _ _ => mq_al (i := 0) rfl rfl,
   fun _ _ _ h0 => mq_getR rfl h0,
   fun _ _ => mq_push rfl,
   fun _ _ _ _ h0 => mq_iald rfl h0,
   fun _ _ _ _ _ _ h0 => mq_cVr (na := 1) rfl rfl (Nat.le_of_ble_eq_true rfl) (Nat.le_of_ble_eq_true rfl) h0,
   fun _ _ => mq_push rfl,
   fun _ _ _ _ _ _ h0 => mq_cVv (na := 4) rfl rfl (Nat.le_of_ble_eq_true rfl) (Nat.le_of_ble_eq_true rfl) h0,
   fun _ _ _ _ => mq_il (i := 2) rfl rfl,
   fun _ _ _ => mq_if_ne rfl,
   fun _ _ _ _ => mq_al (i := 0) rfl rfl,
   fun _ _ _ h0 => mq_getI rfl h0,
   fun _ _ => mq_go rfl,
   fun _ _ _ _ => mq_al (i := 0) rfl rfl,
   fun _ _ _ h0 => mq_getI rfl h0,
   fun _ _ => mq_ri rfl⟩
theorem eX12_round (d n : Nat) (I L : mm_I) (P : mm_P) (x0 : Option Nat) (x1 : Int) (x2 : Int) : mm_rn (d + 1) 237 [.inr (.inr x0), .inl x1, .inl x2] n I L P = mm_E d 237 0 [.inr (.inr x0), .inl x1, .inl x2] [] [] n I L P := rfl

set_option maxRecDepth 20000 in
set_option maxHeartbeats 8000000 in
theorem kX12_cover (d n : Nat) (I L : mm_I) (P : mm_P) :
  (∀ (st : List mm_V) z (l1 : mm_V) (l2 : mm_V) (l3 : mm_V) (l4 : mm_V), mm_E d 238 0 [(.inr (.inr z)), l1, l2, l3, l4] [] st n I L P = mm_E d 238 1 [(.inr (.inr z)), l1, l2, l3, l4] [] ((.inr (.inr z)) :: st) n I L P) ∧
  (∀ (lv : List mm_V) (st : List mm_V) a, (mm_ok n a 12) → mm_E d 238 1 lv [] (.inr (.inr (some a)) :: st) n I L P = mm_E d 238 4 lv [] (.inl (I a 26) :: st) n I L P) ∧
  (∀ (lv : List mm_V) (st : List mm_V) a, mm_E d 238 4 lv [] (.inl a :: st) n I L P = if a = 0 then mm_E d 238 7 lv [] st n I L P else mm_E d 238 9 lv [] st n I L P) ∧
  (∀ (lv : List mm_V) (st : List mm_V), mm_E d 238 7 lv [] st n I L P = mm_E d 238 8 lv [] (.inl (-1) :: st) n I L P) ∧
  (∀ (lv : List mm_V) z, mm_E d 238 8 lv [] [.inl z] n I L P = some (some (.inl z), n, I, L, P)) ∧
  (∀ (lv : List mm_V) (st : List mm_V), mm_E d 238 9 lv [] st n I L P = mm_E d 238 10 lv [] (.inl (-1) :: st) n I L P) ∧
  (∀ (st : List mm_V) z (l0 : mm_V) (l1 : mm_V) (l2 : mm_V) (l3 : mm_V) (l4 : mm_V), mm_E d 238 10 [l0, l1, l2, l3, l4] [] ((.inl z) :: st) n I L P = mm_E d 238 11 [l0, (.inl z), l2, l3, l4] [] st n I L P) ∧
  (∀ (lv : List mm_V) (st : List mm_V), mm_E d 238 11 lv [] st n I L P = mm_E d 238 12 lv [] (.inl 0 :: st) n I L P) ∧
  (∀ (st : List mm_V) z (l0 : mm_V) (l1 : mm_V) (l2 : mm_V) (l3 : mm_V) (l4 : mm_V), mm_E d 238 12 [l0, l1, l2, l3, l4] [] ((.inl z) :: st) n I L P = mm_E d 238 13 [l0, l1, (.inl z), l3, l4] [] st n I L P) ∧
  (∀ (lv : List mm_V) (st : List mm_V), mm_E d 238 14 lv [] st n I L P = mm_E d 238 15 lv [] (.inl 1 :: st) n I L P) ∧
  (∀ (st : List mm_V) z (l1 : mm_V) (l2 : mm_V) (l3 : mm_V) (l4 : mm_V), mm_E d 238 15 [(.inr (.inr z)), l1, l2, l3, l4] [] st n I L P = mm_E d 238 16 [(.inr (.inr z)), l1, l2, l3, l4] [] ((.inr (.inr z)) :: st) n I L P) ∧
  (∀ (lv : List mm_V) (st : List mm_V) a, (mm_ok n a 12) → mm_E d 238 16 lv [] (.inr (.inr (some a)) :: st) n I L P = mm_E d 238 19 lv [] (.inl (I a 26) :: st) n I L P) ∧
  (∀ (lv : List mm_V) (st : List mm_V) a b, mm_E d 238 19 lv [] (.inl b :: .inl a :: st) n I L P = mm_E d 238 20 lv [] (.inl (mm_shl a b) :: st) n I L P) ∧
  (∀ (lv : List mm_V) (st : List mm_V) a b, mm_E d 238 20 lv [] (.inl b :: .inl a :: st) n I L P = if b ≤ a then mm_E d 238 117 lv [] st n I L P else mm_E d 238 23 lv [] st n I L P) ∧
  (∀ (lv : List mm_V) (st : List mm_V), mm_E d 238 23 lv [] st n I L P = mm_E d 238 24 lv [] (.inl 0 :: st) n I L P) ∧
  (∀ (st : List mm_V) z (l0 : mm_V) (l1 : mm_V) (l2 : mm_V) (l3 : mm_V) (l4 : mm_V), mm_E d 238 24 [l0, l1, l2, l3, l4] [] ((.inl z) :: st) n I L P = mm_E d 238 25 [l0, l1, l2, (.inl z), l4] [] st n I L P) ∧
  (∀ (lv : List mm_V) (st : List mm_V), mm_E d 238 25 lv [] st n I L P = mm_E d 238 26 lv [] (.inl 0 :: st) n I L P) ∧
  (∀ (st : List mm_V) z (l0 : mm_V) (l1 : mm_V) (l2 : mm_V) (l3 : mm_V) (l4 : mm_V), mm_E d 238 26 [l0, l1, l2, l3, l4] [] ((.inl z) :: st) n I L P = mm_E d 238 28 [l0, l1, l2, l3, (.inl z)] [] st n I L P) ∧
  (∀ (st : List mm_V) z (l1 : mm_V) (l2 : mm_V) (l3 : mm_V) (l4 : mm_V), mm_E d 238 30 [(.inr (.inr z)), l1, l2, l3, l4] [] st n I L P = mm_E d 238 31 [(.inr (.inr z)), l1, l2, l3, l4] [] ((.inr (.inr z)) :: st) n I L P) ∧
  (∀ (lv : List mm_V) (st : List mm_V) a, (mm_ok n a 12) → mm_E d 238 31 lv [] (.inr (.inr (some a)) :: st) n I L P = mm_E d 238 34 lv [] (.inl (I a 26) :: st) n I L P) ∧
  (∀ (lv : List mm_V) (st : List mm_V) a b, mm_E d 238 34 lv [] (.inl b :: .inl a :: st) n I L P = if b ≤ a then mm_E d 238 65 lv [] st n I L P else mm_E d 238 37 lv [] st n I L P) ∧
  (∀ (st : List mm_V) z (l0 : mm_V) (l1 : mm_V) (l2 : mm_V) (l4 : mm_V), mm_E d 238 37 [l0, l1, l2, (.inl z), l4] [] st n I L P = mm_E d 238 38 [l0, l1, l2, (.inl z), l4] [] ((.inl z) :: st) n I L P) ∧
  (∀ (st : List mm_V) z (l0 : mm_V) (l1 : mm_V) (l3 : mm_V) (l4 : mm_V), mm_E d 238 38 [l0, l1, (.inl z), l3, l4] [] st n I L P = mm_E d 238 39 [l0, l1, (.inl z), l3, l4] [] ((.inl z) :: st) n I L P) ∧
  (∀ (st : List mm_V) z (l0 : mm_V) (l1 : mm_V) (l2 : mm_V) (l3 : mm_V), mm_E d 238 39 [l0, l1, l2, l3, (.inl z)] [] st n I L P = mm_E d 238 41 [l0, l1, l2, l3, (.inl z)] [] ((.inl z) :: st) n I L P) ∧
  (∀ (lv : List mm_V) x0 x1 w0, mm_E d 238 41 lv [] (.inl x1 :: .inl x0 :: [.inl w0]) n I L P = mm_kr d 238 44 lv [] [.inl w0] n (mm_rn d 146 [.inl x0, .inl x1] n I L P)) ∧
  (∀ (lv : List mm_V) (st : List mm_V) a, mm_E d 238 44 lv [] (.inl a :: st) n I L P = if a = 0 then mm_E d 238 56 lv [] st n I L P else mm_E d 238 47 lv [] st n I L P) ∧
  (∀ (st : List mm_V) z (l1 : mm_V) (l2 : mm_V) (l3 : mm_V) (l4 : mm_V), mm_E d 238 47 [(.inr (.inr z)), l1, l2, l3, l4] [] st n I L P = mm_E d 238 48 [(.inr (.inr z)), l1, l2, l3, l4] [] ((.inr (.inr z)) :: st) n I L P) ∧
  (∀ (st : List mm_V) z (l0 : mm_V) (l1 : mm_V) (l2 : mm_V) (l3 : mm_V), mm_E d 238 48 [l0, l1, l2, l3, (.inl z)] [] st n I L P = mm_E d 238 50 [l0, l1, l2, l3, (.inl z)] [] ((.inl z) :: st) n I L P) ∧
  (∀ (lv : List mm_V) a x0 w0, (mm_ok n a 12) → mm_E d 238 50 lv [] (.inl x0 :: .inr (.inr (some a)) :: [.inl w0]) n I L P = mm_kr d 238 53 lv [] [.inl w0] n (mm_rn d 195 [.inr (.inr (some a)), .inl x0] n I L P)) ∧
  (∀ (lv : List mm_V) (st : List mm_V), mm_E d 238 53 lv [] st n I L P = mm_E d 238 57 lv [] st n I L P) ∧
  (∀ (lv : List mm_V) (st : List mm_V), mm_E d 238 56 lv [] st n I L P = mm_E d 238 57 lv [] (.inl 0 :: st) n I L P) ∧
  (∀ (lv : List mm_V) (st : List mm_V) a b, mm_E d 238 57 lv [] (.inl b :: .inl a :: st) n I L P = mm_E d 238 58 lv [] (.inl (mm_or a b) :: st) n I L P) ∧
  (∀ (st : List mm_V) z (l0 : mm_V) (l1 : mm_V) (l2 : mm_V) (l3 : mm_V) (l4 : mm_V), mm_E d 238 58 [l0, l1, l2, l3, l4] [] ((.inl z) :: st) n I L P = mm_E d 238 59 [l0, l1, l2, (.inl z), l4] [] st n I L P) ∧
  (∀ (st : List mm_V) z (l0 : mm_V) (l1 : mm_V) (l2 : mm_V) (l3 : mm_V), mm_E d 238 59 [l0, l1, l2, l3, (.inl z)] [] st n I L P = mm_E d 238 62 [l0, l1, l2, l3, (.inl (mm_add z 1))] [] st n I L P) ∧
  (∀ (lv : List mm_V) (st : List mm_V), mm_E d 238 62 lv [] st n I L P = mm_E d 238 28 lv [] st n I L P) ∧
  (∀ (st : List mm_V) z (l0 : mm_V) (l1 : mm_V) (l2 : mm_V) (l4 : mm_V), mm_E d 238 65 [l0, l1, l2, (.inl z), l4] [] st n I L P = mm_E d 238 66 [l0, l1, l2, (.inl z), l4] [] ((.inl z) :: st) n I L P) ∧
  (∀ (lv : List mm_V) (st : List mm_V), mm_E d 238 66 lv [] st n I L P = mm_E d 238 67 lv [] (.inl 1 :: st) n I L P) ∧
  (∀ (st : List mm_V) z (l1 : mm_V) (l2 : mm_V) (l3 : mm_V) (l4 : mm_V), mm_E d 238 67 [(.inr (.inr z)), l1, l2, l3, l4] [] st n I L P = mm_E d 238 68 [(.inr (.inr z)), l1, l2, l3, l4] [] ((.inr (.inr z)) :: st) n I L P) ∧
  (∀ (lv : List mm_V) (st : List mm_V) a, (mm_ok n a 12) → mm_E d 238 68 lv [] (.inr (.inr (some a)) :: st) n I L P = mm_E d 238 71 lv [] (.inl (I a 26) :: st) n I L P) ∧
  (∀ (lv : List mm_V) (st : List mm_V) a b, mm_E d 238 71 lv [] (.inl b :: .inl a :: st) n I L P = mm_E d 238 72 lv [] (.inl (mm_shl a b) :: st) n I L P) ∧
  (∀ (lv : List mm_V) (st : List mm_V), mm_E d 238 72 lv [] st n I L P = mm_E d 238 73 lv [] (.inl 1 :: st) n I L P) ∧
  (∀ (lv : List mm_V) (st : List mm_V) a b, mm_E d 238 73 lv [] (.inl b :: .inl a :: st) n I L P = mm_E d 238 74 lv [] (.inl (mm_sub a b) :: st) n I L P) ∧
  (∀ (lv : List mm_V) (st : List mm_V) a b, mm_E d 238 74 lv [] (.inl b :: .inl a :: st) n I L P = if a = b then mm_E d 238 77 lv [] st n I L P else mm_E d 238 81 lv [] st n I L P) ∧
  (∀ (lv : List mm_V) (st : List mm_V), mm_E d 238 77 lv [] st n I L P = mm_E d 238 78 lv [] (.inl 1 :: st) n I L P) ∧
  (∀ (lv : List mm_V) (st : List mm_V), mm_E d 238 78 lv [] st n I L P = mm_E d 238 82 lv [] st n I L P) ∧
  (∀ (lv : List mm_V) (st : List mm_V), mm_E d 238 81 lv [] st n I L P = mm_E d 238 82 lv [] (.inl 0 :: st) n I L P) ∧
  (∀ (st : List mm_V) z (l0 : mm_V) (l1 : mm_V) (l2 : mm_V) (l3 : mm_V) (l4 : mm_V), mm_E d 238 82 [l0, l1, l2, l3, l4] [] ((.inl z) :: st) n I L P = mm_E d 238 84 [l0, l1, l2, l3, (.inl z)] [] st n I L P) ∧
  (∀ (st : List mm_V) z (l0 : mm_V) (l1 : mm_V) (l2 : mm_V) (l3 : mm_V), mm_E d 238 84 [l0, l1, l2, l3, (.inl z)] [] st n I L P = mm_E d 238 86 [l0, l1, l2, l3, (.inl z)] [] ((.inl z) :: st) n I L P) ∧
  (∀ (lv : List mm_V) (st : List mm_V) a, mm_E d 238 86 lv [] (.inl a :: st) n I L P = if a = 0 then mm_E d 238 109 lv [] st n I L P else mm_E d 238 89 lv [] st n I L P) ∧
  (∀ (st : List mm_V) z (l0 : mm_V) (l2 : mm_V) (l3 : mm_V) (l4 : mm_V), mm_E d 238 89 [l0, (.inl z), l2, l3, l4] [] st n I L P = mm_E d 238 90 [l0, (.inl z), l2, l3, l4] [] ((.inl z) :: st) n I L P) ∧
  (∀ (lv : List mm_V) (st : List mm_V), mm_E d 238 90 lv [] st n I L P = mm_E d 238 91 lv [] (.inl (-1) :: st) n I L P) ∧
  (∀ (lv : List mm_V) (st : List mm_V) a b, mm_E d 238 91 lv [] (.inl b :: .inl a :: st) n I L P = if a = b then mm_E d 238 105 lv [] st n I L P else mm_E d 238 94 lv [] st n I L P) ∧
  (∀ (st : List mm_V) z (l0 : mm_V) (l1 : mm_V) (l3 : mm_V) (l4 : mm_V), mm_E d 238 94 [l0, l1, (.inl z), l3, l4] [] st n I L P = mm_E d 238 95 [l0, l1, (.inl z), l3, l4] [] ((.inl z) :: st) n I L P) ∧
  (∀ (lv : List mm_V) x0, mm_E d 238 95 lv [] (.inl x0 :: []) n I L P = mm_kr d 238 98 lv [] [] n (mm_rn d 263 [.inl x0] n I L P)) ∧
  (∀ (st : List mm_V) z (l0 : mm_V) (l2 : mm_V) (l3 : mm_V) (l4 : mm_V), mm_E d 238 98 [l0, (.inl z), l2, l3, l4] [] st n I L P = mm_E d 238 99 [l0, (.inl z), l2, l3, l4] [] ((.inl z) :: st) n I L P) ∧
  (∀ (lv : List mm_V) x0 w0, mm_E d 238 99 lv [] (.inl x0 :: [.inl w0]) n I L P = mm_kr d 238 102 lv [] [.inl w0] n (mm_rn d 263 [.inl x0] n I L P)) ∧
  (∀ (lv : List mm_V) (st : List mm_V) a b, mm_E d 238 102 lv [] (.inl b :: .inl a :: st) n I L P = if b ≤ a then mm_E d 238 109 lv [] st n I L P else mm_E d 238 105 lv [] st n I L P) ∧
  (∀ (st : List mm_V) z (l0 : mm_V) (l1 : mm_V) (l3 : mm_V) (l4 : mm_V), mm_E d 238 105 [l0, l1, (.inl z), l3, l4] [] st n I L P = mm_E d 238 106 [l0, l1, (.inl z), l3, l4] [] ((.inl z) :: st) n I L P) ∧
  (∀ (lv : List mm_V) (st : List mm_V), mm_E d 238 106 lv [] st n I L P = mm_E d 238 110 lv [] st n I L P) ∧
  (∀ (st : List mm_V) z (l0 : mm_V) (l2 : mm_V) (l3 : mm_V) (l4 : mm_V), mm_E d 238 109 [l0, (.inl z), l2, l3, l4] [] st n I L P = mm_E d 238 110 [l0, (.inl z), l2, l3, l4] [] ((.inl z) :: st) n I L P) ∧
  (∀ (st : List mm_V) z (l0 : mm_V) (l1 : mm_V) (l2 : mm_V) (l3 : mm_V) (l4 : mm_V), mm_E d 238 110 [l0, l1, l2, l3, l4] [] ((.inl z) :: st) n I L P = mm_E d 238 111 [l0, (.inl z), l2, l3, l4] [] st n I L P) ∧
  (∀ (st : List mm_V) z (l0 : mm_V) (l1 : mm_V) (l3 : mm_V) (l4 : mm_V), mm_E d 238 111 [l0, l1, (.inl z), l3, l4] [] st n I L P = mm_E d 238 114 [l0, l1, (.inl (mm_add z 1)), l3, l4] [] st n I L P) ∧
  (∀ (lv : List mm_V) (st : List mm_V), mm_E d 238 114 lv [] st n I L P = mm_E d 238 13 lv [] st n I L P) ∧
  (∀ (st : List mm_V) z (l0 : mm_V) (l2 : mm_V) (l3 : mm_V) (l4 : mm_V), mm_E d 238 117 [l0, (.inl z), l2, l3, l4] [] st n I L P = mm_E d 238 118 [l0, (.inl z), l2, l3, l4] [] ((.inl z) :: st) n I L P) ∧
  (∀ (lv : List mm_V) z, mm_E d 238 118 lv [] [.inl z] n I L P = some (some (.inl z), n, I, L, P)) :=
  ⟨fun _ _ _ _ _ _ => mq_al (i := 0) rfl rfl,
   fun _ _ _ h0 => mq_getI rfl h0,
   fun _ _ _ => mq_if_ne rfl,
   fun _ _ => mq_push rfl,
   fun _ _ => mq_ri rfl,
   fun _ _ => mq_push rfl,
   fun _ _ _ _ _ _ _ => mq_is (i := 1) rfl rfl rfl,
   fun _ _ => mq_push rfl,
   fun _ _ _ _ _ _ _ => mq_is (i := 2) rfl rfl rfl,
   fun _ _ => mq_push rfl,
   fun _ _ _ _ _ _ => mq_al (i := 0) rfl rfl,
   fun _ _ _ h0 => mq_getI rfl h0,
   fun _ _ _ _ => mq_bi rfl,
   fun _ _ _ _ => mq_ic_ge rfl,
   fun _ _ => mq_push rfl,
   fun _ _ _ _ _ _ _ => mq_is (i := 3) rfl rfl rfl,
   fun _ _ => mq_push rfl,
   fun _ _ _ _ _ _ _ => mq_is (i := 4) rfl rfl rfl,
   fun _ _ _ _ _ _ => mq_al (i := 0) rfl rfl,
   fun _ _ _ h0 => mq_getI rfl h0,
   fun _ _ _ _ => mq_ic_ge rfl,
   fun _ _ _ _ _ _ => mq_il (i := 3) rfl rfl,
   fun _ _ _ _ _ _ => mq_il (i := 2) rfl rfl,
   fun _ _ _ _ _ _ => mq_il (i := 4) rfl rfl,
   fun _ _ _ _ => mq_cSr (na := 2) rfl (Nat.le_of_ble_eq_true rfl) (Nat.le_of_ble_eq_true rfl),
   fun _ _ _ => mq_if_eq rfl,
   fun _ _ _ _ _ _ => mq_al (i := 0) rfl rfl,
   fun _ _ _ _ _ _ => mq_il (i := 4) rfl rfl,
   fun _ _ _ _ h0 => mq_cVr (na := 1) rfl rfl (Nat.le_of_ble_eq_true rfl) (Nat.le_of_ble_eq_true rfl) h0,
   fun _ _ => mq_go rfl,
   fun _ _ => mq_push rfl,
   fun _ _ _ _ => mq_bi rfl,
   fun _ _ _ _ _ _ _ => mq_is (i := 3) rfl rfl rfl,
   fun _ _ _ _ _ _ => mq_iinc (i := 4) rfl rfl rfl rfl,
   fun _ _ => mq_go rfl,
   fun _ _ _ _ _ _ => mq_il (i := 3) rfl rfl,
   fun _ _ => mq_push rfl,
   fun _ _ _ _ _ _ => mq_al (i := 0) rfl rfl,
   fun _ _ _ h0 => mq_getI rfl h0,
   fun _ _ _ _ => mq_bi rfl,
   fun _ _ => mq_push rfl,
   fun _ _ _ _ => mq_bi rfl,
   fun _ _ _ _ => mq_ic_ne rfl,
   fun _ _ => mq_push rfl,
   fun _ _ => mq_go rfl,
   fun _ _ => mq_push rfl,
   fun _ _ _ _ _ _ _ => mq_is (i := 4) rfl rfl rfl,
   fun _ _ _ _ _ _ => mq_il (i := 4) rfl rfl,
   fun _ _ _ => mq_if_eq rfl,
   fun _ _ _ _ _ _ => mq_il (i := 1) rfl rfl,
   fun _ _ => mq_push rfl,
   fun _ _ _ _ => mq_ic_eq rfl,
   fun _ _ _ _ _ _ => mq_il (i := 2) rfl rfl,
   fun _ _ => mq_cSr (na := 1) rfl (Nat.le_of_ble_eq_true rfl) (Nat.le_of_ble_eq_true rfl),
   fun _ _ _ _ _ _ => mq_il (i := 1) rfl rfl,
   fun _ _ _ => mq_cSr (na := 1) rfl (Nat.le_of_ble_eq_true rfl) (Nat.le_of_ble_eq_true rfl),
   fun _ _ _ _ => mq_ic_ge rfl,
   fun _ _ _ _ _ _ => mq_il (i := 2) rfl rfl,
   fun _ _ => mq_go rfl,
   fun _ _ _ _ _ _ => mq_il (i := 1) rfl rfl,
   fun _ _ _ _ _ _ _ => mq_is (i := 1) rfl rfl rfl,
   fun _ _ _ _ _ _ => mq_iinc (i := 2) rfl rfl rfl rfl,
   fun _ _ => mq_go rfl,
   fun _ _ _ _ _ _ => mq_il (i := 1) rfl rfl,
   fun _ _ => mq_ri rfl⟩
theorem hX12_cover_13 (d n : Nat) (I L : mm_I) (P : mm_P) : ∀ (st : List mm_V) z (l0 : mm_V) (l1 : mm_V) (l3 : mm_V) (l4 : mm_V), mm_E d 238 13 [l0, l1, (.inl z), l3, l4] [] st n I L P = mm_E d 238 14 [l0, l1, (.inl z), l3, l4] [] ((.inl z) :: st) n I L P := fun _ _ _ _ _ _ => mq_il (i := 2) rfl rfl
theorem hX12_cover_28 (d n : Nat) (I L : mm_I) (P : mm_P) : ∀ (st : List mm_V) z (l0 : mm_V) (l1 : mm_V) (l2 : mm_V) (l3 : mm_V), mm_E d 238 28 [l0, l1, l2, l3, (.inl z)] [] st n I L P = mm_E d 238 30 [l0, l1, l2, l3, (.inl z)] [] ((.inl z) :: st) n I L P := fun _ _ _ _ _ _ => mq_il (i := 4) rfl rfl
theorem eX12_cover (d n : Nat) (I L : mm_I) (P : mm_P) (x0 : Option Nat) : mm_rn (d + 1) 238 [.inr (.inr x0)] n I L P = mm_E d 238 0 [.inr (.inr x0), mm_junk, mm_junk, mm_junk, mm_junk] [] [] n I L P := rfl

set_option maxRecDepth 20000 in
set_option maxHeartbeats 8000000 in
theorem kX12_seen (d n : Nat) (I L : mm_I) (P : mm_P) :
  (∀ (st : List mm_V) z (l1 : mm_V) (l2 : mm_V) (l3 : mm_V) (l4 : mm_V), mm_E d 239 0 [(.inr (.inr z)), l1, l2, l3, l4] [] st n I L P = mm_E d 239 1 [(.inr (.inr z)), l1, l2, l3, l4] [] ((.inr (.inr z)) :: st) n I L P) ∧
  (∀ (st : List mm_V) z (l0 : mm_V) (l2 : mm_V) (l3 : mm_V) (l4 : mm_V), mm_E d 239 1 [l0, (.inl z), l2, l3, l4] [] st n I L P = mm_E d 239 2 [l0, (.inl z), l2, l3, l4] [] ((.inl z) :: st) n I L P) ∧
  (∀ (lv : List mm_V) a x0, (mm_ok n a 12) → mm_E d 239 2 lv [] (.inl x0 :: .inr (.inr (some a)) :: []) n I L P = mm_kr d 239 5 lv [] [] n (mm_rn d 191 [.inr (.inr (some a)), .inl x0] n I L P)) ∧
  (∀ (lv : List mm_V) (st : List mm_V) a, mm_E d 239 5 lv [] (.inl a :: st) n I L P = if a = 0 then mm_E d 239 37 lv [] st n I L P else mm_E d 239 8 lv [] st n I L P) ∧
  (∀ (st : List mm_V) z (l0 : mm_V) (l1 : mm_V) (l3 : mm_V) (l4 : mm_V), mm_E d 239 8 [l0, l1, (.inl z), l3, l4] [] st n I L P = mm_E d 239 9 [l0, l1, (.inl z), l3, l4] [] ((.inl z) :: st) n I L P) ∧
  (∀ (lv : List mm_V) (st : List mm_V), mm_E d 239 9 lv [] st n I L P = mm_E d 239 10 lv [] (.inl 1 :: st) n I L P) ∧
  (∀ (lv : List mm_V) (st : List mm_V), mm_E d 239 10 lv [] st n I L P = mm_E d 239 12 lv [] (.inl 20 :: st) n I L P) ∧
  (∀ (lv : List mm_V) x0 x1 x2, mm_E d 239 12 lv [] (.inl x2 :: .inl x1 :: .inl x0 :: []) n I L P = mm_kr d 239 15 lv [] [] n (mm_rn d 145 [.inl x0, .inl x1, .inl x2] n I L P)) ∧
  (∀ (lv : List mm_V) (st : List mm_V) a, mm_E d 239 15 lv [] (.inl a :: st) n I L P = if a = 0 then mm_E d 239 37 lv [] st n I L P else mm_E d 239 18 lv [] st n I L P) ∧
  (∀ (st : List mm_V) z (l0 : mm_V) (l1 : mm_V) (l2 : mm_V) (l4 : mm_V), mm_E d 239 18 [l0, l1, l2, (.inl z), l4] [] st n I L P = mm_E d 239 19 [l0, l1, l2, (.inl z), l4] [] ((.inl z) :: st) n I L P) ∧
  (∀ (lv : List mm_V) (st : List mm_V), mm_E d 239 19 lv [] st n I L P = mm_E d 239 20 lv [] (.inl 0 :: st) n I L P) ∧
  (∀ (lv : List mm_V) (st : List mm_V), mm_E d 239 20 lv [] st n I L P = mm_E d 239 22 lv [] (.inl 99 :: st) n I L P) ∧
  (∀ (lv : List mm_V) x0 x1 x2, mm_E d 239 22 lv [] (.inl x2 :: .inl x1 :: .inl x0 :: []) n I L P = mm_kr d 239 25 lv [] [] n (mm_rn d 145 [.inl x0, .inl x1, .inl x2] n I L P)) ∧
  (∀ (lv : List mm_V) (st : List mm_V) a, mm_E d 239 25 lv [] (.inl a :: st) n I L P = if a = 0 then mm_E d 239 37 lv [] st n I L P else mm_E d 239 28 lv [] st n I L P) ∧
  (∀ (st : List mm_V) z (l1 : mm_V) (l2 : mm_V) (l3 : mm_V) (l4 : mm_V), mm_E d 239 28 [(.inr (.inr z)), l1, l2, l3, l4] [] st n I L P = mm_E d 239 29 [(.inr (.inr z)), l1, l2, l3, l4] [] ((.inr (.inr z)) :: st) n I L P) ∧
  (∀ (lv : List mm_V) (st : List mm_V) a, (mm_ok n a 12) → mm_E d 239 29 lv [] (.inr (.inr (some a)) :: st) n I L P = mm_E d 239 32 lv [] (.inl (I a 42) :: st) n I L P) ∧
  (∀ (lv : List mm_V) (st : List mm_V), mm_E d 239 32 lv [] st n I L P = mm_E d 239 34 lv [] (.inl 10 :: st) n I L P) ∧
  (∀ (lv : List mm_V) (st : List mm_V) a b, mm_E d 239 34 lv [] (.inl b :: .inl a :: st) n I L P = if a = b then mm_E d 239 37 lv [] st n I L P else mm_E d 239 39 lv [] st n I L P) ∧
  (∀ (lv : List mm_V) (st : List mm_V), mm_E d 239 37 lv [] st n I L P = mm_E d 239 38 lv [] (.inl (-1) :: st) n I L P) ∧
  (∀ (lv : List mm_V) z, mm_E d 239 38 lv [] [.inl z] n I L P = some (some (.inl z), n, I, L, P)) ∧
  (∀ (st : List mm_V) z (l1 : mm_V) (l2 : mm_V) (l3 : mm_V) (l4 : mm_V), mm_E d 239 39 [(.inr (.inr z)), l1, l2, l3, l4] [] st n I L P = mm_E d 239 40 [(.inr (.inr z)), l1, l2, l3, l4] [] ((.inr (.inr z)) :: st) n I L P) ∧
  (∀ (lv : List mm_V) (st : List mm_V) a, (mm_ok n a 12) → mm_E d 239 40 lv [] (.inr (.inr (some a)) :: st) n I L P = mm_E d 239 43 lv [] (.inr (.inr (P a 38)) :: st) n I L P) ∧
  (∀ (st : List mm_V) z (l1 : mm_V) (l2 : mm_V) (l3 : mm_V) (l4 : mm_V), mm_E d 239 43 [(.inr (.inr z)), l1, l2, l3, l4] [] st n I L P = mm_E d 239 44 [(.inr (.inr z)), l1, l2, l3, l4] [] ((.inr (.inr z)) :: st) n I L P) ∧
  (∀ (lv : List mm_V) (st : List mm_V) a, (mm_ok n a 12) → mm_E d 239 44 lv [] (.inr (.inr (some a)) :: st) n I L P = mm_E d 239 47 lv [] (.inl (I a 42) :: st) n I L P) ∧
  (∀ (st : List mm_V) z (l0 : mm_V) (l2 : mm_V) (l3 : mm_V) (l4 : mm_V), mm_E d 239 47 [l0, (.inl z), l2, l3, l4] [] st n I L P = mm_E d 239 48 [l0, (.inl z), l2, l3, l4] [] ((.inl z) :: st) n I L P) ∧
  (∀ (lv : List mm_V) (st : List mm_V) a i z, (mm_ix n a 20 i) → mm_E d 239 48 lv [] (.inl z :: .inl i :: .inr (.inr (some a)) :: st) n I L P = mm_E d 239 49 lv [] st n (mm_ui I a i.toNat z) L P) ∧
  (∀ (st : List mm_V) z (l1 : mm_V) (l2 : mm_V) (l3 : mm_V) (l4 : mm_V), mm_E d 239 49 [(.inr (.inr z)), l1, l2, l3, l4] [] st n I L P = mm_E d 239 50 [(.inr (.inr z)), l1, l2, l3, l4] [] ((.inr (.inr z)) :: st) n I L P) ∧
  (∀ (lv : List mm_V) (st : List mm_V) a, (mm_ok n a 12) → mm_E d 239 50 lv [] (.inr (.inr (some a)) :: st) n I L P = mm_E d 239 53 lv [] (.inr (.inr (P a 39)) :: st) n I L P) ∧
  (∀ (st : List mm_V) z (l1 : mm_V) (l2 : mm_V) (l3 : mm_V) (l4 : mm_V), mm_E d 239 53 [(.inr (.inr z)), l1, l2, l3, l4] [] st n I L P = mm_E d 239 54 [(.inr (.inr z)), l1, l2, l3, l4] [] ((.inr (.inr z)) :: st) n I L P) ∧
  (∀ (lv : List mm_V) (st : List mm_V) a, (mm_ok n a 12) → mm_E d 239 54 lv [] (.inr (.inr (some a)) :: st) n I L P = mm_E d 239 57 lv [] (.inl (I a 42) :: st) n I L P) ∧
  (∀ (st : List mm_V) z (l0 : mm_V) (l1 : mm_V) (l3 : mm_V) (l4 : mm_V), mm_E d 239 57 [l0, l1, (.inl z), l3, l4] [] st n I L P = mm_E d 239 58 [l0, l1, (.inl z), l3, l4] [] ((.inl z) :: st) n I L P) ∧
  (∀ (lv : List mm_V) (st : List mm_V) a i z, (mm_ix n a 20 i) → mm_E d 239 58 lv [] (.inl z :: .inl i :: .inr (.inr (some a)) :: st) n I L P = mm_E d 239 59 lv [] st n (mm_ui I a i.toNat z) L P) ∧
  (∀ (st : List mm_V) z (l1 : mm_V) (l2 : mm_V) (l3 : mm_V) (l4 : mm_V), mm_E d 239 59 [(.inr (.inr z)), l1, l2, l3, l4] [] st n I L P = mm_E d 239 60 [(.inr (.inr z)), l1, l2, l3, l4] [] ((.inr (.inr z)) :: st) n I L P) ∧
  (∀ (lv : List mm_V) (st : List mm_V) a, (mm_ok n a 12) → mm_E d 239 60 lv [] (.inr (.inr (some a)) :: st) n I L P = mm_E d 239 63 lv [] (.inr (.inr (P a 40)) :: st) n I L P) ∧
  (∀ (st : List mm_V) z (l1 : mm_V) (l2 : mm_V) (l3 : mm_V) (l4 : mm_V), mm_E d 239 63 [(.inr (.inr z)), l1, l2, l3, l4] [] st n I L P = mm_E d 239 64 [(.inr (.inr z)), l1, l2, l3, l4] [] ((.inr (.inr z)) :: st) n I L P) ∧
  (∀ (lv : List mm_V) (st : List mm_V) a, (mm_ok n a 12) → mm_E d 239 64 lv [] (.inr (.inr (some a)) :: st) n I L P = mm_E d 239 67 lv [] (.inl (I a 42) :: st) n I L P) ∧
  (∀ (st : List mm_V) z (l0 : mm_V) (l1 : mm_V) (l2 : mm_V) (l4 : mm_V), mm_E d 239 67 [l0, l1, l2, (.inl z), l4] [] st n I L P = mm_E d 239 68 [l0, l1, l2, (.inl z), l4] [] ((.inl z) :: st) n I L P) ∧
  (∀ (lv : List mm_V) (st : List mm_V) a i z, (mm_ix n a 20 i) → mm_E d 239 68 lv [] (.inl z :: .inl i :: .inr (.inr (some a)) :: st) n I L P = mm_E d 239 69 lv [] st n (mm_ui I a i.toNat z) L P) ∧
  (∀ (st : List mm_V) z (l1 : mm_V) (l2 : mm_V) (l3 : mm_V) (l4 : mm_V), mm_E d 239 69 [(.inr (.inr z)), l1, l2, l3, l4] [] st n I L P = mm_E d 239 70 [(.inr (.inr z)), l1, l2, l3, l4] [] ((.inr (.inr z)) :: st) n I L P) ∧
  (∀ (lv : List mm_V) (st : List mm_V) a, (mm_ok n a 12) → mm_E d 239 70 lv [] (.inr (.inr (some a)) :: st) n I L P = mm_E d 239 73 lv [] (.inr (.inr (P a 41)) :: st) n I L P) ∧
  (∀ (st : List mm_V) z (l1 : mm_V) (l2 : mm_V) (l3 : mm_V) (l4 : mm_V), mm_E d 239 73 [(.inr (.inr z)), l1, l2, l3, l4] [] st n I L P = mm_E d 239 74 [(.inr (.inr z)), l1, l2, l3, l4] [] ((.inr (.inr z)) :: st) n I L P) ∧
  (∀ (lv : List mm_V) (st : List mm_V) a, (mm_ok n a 12) → mm_E d 239 74 lv [] (.inr (.inr (some a)) :: st) n I L P = mm_E d 239 77 lv [] (.inl (I a 42) :: st) n I L P) ∧
  (∀ (st : List mm_V) z (l0 : mm_V) (l1 : mm_V) (l2 : mm_V) (l3 : mm_V), mm_E d 239 77 [l0, l1, l2, l3, (.inl z)] [] st n I L P = mm_E d 239 79 [l0, l1, l2, l3, (.inl z)] [] ((.inl z) :: st) n I L P) ∧
  (∀ (lv : List mm_V) (st : List mm_V) a i z, (mm_ix n a 21 i) → (z = 0 ∨ z = 1) → mm_E d 239 79 lv [] (.inl z :: .inl i :: .inr (.inr (some a)) :: st) n I L P = mm_E d 239 80 lv [] st n (mm_ui I a i.toNat z) L P) ∧
  (∀ (st : List mm_V) z (l1 : mm_V) (l2 : mm_V) (l3 : mm_V) (l4 : mm_V), mm_E d 239 80 [(.inr (.inr z)), l1, l2, l3, l4] [] st n I L P = mm_E d 239 81 [(.inr (.inr z)), l1, l2, l3, l4] [] ((.inr (.inr z)) :: st) n I L P) ∧
  (∀ (lv : List mm_V) (st : List mm_V) a, mm_E d 239 81 lv [] ((.inr (.inr a)) :: st) n I L P = mm_E d 239 82 lv [] ((.inr (.inr a)) :: (.inr (.inr a)) :: st) n I L P) ∧
  (∀ (lv : List mm_V) (st : List mm_V) a, (mm_ok n a 12) → mm_E d 239 82 lv [] (.inr (.inr (some a)) :: st) n I L P = mm_E d 239 85 lv [] (.inl (I a 42) :: st) n I L P) ∧
  (∀ (lv : List mm_V) (st : List mm_V), mm_E d 239 85 lv [] st n I L P = mm_E d 239 86 lv [] (.inl 1 :: st) n I L P) ∧
  (∀ (lv : List mm_V) (st : List mm_V) a b, mm_E d 239 86 lv [] (.inl b :: .inl a :: st) n I L P = mm_E d 239 87 lv [] (.inl (mm_add a b) :: st) n I L P) ∧
  (∀ (lv : List mm_V) (st : List mm_V) a z, (mm_ok n a 12) → mm_E d 239 87 lv [] (.inl z :: .inr (.inr (some a)) :: st) n I L P = mm_E d 239 90 lv [] st n (mm_ui I a 42 z) L P) ∧
  (∀ (st : List mm_V) z (l1 : mm_V) (l2 : mm_V) (l3 : mm_V) (l4 : mm_V), mm_E d 239 90 [(.inr (.inr z)), l1, l2, l3, l4] [] st n I L P = mm_E d 239 91 [(.inr (.inr z)), l1, l2, l3, l4] [] ((.inr (.inr z)) :: st) n I L P) ∧
  (∀ (lv : List mm_V) (st : List mm_V) a, (mm_ok n a 12) → mm_E d 239 91 lv [] (.inr (.inr (some a)) :: st) n I L P = mm_E d 239 94 lv [] (.inl (I a 42) :: st) n I L P) ∧
  (∀ (lv : List mm_V) z, mm_E d 239 94 lv [] [.inl z] n I L P = some (some (.inl z), n, I, L, P)) :=
  ⟨fun _ _ _ _ _ _ => mq_al (i := 0) rfl rfl,
   fun _ _ _ _ _ _ => mq_il (i := 1) rfl rfl,
   fun _ _ _ h0 => mq_cVr (na := 1) rfl rfl (Nat.le_of_ble_eq_true rfl) (Nat.le_of_ble_eq_true rfl) h0,
   fun _ _ _ => mq_if_eq rfl,
   fun _ _ _ _ _ _ => mq_il (i := 2) rfl rfl,
   fun _ _ => mq_push rfl,
   fun _ _ => mq_push rfl,
   fun _ _ _ _ => mq_cSr (na := 3) rfl (Nat.le_of_ble_eq_true rfl) (Nat.le_of_ble_eq_true rfl),
   fun _ _ _ => mq_if_eq rfl,
   fun _ _ _ _ _ _ => mq_il (i := 3) rfl rfl,
   fun _ _ => mq_push rfl,
   fun _ _ => mq_push rfl,
   fun _ _ _ _ => mq_cSr (na := 3) rfl (Nat.le_of_ble_eq_true rfl) (Nat.le_of_ble_eq_true rfl),
   fun _ _ _ => mq_if_eq rfl,
   fun _ _ _ _ _ _ => mq_al (i := 0) rfl rfl,
   fun _ _ _ h0 => mq_getI rfl h0,
   fun _ _ => mq_push rfl,
   fun _ _ _ _ => mq_ic_ne rfl,
   fun _ _ => mq_push rfl,
   fun _ _ => mq_ri rfl,
   fun _ _ _ _ _ _ => mq_al (i := 0) rfl rfl,
   fun _ _ _ h0 => mq_getR rfl h0,
   fun _ _ _ _ _ _ => mq_al (i := 0) rfl rfl,
   fun _ _ _ h0 => mq_getI rfl h0,
   fun _ _ _ _ _ _ => mq_il (i := 1) rfl rfl,
   fun _ _ _ _ _ h0 => mq_iast rfl h0,
   fun _ _ _ _ _ _ => mq_al (i := 0) rfl rfl,
   fun _ _ _ h0 => mq_getR rfl h0,
   fun _ _ _ _ _ _ => mq_al (i := 0) rfl rfl,
   fun _ _ _ h0 => mq_getI rfl h0,
   fun _ _ _ _ _ _ => mq_il (i := 2) rfl rfl,
   fun _ _ _ _ _ h0 => mq_iast rfl h0,
   fun _ _ _ _ _ _ => mq_al (i := 0) rfl rfl,
   fun _ _ _ h0 => mq_getR rfl h0,
   fun _ _ _ _ _ _ => mq_al (i := 0) rfl rfl,
   fun _ _ _ h0 => mq_getI rfl h0,
   fun _ _ _ _ _ _ => mq_il (i := 3) rfl rfl,
   fun _ _ _ _ _ h0 => mq_iast rfl h0,
   fun _ _ _ _ _ _ => mq_al (i := 0) rfl rfl,
   fun _ _ _ h0 => mq_getR rfl h0,
   fun _ _ _ _ _ _ => mq_al (i := 0) rfl rfl,
   fun _ _ _ h0 => mq_getI rfl h0,
   fun _ _ _ _ _ _ => mq_il (i := 4) rfl rfl,
   fun _ _ _ _ _ h0 h1 => mq_bast rfl h0 h1,
   fun _ _ _ _ _ _ => mq_al (i := 0) rfl rfl,
   fun _ _ _ => mq_dup rfl rfl,
   fun _ _ _ h0 => mq_getI rfl h0,
   fun _ _ => mq_push rfl,
   fun _ _ _ _ => mq_bi rfl,
   fun _ _ _ _ h0 => mq_putI rfl h0,
   fun _ _ _ _ _ _ => mq_al (i := 0) rfl rfl,
   fun _ _ _ h0 => mq_getI rfl h0,
   fun _ _ => mq_ri rfl⟩
theorem eX12_seen (d n : Nat) (I L : mm_I) (P : mm_P) (x0 : Option Nat) (x1 : Int) (x2 : Int) (x3 : Int) (x4 : Int) : mm_rn (d + 1) 239 [.inr (.inr x0), .inl x1, .inl x2, .inl x3, .inl x4] n I L P = mm_E d 239 0 [.inr (.inr x0), .inl x1, .inl x2, .inl x3, .inl x4] [] [] n I L P := rfl

set_option maxRecDepth 20000 in
set_option maxHeartbeats 8000000 in
theorem kX12_layTrail (d n : Nat) (I L : mm_I) (P : mm_P) :
  (∀ (st : List mm_V) z (l1 : mm_V) (l2 : mm_V) (l3 : mm_V), mm_E d 240 0 [(.inr (.inr z)), l1, l2, l3] [] st n I L P = mm_E d 240 1 [(.inr (.inr z)), l1, l2, l3] [] ((.inr (.inr z)) :: st) n I L P) ∧
  (∀ (lv : List mm_V) (st : List mm_V), mm_E d 240 1 lv [] st n I L P = mm_E d 240 2 lv [] (.inl 0 :: st) n I L P) ∧
  (∀ (lv : List mm_V) a x0, (mm_ok n a 12) → mm_E d 240 2 lv [] (.inl x0 :: .inr (.inr (some a)) :: []) n I L P = mm_kv d 240 5 lv [] [] n (mm_rn d 223 [.inr (.inr (some a)), .inl x0] n I L P)) ∧
  (∀ (st : List mm_V) z (l1 : mm_V) (l2 : mm_V) (l3 : mm_V), mm_E d 240 5 [(.inr (.inr z)), l1, l2, l3] [] st n I L P = mm_E d 240 6 [(.inr (.inr z)), l1, l2, l3] [] ((.inr (.inr z)) :: st) n I L P) ∧
  (∀ (lv : List mm_V) a, (mm_ok n a 12) → mm_E d 240 6 lv [] (.inr (.inr (some a)) :: []) n I L P = mm_kv d 240 9 lv [] [] n (mm_rn d 187 [.inr (.inr (some a))] n I L P)) ∧
  (∀ (st : List mm_V) z (l1 : mm_V) (l2 : mm_V) (l3 : mm_V), mm_E d 240 9 [(.inr (.inr z)), l1, l2, l3] [] st n I L P = mm_E d 240 10 [(.inr (.inr z)), l1, l2, l3] [] ((.inr (.inr z)) :: st) n I L P) ∧
  (∀ (st : List mm_V) z (l0 : mm_V) (l2 : mm_V) (l3 : mm_V), mm_E d 240 10 [l0, (.inl z), l2, l3] [] st n I L P = mm_E d 240 11 [l0, (.inl z), l2, l3] [] ((.inl z) :: st) n I L P) ∧
  (∀ (lv : List mm_V) (st : List mm_V), mm_E d 240 11 lv [] st n I L P = mm_E d 240 13 lv [] (.inl 100 :: st) n I L P) ∧
  (∀ (lv : List mm_V) (st : List mm_V) a b, (¬ b = 0) → mm_E d 240 13 lv [] (.inl b :: .inl a :: st) n I L P = mm_E d 240 14 lv [] (.inl (mm_w (Int.tdiv a b)) :: st) n I L P) ∧
  (∀ (st : List mm_V) z (l0 : mm_V) (l2 : mm_V) (l3 : mm_V), mm_E d 240 14 [l0, (.inl z), l2, l3] [] st n I L P = mm_E d 240 15 [l0, (.inl z), l2, l3] [] ((.inl z) :: st) n I L P) ∧
  (∀ (lv : List mm_V) (st : List mm_V), mm_E d 240 15 lv [] st n I L P = mm_E d 240 17 lv [] (.inl 10 :: st) n I L P) ∧
  (∀ (lv : List mm_V) (st : List mm_V) a b, (¬ b = 0) → mm_E d 240 17 lv [] (.inl b :: .inl a :: st) n I L P = mm_E d 240 18 lv [] (.inl (mm_w (Int.tdiv a b)) :: st) n I L P) ∧
  (∀ (lv : List mm_V) (st : List mm_V), mm_E d 240 18 lv [] st n I L P = mm_E d 240 20 lv [] (.inl 10 :: st) n I L P) ∧
  (∀ (lv : List mm_V) (st : List mm_V) a b, (¬ b = 0) → mm_E d 240 20 lv [] (.inl b :: .inl a :: st) n I L P = mm_E d 240 21 lv [] (.inl (mm_w (Int.tmod a b)) :: st) n I L P) ∧
  (∀ (st : List mm_V) z (l0 : mm_V) (l2 : mm_V) (l3 : mm_V), mm_E d 240 21 [l0, (.inl z), l2, l3] [] st n I L P = mm_E d 240 22 [l0, (.inl z), l2, l3] [] ((.inl z) :: st) n I L P) ∧
  (∀ (lv : List mm_V) (st : List mm_V), mm_E d 240 22 lv [] st n I L P = mm_E d 240 24 lv [] (.inl 10 :: st) n I L P) ∧
  (∀ (lv : List mm_V) (st : List mm_V) a b, (¬ b = 0) → mm_E d 240 24 lv [] (.inl b :: .inl a :: st) n I L P = mm_E d 240 25 lv [] (.inl (mm_w (Int.tmod a b)) :: st) n I L P) ∧
  (∀ (lv : List mm_V) a x0 x1 x2, (mm_ok n a 12) → mm_E d 240 25 lv [] (.inl x2 :: .inl x1 :: .inl x0 :: .inr (.inr (some a)) :: []) n I L P = mm_kv d 240 28 lv [] [] n (mm_rn d 214 [.inr (.inr (some a)), .inl x0, .inl x1, .inl x2] n I L P)) ∧
  (∀ (lv : List mm_V) (st : List mm_V), mm_E d 240 28 lv [] st n I L P = mm_E d 240 29 lv [] (.inl 0 :: st) n I L P) ∧
  (∀ (st : List mm_V) z (l0 : mm_V) (l1 : mm_V) (l2 : mm_V) (l3 : mm_V), mm_E d 240 29 [l0, l1, l2, l3] [] ((.inl z) :: st) n I L P = mm_E d 240 30 [l0, l1, (.inl z), l3] [] st n I L P) ∧
  (∀ (lv : List mm_V) (st : List mm_V), mm_E d 240 31 lv [] st n I L P = mm_E d 240 33 lv [] (.inl 20 :: st) n I L P) ∧
  (∀ (lv : List mm_V) (st : List mm_V) a b, mm_E d 240 33 lv [] (.inl b :: .inl a :: st) n I L P = if b < a then mm_E d 240 80 lv [] st n I L P else mm_E d 240 36 lv [] st n I L P) ∧
  (∀ (lv : List mm_V) (st : List mm_V), mm_E d 240 36 lv [] st n I L P = mm_E d 240 37 lv [] (.inl 0 :: st) n I L P) ∧
  (∀ (st : List mm_V) z (l0 : mm_V) (l1 : mm_V) (l2 : mm_V) (l3 : mm_V), mm_E d 240 37 [l0, l1, l2, l3] [] ((.inl z) :: st) n I L P = mm_E d 240 38 [l0, l1, l2, (.inl z)] [] st n I L P) ∧
  (∀ (lv : List mm_V) (st : List mm_V), mm_E d 240 39 lv [] st n I L P = mm_E d 240 41 lv [] (.inl 8 :: st) n I L P) ∧
  (∀ (lv : List mm_V) (st : List mm_V) a b, mm_E d 240 41 lv [] (.inl b :: .inl a :: st) n I L P = if b ≤ a then mm_E d 240 69 lv [] st n I L P else mm_E d 240 44 lv [] st n I L P) ∧
  (∀ (st : List mm_V) z (l1 : mm_V) (l2 : mm_V) (l3 : mm_V), mm_E d 240 44 [(.inr (.inr z)), l1, l2, l3] [] st n I L P = mm_E d 240 45 [(.inr (.inr z)), l1, l2, l3] [] ((.inr (.inr z)) :: st) n I L P) ∧
  (∀ (lv : List mm_V) (st : List mm_V) a, (mm_ok n a 12) → mm_E d 240 45 lv [] (.inr (.inr (some a)) :: st) n I L P = mm_E d 240 48 lv [] (.inr (.inr (P a 43)) :: st) n I L P) ∧
  (∀ (lv : List mm_V) (st : List mm_V), mm_E d 240 48 lv [] st n I L P = mm_E d 240 50 lv [] (.inl 8 :: st) n I L P) ∧
  (∀ (st : List mm_V) z (l0 : mm_V) (l1 : mm_V) (l3 : mm_V), mm_E d 240 50 [l0, l1, (.inl z), l3] [] st n I L P = mm_E d 240 51 [l0, l1, (.inl z), l3] [] ((.inl z) :: st) n I L P) ∧
  (∀ (lv : List mm_V) (st : List mm_V) a b, mm_E d 240 51 lv [] (.inl b :: .inl a :: st) n I L P = mm_E d 240 52 lv [] (.inl (mm_mul a b) :: st) n I L P) ∧
  (∀ (st : List mm_V) z (l0 : mm_V) (l1 : mm_V) (l2 : mm_V), mm_E d 240 52 [l0, l1, l2, (.inl z)] [] st n I L P = mm_E d 240 53 [l0, l1, l2, (.inl z)] [] ((.inl z) :: st) n I L P) ∧
  (∀ (lv : List mm_V) (st : List mm_V) a b, mm_E d 240 53 lv [] (.inl b :: .inl a :: st) n I L P = mm_E d 240 54 lv [] (.inl (mm_add a b) :: st) n I L P) ∧
  (∀ (st : List mm_V) z (l1 : mm_V) (l2 : mm_V) (l3 : mm_V), mm_E d 240 54 [(.inr (.inr z)), l1, l2, l3] [] st n I L P = mm_E d 240 55 [(.inr (.inr z)), l1, l2, l3] [] ((.inr (.inr z)) :: st) n I L P) ∧
  (∀ (lv : List mm_V) (st : List mm_V) a, (mm_ok n a 12) → mm_E d 240 55 lv [] (.inr (.inr (some a)) :: st) n I L P = mm_E d 240 58 lv [] (.inr (.inr (P a 27)) :: st) n I L P) ∧
  (∀ (lv : List mm_V) (st : List mm_V), mm_E d 240 58 lv [] st n I L P = mm_E d 240 59 lv [] (.inl 0 :: st) n I L P) ∧
  (∀ (st : List mm_V) z (l0 : mm_V) (l1 : mm_V) (l2 : mm_V), mm_E d 240 59 [l0, l1, l2, (.inl z)] [] st n I L P = mm_E d 240 60 [l0, l1, l2, (.inl z)] [] ((.inl z) :: st) n I L P) ∧
  (∀ (lv : List mm_V) (st : List mm_V) a b, mm_E d 240 60 lv [] (.inl b :: .inl a :: st) n I L P = mm_E d 240 61 lv [] (.inl (mm_add a b) :: st) n I L P) ∧
  (∀ (lv : List mm_V) (st : List mm_V) a i, (mm_ix n a 20 i) → mm_E d 240 61 lv [] (.inl i :: .inr (.inr (some a)) :: st) n I L P = mm_E d 240 62 lv [] (.inl (I a i.toNat) :: st) n I L P) ∧
  (∀ (lv : List mm_V) (st : List mm_V) a i z, (mm_ix n a 20 i) → mm_E d 240 62 lv [] (.inl z :: .inl i :: .inr (.inr (some a)) :: st) n I L P = mm_E d 240 63 lv [] st n (mm_ui I a i.toNat z) L P) ∧
  (∀ (st : List mm_V) z (l0 : mm_V) (l1 : mm_V) (l2 : mm_V), mm_E d 240 63 [l0, l1, l2, (.inl z)] [] st n I L P = mm_E d 240 66 [l0, l1, l2, (.inl (mm_add z 1))] [] st n I L P) ∧
  (∀ (lv : List mm_V) (st : List mm_V), mm_E d 240 66 lv [] st n I L P = mm_E d 240 38 lv [] st n I L P) ∧
  (∀ (st : List mm_V) z (l1 : mm_V) (l2 : mm_V) (l3 : mm_V), mm_E d 240 69 [(.inr (.inr z)), l1, l2, l3] [] st n I L P = mm_E d 240 70 [(.inr (.inr z)), l1, l2, l3] [] ((.inr (.inr z)) :: st) n I L P) ∧
  (∀ (lv : List mm_V) a, (mm_ok n a 12) → mm_E d 240 70 lv [] (.inr (.inr (some a)) :: []) n I L P = mm_kr d 240 73 lv [] [] n (mm_rn d 198 [.inr (.inr (some a))] n I L P)) ∧
  (∀ (lv : List mm_V) (st : List mm_V) a, mm_E d 240 73 lv [] ((.inl a) :: st) n I L P = mm_E d 240 74 lv [] st n I L P) ∧
  (∀ (st : List mm_V) z (l0 : mm_V) (l1 : mm_V) (l3 : mm_V), mm_E d 240 74 [l0, l1, (.inl z), l3] [] st n I L P = mm_E d 240 77 [l0, l1, (.inl (mm_add z 1)), l3] [] st n I L P) ∧
  (∀ (lv : List mm_V) (st : List mm_V), mm_E d 240 77 lv [] st n I L P = mm_E d 240 30 lv [] st n I L P) ∧
  (∀ (st : List mm_V) z (l1 : mm_V) (l2 : mm_V) (l3 : mm_V), mm_E d 240 80 [(.inr (.inr z)), l1, l2, l3] [] st n I L P = mm_E d 240 81 [(.inr (.inr z)), l1, l2, l3] [] ((.inr (.inr z)) :: st) n I L P) ∧
  (∀ (lv : List mm_V) (st : List mm_V), mm_E d 240 81 lv [] st n I L P = mm_E d 240 82 lv [] (.inl 0 :: st) n I L P) ∧
  (∀ (lv : List mm_V) a x0, (mm_ok n a 12) → mm_E d 240 82 lv [] (.inl x0 :: .inr (.inr (some a)) :: []) n I L P = mm_kv d 240 85 lv [] [] n (mm_rn d 224 [.inr (.inr (some a)), .inl x0] n I L P)) ∧
  (∀ (lv : List mm_V), mm_E d 240 85 lv [] [] n I L P = some (none, n, I, L, P)) :=
  ⟨fun _ _ _ _ _ => mq_al (i := 0) rfl rfl,
   fun _ _ => mq_push rfl,
   fun _ _ _ h0 => mq_cVv (na := 1) rfl rfl (Nat.le_of_ble_eq_true rfl) (Nat.le_of_ble_eq_true rfl) h0,
   fun _ _ _ _ _ => mq_al (i := 0) rfl rfl,
   fun _ _ h0 => mq_cVv (na := 0) rfl rfl (Nat.le_of_ble_eq_true rfl) (Nat.le_of_ble_eq_true rfl) h0,
   fun _ _ _ _ _ => mq_al (i := 0) rfl rfl,
   fun _ _ _ _ _ => mq_il (i := 1) rfl rfl,
   fun _ _ => mq_push rfl,
   fun _ _ _ _ h0 => mq_di rfl h0,
   fun _ _ _ _ _ => mq_il (i := 1) rfl rfl,
   fun _ _ => mq_push rfl,
   fun _ _ _ _ h0 => mq_di rfl h0,
   fun _ _ => mq_push rfl,
   fun _ _ _ _ h0 => mq_di rfl h0,
   fun _ _ _ _ _ => mq_il (i := 1) rfl rfl,
   fun _ _ => mq_push rfl,
   fun _ _ _ _ h0 => mq_di rfl h0,
   fun _ _ _ _ _ h0 => mq_cVv (na := 3) rfl rfl (Nat.le_of_ble_eq_true rfl) (Nat.le_of_ble_eq_true rfl) h0,
   fun _ _ => mq_push rfl,
   fun _ _ _ _ _ _ => mq_is (i := 2) rfl rfl rfl,
   fun _ _ => mq_push rfl,
   fun _ _ _ _ => mq_ic_gt rfl,
   fun _ _ => mq_push rfl,
   fun _ _ _ _ _ _ => mq_is (i := 3) rfl rfl rfl,
   fun _ _ => mq_push rfl,
   fun _ _ _ _ => mq_ic_ge rfl,
   fun _ _ _ _ _ => mq_al (i := 0) rfl rfl,
   fun _ _ _ h0 => mq_getR rfl h0,
   fun _ _ => mq_push rfl,
   fun _ _ _ _ _ => mq_il (i := 2) rfl rfl,
   fun _ _ _ _ => mq_bi rfl,
   fun _ _ _ _ _ => mq_il (i := 3) rfl rfl,
   fun _ _ _ _ => mq_bi rfl,
   fun _ _ _ _ _ => mq_al (i := 0) rfl rfl,
   fun _ _ _ h0 => mq_getR rfl h0,
   fun _ _ => mq_push rfl,
   fun _ _ _ _ _ => mq_il (i := 3) rfl rfl,
   fun _ _ _ _ => mq_bi rfl,
   fun _ _ _ _ h0 => mq_iald rfl h0,
   fun _ _ _ _ _ h0 => mq_iast rfl h0,
   fun _ _ _ _ _ => mq_iinc (i := 3) rfl rfl rfl rfl,
   fun _ _ => mq_go rfl,
   fun _ _ _ _ _ => mq_al (i := 0) rfl rfl,
   fun _ _ h0 => mq_cVr (na := 0) rfl rfl (Nat.le_of_ble_eq_true rfl) (Nat.le_of_ble_eq_true rfl) h0,
   fun _ _ _ => mq_pop rfl rfl,
   fun _ _ _ _ _ => mq_iinc (i := 2) rfl rfl rfl rfl,
   fun _ _ => mq_go rfl,
   fun _ _ _ _ _ => mq_al (i := 0) rfl rfl,
   fun _ _ => mq_push rfl,
   fun _ _ _ h0 => mq_cVv (na := 1) rfl rfl (Nat.le_of_ble_eq_true rfl) (Nat.le_of_ble_eq_true rfl) h0,
   fun _ => mq_rv rfl⟩
theorem hX12_layTrail_30 (d n : Nat) (I L : mm_I) (P : mm_P) : ∀ (st : List mm_V) z (l0 : mm_V) (l1 : mm_V) (l3 : mm_V), mm_E d 240 30 [l0, l1, (.inl z), l3] [] st n I L P = mm_E d 240 31 [l0, l1, (.inl z), l3] [] ((.inl z) :: st) n I L P := fun _ _ _ _ _ => mq_il (i := 2) rfl rfl
theorem hX12_layTrail_38 (d n : Nat) (I L : mm_I) (P : mm_P) : ∀ (st : List mm_V) z (l0 : mm_V) (l1 : mm_V) (l2 : mm_V), mm_E d 240 38 [l0, l1, l2, (.inl z)] [] st n I L P = mm_E d 240 39 [l0, l1, l2, (.inl z)] [] ((.inl z) :: st) n I L P := fun _ _ _ _ _ => mq_il (i := 3) rfl rfl
theorem eX12_layTrail (d n : Nat) (I L : mm_I) (P : mm_P) (x0 : Option Nat) (x1 : Int) : mm_rn (d + 1) 240 [.inr (.inr x0), .inl x1] n I L P = mm_E d 240 0 [.inr (.inr x0), .inl x1, mm_junk, mm_junk] [] [] n I L P := rfl

set_option maxRecDepth 20000 in
set_option maxHeartbeats 8000000 in
theorem kX12_isCode (d n : Nat) (I L : mm_I) (P : mm_P) :
  (∀ (st : List mm_V) z (l0 : mm_V), mm_E d 241 0 [l0, (.inl z)] [] st n I L P = mm_E d 241 1 [l0, (.inl z)] [] ((.inl z) :: st) n I L P) ∧
  (∀ (lv : List mm_V) (st : List mm_V), mm_E d 241 1 lv [] st n I L P = mm_E d 241 3 lv [] (.inl 100 :: st) n I L P) ∧
  (∀ (lv : List mm_V) (st : List mm_V) a b, (¬ b = 0) → mm_E d 241 3 lv [] (.inl b :: .inl a :: st) n I L P = mm_E d 241 4 lv [] (.inl (mm_w (Int.tdiv a b)) :: st) n I L P) ∧
  (∀ (st : List mm_V) z (l1 : mm_V), mm_E d 241 4 [(.inr (.inr z)), l1] [] st n I L P = mm_E d 241 5 [(.inr (.inr z)), l1] [] ((.inr (.inr z)) :: st) n I L P) ∧
  (∀ (lv : List mm_V) (st : List mm_V) a, (mm_ok n a 12) → mm_E d 241 5 lv [] (.inr (.inr (some a)) :: st) n I L P = mm_E d 241 8 lv [] (.inl (I a 26) :: st) n I L P) ∧
  (∀ (lv : List mm_V) (st : List mm_V) a b, mm_E d 241 8 lv [] (.inl b :: .inl a :: st) n I L P = if b ≤ a then mm_E d 241 33 lv [] st n I L P else mm_E d 241 11 lv [] st n I L P) ∧
  (∀ (st : List mm_V) z (l0 : mm_V), mm_E d 241 11 [l0, (.inl z)] [] st n I L P = mm_E d 241 12 [l0, (.inl z)] [] ((.inl z) :: st) n I L P) ∧
  (∀ (lv : List mm_V) (st : List mm_V), mm_E d 241 12 lv [] st n I L P = mm_E d 241 14 lv [] (.inl 10 :: st) n I L P) ∧
  (∀ (lv : List mm_V) (st : List mm_V) a b, (¬ b = 0) → mm_E d 241 14 lv [] (.inl b :: .inl a :: st) n I L P = mm_E d 241 15 lv [] (.inl (mm_w (Int.tdiv a b)) :: st) n I L P) ∧
  (∀ (lv : List mm_V) (st : List mm_V), mm_E d 241 15 lv [] st n I L P = mm_E d 241 17 lv [] (.inl 10 :: st) n I L P) ∧
  (∀ (lv : List mm_V) (st : List mm_V) a b, (¬ b = 0) → mm_E d 241 17 lv [] (.inl b :: .inl a :: st) n I L P = mm_E d 241 18 lv [] (.inl (mm_w (Int.tmod a b)) :: st) n I L P) ∧
  (∀ (lv : List mm_V) (st : List mm_V), mm_E d 241 18 lv [] st n I L P = mm_E d 241 19 lv [] (.inl 2 :: st) n I L P) ∧
  (∀ (lv : List mm_V) (st : List mm_V) a b, mm_E d 241 19 lv [] (.inl b :: .inl a :: st) n I L P = if b < a then mm_E d 241 33 lv [] st n I L P else mm_E d 241 22 lv [] st n I L P) ∧
  (∀ (st : List mm_V) z (l0 : mm_V), mm_E d 241 22 [l0, (.inl z)] [] st n I L P = mm_E d 241 23 [l0, (.inl z)] [] ((.inl z) :: st) n I L P) ∧
  (∀ (lv : List mm_V) (st : List mm_V), mm_E d 241 23 lv [] st n I L P = mm_E d 241 25 lv [] (.inl 10 :: st) n I L P) ∧
  (∀ (lv : List mm_V) (st : List mm_V) a b, (¬ b = 0) → mm_E d 241 25 lv [] (.inl b :: .inl a :: st) n I L P = mm_E d 241 26 lv [] (.inl (mm_w (Int.tmod a b)) :: st) n I L P) ∧
  (∀ (lv : List mm_V) (st : List mm_V) a, mm_E d 241 26 lv [] (.inl a :: st) n I L P = if a ≤ 0 then mm_E d 241 33 lv [] st n I L P else mm_E d 241 29 lv [] st n I L P) ∧
  (∀ (lv : List mm_V) (st : List mm_V), mm_E d 241 29 lv [] st n I L P = mm_E d 241 30 lv [] (.inl 1 :: st) n I L P) ∧
  (∀ (lv : List mm_V) (st : List mm_V), mm_E d 241 30 lv [] st n I L P = mm_E d 241 34 lv [] st n I L P) ∧
  (∀ (lv : List mm_V) (st : List mm_V), mm_E d 241 33 lv [] st n I L P = mm_E d 241 34 lv [] (.inl 0 :: st) n I L P) ∧
  (∀ (lv : List mm_V) z, (0 ≤ z ∧ z < 2) → mm_E d 241 34 lv [] [.inl z] n I L P = some (some (.inl z), n, I, L, P)) :=
  ⟨fun _ _ _ => mq_il (i := 1) rfl rfl,
   fun _ _ => mq_push rfl,
   fun _ _ _ _ h0 => mq_di rfl h0,
   fun _ _ _ => mq_al (i := 0) rfl rfl,
   fun _ _ _ h0 => mq_getI rfl h0,
   fun _ _ _ _ => mq_ic_ge rfl,
   fun _ _ _ => mq_il (i := 1) rfl rfl,
   fun _ _ => mq_push rfl,
   fun _ _ _ _ h0 => mq_di rfl h0,
   fun _ _ => mq_push rfl,
   fun _ _ _ _ h0 => mq_di rfl h0,
   fun _ _ => mq_push rfl,
   fun _ _ _ _ => mq_ic_gt rfl,
   fun _ _ _ => mq_il (i := 1) rfl rfl,
   fun _ _ => mq_push rfl,
   fun _ _ _ _ h0 => mq_di rfl h0,
   fun _ _ _ => mq_if_le rfl,
   fun _ _ => mq_push rfl,
   fun _ _ => mq_go rfl,
   fun _ _ => mq_push rfl,
   fun _ _ h0 => mq_rz rfl h0⟩
theorem eX12_isCode (d n : Nat) (I L : mm_I) (P : mm_P) (x0 : Option Nat) (x1 : Int) : mm_rn (d + 1) 241 [.inr (.inr x0), .inl x1] n I L P = mm_E d 241 0 [.inr (.inr x0), .inl x1] [] [] n I L P := rfl

set_option maxRecDepth 20000 in
set_option maxHeartbeats 8000000 in
theorem kX12_isFit (d n : Nat) (I L : mm_I) (P : mm_P) :
  (∀ (st : List mm_V) z (l1 : mm_V) (l2 : mm_V), mm_E d 242 0 [(.inr (.inr z)), l1, l2] [] st n I L P = mm_E d 242 1 [(.inr (.inr z)), l1, l2] [] ((.inr (.inr z)) :: st) n I L P) ∧
  (∀ (st : List mm_V) z (l0 : mm_V) (l2 : mm_V), mm_E d 242 1 [l0, (.inl z), l2] [] st n I L P = mm_E d 242 2 [l0, (.inl z), l2] [] ((.inl z) :: st) n I L P) ∧
  (∀ (lv : List mm_V) a x0, (mm_ok n a 12) → mm_E d 242 2 lv [] (.inl x0 :: .inr (.inr (some a)) :: []) n I L P = mm_kr d 242 5 lv [] [] n (mm_rn d 241 [.inr (.inr (some a)), .inl x0] n I L P)) ∧
  (∀ (lv : List mm_V) (st : List mm_V) a, mm_E d 242 5 lv [] (.inl a :: st) n I L P = if a = 0 then mm_E d 242 8 lv [] st n I L P else mm_E d 242 10 lv [] st n I L P) ∧
  (∀ (lv : List mm_V) (st : List mm_V), mm_E d 242 8 lv [] st n I L P = mm_E d 242 9 lv [] (.inl 0 :: st) n I L P) ∧
  (∀ (lv : List mm_V) z, (0 ≤ z ∧ z < 2) → mm_E d 242 9 lv [] [.inl z] n I L P = some (some (.inl z), n, I, L, P)) ∧
  (∀ (st : List mm_V) z (l1 : mm_V) (l2 : mm_V), mm_E d 242 10 [(.inr (.inr z)), l1, l2] [] st n I L P = mm_E d 242 11 [(.inr (.inr z)), l1, l2] [] ((.inr (.inr z)) :: st) n I L P) ∧
  (∀ (st : List mm_V) z (l0 : mm_V) (l2 : mm_V), mm_E d 242 11 [l0, (.inl z), l2] [] st n I L P = mm_E d 242 12 [l0, (.inl z), l2] [] ((.inl z) :: st) n I L P) ∧
  (∀ (lv : List mm_V) a x0, (mm_ok n a 12) → mm_E d 242 12 lv [] (.inl x0 :: .inr (.inr (some a)) :: []) n I L P = mm_kv d 242 15 lv [] [] n (mm_rn d 240 [.inr (.inr (some a)), .inl x0] n I L P)) ∧
  (∀ (lv : List mm_V) (st : List mm_V), mm_E d 242 15 lv [] st n I L P = mm_E d 242 16 lv [] (.inl 0 :: st) n I L P) ∧
  (∀ (st : List mm_V) z (l0 : mm_V) (l1 : mm_V) (l2 : mm_V), mm_E d 242 16 [l0, l1, l2] [] ((.inl z) :: st) n I L P = mm_E d 242 17 [l0, l1, (.inl z)] [] st n I L P) ∧
  (∀ (st : List mm_V) z (l1 : mm_V) (l2 : mm_V), mm_E d 242 18 [(.inr (.inr z)), l1, l2] [] st n I L P = mm_E d 242 19 [(.inr (.inr z)), l1, l2] [] ((.inr (.inr z)) :: st) n I L P) ∧
  (∀ (lv : List mm_V) (st : List mm_V) a, (mm_ok n a 12) → mm_E d 242 19 lv [] (.inr (.inr (some a)) :: st) n I L P = mm_E d 242 22 lv [] (.inl (I a 42) :: st) n I L P) ∧
  (∀ (lv : List mm_V) (st : List mm_V) a b, mm_E d 242 22 lv [] (.inl b :: .inl a :: st) n I L P = if b ≤ a then mm_E d 242 77 lv [] st n I L P else mm_E d 242 25 lv [] st n I L P) ∧
  (∀ (st : List mm_V) z (l1 : mm_V) (l2 : mm_V), mm_E d 242 25 [(.inr (.inr z)), l1, l2] [] st n I L P = mm_E d 242 26 [(.inr (.inr z)), l1, l2] [] ((.inr (.inr z)) :: st) n I L P) ∧
  (∀ (lv : List mm_V) (st : List mm_V) a, (mm_ok n a 12) → mm_E d 242 26 lv [] (.inr (.inr (some a)) :: st) n I L P = mm_E d 242 29 lv [] (.inr (.inr (P a 43)) :: st) n I L P) ∧
  (∀ (lv : List mm_V) (st : List mm_V), mm_E d 242 29 lv [] st n I L P = mm_E d 242 31 lv [] (.inl 8 :: st) n I L P) ∧
  (∀ (st : List mm_V) z (l1 : mm_V) (l2 : mm_V), mm_E d 242 31 [(.inr (.inr z)), l1, l2] [] st n I L P = mm_E d 242 32 [(.inr (.inr z)), l1, l2] [] ((.inr (.inr z)) :: st) n I L P) ∧
  (∀ (lv : List mm_V) (st : List mm_V) a, (mm_ok n a 12) → mm_E d 242 32 lv [] (.inr (.inr (some a)) :: st) n I L P = mm_E d 242 35 lv [] (.inr (.inr (P a 39)) :: st) n I L P) ∧
  (∀ (st : List mm_V) z (l0 : mm_V) (l1 : mm_V), mm_E d 242 35 [l0, l1, (.inl z)] [] st n I L P = mm_E d 242 36 [l0, l1, (.inl z)] [] ((.inl z) :: st) n I L P) ∧
  (∀ (lv : List mm_V) (st : List mm_V) a i, (mm_ix n a 20 i) → mm_E d 242 36 lv [] (.inl i :: .inr (.inr (some a)) :: st) n I L P = mm_E d 242 37 lv [] (.inl (I a i.toNat) :: st) n I L P) ∧
  (∀ (lv : List mm_V) (st : List mm_V) a b, mm_E d 242 37 lv [] (.inl b :: .inl a :: st) n I L P = mm_E d 242 38 lv [] (.inl (mm_mul a b) :: st) n I L P) ∧
  (∀ (st : List mm_V) z (l1 : mm_V) (l2 : mm_V), mm_E d 242 38 [(.inr (.inr z)), l1, l2] [] st n I L P = mm_E d 242 39 [(.inr (.inr z)), l1, l2] [] ((.inr (.inr z)) :: st) n I L P) ∧
  (∀ (lv : List mm_V) (st : List mm_V) a, (mm_ok n a 12) → mm_E d 242 39 lv [] (.inr (.inr (some a)) :: st) n I L P = mm_E d 242 42 lv [] (.inr (.inr (P a 38)) :: st) n I L P) ∧
  (∀ (st : List mm_V) z (l0 : mm_V) (l1 : mm_V), mm_E d 242 42 [l0, l1, (.inl z)] [] st n I L P = mm_E d 242 43 [l0, l1, (.inl z)] [] ((.inl z) :: st) n I L P) ∧
  (∀ (lv : List mm_V) (st : List mm_V) a i, (mm_ix n a 20 i) → mm_E d 242 43 lv [] (.inl i :: .inr (.inr (some a)) :: st) n I L P = mm_E d 242 44 lv [] (.inl (I a i.toNat) :: st) n I L P) ∧
  (∀ (lv : List mm_V) (st : List mm_V) a b, mm_E d 242 44 lv [] (.inl b :: .inl a :: st) n I L P = mm_E d 242 45 lv [] (.inl (mm_add a b) :: st) n I L P) ∧
  (∀ (lv : List mm_V) (st : List mm_V) a i, (mm_ix n a 20 i) → mm_E d 242 45 lv [] (.inl i :: .inr (.inr (some a)) :: st) n I L P = mm_E d 242 46 lv [] (.inl (I a i.toNat) :: st) n I L P) ∧
  (∀ (st : List mm_V) z (l1 : mm_V) (l2 : mm_V), mm_E d 242 46 [(.inr (.inr z)), l1, l2] [] st n I L P = mm_E d 242 47 [(.inr (.inr z)), l1, l2] [] ((.inr (.inr z)) :: st) n I L P) ∧
  (∀ (lv : List mm_V) (st : List mm_V) a, (mm_ok n a 12) → mm_E d 242 47 lv [] (.inr (.inr (some a)) :: st) n I L P = mm_E d 242 50 lv [] (.inr (.inr (P a 40)) :: st) n I L P) ∧
  (∀ (st : List mm_V) z (l0 : mm_V) (l1 : mm_V), mm_E d 242 50 [l0, l1, (.inl z)] [] st n I L P = mm_E d 242 51 [l0, l1, (.inl z)] [] ((.inl z) :: st) n I L P) ∧
  (∀ (lv : List mm_V) (st : List mm_V) a i, (mm_ix n a 20 i) → mm_E d 242 51 lv [] (.inl i :: .inr (.inr (some a)) :: st) n I L P = mm_E d 242 52 lv [] (.inl (I a i.toNat) :: st) n I L P) ∧
  (∀ (lv : List mm_V) (st : List mm_V) a b, mm_E d 242 52 lv [] (.inl b :: .inl a :: st) n I L P = if a < b then mm_E d 242 59 lv [] st n I L P else mm_E d 242 55 lv [] st n I L P) ∧
  (∀ (lv : List mm_V) (st : List mm_V), mm_E d 242 55 lv [] st n I L P = mm_E d 242 56 lv [] (.inl 1 :: st) n I L P) ∧
  (∀ (lv : List mm_V) (st : List mm_V), mm_E d 242 56 lv [] st n I L P = mm_E d 242 60 lv [] st n I L P) ∧
  (∀ (lv : List mm_V) (st : List mm_V), mm_E d 242 59 lv [] st n I L P = mm_E d 242 60 lv [] (.inl 0 :: st) n I L P) ∧
  (∀ (st : List mm_V) z (l1 : mm_V) (l2 : mm_V), mm_E d 242 60 [(.inr (.inr z)), l1, l2] [] st n I L P = mm_E d 242 61 [(.inr (.inr z)), l1, l2] [] ((.inr (.inr z)) :: st) n I L P) ∧
  (∀ (lv : List mm_V) (st : List mm_V) a, (mm_ok n a 12) → mm_E d 242 61 lv [] (.inr (.inr (some a)) :: st) n I L P = mm_E d 242 64 lv [] (.inr (.inr (P a 41)) :: st) n I L P) ∧
  (∀ (st : List mm_V) z (l0 : mm_V) (l1 : mm_V), mm_E d 242 64 [l0, l1, (.inl z)] [] st n I L P = mm_E d 242 65 [l0, l1, (.inl z)] [] ((.inl z) :: st) n I L P) ∧
  (∀ (lv : List mm_V) (st : List mm_V) a i, (mm_ix n a 21 i) → mm_E d 242 65 lv [] (.inl i :: .inr (.inr (some a)) :: st) n I L P = mm_E d 242 66 lv [] (.inl (I a i.toNat) :: st) n I L P) ∧
  (∀ (lv : List mm_V) (st : List mm_V) a b, mm_E d 242 66 lv [] (.inl b :: .inl a :: st) n I L P = if a = b then mm_E d 242 71 lv [] st n I L P else mm_E d 242 69 lv [] st n I L P) ∧
  (∀ (lv : List mm_V) (st : List mm_V), mm_E d 242 69 lv [] st n I L P = mm_E d 242 70 lv [] (.inl 0 :: st) n I L P) ∧
  (∀ (lv : List mm_V) z, (0 ≤ z ∧ z < 2) → mm_E d 242 70 lv [] [.inl z] n I L P = some (some (.inl z), n, I, L, P)) ∧
  (∀ (st : List mm_V) z (l0 : mm_V) (l1 : mm_V), mm_E d 242 71 [l0, l1, (.inl z)] [] st n I L P = mm_E d 242 74 [l0, l1, (.inl (mm_add z 1))] [] st n I L P) ∧
  (∀ (lv : List mm_V) (st : List mm_V), mm_E d 242 74 lv [] st n I L P = mm_E d 242 17 lv [] st n I L P) ∧
  (∀ (lv : List mm_V) (st : List mm_V), mm_E d 242 77 lv [] st n I L P = mm_E d 242 78 lv [] (.inl 1 :: st) n I L P) ∧
  (∀ (lv : List mm_V) z, (0 ≤ z ∧ z < 2) → mm_E d 242 78 lv [] [.inl z] n I L P = some (some (.inl z), n, I, L, P)) :=
  ⟨fun _ _ _ _ => mq_al (i := 0) rfl rfl,
   fun _ _ _ _ => mq_il (i := 1) rfl rfl,
   fun _ _ _ h0 => mq_cVr (na := 1) rfl rfl (Nat.le_of_ble_eq_true rfl) (Nat.le_of_ble_eq_true rfl) h0,
   fun _ _ _ => mq_if_ne rfl,
   fun _ _ => mq_push rfl,
   fun _ _ h0 => mq_rz rfl h0,
   fun _ _ _ _ => mq_al (i := 0) rfl rfl,
   fun _ _ _ _ => mq_il (i := 1) rfl rfl,
   fun _ _ _ h0 => mq_cVv (na := 1) rfl rfl (Nat.le_of_ble_eq_true rfl) (Nat.le_of_ble_eq_true rfl) h0,
   fun _ _ => mq_push rfl,
   fun _ _ _ _ _ => mq_is (i := 2) rfl rfl rfl,
   fun _ _ _ _ => mq_al (i := 0) rfl rfl,
   fun _ _ _ h0 => mq_getI rfl h0,
   fun _ _ _ _ => mq_ic_ge rfl,
   fun _ _ _ _ => mq_al (i := 0) rfl rfl,
   fun _ _ _ h0 => mq_getR rfl h0,
   fun _ _ => mq_push rfl,
   fun _ _ _ _ => mq_al (i := 0) rfl rfl,
   fun _ _ _ h0 => mq_getR rfl h0,
   fun _ _ _ _ => mq_il (i := 2) rfl rfl,
   fun _ _ _ _ h0 => mq_iald rfl h0,
   fun _ _ _ _ => mq_bi rfl,
   fun _ _ _ _ => mq_al (i := 0) rfl rfl,
   fun _ _ _ h0 => mq_getR rfl h0,
   fun _ _ _ _ => mq_il (i := 2) rfl rfl,
   fun _ _ _ _ h0 => mq_iald rfl h0,
   fun _ _ _ _ => mq_bi rfl,
   fun _ _ _ _ h0 => mq_iald rfl h0,
   fun _ _ _ _ => mq_al (i := 0) rfl rfl,
   fun _ _ _ h0 => mq_getR rfl h0,
   fun _ _ _ _ => mq_il (i := 2) rfl rfl,
   fun _ _ _ _ h0 => mq_iald rfl h0,
   fun _ _ _ _ => mq_ic_lt rfl,
   fun _ _ => mq_push rfl,
   fun _ _ => mq_go rfl,
   fun _ _ => mq_push rfl,
   fun _ _ _ _ => mq_al (i := 0) rfl rfl,
   fun _ _ _ h0 => mq_getR rfl h0,
   fun _ _ _ _ => mq_il (i := 2) rfl rfl,
   fun _ _ _ _ h0 => mq_iald rfl h0,
   fun _ _ _ _ => mq_ic_eq rfl,
   fun _ _ => mq_push rfl,
   fun _ _ h0 => mq_rz rfl h0,
   fun _ _ _ _ => mq_iinc (i := 2) rfl rfl rfl rfl,
   fun _ _ => mq_go rfl,
   fun _ _ => mq_push rfl,
   fun _ _ h0 => mq_rz rfl h0⟩
theorem hX12_isFit_17 (d n : Nat) (I L : mm_I) (P : mm_P) : ∀ (st : List mm_V) z (l0 : mm_V) (l1 : mm_V), mm_E d 242 17 [l0, l1, (.inl z)] [] st n I L P = mm_E d 242 18 [l0, l1, (.inl z)] [] ((.inl z) :: st) n I L P := fun _ _ _ _ => mq_il (i := 2) rfl rfl
theorem eX12_isFit (d n : Nat) (I L : mm_I) (P : mm_P) (x0 : Option Nat) (x1 : Int) : mm_rn (d + 1) 242 [.inr (.inr x0), .inl x1] n I L P = mm_E d 242 0 [.inr (.inr x0), .inl x1, mm_junk] [] [] n I L P := rfl

set_option maxRecDepth 20000 in
set_option maxHeartbeats 8000000 in
theorem kX12_fits (d n : Nat) (I L : mm_I) (P : mm_P) :
  (∀ (st : List mm_V) z (l1 : mm_V) (l2 : mm_V) (l3 : mm_V), mm_E d 243 0 [(.inr (.inr z)), l1, l2, l3] [] st n I L P = mm_E d 243 1 [(.inr (.inr z)), l1, l2, l3] [] ((.inr (.inr z)) :: st) n I L P) ∧
  (∀ (lv : List mm_V) (st : List mm_V) a, (mm_ok n a 12) → mm_E d 243 1 lv [] (.inr (.inr (some a)) :: st) n I L P = mm_E d 243 4 lv [] (.inl (I a 26) :: st) n I L P) ∧
  (∀ (lv : List mm_V) (st : List mm_V) a, mm_E d 243 4 lv [] (.inl a :: st) n I L P = if a = 0 then mm_E d 243 12 lv [] st n I L P else mm_E d 243 7 lv [] st n I L P) ∧
  (∀ (st : List mm_V) z (l0 : mm_V) (l2 : mm_V) (l3 : mm_V), mm_E d 243 7 [l0, (.inl z), l2, l3] [] st n I L P = mm_E d 243 8 [l0, (.inl z), l2, l3] [] ((.inl z) :: st) n I L P) ∧
  (∀ (lv : List mm_V) (st : List mm_V), mm_E d 243 8 lv [] st n I L P = mm_E d 243 9 lv [] (.inl (-1) :: st) n I L P) ∧
  (∀ (lv : List mm_V) (st : List mm_V) a b, mm_E d 243 9 lv [] (.inl b :: .inl a :: st) n I L P = if b ≤ a then mm_E d 243 14 lv [] st n I L P else mm_E d 243 12 lv [] st n I L P) ∧
  (∀ (lv : List mm_V) (st : List mm_V), mm_E d 243 12 lv [] st n I L P = mm_E d 243 13 lv [] (.inl (-1) :: st) n I L P) ∧
  (∀ (lv : List mm_V) z, mm_E d 243 13 lv [] [.inl z] n I L P = some (some (.inl z), n, I, L, P)) ∧
  (∀ (lv : List mm_V) (st : List mm_V), mm_E d 243 14 lv [] st n I L P = mm_E d 243 15 lv [] (.inl 0 :: st) n I L P) ∧
  (∀ (st : List mm_V) z (l0 : mm_V) (l1 : mm_V) (l2 : mm_V) (l3 : mm_V), mm_E d 243 15 [l0, l1, l2, l3] [] ((.inl z) :: st) n I L P = mm_E d 243 16 [l0, l1, (.inl z), l3] [] st n I L P) ∧
  (∀ (lv : List mm_V) (st : List mm_V), mm_E d 243 16 lv [] st n I L P = mm_E d 243 17 lv [] (.inl 0 :: st) n I L P) ∧
  (∀ (st : List mm_V) z (l0 : mm_V) (l1 : mm_V) (l2 : mm_V) (l3 : mm_V), mm_E d 243 17 [l0, l1, l2, l3] [] ((.inl z) :: st) n I L P = mm_E d 243 18 [l0, l1, l2, (.inl z)] [] st n I L P) ∧
  (∀ (lv : List mm_V) (st : List mm_V), mm_E d 243 19 lv [] st n I L P = mm_E d 243 21 lv [] (.inl 100 :: st) n I L P) ∧
  (∀ (st : List mm_V) z (l1 : mm_V) (l2 : mm_V) (l3 : mm_V), mm_E d 243 21 [(.inr (.inr z)), l1, l2, l3] [] st n I L P = mm_E d 243 22 [(.inr (.inr z)), l1, l2, l3] [] ((.inr (.inr z)) :: st) n I L P) ∧
  (∀ (lv : List mm_V) (st : List mm_V) a, (mm_ok n a 12) → mm_E d 243 22 lv [] (.inr (.inr (some a)) :: st) n I L P = mm_E d 243 25 lv [] (.inl (I a 26) :: st) n I L P) ∧
  (∀ (lv : List mm_V) (st : List mm_V) a b, mm_E d 243 25 lv [] (.inl b :: .inl a :: st) n I L P = mm_E d 243 26 lv [] (.inl (mm_mul a b) :: st) n I L P) ∧
  (∀ (lv : List mm_V) (st : List mm_V) a b, mm_E d 243 26 lv [] (.inl b :: .inl a :: st) n I L P = if b ≤ a then mm_E d 243 53 lv [] st n I L P else mm_E d 243 29 lv [] st n I L P) ∧
  (∀ (st : List mm_V) z (l1 : mm_V) (l2 : mm_V) (l3 : mm_V), mm_E d 243 29 [(.inr (.inr z)), l1, l2, l3] [] st n I L P = mm_E d 243 30 [(.inr (.inr z)), l1, l2, l3] [] ((.inr (.inr z)) :: st) n I L P) ∧
  (∀ (st : List mm_V) z (l0 : mm_V) (l1 : mm_V) (l2 : mm_V), mm_E d 243 30 [l0, l1, l2, (.inl z)] [] st n I L P = mm_E d 243 31 [l0, l1, l2, (.inl z)] [] ((.inl z) :: st) n I L P) ∧
  (∀ (lv : List mm_V) a x0, (mm_ok n a 12) → mm_E d 243 31 lv [] (.inl x0 :: .inr (.inr (some a)) :: []) n I L P = mm_kr d 243 34 lv [] [] n (mm_rn d 242 [.inr (.inr (some a)), .inl x0] n I L P)) ∧
  (∀ (lv : List mm_V) (st : List mm_V) a, mm_E d 243 34 lv [] (.inl a :: st) n I L P = if a = 0 then mm_E d 243 47 lv [] st n I L P else mm_E d 243 37 lv [] st n I L P) ∧
  (∀ (st : List mm_V) z (l0 : mm_V) (l1 : mm_V) (l3 : mm_V), mm_E d 243 37 [l0, l1, (.inl z), l3] [] st n I L P = mm_E d 243 38 [l0, l1, (.inl z), l3] [] ((.inl z) :: st) n I L P) ∧
  (∀ (st : List mm_V) z (l0 : mm_V) (l2 : mm_V) (l3 : mm_V), mm_E d 243 38 [l0, (.inl z), l2, l3] [] st n I L P = mm_E d 243 39 [l0, (.inl z), l2, l3] [] ((.inl z) :: st) n I L P) ∧
  (∀ (lv : List mm_V) (st : List mm_V) a b, mm_E d 243 39 lv [] (.inl b :: .inl a :: st) n I L P = if a = b then mm_E d 243 42 lv [] st n I L P else mm_E d 243 44 lv [] st n I L P) ∧
  (∀ (st : List mm_V) z (l0 : mm_V) (l1 : mm_V) (l2 : mm_V), mm_E d 243 42 [l0, l1, l2, (.inl z)] [] st n I L P = mm_E d 243 43 [l0, l1, l2, (.inl z)] [] ((.inl z) :: st) n I L P) ∧
  (∀ (lv : List mm_V) z, mm_E d 243 43 lv [] [.inl z] n I L P = some (some (.inl z), n, I, L, P)) ∧
  (∀ (st : List mm_V) z (l0 : mm_V) (l1 : mm_V) (l3 : mm_V), mm_E d 243 44 [l0, l1, (.inl z), l3] [] st n I L P = mm_E d 243 47 [l0, l1, (.inl (mm_add z 1)), l3] [] st n I L P) ∧
  (∀ (st : List mm_V) z (l0 : mm_V) (l1 : mm_V) (l2 : mm_V), mm_E d 243 47 [l0, l1, l2, (.inl z)] [] st n I L P = mm_E d 243 50 [l0, l1, l2, (.inl (mm_add z 1))] [] st n I L P) ∧
  (∀ (lv : List mm_V) (st : List mm_V), mm_E d 243 50 lv [] st n I L P = mm_E d 243 18 lv [] st n I L P) ∧
  (∀ (st : List mm_V) z (l0 : mm_V) (l2 : mm_V) (l3 : mm_V), mm_E d 243 53 [l0, (.inl z), l2, l3] [] st n I L P = mm_E d 243 54 [l0, (.inl z), l2, l3] [] ((.inl z) :: st) n I L P) ∧
  (∀ (lv : List mm_V) (st : List mm_V), mm_E d 243 54 lv [] st n I L P = mm_E d 243 55 lv [] (.inl (-1) :: st) n I L P) ∧
  (∀ (lv : List mm_V) (st : List mm_V) a b, mm_E d 243 55 lv [] (.inl b :: .inl a :: st) n I L P = if a = b then mm_E d 243 58 lv [] st n I L P else mm_E d 243 62 lv [] st n I L P) ∧
  (∀ (st : List mm_V) z (l0 : mm_V) (l1 : mm_V) (l3 : mm_V), mm_E d 243 58 [l0, l1, (.inl z), l3] [] st n I L P = mm_E d 243 59 [l0, l1, (.inl z), l3] [] ((.inl z) :: st) n I L P) ∧
  (∀ (lv : List mm_V) (st : List mm_V), mm_E d 243 59 lv [] st n I L P = mm_E d 243 63 lv [] st n I L P) ∧
  (∀ (lv : List mm_V) (st : List mm_V), mm_E d 243 62 lv [] st n I L P = mm_E d 243 63 lv [] (.inl (-1) :: st) n I L P) ∧
  (∀ (lv : List mm_V) z, mm_E d 243 63 lv [] [.inl z] n I L P = some (some (.inl z), n, I, L, P)) :=
  ⟨fun _ _ _ _ _ => mq_al (i := 0) rfl rfl,
   fun _ _ _ h0 => mq_getI rfl h0,
   fun _ _ _ => mq_if_eq rfl,
   fun _ _ _ _ _ => mq_il (i := 1) rfl rfl,
   fun _ _ => mq_push rfl,
   fun _ _ _ _ => mq_ic_ge rfl,
   fun _ _ => mq_push rfl,
   fun _ _ => mq_ri rfl,
   fun _ _ => mq_push rfl,
   fun _ _ _ _ _ _ => mq_is (i := 2) rfl rfl rfl,
   fun _ _ => mq_push rfl,
   fun _ _ _ _ _ _ => mq_is (i := 3) rfl rfl rfl,
   fun _ _ => mq_push rfl,
   fun _ _ _ _ _ => mq_al (i := 0) rfl rfl,
   fun _ _ _ h0 => mq_getI rfl h0,
   fun _ _ _ _ => mq_bi rfl,
   fun _ _ _ _ => mq_ic_ge rfl,
   fun _ _ _ _ _ => mq_al (i := 0) rfl rfl,
   fun _ _ _ _ _ => mq_il (i := 3) rfl rfl,
   fun _ _ _ h0 => mq_cVr (na := 1) rfl rfl (Nat.le_of_ble_eq_true rfl) (Nat.le_of_ble_eq_true rfl) h0,
   fun _ _ _ => mq_if_eq rfl,
   fun _ _ _ _ _ => mq_il (i := 2) rfl rfl,
   fun _ _ _ _ _ => mq_il (i := 1) rfl rfl,
   fun _ _ _ _ => mq_ic_ne rfl,
   fun _ _ _ _ _ => mq_il (i := 3) rfl rfl,
   fun _ _ => mq_ri rfl,
   fun _ _ _ _ _ => mq_iinc (i := 2) rfl rfl rfl rfl,
   fun _ _ _ _ _ => mq_iinc (i := 3) rfl rfl rfl rfl,
   fun _ _ => mq_go rfl,
   fun _ _ _ _ _ => mq_il (i := 1) rfl rfl,
   fun _ _ => mq_push rfl,
   fun _ _ _ _ => mq_ic_ne rfl,
   fun _ _ _ _ _ => mq_il (i := 2) rfl rfl,
   fun _ _ => mq_go rfl,
   fun _ _ => mq_push rfl,
   fun _ _ => mq_ri rfl⟩
theorem hX12_fits_18 (d n : Nat) (I L : mm_I) (P : mm_P) : ∀ (st : List mm_V) z (l0 : mm_V) (l1 : mm_V) (l2 : mm_V), mm_E d 243 18 [l0, l1, l2, (.inl z)] [] st n I L P = mm_E d 243 19 [l0, l1, l2, (.inl z)] [] ((.inl z) :: st) n I L P := fun _ _ _ _ _ => mq_il (i := 3) rfl rfl
theorem eX12_fits (d n : Nat) (I L : mm_I) (P : mm_P) (x0 : Option Nat) (x1 : Int) : mm_rn (d + 1) 243 [.inr (.inr x0), .inl x1] n I L P = mm_E d 243 0 [.inr (.inr x0), .inl x1, mm_junk, mm_junk] [] [] n I L P := rfl

set_option maxRecDepth 20000 in
set_option maxHeartbeats 8000000 in
theorem kX12_ask (d n : Nat) (I L : mm_I) (P : mm_P) :
  (∀ (st : List mm_V) z (l1 : mm_V) (l2 : mm_V) (l3 : mm_V) (l4 : mm_V) (l5 : mm_V) (l6 : mm_V) (l7 : mm_V), mm_E d 244 0 [(.inr (.inr z)), l1, l2, l3, l4, l5, l6, l7] [] st n I L P = mm_E d 244 1 [(.inr (.inr z)), l1, l2, l3, l4, l5, l6, l7] [] ((.inr (.inr z)) :: st) n I L P) ∧
  (∀ (st : List mm_V) z (l0 : mm_V) (l2 : mm_V) (l3 : mm_V) (l4 : mm_V) (l5 : mm_V) (l6 : mm_V) (l7 : mm_V), mm_E d 244 1 [l0, (.inl z), l2, l3, l4, l5, l6, l7] [] st n I L P = mm_E d 244 2 [l0, (.inl z), l2, l3, l4, l5, l6, l7] [] ((.inl z) :: st) n I L P) ∧
  (∀ (lv : List mm_V) a x0, (mm_ok n a 12) → mm_E d 244 2 lv [] (.inl x0 :: .inr (.inr (some a)) :: []) n I L P = mm_kr d 244 5 lv [] [] n (mm_rn d 191 [.inr (.inr (some a)), .inl x0] n I L P)) ∧
  (∀ (lv : List mm_V) (st : List mm_V) a, mm_E d 244 5 lv [] (.inl a :: st) n I L P = if a = 0 then mm_E d 244 8 lv [] st n I L P else mm_E d 244 10 lv [] st n I L P) ∧
  (∀ (lv : List mm_V) (st : List mm_V), mm_E d 244 8 lv [] st n I L P = mm_E d 244 9 lv [] (.inl (-1) :: st) n I L P) ∧
  (∀ (lv : List mm_V) z, mm_E d 244 9 lv [] [.inl z] n I L P = some (some (.inl z), n, I, L, P)) ∧
  (∀ (lv : List mm_V) (st : List mm_V), mm_E d 244 10 lv [] st n I L P = mm_E d 244 11 lv [] (.inl 0 :: st) n I L P) ∧
  (∀ (st : List mm_V) z (l0 : mm_V) (l1 : mm_V) (l2 : mm_V) (l3 : mm_V) (l4 : mm_V) (l5 : mm_V) (l6 : mm_V) (l7 : mm_V), mm_E d 244 11 [l0, l1, l2, l3, l4, l5, l6, l7] [] ((.inl z) :: st) n I L P = mm_E d 244 12 [l0, l1, (.inl z), l3, l4, l5, l6, l7] [] st n I L P) ∧
  (∀ (lv : List mm_V) (st : List mm_V), mm_E d 244 13 lv [] st n I L P = mm_E d 244 16 lv [] (.inl 1300 :: st) n I L P) ∧
  (∀ (lv : List mm_V) (st : List mm_V) a b, mm_E d 244 16 lv [] (.inl b :: .inl a :: st) n I L P = if b ≤ a then mm_E d 244 32 lv [] st n I L P else mm_E d 244 19 lv [] st n I L P) ∧
  (∀ (st : List mm_V) z (l1 : mm_V) (l2 : mm_V) (l3 : mm_V) (l4 : mm_V) (l5 : mm_V) (l6 : mm_V) (l7 : mm_V), mm_E d 244 19 [(.inr (.inr z)), l1, l2, l3, l4, l5, l6, l7] [] st n I L P = mm_E d 244 20 [(.inr (.inr z)), l1, l2, l3, l4, l5, l6, l7] [] ((.inr (.inr z)) :: st) n I L P) ∧
  (∀ (lv : List mm_V) (st : List mm_V) a, (mm_ok n a 12) → mm_E d 244 20 lv [] (.inr (.inr (some a)) :: st) n I L P = mm_E d 244 23 lv [] (.inr (.inr (P a 44)) :: st) n I L P) ∧
  (∀ (st : List mm_V) z (l0 : mm_V) (l1 : mm_V) (l3 : mm_V) (l4 : mm_V) (l5 : mm_V) (l6 : mm_V) (l7 : mm_V), mm_E d 244 23 [l0, l1, (.inl z), l3, l4, l5, l6, l7] [] st n I L P = mm_E d 244 24 [l0, l1, (.inl z), l3, l4, l5, l6, l7] [] ((.inl z) :: st) n I L P) ∧
  (∀ (lv : List mm_V) (st : List mm_V), mm_E d 244 24 lv [] st n I L P = mm_E d 244 25 lv [] (.inl 0 :: st) n I L P) ∧
  (∀ (lv : List mm_V) (st : List mm_V) a i z, (mm_ix n a 20 i) → mm_E d 244 25 lv [] (.inl z :: .inl i :: .inr (.inr (some a)) :: st) n I L P = mm_E d 244 26 lv [] st n (mm_ui I a i.toNat z) L P) ∧
  (∀ (st : List mm_V) z (l0 : mm_V) (l1 : mm_V) (l3 : mm_V) (l4 : mm_V) (l5 : mm_V) (l6 : mm_V) (l7 : mm_V), mm_E d 244 26 [l0, l1, (.inl z), l3, l4, l5, l6, l7] [] st n I L P = mm_E d 244 29 [l0, l1, (.inl (mm_add z 1)), l3, l4, l5, l6, l7] [] st n I L P) ∧
  (∀ (lv : List mm_V) (st : List mm_V), mm_E d 244 29 lv [] st n I L P = mm_E d 244 12 lv [] st n I L P) ∧
  (∀ (lv : List mm_V) (st : List mm_V), mm_E d 244 32 lv [] st n I L P = mm_E d 244 33 lv [] (.inl 0 :: st) n I L P) ∧
  (∀ (st : List mm_V) z (l0 : mm_V) (l1 : mm_V) (l2 : mm_V) (l3 : mm_V) (l4 : mm_V) (l5 : mm_V) (l6 : mm_V) (l7 : mm_V), mm_E d 244 33 [l0, l1, l2, l3, l4, l5, l6, l7] [] ((.inl z) :: st) n I L P = mm_E d 244 34 [l0, l1, (.inl z), l3, l4, l5, l6, l7] [] st n I L P) ∧
  (∀ (lv : List mm_V) (st : List mm_V), mm_E d 244 34 lv [] st n I L P = mm_E d 244 35 lv [] (.inl 0 :: st) n I L P) ∧
  (∀ (st : List mm_V) z (l0 : mm_V) (l1 : mm_V) (l2 : mm_V) (l3 : mm_V) (l4 : mm_V) (l5 : mm_V) (l6 : mm_V) (l7 : mm_V), mm_E d 244 35 [l0, l1, l2, l3, l4, l5, l6, l7] [] ((.inl z) :: st) n I L P = mm_E d 244 36 [l0, l1, l2, (.inl z), l4, l5, l6, l7] [] st n I L P) ∧
  (∀ (lv : List mm_V) (st : List mm_V), mm_E d 244 37 lv [] st n I L P = mm_E d 244 39 lv [] (.inl 100 :: st) n I L P) ∧
  (∀ (st : List mm_V) z (l1 : mm_V) (l2 : mm_V) (l3 : mm_V) (l4 : mm_V) (l5 : mm_V) (l6 : mm_V) (l7 : mm_V), mm_E d 244 39 [(.inr (.inr z)), l1, l2, l3, l4, l5, l6, l7] [] st n I L P = mm_E d 244 40 [(.inr (.inr z)), l1, l2, l3, l4, l5, l6, l7] [] ((.inr (.inr z)) :: st) n I L P) ∧
  (∀ (lv : List mm_V) (st : List mm_V) a, (mm_ok n a 12) → mm_E d 244 40 lv [] (.inr (.inr (some a)) :: st) n I L P = mm_E d 244 43 lv [] (.inl (I a 26) :: st) n I L P) ∧
  (∀ (lv : List mm_V) (st : List mm_V) a b, mm_E d 244 43 lv [] (.inl b :: .inl a :: st) n I L P = mm_E d 244 44 lv [] (.inl (mm_mul a b) :: st) n I L P) ∧
  (∀ (lv : List mm_V) (st : List mm_V) a b, mm_E d 244 44 lv [] (.inl b :: .inl a :: st) n I L P = if b ≤ a then mm_E d 244 107 lv [] st n I L P else mm_E d 244 47 lv [] st n I L P) ∧
  (∀ (st : List mm_V) z (l1 : mm_V) (l2 : mm_V) (l3 : mm_V) (l4 : mm_V) (l5 : mm_V) (l6 : mm_V) (l7 : mm_V), mm_E d 244 47 [(.inr (.inr z)), l1, l2, l3, l4, l5, l6, l7] [] st n I L P = mm_E d 244 48 [(.inr (.inr z)), l1, l2, l3, l4, l5, l6, l7] [] ((.inr (.inr z)) :: st) n I L P) ∧
  (∀ (st : List mm_V) z (l0 : mm_V) (l1 : mm_V) (l2 : mm_V) (l4 : mm_V) (l5 : mm_V) (l6 : mm_V) (l7 : mm_V), mm_E d 244 48 [l0, l1, l2, (.inl z), l4, l5, l6, l7] [] st n I L P = mm_E d 244 49 [l0, l1, l2, (.inl z), l4, l5, l6, l7] [] ((.inl z) :: st) n I L P) ∧
  (∀ (lv : List mm_V) a x0, (mm_ok n a 12) → mm_E d 244 49 lv [] (.inl x0 :: .inr (.inr (some a)) :: []) n I L P = mm_kr d 244 52 lv [] [] n (mm_rn d 242 [.inr (.inr (some a)), .inl x0] n I L P)) ∧
  (∀ (lv : List mm_V) (st : List mm_V) a, mm_E d 244 52 lv [] (.inl a :: st) n I L P = if a = 0 then mm_E d 244 101 lv [] st n I L P else mm_E d 244 55 lv [] st n I L P) ∧
  (∀ (st : List mm_V) z (l0 : mm_V) (l1 : mm_V) (l3 : mm_V) (l4 : mm_V) (l5 : mm_V) (l6 : mm_V) (l7 : mm_V), mm_E d 244 55 [l0, l1, (.inl z), l3, l4, l5, l6, l7] [] st n I L P = mm_E d 244 58 [l0, l1, (.inl (mm_add z 1)), l3, l4, l5, l6, l7] [] st n I L P) ∧
  (∀ (lv : List mm_V) (st : List mm_V), mm_E d 244 58 lv [] st n I L P = mm_E d 244 59 lv [] (.inl 1 :: st) n I L P) ∧
  (∀ (st : List mm_V) z (l0 : mm_V) (l1 : mm_V) (l2 : mm_V) (l3 : mm_V) (l4 : mm_V) (l5 : mm_V) (l6 : mm_V) (l7 : mm_V), mm_E d 244 59 [l0, l1, l2, l3, l4, l5, l6, l7] [] ((.inl z) :: st) n I L P = mm_E d 244 61 [l0, l1, l2, l3, (.inl z), l5, l6, l7] [] st n I L P) ∧
  (∀ (lv : List mm_V) (st : List mm_V), mm_E d 244 63 lv [] st n I L P = mm_E d 244 65 lv [] (.inl 12 :: st) n I L P) ∧
  (∀ (lv : List mm_V) (st : List mm_V) a b, mm_E d 244 65 lv [] (.inl b :: .inl a :: st) n I L P = if b < a then mm_E d 244 101 lv [] st n I L P else mm_E d 244 68 lv [] st n I L P) ∧
  (∀ (st : List mm_V) z (l1 : mm_V) (l2 : mm_V) (l3 : mm_V) (l4 : mm_V) (l5 : mm_V) (l6 : mm_V) (l7 : mm_V), mm_E d 244 68 [(.inr (.inr z)), l1, l2, l3, l4, l5, l6, l7] [] st n I L P = mm_E d 244 69 [(.inr (.inr z)), l1, l2, l3, l4, l5, l6, l7] [] ((.inr (.inr z)) :: st) n I L P) ∧
  (∀ (lv : List mm_V) (st : List mm_V) a, (mm_ok n a 12) → mm_E d 244 69 lv [] (.inr (.inr (some a)) :: st) n I L P = mm_E d 244 72 lv [] (.inr (.inr (P a 44)) :: st) n I L P) ∧
  (∀ (lv : List mm_V) (st : List mm_V), mm_E d 244 72 lv [] st n I L P = mm_E d 244 74 lv [] (.inl 100 :: st) n I L P) ∧
  (∀ (st : List mm_V) z (l0 : mm_V) (l1 : mm_V) (l2 : mm_V) (l3 : mm_V) (l5 : mm_V) (l6 : mm_V) (l7 : mm_V), mm_E d 244 74 [l0, l1, l2, l3, (.inl z), l5, l6, l7] [] st n I L P = mm_E d 244 76 [l0, l1, l2, l3, (.inl z), l5, l6, l7] [] ((.inl z) :: st) n I L P) ∧
  (∀ (lv : List mm_V) (st : List mm_V) a b, mm_E d 244 76 lv [] (.inl b :: .inl a :: st) n I L P = mm_E d 244 77 lv [] (.inl (mm_mul a b) :: st) n I L P) ∧
  (∀ (st : List mm_V) z (l1 : mm_V) (l2 : mm_V) (l3 : mm_V) (l4 : mm_V) (l5 : mm_V) (l6 : mm_V) (l7 : mm_V), mm_E d 244 77 [(.inr (.inr z)), l1, l2, l3, l4, l5, l6, l7] [] st n I L P = mm_E d 244 78 [(.inr (.inr z)), l1, l2, l3, l4, l5, l6, l7] [] ((.inr (.inr z)) :: st) n I L P) ∧
  (∀ (lv : List mm_V) (st : List mm_V) a, (mm_ok n a 12) → mm_E d 244 78 lv [] (.inr (.inr (some a)) :: st) n I L P = mm_E d 244 81 lv [] (.inr (.inr (P a 43)) :: st) n I L P) ∧
  (∀ (lv : List mm_V) (st : List mm_V), mm_E d 244 81 lv [] st n I L P = mm_E d 244 83 lv [] (.inl 8 :: st) n I L P) ∧
  (∀ (st : List mm_V) z (l0 : mm_V) (l1 : mm_V) (l2 : mm_V) (l3 : mm_V) (l5 : mm_V) (l6 : mm_V) (l7 : mm_V), mm_E d 244 83 [l0, l1, l2, l3, (.inl z), l5, l6, l7] [] st n I L P = mm_E d 244 85 [l0, l1, l2, l3, (.inl z), l5, l6, l7] [] ((.inl z) :: st) n I L P) ∧
  (∀ (lv : List mm_V) (st : List mm_V) a b, mm_E d 244 85 lv [] (.inl b :: .inl a :: st) n I L P = mm_E d 244 86 lv [] (.inl (mm_mul a b) :: st) n I L P) ∧
  (∀ (st : List mm_V) z (l0 : mm_V) (l2 : mm_V) (l3 : mm_V) (l4 : mm_V) (l5 : mm_V) (l6 : mm_V) (l7 : mm_V), mm_E d 244 86 [l0, (.inl z), l2, l3, l4, l5, l6, l7] [] st n I L P = mm_E d 244 87 [l0, (.inl z), l2, l3, l4, l5, l6, l7] [] ((.inl z) :: st) n I L P) ∧
  (∀ (lv : List mm_V) (st : List mm_V) a b, mm_E d 244 87 lv [] (.inl b :: .inl a :: st) n I L P = mm_E d 244 88 lv [] (.inl (mm_add a b) :: st) n I L P) ∧
  (∀ (lv : List mm_V) (st : List mm_V) a i, (mm_ix n a 20 i) → mm_E d 244 88 lv [] (.inl i :: .inr (.inr (some a)) :: st) n I L P = mm_E d 244 89 lv [] (.inl (I a i.toNat) :: st) n I L P) ∧
  (∀ (lv : List mm_V) (st : List mm_V) a b, mm_E d 244 89 lv [] (.inl b :: .inl a :: st) n I L P = mm_E d 244 90 lv [] (.inl (mm_add a b) :: st) n I L P) ∧
  (∀ (lv : List mm_V) (st : List mm_V) a b, mm_E d 244 90 lv [] ((.inl a) :: (.inr (.inr b)) :: st) n I L P = mm_E d 244 91 lv [] ((.inl a) :: (.inr (.inr b)) :: (.inl a) :: (.inr (.inr b)) :: st) n I L P) ∧
  (∀ (lv : List mm_V) (st : List mm_V) a i, (mm_ix n a 20 i) → mm_E d 244 91 lv [] (.inl i :: .inr (.inr (some a)) :: st) n I L P = mm_E d 244 92 lv [] (.inl (I a i.toNat) :: st) n I L P) ∧
  (∀ (lv : List mm_V) (st : List mm_V), mm_E d 244 92 lv [] st n I L P = mm_E d 244 93 lv [] (.inl 1 :: st) n I L P) ∧
  (∀ (lv : List mm_V) (st : List mm_V) a b, mm_E d 244 93 lv [] (.inl b :: .inl a :: st) n I L P = mm_E d 244 94 lv [] (.inl (mm_add a b) :: st) n I L P) ∧
  (∀ (lv : List mm_V) (st : List mm_V) a i z, (mm_ix n a 20 i) → mm_E d 244 94 lv [] (.inl z :: .inl i :: .inr (.inr (some a)) :: st) n I L P = mm_E d 244 95 lv [] st n (mm_ui I a i.toNat z) L P) ∧
  (∀ (st : List mm_V) z (l0 : mm_V) (l1 : mm_V) (l2 : mm_V) (l3 : mm_V) (l5 : mm_V) (l6 : mm_V) (l7 : mm_V), mm_E d 244 95 [l0, l1, l2, l3, (.inl z), l5, l6, l7] [] st n I L P = mm_E d 244 98 [l0, l1, l2, l3, (.inl (mm_add z 1)), l5, l6, l7] [] st n I L P) ∧
  (∀ (lv : List mm_V) (st : List mm_V), mm_E d 244 98 lv [] st n I L P = mm_E d 244 61 lv [] st n I L P) ∧
  (∀ (st : List mm_V) z (l0 : mm_V) (l1 : mm_V) (l2 : mm_V) (l4 : mm_V) (l5 : mm_V) (l6 : mm_V) (l7 : mm_V), mm_E d 244 101 [l0, l1, l2, (.inl z), l4, l5, l6, l7] [] st n I L P = mm_E d 244 104 [l0, l1, l2, (.inl (mm_add z 1)), l4, l5, l6, l7] [] st n I L P) ∧
  (∀ (lv : List mm_V) (st : List mm_V), mm_E d 244 104 lv [] st n I L P = mm_E d 244 36 lv [] st n I L P) ∧
  (∀ (lv : List mm_V) (st : List mm_V), mm_E d 244 107 lv [] st n I L P = mm_E d 244 108 lv [] (.inl (-1) :: st) n I L P) ∧
  (∀ (st : List mm_V) z (l0 : mm_V) (l1 : mm_V) (l2 : mm_V) (l3 : mm_V) (l4 : mm_V) (l5 : mm_V) (l6 : mm_V) (l7 : mm_V), mm_E d 244 108 [l0, l1, l2, l3, l4, l5, l6, l7] [] ((.inl z) :: st) n I L P = mm_E d 244 109 [l0, l1, l2, (.inl z), l4, l5, l6, l7] [] st n I L P) ∧
  (∀ (lv : List mm_V) (st : List mm_V), mm_E d 244 109 lv [] st n I L P = mm_E d 244 110 lv [] (.inl 0 :: st) n I L P) ∧
  (∀ (st : List mm_V) z (l0 : mm_V) (l1 : mm_V) (l2 : mm_V) (l3 : mm_V) (l4 : mm_V) (l5 : mm_V) (l6 : mm_V) (l7 : mm_V), mm_E d 244 110 [l0, l1, l2, l3, l4, l5, l6, l7] [] ((.inl z) :: st) n I L P = mm_E d 244 112 [l0, l1, l2, l3, (.inl z), l5, l6, l7] [] st n I L P) ∧
  (∀ (lv : List mm_V) (st : List mm_V), mm_E d 244 112 lv [] st n I L P = mm_E d 244 113 lv [] (.inl 1 :: st) n I L P) ∧
  (∀ (st : List mm_V) z (l0 : mm_V) (l1 : mm_V) (l2 : mm_V) (l3 : mm_V) (l4 : mm_V) (l5 : mm_V) (l6 : mm_V) (l7 : mm_V), mm_E d 244 113 [l0, l1, l2, l3, l4, l5, l6, l7] [] ((.inl z) :: st) n I L P = mm_E d 244 115 [l0, l1, l2, l3, l4, (.inl z), l6, l7] [] st n I L P) ∧
  (∀ (lv : List mm_V) (st : List mm_V), mm_E d 244 117 lv [] st n I L P = mm_E d 244 119 lv [] (.inl 12 :: st) n I L P) ∧
  (∀ (lv : List mm_V) (st : List mm_V) a b, mm_E d 244 119 lv [] (.inl b :: .inl a :: st) n I L P = if b < a then mm_E d 244 190 lv [] st n I L P else mm_E d 244 122 lv [] st n I L P) ∧
  (∀ (st : List mm_V) z (l0 : mm_V) (l1 : mm_V) (l3 : mm_V) (l4 : mm_V) (l5 : mm_V) (l6 : mm_V) (l7 : mm_V), mm_E d 244 122 [l0, l1, (.inl z), l3, l4, l5, l6, l7] [] st n I L P = mm_E d 244 123 [l0, l1, (.inl z), l3, l4, l5, l6, l7] [] ((.inl z) :: st) n I L P) ∧
  (∀ (lv : List mm_V) (st : List mm_V) a, mm_E d 244 123 lv [] (.inl a :: st) n I L P = if a ≤ 0 then mm_E d 244 190 lv [] st n I L P else mm_E d 244 126 lv [] st n I L P) ∧
  (∀ (lv : List mm_V) (st : List mm_V), mm_E d 244 126 lv [] st n I L P = mm_E d 244 127 lv [] (.inl 0 :: st) n I L P) ∧
  (∀ (st : List mm_V) z (l0 : mm_V) (l1 : mm_V) (l2 : mm_V) (l3 : mm_V) (l4 : mm_V) (l5 : mm_V) (l6 : mm_V) (l7 : mm_V), mm_E d 244 127 [l0, l1, l2, l3, l4, l5, l6, l7] [] ((.inl z) :: st) n I L P = mm_E d 244 129 [l0, l1, l2, l3, l4, l5, (.inl z), l7] [] st n I L P) ∧
  (∀ (lv : List mm_V) (st : List mm_V), mm_E d 244 129 lv [] st n I L P = mm_E d 244 130 lv [] (.inl 0 :: st) n I L P) ∧
  (∀ (st : List mm_V) z (l0 : mm_V) (l1 : mm_V) (l2 : mm_V) (l3 : mm_V) (l4 : mm_V) (l5 : mm_V) (l6 : mm_V) (l7 : mm_V), mm_E d 244 130 [l0, l1, l2, l3, l4, l5, l6, l7] [] ((.inl z) :: st) n I L P = mm_E d 244 132 [l0, l1, l2, l3, l4, l5, l6, (.inl z)] [] st n I L P) ∧
  (∀ (lv : List mm_V) (st : List mm_V), mm_E d 244 134 lv [] st n I L P = mm_E d 244 136 lv [] (.inl 100 :: st) n I L P) ∧
  (∀ (lv : List mm_V) (st : List mm_V) a b, mm_E d 244 136 lv [] (.inl b :: .inl a :: st) n I L P = if b ≤ a then mm_E d 244 165 lv [] st n I L P else mm_E d 244 139 lv [] st n I L P) ∧
  (∀ (st : List mm_V) z (l0 : mm_V) (l1 : mm_V) (l2 : mm_V) (l3 : mm_V) (l4 : mm_V) (l5 : mm_V) (l7 : mm_V), mm_E d 244 139 [l0, l1, l2, l3, l4, l5, (.inl z), l7] [] st n I L P = mm_E d 244 141 [l0, l1, l2, l3, l4, l5, (.inl z), l7] [] ((.inl z) :: st) n I L P) ∧
  (∀ (st : List mm_V) z (l1 : mm_V) (l2 : mm_V) (l3 : mm_V) (l4 : mm_V) (l5 : mm_V) (l6 : mm_V) (l7 : mm_V), mm_E d 244 141 [(.inr (.inr z)), l1, l2, l3, l4, l5, l6, l7] [] st n I L P = mm_E d 244 142 [(.inr (.inr z)), l1, l2, l3, l4, l5, l6, l7] [] ((.inr (.inr z)) :: st) n I L P) ∧
  (∀ (lv : List mm_V) (st : List mm_V) a, (mm_ok n a 12) → mm_E d 244 142 lv [] (.inr (.inr (some a)) :: st) n I L P = mm_E d 244 145 lv [] (.inr (.inr (P a 44)) :: st) n I L P) ∧
  (∀ (lv : List mm_V) (st : List mm_V), mm_E d 244 145 lv [] st n I L P = mm_E d 244 147 lv [] (.inl 100 :: st) n I L P) ∧
  (∀ (st : List mm_V) z (l0 : mm_V) (l1 : mm_V) (l2 : mm_V) (l3 : mm_V) (l4 : mm_V) (l6 : mm_V) (l7 : mm_V), mm_E d 244 147 [l0, l1, l2, l3, l4, (.inl z), l6, l7] [] st n I L P = mm_E d 244 149 [l0, l1, l2, l3, l4, (.inl z), l6, l7] [] ((.inl z) :: st) n I L P) ∧
  (∀ (lv : List mm_V) (st : List mm_V) a b, mm_E d 244 149 lv [] (.inl b :: .inl a :: st) n I L P = mm_E d 244 150 lv [] (.inl (mm_mul a b) :: st) n I L P) ∧
  (∀ (st : List mm_V) z (l0 : mm_V) (l1 : mm_V) (l2 : mm_V) (l3 : mm_V) (l4 : mm_V) (l5 : mm_V) (l6 : mm_V), mm_E d 244 150 [l0, l1, l2, l3, l4, l5, l6, (.inl z)] [] st n I L P = mm_E d 244 152 [l0, l1, l2, l3, l4, l5, l6, (.inl z)] [] ((.inl z) :: st) n I L P) ∧
  (∀ (lv : List mm_V) (st : List mm_V) a b, mm_E d 244 152 lv [] (.inl b :: .inl a :: st) n I L P = mm_E d 244 153 lv [] (.inl (mm_add a b) :: st) n I L P) ∧
  (∀ (lv : List mm_V) (st : List mm_V) a i, (mm_ix n a 20 i) → mm_E d 244 153 lv [] (.inl i :: .inr (.inr (some a)) :: st) n I L P = mm_E d 244 154 lv [] (.inl (I a i.toNat) :: st) n I L P) ∧
  (∀ (lv : List mm_V) x0 x1, mm_E d 244 154 lv [] (.inl x1 :: .inl x0 :: []) n I L P = mm_kr d 244 157 lv [] [] n (mm_rn d 265 [.inl x0, .inl x1] n I L P)) ∧
  (∀ (st : List mm_V) z (l0 : mm_V) (l1 : mm_V) (l2 : mm_V) (l3 : mm_V) (l4 : mm_V) (l5 : mm_V) (l6 : mm_V) (l7 : mm_V), mm_E d 244 157 [l0, l1, l2, l3, l4, l5, l6, l7] [] ((.inl z) :: st) n I L P = mm_E d 244 159 [l0, l1, l2, l3, l4, l5, (.inl z), l7] [] st n I L P) ∧
  (∀ (st : List mm_V) z (l0 : mm_V) (l1 : mm_V) (l2 : mm_V) (l3 : mm_V) (l4 : mm_V) (l5 : mm_V) (l6 : mm_V), mm_E d 244 159 [l0, l1, l2, l3, l4, l5, l6, (.inl z)] [] st n I L P = mm_E d 244 162 [l0, l1, l2, l3, l4, l5, l6, (.inl (mm_add z 1))] [] st n I L P) ∧
  (∀ (lv : List mm_V) (st : List mm_V), mm_E d 244 162 lv [] st n I L P = mm_E d 244 132 lv [] st n I L P) ∧
  (∀ (st : List mm_V) z (l0 : mm_V) (l1 : mm_V) (l2 : mm_V) (l4 : mm_V) (l5 : mm_V) (l6 : mm_V) (l7 : mm_V), mm_E d 244 165 [l0, l1, l2, (.inl z), l4, l5, l6, l7] [] st n I L P = mm_E d 244 166 [l0, l1, l2, (.inl z), l4, l5, l6, l7] [] ((.inl z) :: st) n I L P) ∧
  (∀ (lv : List mm_V) (st : List mm_V), mm_E d 244 166 lv [] st n I L P = mm_E d 244 167 lv [] (.inl (-1) :: st) n I L P) ∧
  (∀ (lv : List mm_V) (st : List mm_V) a b, mm_E d 244 167 lv [] (.inl b :: .inl a :: st) n I L P = if a = b then mm_E d 244 177 lv [] st n I L P else mm_E d 244 170 lv [] st n I L P) ∧
  (∀ (st : List mm_V) z (l0 : mm_V) (l1 : mm_V) (l2 : mm_V) (l3 : mm_V) (l4 : mm_V) (l5 : mm_V) (l7 : mm_V), mm_E d 244 170 [l0, l1, l2, l3, l4, l5, (.inl z), l7] [] st n I L P = mm_E d 244 172 [l0, l1, l2, l3, l4, l5, (.inl z), l7] [] ((.inl z) :: st) n I L P) ∧
  (∀ (st : List mm_V) z (l0 : mm_V) (l1 : mm_V) (l2 : mm_V) (l3 : mm_V) (l5 : mm_V) (l6 : mm_V) (l7 : mm_V), mm_E d 244 172 [l0, l1, l2, l3, (.inl z), l5, l6, l7] [] st n I L P = mm_E d 244 174 [l0, l1, l2, l3, (.inl z), l5, l6, l7] [] ((.inl z) :: st) n I L P) ∧
  (∀ (lv : List mm_V) (st : List mm_V) a b, mm_E d 244 174 lv [] (.inl b :: .inl a :: st) n I L P = if b ≤ a then mm_E d 244 184 lv [] st n I L P else mm_E d 244 177 lv [] st n I L P) ∧
  (∀ (st : List mm_V) z (l0 : mm_V) (l1 : mm_V) (l2 : mm_V) (l3 : mm_V) (l4 : mm_V) (l6 : mm_V) (l7 : mm_V), mm_E d 244 177 [l0, l1, l2, l3, l4, (.inl z), l6, l7] [] st n I L P = mm_E d 244 179 [l0, l1, l2, l3, l4, (.inl z), l6, l7] [] ((.inl z) :: st) n I L P) ∧
  (∀ (st : List mm_V) z (l0 : mm_V) (l1 : mm_V) (l2 : mm_V) (l3 : mm_V) (l4 : mm_V) (l5 : mm_V) (l6 : mm_V) (l7 : mm_V), mm_E d 244 179 [l0, l1, l2, l3, l4, l5, l6, l7] [] ((.inl z) :: st) n I L P = mm_E d 244 180 [l0, l1, l2, (.inl z), l4, l5, l6, l7] [] st n I L P) ∧
  (∀ (st : List mm_V) z (l0 : mm_V) (l1 : mm_V) (l2 : mm_V) (l3 : mm_V) (l4 : mm_V) (l5 : mm_V) (l7 : mm_V), mm_E d 244 180 [l0, l1, l2, l3, l4, l5, (.inl z), l7] [] st n I L P = mm_E d 244 182 [l0, l1, l2, l3, l4, l5, (.inl z), l7] [] ((.inl z) :: st) n I L P) ∧
  (∀ (st : List mm_V) z (l0 : mm_V) (l1 : mm_V) (l2 : mm_V) (l3 : mm_V) (l4 : mm_V) (l5 : mm_V) (l6 : mm_V) (l7 : mm_V), mm_E d 244 182 [l0, l1, l2, l3, l4, l5, l6, l7] [] ((.inl z) :: st) n I L P = mm_E d 244 184 [l0, l1, l2, l3, (.inl z), l5, l6, l7] [] st n I L P) ∧
  (∀ (st : List mm_V) z (l0 : mm_V) (l1 : mm_V) (l2 : mm_V) (l3 : mm_V) (l4 : mm_V) (l6 : mm_V) (l7 : mm_V), mm_E d 244 184 [l0, l1, l2, l3, l4, (.inl z), l6, l7] [] st n I L P = mm_E d 244 187 [l0, l1, l2, l3, l4, (.inl (mm_add z 1)), l6, l7] [] st n I L P) ∧
  (∀ (lv : List mm_V) (st : List mm_V), mm_E d 244 187 lv [] st n I L P = mm_E d 244 115 lv [] st n I L P) ∧
  (∀ (st : List mm_V) z (l0 : mm_V) (l1 : mm_V) (l2 : mm_V) (l4 : mm_V) (l5 : mm_V) (l6 : mm_V) (l7 : mm_V), mm_E d 244 190 [l0, l1, l2, (.inl z), l4, l5, l6, l7] [] st n I L P = mm_E d 244 191 [l0, l1, l2, (.inl z), l4, l5, l6, l7] [] ((.inl z) :: st) n I L P) ∧
  (∀ (lv : List mm_V) z, mm_E d 244 191 lv [] [.inl z] n I L P = some (some (.inl z), n, I, L, P)) :=
  ⟨fun _ _ _ _ _ _ _ _ _ => mq_al (i := 0) rfl rfl,
   fun _ _ _ _ _ _ _ _ _ => mq_il (i := 1) rfl rfl,
   fun _ _ _ h0 => mq_cVr (na := 1) rfl rfl (Nat.le_of_ble_eq_true rfl) (Nat.le_of_ble_eq_true rfl) h0,
   fun _ _ _ => mq_if_ne rfl,
   fun _ _ => mq_push rfl,
   fun _ _ => mq_ri rfl,
   fun _ _ => mq_push rfl,
   fun _ _ _ _ _ _ _ _ _ _ => mq_is (i := 2) rfl rfl rfl,
   fun _ _ => mq_push rfl,
   fun _ _ _ _ => mq_ic_ge rfl,
   fun _ _ _ _ _ _ _ _ _ => mq_al (i := 0) rfl rfl,
   fun _ _ _ h0 => mq_getR rfl h0,
   fun _ _ _ _ _ _ _ _ _ => mq_il (i := 2) rfl rfl,
   fun _ _ => mq_push rfl,
   fun _ _ _ _ _ h0 => mq_iast rfl h0,
   fun _ _ _ _ _ _ _ _ _ => mq_iinc (i := 2) rfl rfl rfl rfl,
   fun _ _ => mq_go rfl,
   fun _ _ => mq_push rfl,
   fun _ _ _ _ _ _ _ _ _ _ => mq_is (i := 2) rfl rfl rfl,
   fun _ _ => mq_push rfl,
   fun _ _ _ _ _ _ _ _ _ _ => mq_is (i := 3) rfl rfl rfl,
   fun _ _ => mq_push rfl,
   fun _ _ _ _ _ _ _ _ _ => mq_al (i := 0) rfl rfl,
   fun _ _ _ h0 => mq_getI rfl h0,
   fun _ _ _ _ => mq_bi rfl,
   fun _ _ _ _ => mq_ic_ge rfl,
   fun _ _ _ _ _ _ _ _ _ => mq_al (i := 0) rfl rfl,
   fun _ _ _ _ _ _ _ _ _ => mq_il (i := 3) rfl rfl,
   fun _ _ _ h0 => mq_cVr (na := 1) rfl rfl (Nat.le_of_ble_eq_true rfl) (Nat.le_of_ble_eq_true rfl) h0,
   fun _ _ _ => mq_if_eq rfl,
   fun _ _ _ _ _ _ _ _ _ => mq_iinc (i := 2) rfl rfl rfl rfl,
   fun _ _ => mq_push rfl,
   fun _ _ _ _ _ _ _ _ _ _ => mq_is (i := 4) rfl rfl rfl,
   fun _ _ => mq_push rfl,
   fun _ _ _ _ => mq_ic_gt rfl,
   fun _ _ _ _ _ _ _ _ _ => mq_al (i := 0) rfl rfl,
   fun _ _ _ h0 => mq_getR rfl h0,
   fun _ _ => mq_push rfl,
   fun _ _ _ _ _ _ _ _ _ => mq_il (i := 4) rfl rfl,
   fun _ _ _ _ => mq_bi rfl,
   fun _ _ _ _ _ _ _ _ _ => mq_al (i := 0) rfl rfl,
   fun _ _ _ h0 => mq_getR rfl h0,
   fun _ _ => mq_push rfl,
   fun _ _ _ _ _ _ _ _ _ => mq_il (i := 4) rfl rfl,
   fun _ _ _ _ => mq_bi rfl,
   fun _ _ _ _ _ _ _ _ _ => mq_il (i := 1) rfl rfl,
   fun _ _ _ _ => mq_bi rfl,
   fun _ _ _ _ h0 => mq_iald rfl h0,
   fun _ _ _ _ => mq_bi rfl,
   fun _ _ _ _ => mq_dup2 rfl rfl rfl,
   fun _ _ _ _ h0 => mq_iald rfl h0,
   fun _ _ => mq_push rfl,
   fun _ _ _ _ => mq_bi rfl,
   fun _ _ _ _ _ h0 => mq_iast rfl h0,
   fun _ _ _ _ _ _ _ _ _ => mq_iinc (i := 4) rfl rfl rfl rfl,
   fun _ _ => mq_go rfl,
   fun _ _ _ _ _ _ _ _ _ => mq_iinc (i := 3) rfl rfl rfl rfl,
   fun _ _ => mq_go rfl,
   fun _ _ => mq_push rfl,
   fun _ _ _ _ _ _ _ _ _ _ => mq_is (i := 3) rfl rfl rfl,
   fun _ _ => mq_push rfl,
   fun _ _ _ _ _ _ _ _ _ _ => mq_is (i := 4) rfl rfl rfl,
   fun _ _ => mq_push rfl,
   fun _ _ _ _ _ _ _ _ _ _ => mq_is (i := 5) rfl rfl rfl,
   fun _ _ => mq_push rfl,
   fun _ _ _ _ => mq_ic_gt rfl,
   fun _ _ _ _ _ _ _ _ _ => mq_il (i := 2) rfl rfl,
   fun _ _ _ => mq_if_le rfl,
   fun _ _ => mq_push rfl,
   fun _ _ _ _ _ _ _ _ _ _ => mq_is (i := 6) rfl rfl rfl,
   fun _ _ => mq_push rfl,
   fun _ _ _ _ _ _ _ _ _ _ => mq_is (i := 7) rfl rfl rfl,
   fun _ _ => mq_push rfl,
   fun _ _ _ _ => mq_ic_ge rfl,
   fun _ _ _ _ _ _ _ _ _ => mq_il (i := 6) rfl rfl,
   fun _ _ _ _ _ _ _ _ _ => mq_al (i := 0) rfl rfl,
   fun _ _ _ h0 => mq_getR rfl h0,
   fun _ _ => mq_push rfl,
   fun _ _ _ _ _ _ _ _ _ => mq_il (i := 5) rfl rfl,
   fun _ _ _ _ => mq_bi rfl,
   fun _ _ _ _ _ _ _ _ _ => mq_il (i := 7) rfl rfl,
   fun _ _ _ _ => mq_bi rfl,
   fun _ _ _ _ h0 => mq_iald rfl h0,
   fun _ _ _ => mq_cSr (na := 2) rfl (Nat.le_of_ble_eq_true rfl) (Nat.le_of_ble_eq_true rfl),
   fun _ _ _ _ _ _ _ _ _ _ => mq_is (i := 6) rfl rfl rfl,
   fun _ _ _ _ _ _ _ _ _ => mq_iinc (i := 7) rfl rfl rfl rfl,
   fun _ _ => mq_go rfl,
   fun _ _ _ _ _ _ _ _ _ => mq_il (i := 3) rfl rfl,
   fun _ _ => mq_push rfl,
   fun _ _ _ _ => mq_ic_eq rfl,
   fun _ _ _ _ _ _ _ _ _ => mq_il (i := 6) rfl rfl,
   fun _ _ _ _ _ _ _ _ _ => mq_il (i := 4) rfl rfl,
   fun _ _ _ _ => mq_ic_ge rfl,
   fun _ _ _ _ _ _ _ _ _ => mq_il (i := 5) rfl rfl,
   fun _ _ _ _ _ _ _ _ _ _ => mq_is (i := 3) rfl rfl rfl,
   fun _ _ _ _ _ _ _ _ _ => mq_il (i := 6) rfl rfl,
   fun _ _ _ _ _ _ _ _ _ _ => mq_is (i := 4) rfl rfl rfl,
   fun _ _ _ _ _ _ _ _ _ => mq_iinc (i := 5) rfl rfl rfl rfl,
   fun _ _ => mq_go rfl,
   fun _ _ _ _ _ _ _ _ _ => mq_il (i := 3) rfl rfl,
   fun _ _ => mq_ri rfl⟩
theorem hX12_ask_12 (d n : Nat) (I L : mm_I) (P : mm_P) : ∀ (st : List mm_V) z (l0 : mm_V) (l1 : mm_V) (l3 : mm_V) (l4 : mm_V) (l5 : mm_V) (l6 : mm_V) (l7 : mm_V), mm_E d 244 12 [l0, l1, (.inl z), l3, l4, l5, l6, l7] [] st n I L P = mm_E d 244 13 [l0, l1, (.inl z), l3, l4, l5, l6, l7] [] ((.inl z) :: st) n I L P := fun _ _ _ _ _ _ _ _ _ => mq_il (i := 2) rfl rfl
theorem hX12_ask_36 (d n : Nat) (I L : mm_I) (P : mm_P) : ∀ (st : List mm_V) z (l0 : mm_V) (l1 : mm_V) (l2 : mm_V) (l4 : mm_V) (l5 : mm_V) (l6 : mm_V) (l7 : mm_V), mm_E d 244 36 [l0, l1, l2, (.inl z), l4, l5, l6, l7] [] st n I L P = mm_E d 244 37 [l0, l1, l2, (.inl z), l4, l5, l6, l7] [] ((.inl z) :: st) n I L P := fun _ _ _ _ _ _ _ _ _ => mq_il (i := 3) rfl rfl
theorem hX12_ask_61 (d n : Nat) (I L : mm_I) (P : mm_P) : ∀ (st : List mm_V) z (l0 : mm_V) (l1 : mm_V) (l2 : mm_V) (l3 : mm_V) (l5 : mm_V) (l6 : mm_V) (l7 : mm_V), mm_E d 244 61 [l0, l1, l2, l3, (.inl z), l5, l6, l7] [] st n I L P = mm_E d 244 63 [l0, l1, l2, l3, (.inl z), l5, l6, l7] [] ((.inl z) :: st) n I L P := fun _ _ _ _ _ _ _ _ _ => mq_il (i := 4) rfl rfl
theorem hX12_ask_115 (d n : Nat) (I L : mm_I) (P : mm_P) : ∀ (st : List mm_V) z (l0 : mm_V) (l1 : mm_V) (l2 : mm_V) (l3 : mm_V) (l4 : mm_V) (l6 : mm_V) (l7 : mm_V), mm_E d 244 115 [l0, l1, l2, l3, l4, (.inl z), l6, l7] [] st n I L P = mm_E d 244 117 [l0, l1, l2, l3, l4, (.inl z), l6, l7] [] ((.inl z) :: st) n I L P := fun _ _ _ _ _ _ _ _ _ => mq_il (i := 5) rfl rfl
theorem hX12_ask_132 (d n : Nat) (I L : mm_I) (P : mm_P) : ∀ (st : List mm_V) z (l0 : mm_V) (l1 : mm_V) (l2 : mm_V) (l3 : mm_V) (l4 : mm_V) (l5 : mm_V) (l6 : mm_V), mm_E d 244 132 [l0, l1, l2, l3, l4, l5, l6, (.inl z)] [] st n I L P = mm_E d 244 134 [l0, l1, l2, l3, l4, l5, l6, (.inl z)] [] ((.inl z) :: st) n I L P := fun _ _ _ _ _ _ _ _ _ => mq_il (i := 7) rfl rfl
theorem eX12_ask (d n : Nat) (I L : mm_I) (P : mm_P) (x0 : Option Nat) (x1 : Int) : mm_rn (d + 1) 244 [.inr (.inr x0), .inl x1] n I L P = mm_E d 244 0 [.inr (.inr x0), .inl x1, mm_junk, mm_junk, mm_junk, mm_junk, mm_junk, mm_junk] [] [] n I L P := rfl

set_option maxRecDepth 20000 in
set_option maxHeartbeats 8000000 in
theorem kX12_thiefHas (d n : Nat) (I L : mm_I) (P : mm_P) :
  (∀ (st : List mm_V) z (l0 : mm_V) (l1 : mm_V) (l2 : mm_V) (l4 : mm_V), mm_E d 245 0 [l0, l1, l2, (.inl z), l4] [] st n I L P = mm_E d 245 1 [l0, l1, l2, (.inl z), l4] [] ((.inl z) :: st) n I L P) ∧
  (∀ (st : List mm_V) z (l0 : mm_V) (l1 : mm_V) (l2 : mm_V) (l3 : mm_V), mm_E d 245 1 [l0, l1, l2, l3, (.inl z)] [] st n I L P = mm_E d 245 3 [l0, l1, l2, l3, (.inl z)] [] ((.inl z) :: st) n I L P) ∧
  (∀ (lv : List mm_V) (st : List mm_V) a b, mm_E d 245 3 lv [] (.inl b :: .inl a :: st) n I L P = if a = b then mm_E d 245 6 lv [] st n I L P else mm_E d 245 11 lv [] st n I L P) ∧
  (∀ (lv : List mm_V) (st : List mm_V), mm_E d 245 6 lv [] st n I L P = mm_E d 245 8 lv [] (.inl (-3) :: st) n I L P) ∧
  (∀ (lv : List mm_V) (st : List mm_V), mm_E d 245 8 lv [] st n I L P = mm_E d 245 33 lv [] st n I L P) ∧
  (∀ (st : List mm_V) z (l1 : mm_V) (l2 : mm_V) (l3 : mm_V) (l4 : mm_V), mm_E d 245 11 [(.inr (.inr z)), l1, l2, l3, l4] [] st n I L P = mm_E d 245 12 [(.inr (.inr z)), l1, l2, l3, l4] [] ((.inr (.inr z)) :: st) n I L P) ∧
  (∀ (lv : List mm_V) (st : List mm_V) a, (mm_ok n a 12) → mm_E d 245 12 lv [] (.inr (.inr (some a)) :: st) n I L P = mm_E d 245 15 lv [] (.inr (.inr (P a 27)) :: st) n I L P) ∧
  (∀ (lv : List mm_V) (st : List mm_V), mm_E d 245 15 lv [] st n I L P = mm_E d 245 16 lv [] (.inl 0 :: st) n I L P) ∧
  (∀ (st : List mm_V) z (l0 : mm_V) (l1 : mm_V) (l2 : mm_V) (l3 : mm_V), mm_E d 245 16 [l0, l1, l2, l3, (.inl z)] [] st n I L P = mm_E d 245 18 [l0, l1, l2, l3, (.inl z)] [] ((.inl z) :: st) n I L P) ∧
  (∀ (lv : List mm_V) (st : List mm_V) a, mm_E d 245 18 lv [] (.inl a :: st) n I L P = if a = 0 then mm_E d 245 21 lv [] st n I L P else mm_E d 245 25 lv [] st n I L P) ∧
  (∀ (st : List mm_V) z (l0 : mm_V) (l2 : mm_V) (l3 : mm_V) (l4 : mm_V), mm_E d 245 21 [l0, (.inl z), l2, l3, l4] [] st n I L P = mm_E d 245 22 [l0, (.inl z), l2, l3, l4] [] ((.inl z) :: st) n I L P) ∧
  (∀ (lv : List mm_V) (st : List mm_V), mm_E d 245 22 lv [] st n I L P = mm_E d 245 26 lv [] st n I L P) ∧
  (∀ (st : List mm_V) z (l0 : mm_V) (l1 : mm_V) (l3 : mm_V) (l4 : mm_V), mm_E d 245 25 [l0, l1, (.inl z), l3, l4] [] st n I L P = mm_E d 245 26 [l0, l1, (.inl z), l3, l4] [] ((.inl z) :: st) n I L P) ∧
  (∀ (lv : List mm_V) (st : List mm_V) a b, mm_E d 245 26 lv [] (.inl b :: .inl a :: st) n I L P = mm_E d 245 27 lv [] (.inl (mm_add a b) :: st) n I L P) ∧
  (∀ (lv : List mm_V) (st : List mm_V) a i, (mm_ix n a 20 i) → mm_E d 245 27 lv [] (.inl i :: .inr (.inr (some a)) :: st) n I L P = mm_E d 245 28 lv [] (.inl (I a i.toNat) :: st) n I L P) ∧
  (∀ (lv : List mm_V) (st : List mm_V), mm_E d 245 28 lv [] st n I L P = mm_E d 245 30 lv [] (.inl 10 :: st) n I L P) ∧
  (∀ (lv : List mm_V) (st : List mm_V) a b, (¬ b = 0) → mm_E d 245 30 lv [] (.inl b :: .inl a :: st) n I L P = mm_E d 245 31 lv [] (.inl (mm_w (Int.tdiv a b)) :: st) n I L P) ∧
  (∀ (lv : List mm_V) (st : List mm_V), mm_E d 245 31 lv [] st n I L P = mm_E d 245 32 lv [] (.inl 1 :: st) n I L P) ∧
  (∀ (lv : List mm_V) (st : List mm_V) a b, mm_E d 245 32 lv [] (.inl b :: .inl a :: st) n I L P = mm_E d 245 33 lv [] (.inl (mm_add a b) :: st) n I L P) ∧
  (∀ (lv : List mm_V) z, mm_E d 245 33 lv [] [.inl z] n I L P = some (some (.inl z), n, I, L, P)) :=
  ⟨fun _ _ _ _ _ _ => mq_il (i := 3) rfl rfl,
   fun _ _ _ _ _ _ => mq_il (i := 4) rfl rfl,
   fun _ _ _ _ => mq_ic_ne rfl,
   fun _ _ => mq_push rfl,
   fun _ _ => mq_go rfl,
   fun _ _ _ _ _ _ => mq_al (i := 0) rfl rfl,
   fun _ _ _ h0 => mq_getR rfl h0,
   fun _ _ => mq_push rfl,
   fun _ _ _ _ _ _ => mq_il (i := 4) rfl rfl,
   fun _ _ _ => mq_if_ne rfl,
   fun _ _ _ _ _ _ => mq_il (i := 1) rfl rfl,
   fun _ _ => mq_go rfl,
   fun _ _ _ _ _ _ => mq_il (i := 2) rfl rfl,
   fun _ _ _ _ => mq_bi rfl,
   fun _ _ _ _ h0 => mq_iald rfl h0,
   fun _ _ => mq_push rfl,
   fun _ _ _ _ h0 => mq_di rfl h0,
   fun _ _ => mq_push rfl,
   fun _ _ _ _ => mq_bi rfl,
   fun _ _ => mq_ri rfl⟩
theorem eX12_thiefHas (d n : Nat) (I L : mm_I) (P : mm_P) (x0 : Option Nat) (x1 : Int) (x2 : Int) (x3 : Int) (x4 : Int) : mm_rn (d + 1) 245 [.inr (.inr x0), .inl x1, .inl x2, .inl x3, .inl x4] n I L P = mm_E d 245 0 [.inr (.inr x0), .inl x1, .inl x2, .inl x3, .inl x4] [] [] n I L P := rfl

set_option maxRecDepth 20000 in
set_option maxHeartbeats 8000000 in
theorem kX12_heHas (d n : Nat) (I L : mm_I) (P : mm_P) :
  (∀ (st : List mm_V) z (l1 : mm_V) (l2 : mm_V) (l3 : mm_V) (l4 : mm_V), mm_E d 246 0 [(.inr (.inr z)), l1, l2, l3, l4] [] st n I L P = mm_E d 246 1 [(.inr (.inr z)), l1, l2, l3, l4] [] ((.inr (.inr z)) :: st) n I L P) ∧
  (∀ (st : List mm_V) z (l0 : mm_V) (l2 : mm_V) (l3 : mm_V) (l4 : mm_V), mm_E d 246 1 [l0, (.inl z), l2, l3, l4] [] st n I L P = mm_E d 246 2 [l0, (.inl z), l2, l3, l4] [] ((.inl z) :: st) n I L P) ∧
  (∀ (st : List mm_V) z (l0 : mm_V) (l1 : mm_V) (l3 : mm_V) (l4 : mm_V), mm_E d 246 2 [l0, l1, (.inl z), l3, l4] [] st n I L P = mm_E d 246 3 [l0, l1, (.inl z), l3, l4] [] ((.inl z) :: st) n I L P) ∧
  (∀ (st : List mm_V) z (l0 : mm_V) (l1 : mm_V) (l2 : mm_V) (l4 : mm_V), mm_E d 246 3 [l0, l1, l2, (.inl z), l4] [] st n I L P = mm_E d 246 4 [l0, l1, l2, (.inl z), l4] [] ((.inl z) :: st) n I L P) ∧
  (∀ (st : List mm_V) z (l0 : mm_V) (l1 : mm_V) (l2 : mm_V) (l3 : mm_V), mm_E d 246 4 [l0, l1, l2, l3, (.inl z)] [] st n I L P = mm_E d 246 6 [l0, l1, l2, l3, (.inl z)] [] ((.inl z) :: st) n I L P) ∧
  (∀ (lv : List mm_V) a x0 x1 x2 x3, (mm_ok n a 12) → mm_E d 246 6 lv [] (.inl x3 :: .inl x2 :: .inl x1 :: .inl x0 :: .inr (.inr (some a)) :: []) n I L P = mm_kr d 246 9 lv [] [] n (mm_rn d 245 [.inr (.inr (some a)), .inl x0, .inl x1, .inl x2, .inl x3] n I L P)) ∧
  (∀ (lv : List mm_V) (st : List mm_V) a, mm_E d 246 9 lv [] (.inl a :: st) n I L P = mm_E d 246 10 lv [] (.inl (mm_neg a) :: st) n I L P) ∧
  (∀ (st : List mm_V) z (l1 : mm_V) (l2 : mm_V) (l3 : mm_V) (l4 : mm_V), mm_E d 246 10 [(.inr (.inr z)), l1, l2, l3, l4] [] st n I L P = mm_E d 246 11 [(.inr (.inr z)), l1, l2, l3, l4] [] ((.inr (.inr z)) :: st) n I L P) ∧
  (∀ (st : List mm_V) z (l1 : mm_V) (l2 : mm_V) (l3 : mm_V) (l4 : mm_V), mm_E d 246 11 [(.inr (.inr z)), l1, l2, l3, l4] [] st n I L P = mm_E d 246 12 [(.inr (.inr z)), l1, l2, l3, l4] [] ((.inr (.inr z)) :: st) n I L P) ∧
  (∀ (lv : List mm_V) (st : List mm_V) a, (mm_ok n a 12) → mm_E d 246 12 lv [] (.inr (.inr (some a)) :: st) n I L P = mm_E d 246 15 lv [] (.inr (.inr (P a 27)) :: st) n I L P) ∧
  (∀ (lv : List mm_V) (st : List mm_V), mm_E d 246 15 lv [] st n I L P = mm_E d 246 17 lv [] (.inl 24 :: st) n I L P) ∧
  (∀ (lv : List mm_V) (st : List mm_V) a i, (mm_ix n a 20 i) → mm_E d 246 17 lv [] (.inl i :: .inr (.inr (some a)) :: st) n I L P = mm_E d 246 18 lv [] (.inl (I a i.toNat) :: st) n I L P) ∧
  (∀ (st : List mm_V) z (l0 : mm_V) (l1 : mm_V) (l2 : mm_V) (l4 : mm_V), mm_E d 246 18 [l0, l1, l2, (.inl z), l4] [] st n I L P = mm_E d 246 19 [l0, l1, l2, (.inl z), l4] [] ((.inl z) :: st) n I L P) ∧
  (∀ (lv : List mm_V) (st : List mm_V) a, mm_E d 246 19 lv [] (.inl a :: st) n I L P = if a = 0 then mm_E d 246 22 lv [] st n I L P else mm_E d 246 26 lv [] st n I L P) ∧
  (∀ (st : List mm_V) z (l0 : mm_V) (l2 : mm_V) (l3 : mm_V) (l4 : mm_V), mm_E d 246 22 [l0, (.inl z), l2, l3, l4] [] st n I L P = mm_E d 246 23 [l0, (.inl z), l2, l3, l4] [] ((.inl z) :: st) n I L P) ∧
  (∀ (lv : List mm_V) (st : List mm_V), mm_E d 246 23 lv [] st n I L P = mm_E d 246 27 lv [] st n I L P) ∧
  (∀ (st : List mm_V) z (l0 : mm_V) (l1 : mm_V) (l3 : mm_V) (l4 : mm_V), mm_E d 246 26 [l0, l1, (.inl z), l3, l4] [] st n I L P = mm_E d 246 27 [l0, l1, (.inl z), l3, l4] [] ((.inl z) :: st) n I L P) ∧
  (∀ (lv : List mm_V) a x0 x1 w0, (mm_ok n a 12) → mm_E d 246 27 lv [] (.inl x1 :: .inl x0 :: .inr (.inr (some a)) :: [.inl w0]) n I L P = mm_kr d 246 30 lv [] [.inl w0] n (mm_rn d 192 [.inr (.inr (some a)), .inl x0, .inl x1] n I L P)) ∧
  (∀ (lv : List mm_V) (st : List mm_V) a b, mm_E d 246 30 lv [] (.inl b :: .inl a :: st) n I L P = mm_E d 246 31 lv [] (.inl (mm_sub a b) :: st) n I L P) ∧
  (∀ (lv : List mm_V) z, mm_E d 246 31 lv [] [.inl z] n I L P = some (some (.inl z), n, I, L, P)) :=
  ⟨fun _ _ _ _ _ _ => mq_al (i := 0) rfl rfl,
   fun _ _ _ _ _ _ => mq_il (i := 1) rfl rfl,
   fun _ _ _ _ _ _ => mq_il (i := 2) rfl rfl,
   fun _ _ _ _ _ _ => mq_il (i := 3) rfl rfl,
   fun _ _ _ _ _ _ => mq_il (i := 4) rfl rfl,
   fun _ _ _ _ _ _ h0 => mq_cVr (na := 4) rfl rfl (Nat.le_of_ble_eq_true rfl) (Nat.le_of_ble_eq_true rfl) h0,
   fun _ _ _ => mq_un rfl,
   fun _ _ _ _ _ _ => mq_al (i := 0) rfl rfl,
   fun _ _ _ _ _ _ => mq_al (i := 0) rfl rfl,
   fun _ _ _ h0 => mq_getR rfl h0,
   fun _ _ => mq_push rfl,
   fun _ _ _ _ h0 => mq_iald rfl h0,
   fun _ _ _ _ _ _ => mq_il (i := 3) rfl rfl,
   fun _ _ _ => mq_if_ne rfl,
   fun _ _ _ _ _ _ => mq_il (i := 1) rfl rfl,
   fun _ _ => mq_go rfl,
   fun _ _ _ _ _ _ => mq_il (i := 2) rfl rfl,
   fun _ _ _ _ _ h0 => mq_cVr (na := 2) rfl rfl (Nat.le_of_ble_eq_true rfl) (Nat.le_of_ble_eq_true rfl) h0,
   fun _ _ _ _ => mq_bi rfl,
   fun _ _ => mq_ri rfl⟩
theorem eX12_heHas (d n : Nat) (I L : mm_I) (P : mm_P) (x0 : Option Nat) (x1 : Int) (x2 : Int) (x3 : Int) (x4 : Int) : mm_rn (d + 1) 246 [.inr (.inr x0), .inl x1, .inl x2, .inl x3, .inl x4] n I L P = mm_E d 246 0 [.inr (.inr x0), .inl x1, .inl x2, .inl x3, .inl x4] [] [] n I L P := rfl

set_option maxRecDepth 20000 in
set_option maxHeartbeats 8000000 in
theorem kX12_areTwo (d n : Nat) (I L : mm_I) (P : mm_P) :
  (∀ (st : List mm_V) z (l1 : mm_V) (l2 : mm_V), mm_E d 247 0 [(.inr (.inr z)), l1, l2] [] st n I L P = mm_E d 247 1 [(.inr (.inr z)), l1, l2] [] ((.inr (.inr z)) :: st) n I L P) ∧
  (∀ (st : List mm_V) z (l0 : mm_V) (l2 : mm_V), mm_E d 247 1 [l0, (.inl z), l2] [] st n I L P = mm_E d 247 2 [l0, (.inl z), l2] [] ((.inl z) :: st) n I L P) ∧
  (∀ (lv : List mm_V) a x0, (mm_ok n a 12) → mm_E d 247 2 lv [] (.inl x0 :: .inr (.inr (some a)) :: []) n I L P = mm_kr d 247 5 lv [] [] n (mm_rn d 191 [.inr (.inr (some a)), .inl x0] n I L P)) ∧
  (∀ (lv : List mm_V) (st : List mm_V) a, mm_E d 247 5 lv [] (.inl a :: st) n I L P = if a = 0 then mm_E d 247 25 lv [] st n I L P else mm_E d 247 8 lv [] st n I L P) ∧
  (∀ (st : List mm_V) z (l1 : mm_V) (l2 : mm_V), mm_E d 247 8 [(.inr (.inr z)), l1, l2] [] st n I L P = mm_E d 247 9 [(.inr (.inr z)), l1, l2] [] ((.inr (.inr z)) :: st) n I L P) ∧
  (∀ (st : List mm_V) z (l0 : mm_V) (l1 : mm_V), mm_E d 247 9 [l0, l1, (.inl z)] [] st n I L P = mm_E d 247 10 [l0, l1, (.inl z)] [] ((.inl z) :: st) n I L P) ∧
  (∀ (lv : List mm_V) a x0, (mm_ok n a 12) → mm_E d 247 10 lv [] (.inl x0 :: .inr (.inr (some a)) :: []) n I L P = mm_kr d 247 13 lv [] [] n (mm_rn d 191 [.inr (.inr (some a)), .inl x0] n I L P)) ∧
  (∀ (lv : List mm_V) (st : List mm_V) a, mm_E d 247 13 lv [] (.inl a :: st) n I L P = if a = 0 then mm_E d 247 25 lv [] st n I L P else mm_E d 247 16 lv [] st n I L P) ∧
  (∀ (st : List mm_V) z (l0 : mm_V) (l2 : mm_V), mm_E d 247 16 [l0, (.inl z), l2] [] st n I L P = mm_E d 247 17 [l0, (.inl z), l2] [] ((.inl z) :: st) n I L P) ∧
  (∀ (st : List mm_V) z (l0 : mm_V) (l1 : mm_V), mm_E d 247 17 [l0, l1, (.inl z)] [] st n I L P = mm_E d 247 18 [l0, l1, (.inl z)] [] ((.inl z) :: st) n I L P) ∧
  (∀ (lv : List mm_V) (st : List mm_V) a b, mm_E d 247 18 lv [] (.inl b :: .inl a :: st) n I L P = if a = b then mm_E d 247 25 lv [] st n I L P else mm_E d 247 21 lv [] st n I L P) ∧
  (∀ (lv : List mm_V) (st : List mm_V), mm_E d 247 21 lv [] st n I L P = mm_E d 247 22 lv [] (.inl 1 :: st) n I L P) ∧
  (∀ (lv : List mm_V) (st : List mm_V), mm_E d 247 22 lv [] st n I L P = mm_E d 247 26 lv [] st n I L P) ∧
  (∀ (lv : List mm_V) (st : List mm_V), mm_E d 247 25 lv [] st n I L P = mm_E d 247 26 lv [] (.inl 0 :: st) n I L P) ∧
  (∀ (lv : List mm_V) z, (0 ≤ z ∧ z < 2) → mm_E d 247 26 lv [] [.inl z] n I L P = some (some (.inl z), n, I, L, P)) :=
  ⟨fun _ _ _ _ => mq_al (i := 0) rfl rfl,
   fun _ _ _ _ => mq_il (i := 1) rfl rfl,
   fun _ _ _ h0 => mq_cVr (na := 1) rfl rfl (Nat.le_of_ble_eq_true rfl) (Nat.le_of_ble_eq_true rfl) h0,
   fun _ _ _ => mq_if_eq rfl,
   fun _ _ _ _ => mq_al (i := 0) rfl rfl,
   fun _ _ _ _ => mq_il (i := 2) rfl rfl,
   fun _ _ _ h0 => mq_cVr (na := 1) rfl rfl (Nat.le_of_ble_eq_true rfl) (Nat.le_of_ble_eq_true rfl) h0,
   fun _ _ _ => mq_if_eq rfl,
   fun _ _ _ _ => mq_il (i := 1) rfl rfl,
   fun _ _ _ _ => mq_il (i := 2) rfl rfl,
   fun _ _ _ _ => mq_ic_eq rfl,
   fun _ _ => mq_push rfl,
   fun _ _ => mq_go rfl,
   fun _ _ => mq_push rfl,
   fun _ _ h0 => mq_rz rfl h0⟩
theorem eX12_areTwo (d n : Nat) (I L : mm_I) (P : mm_P) (x0 : Option Nat) (x1 : Int) (x2 : Int) : mm_rn (d + 1) 247 [.inr (.inr x0), .inl x1, .inl x2] n I L P = mm_E d 247 0 [.inr (.inr x0), .inl x1, .inl x2] [] [] n I L P := rfl

set_option maxRecDepth 20000 in
set_option maxHeartbeats 8000000 in
theorem kX12_game (d n : Nat) (I L : mm_I) (P : mm_P) :
  (∀ (st : List mm_V) z (l1 : mm_V) (l2 : mm_V) (l3 : mm_V) (l4 : mm_V) (l5 : mm_V), mm_E d 248 0 [(.inr (.inr z)), l1, l2, l3, l4, l5] [] st n I L P = mm_E d 248 1 [(.inr (.inr z)), l1, l2, l3, l4, l5] [] ((.inr (.inr z)) :: st) n I L P) ∧
  (∀ (st : List mm_V) z (l0 : mm_V) (l2 : mm_V) (l3 : mm_V) (l4 : mm_V) (l5 : mm_V), mm_E d 248 1 [l0, (.inl z), l2, l3, l4, l5] [] st n I L P = mm_E d 248 2 [l0, (.inl z), l2, l3, l4, l5] [] ((.inl z) :: st) n I L P) ∧
  (∀ (st : List mm_V) z (l0 : mm_V) (l1 : mm_V) (l3 : mm_V) (l4 : mm_V) (l5 : mm_V), mm_E d 248 2 [l0, l1, (.inl z), l3, l4, l5] [] st n I L P = mm_E d 248 3 [l0, l1, (.inl z), l3, l4, l5] [] ((.inl z) :: st) n I L P) ∧
  (∀ (lv : List mm_V) a x0 x1, (mm_ok n a 12) → mm_E d 248 3 lv [] (.inl x1 :: .inl x0 :: .inr (.inr (some a)) :: []) n I L P = mm_kr d 248 6 lv [] [] n (mm_rn d 247 [.inr (.inr (some a)), .inl x0, .inl x1] n I L P)) ∧
  (∀ (lv : List mm_V) (st : List mm_V) a, mm_E d 248 6 lv [] (.inl a :: st) n I L P = if a = 0 then mm_E d 248 38 lv [] st n I L P else mm_E d 248 9 lv [] st n I L P) ∧
  (∀ (st : List mm_V) z (l0 : mm_V) (l1 : mm_V) (l2 : mm_V) (l4 : mm_V) (l5 : mm_V), mm_E d 248 9 [l0, l1, l2, (.inl z), l4, l5] [] st n I L P = mm_E d 248 10 [l0, l1, l2, (.inl z), l4, l5] [] ((.inl z) :: st) n I L P) ∧
  (∀ (lv : List mm_V) (st : List mm_V), mm_E d 248 10 lv [] st n I L P = mm_E d 248 11 lv [] (.inl 0 :: st) n I L P) ∧
  (∀ (lv : List mm_V) (st : List mm_V), mm_E d 248 11 lv [] st n I L P = mm_E d 248 12 lv [] (.inl 1 :: st) n I L P) ∧
  (∀ (lv : List mm_V) x0 x1 x2, mm_E d 248 12 lv [] (.inl x2 :: .inl x1 :: .inl x0 :: []) n I L P = mm_kr d 248 15 lv [] [] n (mm_rn d 145 [.inl x0, .inl x1, .inl x2] n I L P)) ∧
  (∀ (lv : List mm_V) (st : List mm_V) a, mm_E d 248 15 lv [] (.inl a :: st) n I L P = if a = 0 then mm_E d 248 38 lv [] st n I L P else mm_E d 248 18 lv [] st n I L P) ∧
  (∀ (st : List mm_V) z (l0 : mm_V) (l1 : mm_V) (l2 : mm_V) (l3 : mm_V) (l5 : mm_V), mm_E d 248 18 [l0, l1, l2, l3, (.inl z), l5] [] st n I L P = mm_E d 248 20 [l0, l1, l2, l3, (.inl z), l5] [] ((.inl z) :: st) n I L P) ∧
  (∀ (lv : List mm_V) (st : List mm_V), mm_E d 248 20 lv [] st n I L P = mm_E d 248 21 lv [] (.inl 0 :: st) n I L P) ∧
  (∀ (lv : List mm_V) (st : List mm_V), mm_E d 248 21 lv [] st n I L P = mm_E d 248 22 lv [] (.inl 1 :: st) n I L P) ∧
  (∀ (lv : List mm_V) x0 x1 x2, mm_E d 248 22 lv [] (.inl x2 :: .inl x1 :: .inl x0 :: []) n I L P = mm_kr d 248 25 lv [] [] n (mm_rn d 145 [.inl x0, .inl x1, .inl x2] n I L P)) ∧
  (∀ (lv : List mm_V) (st : List mm_V) a, mm_E d 248 25 lv [] (.inl a :: st) n I L P = if a = 0 then mm_E d 248 38 lv [] st n I L P else mm_E d 248 28 lv [] st n I L P) ∧
  (∀ (st : List mm_V) z (l0 : mm_V) (l1 : mm_V) (l2 : mm_V) (l3 : mm_V) (l4 : mm_V), mm_E d 248 28 [l0, l1, l2, l3, l4, (.inl z)] [] st n I L P = mm_E d 248 30 [l0, l1, l2, l3, l4, (.inl z)] [] ((.inl z) :: st) n I L P) ∧
  (∀ (lv : List mm_V) (st : List mm_V), mm_E d 248 30 lv [] st n I L P = mm_E d 248 31 lv [] (.inl 0 :: st) n I L P) ∧
  (∀ (lv : List mm_V) (st : List mm_V), mm_E d 248 31 lv [] st n I L P = mm_E d 248 32 lv [] (.inl 1 :: st) n I L P) ∧
  (∀ (lv : List mm_V) x0 x1 x2, mm_E d 248 32 lv [] (.inl x2 :: .inl x1 :: .inl x0 :: []) n I L P = mm_kr d 248 35 lv [] [] n (mm_rn d 145 [.inl x0, .inl x1, .inl x2] n I L P)) ∧
  (∀ (lv : List mm_V) (st : List mm_V) a, mm_E d 248 35 lv [] (.inl a :: st) n I L P = if a = 0 then mm_E d 248 38 lv [] st n I L P else mm_E d 248 42 lv [] st n I L P) ∧
  (∀ (lv : List mm_V) (st : List mm_V), mm_E d 248 38 lv [] st n I L P = mm_E d 248 41 lv [] (.inl (-1000000) :: st) n I L P) ∧
  (∀ (lv : List mm_V) z, mm_E d 248 41 lv [] [.inl z] n I L P = some (some (.inl z), n, I, L, P)) ∧
  (∀ (st : List mm_V) z (l0 : mm_V) (l1 : mm_V) (l2 : mm_V) (l3 : mm_V) (l4 : mm_V), mm_E d 248 42 [l0, l1, l2, l3, l4, (.inl z)] [] st n I L P = mm_E d 248 44 [l0, l1, l2, l3, l4, (.inl z)] [] ((.inl z) :: st) n I L P) ∧
  (∀ (lv : List mm_V) (st : List mm_V) a, mm_E d 248 44 lv [] (.inl a :: st) n I L P = if a = 0 then mm_E d 248 47 lv [] st n I L P else mm_E d 248 59 lv [] st n I L P) ∧
  (∀ (st : List mm_V) z (l1 : mm_V) (l2 : mm_V) (l3 : mm_V) (l4 : mm_V) (l5 : mm_V), mm_E d 248 47 [(.inr (.inr z)), l1, l2, l3, l4, l5] [] st n I L P = mm_E d 248 48 [(.inr (.inr z)), l1, l2, l3, l4, l5] [] ((.inr (.inr z)) :: st) n I L P) ∧
  (∀ (st : List mm_V) z (l0 : mm_V) (l2 : mm_V) (l3 : mm_V) (l4 : mm_V) (l5 : mm_V), mm_E d 248 48 [l0, (.inl z), l2, l3, l4, l5] [] st n I L P = mm_E d 248 49 [l0, (.inl z), l2, l3, l4, l5] [] ((.inl z) :: st) n I L P) ∧
  (∀ (st : List mm_V) z (l0 : mm_V) (l1 : mm_V) (l3 : mm_V) (l4 : mm_V) (l5 : mm_V), mm_E d 248 49 [l0, l1, (.inl z), l3, l4, l5] [] st n I L P = mm_E d 248 50 [l0, l1, (.inl z), l3, l4, l5] [] ((.inl z) :: st) n I L P) ∧
  (∀ (st : List mm_V) z (l0 : mm_V) (l1 : mm_V) (l2 : mm_V) (l4 : mm_V) (l5 : mm_V), mm_E d 248 50 [l0, l1, l2, (.inl z), l4, l5] [] st n I L P = mm_E d 248 51 [l0, l1, l2, (.inl z), l4, l5] [] ((.inl z) :: st) n I L P) ∧
  (∀ (st : List mm_V) z (l0 : mm_V) (l1 : mm_V) (l2 : mm_V) (l3 : mm_V) (l5 : mm_V), mm_E d 248 51 [l0, l1, l2, l3, (.inl z), l5] [] st n I L P = mm_E d 248 53 [l0, l1, l2, l3, (.inl z), l5] [] ((.inl z) :: st) n I L P) ∧
  (∀ (lv : List mm_V) a x0 x1 x2 x3, (mm_ok n a 12) → mm_E d 248 53 lv [] (.inl x3 :: .inl x2 :: .inl x1 :: .inl x0 :: .inr (.inr (some a)) :: []) n I L P = mm_kr d 248 56 lv [] [] n (mm_rn d 246 [.inr (.inr (some a)), .inl x0, .inl x1, .inl x2, .inl x3] n I L P)) ∧
  (∀ (lv : List mm_V) (st : List mm_V), mm_E d 248 56 lv [] st n I L P = mm_E d 248 68 lv [] st n I L P) ∧
  (∀ (st : List mm_V) z (l1 : mm_V) (l2 : mm_V) (l3 : mm_V) (l4 : mm_V) (l5 : mm_V), mm_E d 248 59 [(.inr (.inr z)), l1, l2, l3, l4, l5] [] st n I L P = mm_E d 248 60 [(.inr (.inr z)), l1, l2, l3, l4, l5] [] ((.inr (.inr z)) :: st) n I L P) ∧
  (∀ (st : List mm_V) z (l0 : mm_V) (l2 : mm_V) (l3 : mm_V) (l4 : mm_V) (l5 : mm_V), mm_E d 248 60 [l0, (.inl z), l2, l3, l4, l5] [] st n I L P = mm_E d 248 61 [l0, (.inl z), l2, l3, l4, l5] [] ((.inl z) :: st) n I L P) ∧
  (∀ (st : List mm_V) z (l0 : mm_V) (l1 : mm_V) (l3 : mm_V) (l4 : mm_V) (l5 : mm_V), mm_E d 248 61 [l0, l1, (.inl z), l3, l4, l5] [] st n I L P = mm_E d 248 62 [l0, l1, (.inl z), l3, l4, l5] [] ((.inl z) :: st) n I L P) ∧
  (∀ (st : List mm_V) z (l0 : mm_V) (l1 : mm_V) (l2 : mm_V) (l4 : mm_V) (l5 : mm_V), mm_E d 248 62 [l0, l1, l2, (.inl z), l4, l5] [] st n I L P = mm_E d 248 63 [l0, l1, l2, (.inl z), l4, l5] [] ((.inl z) :: st) n I L P) ∧
  (∀ (st : List mm_V) z (l0 : mm_V) (l1 : mm_V) (l2 : mm_V) (l3 : mm_V) (l5 : mm_V), mm_E d 248 63 [l0, l1, l2, l3, (.inl z), l5] [] st n I L P = mm_E d 248 65 [l0, l1, l2, l3, (.inl z), l5] [] ((.inl z) :: st) n I L P) ∧
  (∀ (lv : List mm_V) a x0 x1 x2 x3, (mm_ok n a 12) → mm_E d 248 65 lv [] (.inl x3 :: .inl x2 :: .inl x1 :: .inl x0 :: .inr (.inr (some a)) :: []) n I L P = mm_kr d 248 68 lv [] [] n (mm_rn d 245 [.inr (.inr (some a)), .inl x0, .inl x1, .inl x2, .inl x3] n I L P)) ∧
  (∀ (lv : List mm_V) z, mm_E d 248 68 lv [] [.inl z] n I L P = some (some (.inl z), n, I, L, P)) :=
  ⟨fun _ _ _ _ _ _ _ => mq_al (i := 0) rfl rfl,
   fun _ _ _ _ _ _ _ => mq_il (i := 1) rfl rfl,
   fun _ _ _ _ _ _ _ => mq_il (i := 2) rfl rfl,
   fun _ _ _ _ h0 => mq_cVr (na := 2) rfl rfl (Nat.le_of_ble_eq_true rfl) (Nat.le_of_ble_eq_true rfl) h0,
   fun _ _ _ => mq_if_eq rfl,
   fun _ _ _ _ _ _ _ => mq_il (i := 3) rfl rfl,
   fun _ _ => mq_push rfl,
   fun _ _ => mq_push rfl,
   fun _ _ _ _ => mq_cSr (na := 3) rfl (Nat.le_of_ble_eq_true rfl) (Nat.le_of_ble_eq_true rfl),
   fun _ _ _ => mq_if_eq rfl,
   fun _ _ _ _ _ _ _ => mq_il (i := 4) rfl rfl,
   fun _ _ => mq_push rfl,
   fun _ _ => mq_push rfl,
   fun _ _ _ _ => mq_cSr (na := 3) rfl (Nat.le_of_ble_eq_true rfl) (Nat.le_of_ble_eq_true rfl),
   fun _ _ _ => mq_if_eq rfl,
   fun _ _ _ _ _ _ _ => mq_il (i := 5) rfl rfl,
   fun _ _ => mq_push rfl,
   fun _ _ => mq_push rfl,
   fun _ _ _ _ => mq_cSr (na := 3) rfl (Nat.le_of_ble_eq_true rfl) (Nat.le_of_ble_eq_true rfl),
   fun _ _ _ => mq_if_ne rfl,
   fun _ _ => mq_push rfl,
   fun _ _ => mq_ri rfl,
   fun _ _ _ _ _ _ _ => mq_il (i := 5) rfl rfl,
   fun _ _ _ => mq_if_ne rfl,
   fun _ _ _ _ _ _ _ => mq_al (i := 0) rfl rfl,
   fun _ _ _ _ _ _ _ => mq_il (i := 1) rfl rfl,
   fun _ _ _ _ _ _ _ => mq_il (i := 2) rfl rfl,
   fun _ _ _ _ _ _ _ => mq_il (i := 3) rfl rfl,
   fun _ _ _ _ _ _ _ => mq_il (i := 4) rfl rfl,
   fun _ _ _ _ _ _ h0 => mq_cVr (na := 4) rfl rfl (Nat.le_of_ble_eq_true rfl) (Nat.le_of_ble_eq_true rfl) h0,
   fun _ _ => mq_go rfl,
   fun _ _ _ _ _ _ _ => mq_al (i := 0) rfl rfl,
   fun _ _ _ _ _ _ _ => mq_il (i := 1) rfl rfl,
   fun _ _ _ _ _ _ _ => mq_il (i := 2) rfl rfl,
   fun _ _ _ _ _ _ _ => mq_il (i := 3) rfl rfl,
   fun _ _ _ _ _ _ _ => mq_il (i := 4) rfl rfl,
   fun _ _ _ _ _ _ h0 => mq_cVr (na := 4) rfl rfl (Nat.le_of_ble_eq_true rfl) (Nat.le_of_ble_eq_true rfl) h0,
   fun _ _ => mq_ri rfl⟩
theorem eX12_game (d n : Nat) (I L : mm_I) (P : mm_P) (x0 : Option Nat) (x1 : Int) (x2 : Int) (x3 : Int) (x4 : Int) (x5 : Int) : mm_rn (d + 1) 248 [.inr (.inr x0), .inl x1, .inl x2, .inl x3, .inl x4, .inl x5] n I L P = mm_E d 248 0 [.inr (.inr x0), .inl x1, .inl x2, .inl x3, .inl x4, .inl x5] [] [] n I L P := rfl

set_option maxRecDepth 20000 in
set_option maxHeartbeats 8000000 in
theorem kX12_isRest (d n : Nat) (I L : mm_I) (P : mm_P) :
  (∀ (st : List mm_V) z (l1 : mm_V) (l2 : mm_V) (l3 : mm_V) (l4 : mm_V), mm_E d 249 0 [(.inr (.inr z)), l1, l2, l3, l4] [] st n I L P = mm_E d 249 1 [(.inr (.inr z)), l1, l2, l3, l4] [] ((.inr (.inr z)) :: st) n I L P) ∧
  (∀ (st : List mm_V) z (l0 : mm_V) (l2 : mm_V) (l3 : mm_V) (l4 : mm_V), mm_E d 249 1 [l0, (.inl z), l2, l3, l4] [] st n I L P = mm_E d 249 2 [l0, (.inl z), l2, l3, l4] [] ((.inl z) :: st) n I L P) ∧
  (∀ (st : List mm_V) z (l0 : mm_V) (l1 : mm_V) (l3 : mm_V) (l4 : mm_V), mm_E d 249 2 [l0, l1, (.inl z), l3, l4] [] st n I L P = mm_E d 249 3 [l0, l1, (.inl z), l3, l4] [] ((.inl z) :: st) n I L P) ∧
  (∀ (lv : List mm_V) (st : List mm_V), mm_E d 249 3 lv [] st n I L P = mm_E d 249 4 lv [] (.inl 1 :: st) n I L P) ∧
  (∀ (st : List mm_V) z (l0 : mm_V) (l1 : mm_V) (l2 : mm_V) (l4 : mm_V), mm_E d 249 4 [l0, l1, l2, (.inl z), l4] [] st n I L P = mm_E d 249 5 [l0, l1, l2, (.inl z), l4] [] ((.inl z) :: st) n I L P) ∧
  (∀ (lv : List mm_V) (st : List mm_V) a b, mm_E d 249 5 lv [] (.inl b :: .inl a :: st) n I L P = mm_E d 249 6 lv [] (.inl (mm_sub a b) :: st) n I L P) ∧
  (∀ (st : List mm_V) z (l0 : mm_V) (l1 : mm_V) (l2 : mm_V) (l3 : mm_V), mm_E d 249 6 [l0, l1, l2, l3, (.inl z)] [] st n I L P = mm_E d 249 8 [l0, l1, l2, l3, (.inl z)] [] ((.inl z) :: st) n I L P) ∧
  (∀ (lv : List mm_V) a x0 x1 x2 x3, (mm_ok n a 12) → mm_E d 249 8 lv [] (.inl x3 :: .inl x2 :: .inl x1 :: .inl x0 :: .inr (.inr (some a)) :: []) n I L P = mm_kr d 249 11 lv [] [] n (mm_rn d 246 [.inr (.inr (some a)), .inl x0, .inl x1, .inl x2, .inl x3] n I L P)) ∧
  (∀ (st : List mm_V) z (l1 : mm_V) (l2 : mm_V) (l3 : mm_V) (l4 : mm_V), mm_E d 249 11 [(.inr (.inr z)), l1, l2, l3, l4] [] st n I L P = mm_E d 249 12 [(.inr (.inr z)), l1, l2, l3, l4] [] ((.inr (.inr z)) :: st) n I L P) ∧
  (∀ (st : List mm_V) z (l0 : mm_V) (l2 : mm_V) (l3 : mm_V) (l4 : mm_V), mm_E d 249 12 [l0, (.inl z), l2, l3, l4] [] st n I L P = mm_E d 249 13 [l0, (.inl z), l2, l3, l4] [] ((.inl z) :: st) n I L P) ∧
  (∀ (st : List mm_V) z (l0 : mm_V) (l1 : mm_V) (l3 : mm_V) (l4 : mm_V), mm_E d 249 13 [l0, l1, (.inl z), l3, l4] [] st n I L P = mm_E d 249 14 [l0, l1, (.inl z), l3, l4] [] ((.inl z) :: st) n I L P) ∧
  (∀ (st : List mm_V) z (l0 : mm_V) (l1 : mm_V) (l2 : mm_V) (l4 : mm_V), mm_E d 249 14 [l0, l1, l2, (.inl z), l4] [] st n I L P = mm_E d 249 15 [l0, l1, l2, (.inl z), l4] [] ((.inl z) :: st) n I L P) ∧
  (∀ (st : List mm_V) z (l0 : mm_V) (l1 : mm_V) (l2 : mm_V) (l3 : mm_V), mm_E d 249 15 [l0, l1, l2, l3, (.inl z)] [] st n I L P = mm_E d 249 17 [l0, l1, l2, l3, (.inl z)] [] ((.inl z) :: st) n I L P) ∧
  (∀ (lv : List mm_V) a x0 x1 x2 x3 w0, (mm_ok n a 12) → mm_E d 249 17 lv [] (.inl x3 :: .inl x2 :: .inl x1 :: .inl x0 :: .inr (.inr (some a)) :: [.inl w0]) n I L P = mm_kr d 249 20 lv [] [.inl w0] n (mm_rn d 246 [.inr (.inr (some a)), .inl x0, .inl x1, .inl x2, .inl x3] n I L P)) ∧
  (∀ (lv : List mm_V) (st : List mm_V) a b, mm_E d 249 20 lv [] (.inl b :: .inl a :: st) n I L P = if b < a then mm_E d 249 50 lv [] st n I L P else mm_E d 249 23 lv [] st n I L P) ∧
  (∀ (st : List mm_V) z (l1 : mm_V) (l2 : mm_V) (l3 : mm_V) (l4 : mm_V), mm_E d 249 23 [(.inr (.inr z)), l1, l2, l3, l4] [] st n I L P = mm_E d 249 24 [(.inr (.inr z)), l1, l2, l3, l4] [] ((.inr (.inr z)) :: st) n I L P) ∧
  (∀ (st : List mm_V) z (l0 : mm_V) (l2 : mm_V) (l3 : mm_V) (l4 : mm_V), mm_E d 249 24 [l0, (.inl z), l2, l3, l4] [] st n I L P = mm_E d 249 25 [l0, (.inl z), l2, l3, l4] [] ((.inl z) :: st) n I L P) ∧
  (∀ (st : List mm_V) z (l0 : mm_V) (l1 : mm_V) (l3 : mm_V) (l4 : mm_V), mm_E d 249 25 [l0, l1, (.inl z), l3, l4] [] st n I L P = mm_E d 249 26 [l0, l1, (.inl z), l3, l4] [] ((.inl z) :: st) n I L P) ∧
  (∀ (st : List mm_V) z (l0 : mm_V) (l1 : mm_V) (l2 : mm_V) (l4 : mm_V), mm_E d 249 26 [l0, l1, l2, (.inl z), l4] [] st n I L P = mm_E d 249 27 [l0, l1, l2, (.inl z), l4] [] ((.inl z) :: st) n I L P) ∧
  (∀ (lv : List mm_V) (st : List mm_V), mm_E d 249 27 lv [] st n I L P = mm_E d 249 28 lv [] (.inl 1 :: st) n I L P) ∧
  (∀ (st : List mm_V) z (l0 : mm_V) (l1 : mm_V) (l2 : mm_V) (l3 : mm_V), mm_E d 249 28 [l0, l1, l2, l3, (.inl z)] [] st n I L P = mm_E d 249 30 [l0, l1, l2, l3, (.inl z)] [] ((.inl z) :: st) n I L P) ∧
  (∀ (lv : List mm_V) (st : List mm_V) a b, mm_E d 249 30 lv [] (.inl b :: .inl a :: st) n I L P = mm_E d 249 31 lv [] (.inl (mm_sub a b) :: st) n I L P) ∧
  (∀ (lv : List mm_V) a x0 x1 x2 x3, (mm_ok n a 12) → mm_E d 249 31 lv [] (.inl x3 :: .inl x2 :: .inl x1 :: .inl x0 :: .inr (.inr (some a)) :: []) n I L P = mm_kr d 249 34 lv [] [] n (mm_rn d 245 [.inr (.inr (some a)), .inl x0, .inl x1, .inl x2, .inl x3] n I L P)) ∧
  (∀ (st : List mm_V) z (l1 : mm_V) (l2 : mm_V) (l3 : mm_V) (l4 : mm_V), mm_E d 249 34 [(.inr (.inr z)), l1, l2, l3, l4] [] st n I L P = mm_E d 249 35 [(.inr (.inr z)), l1, l2, l3, l4] [] ((.inr (.inr z)) :: st) n I L P) ∧
  (∀ (st : List mm_V) z (l0 : mm_V) (l2 : mm_V) (l3 : mm_V) (l4 : mm_V), mm_E d 249 35 [l0, (.inl z), l2, l3, l4] [] st n I L P = mm_E d 249 36 [l0, (.inl z), l2, l3, l4] [] ((.inl z) :: st) n I L P) ∧
  (∀ (st : List mm_V) z (l0 : mm_V) (l1 : mm_V) (l3 : mm_V) (l4 : mm_V), mm_E d 249 36 [l0, l1, (.inl z), l3, l4] [] st n I L P = mm_E d 249 37 [l0, l1, (.inl z), l3, l4] [] ((.inl z) :: st) n I L P) ∧
  (∀ (st : List mm_V) z (l0 : mm_V) (l1 : mm_V) (l2 : mm_V) (l4 : mm_V), mm_E d 249 37 [l0, l1, l2, (.inl z), l4] [] st n I L P = mm_E d 249 38 [l0, l1, l2, (.inl z), l4] [] ((.inl z) :: st) n I L P) ∧
  (∀ (st : List mm_V) z (l0 : mm_V) (l1 : mm_V) (l2 : mm_V) (l3 : mm_V), mm_E d 249 38 [l0, l1, l2, l3, (.inl z)] [] st n I L P = mm_E d 249 40 [l0, l1, l2, l3, (.inl z)] [] ((.inl z) :: st) n I L P) ∧
  (∀ (lv : List mm_V) a x0 x1 x2 x3 w0, (mm_ok n a 12) → mm_E d 249 40 lv [] (.inl x3 :: .inl x2 :: .inl x1 :: .inl x0 :: .inr (.inr (some a)) :: [.inl w0]) n I L P = mm_kr d 249 43 lv [] [.inl w0] n (mm_rn d 245 [.inr (.inr (some a)), .inl x0, .inl x1, .inl x2, .inl x3] n I L P)) ∧
  (∀ (lv : List mm_V) (st : List mm_V) a b, mm_E d 249 43 lv [] (.inl b :: .inl a :: st) n I L P = if b < a then mm_E d 249 50 lv [] st n I L P else mm_E d 249 46 lv [] st n I L P) ∧
  (∀ (lv : List mm_V) (st : List mm_V), mm_E d 249 46 lv [] st n I L P = mm_E d 249 47 lv [] (.inl 1 :: st) n I L P) ∧
  (∀ (lv : List mm_V) (st : List mm_V), mm_E d 249 47 lv [] st n I L P = mm_E d 249 51 lv [] st n I L P) ∧
  (∀ (lv : List mm_V) (st : List mm_V), mm_E d 249 50 lv [] st n I L P = mm_E d 249 51 lv [] (.inl 0 :: st) n I L P) ∧
  (∀ (lv : List mm_V) z, (0 ≤ z ∧ z < 2) → mm_E d 249 51 lv [] [.inl z] n I L P = some (some (.inl z), n, I, L, P)) :=
  ⟨fun _ _ _ _ _ _ => mq_al (i := 0) rfl rfl,
   fun _ _ _ _ _ _ => mq_il (i := 1) rfl rfl,
   fun _ _ _ _ _ _ => mq_il (i := 2) rfl rfl,
   fun _ _ => mq_push rfl,
   fun _ _ _ _ _ _ => mq_il (i := 3) rfl rfl,
   fun _ _ _ _ => mq_bi rfl,
   fun _ _ _ _ _ _ => mq_il (i := 4) rfl rfl,
   fun _ _ _ _ _ _ h0 => mq_cVr (na := 4) rfl rfl (Nat.le_of_ble_eq_true rfl) (Nat.le_of_ble_eq_true rfl) h0,
   fun _ _ _ _ _ _ => mq_al (i := 0) rfl rfl,
   fun _ _ _ _ _ _ => mq_il (i := 1) rfl rfl,
   fun _ _ _ _ _ _ => mq_il (i := 2) rfl rfl,
   fun _ _ _ _ _ _ => mq_il (i := 3) rfl rfl,
   fun _ _ _ _ _ _ => mq_il (i := 4) rfl rfl,
   fun _ _ _ _ _ _ _ h0 => mq_cVr (na := 4) rfl rfl (Nat.le_of_ble_eq_true rfl) (Nat.le_of_ble_eq_true rfl) h0,
   fun _ _ _ _ => mq_ic_gt rfl,
   fun _ _ _ _ _ _ => mq_al (i := 0) rfl rfl,
   fun _ _ _ _ _ _ => mq_il (i := 1) rfl rfl,
   fun _ _ _ _ _ _ => mq_il (i := 2) rfl rfl,
   fun _ _ _ _ _ _ => mq_il (i := 3) rfl rfl,
   fun _ _ => mq_push rfl,
   fun _ _ _ _ _ _ => mq_il (i := 4) rfl rfl,
   fun _ _ _ _ => mq_bi rfl,
   fun _ _ _ _ _ _ h0 => mq_cVr (na := 4) rfl rfl (Nat.le_of_ble_eq_true rfl) (Nat.le_of_ble_eq_true rfl) h0,
   fun _ _ _ _ _ _ => mq_al (i := 0) rfl rfl,
   fun _ _ _ _ _ _ => mq_il (i := 1) rfl rfl,
   fun _ _ _ _ _ _ => mq_il (i := 2) rfl rfl,
   fun _ _ _ _ _ _ => mq_il (i := 3) rfl rfl,
   fun _ _ _ _ _ _ => mq_il (i := 4) rfl rfl,
   fun _ _ _ _ _ _ _ h0 => mq_cVr (na := 4) rfl rfl (Nat.le_of_ble_eq_true rfl) (Nat.le_of_ble_eq_true rfl) h0,
   fun _ _ _ _ => mq_ic_gt rfl,
   fun _ _ => mq_push rfl,
   fun _ _ => mq_go rfl,
   fun _ _ => mq_push rfl,
   fun _ _ h0 => mq_rz rfl h0⟩
theorem eX12_isRest (d n : Nat) (I L : mm_I) (P : mm_P) (x0 : Option Nat) (x1 : Int) (x2 : Int) (x3 : Int) (x4 : Int) : mm_rn (d + 1) 249 [.inr (.inr x0), .inl x1, .inl x2, .inl x3, .inl x4] n I L P = mm_E d 249 0 [.inr (.inr x0), .inl x1, .inl x2, .inl x3, .inl x4] [] [] n I L P := rfl

set_option maxRecDepth 20000 in
set_option maxHeartbeats 8000000 in
theorem kX12_rests (d n : Nat) (I L : mm_I) (P : mm_P) :
  (∀ (st : List mm_V) z (l1 : mm_V) (l2 : mm_V) (l3 : mm_V) (l4 : mm_V) (l5 : mm_V), mm_E d 250 0 [(.inr (.inr z)), l1, l2, l3, l4, l5] [] st n I L P = mm_E d 250 1 [(.inr (.inr z)), l1, l2, l3, l4, l5] [] ((.inr (.inr z)) :: st) n I L P) ∧
  (∀ (st : List mm_V) z (l0 : mm_V) (l2 : mm_V) (l3 : mm_V) (l4 : mm_V) (l5 : mm_V), mm_E d 250 1 [l0, (.inl z), l2, l3, l4, l5] [] st n I L P = mm_E d 250 2 [l0, (.inl z), l2, l3, l4, l5] [] ((.inl z) :: st) n I L P) ∧
  (∀ (st : List mm_V) z (l0 : mm_V) (l1 : mm_V) (l3 : mm_V) (l4 : mm_V) (l5 : mm_V), mm_E d 250 2 [l0, l1, (.inl z), l3, l4, l5] [] st n I L P = mm_E d 250 3 [l0, l1, (.inl z), l3, l4, l5] [] ((.inl z) :: st) n I L P) ∧
  (∀ (lv : List mm_V) a x0 x1, (mm_ok n a 12) → mm_E d 250 3 lv [] (.inl x1 :: .inl x0 :: .inr (.inr (some a)) :: []) n I L P = mm_kr d 250 6 lv [] [] n (mm_rn d 247 [.inr (.inr (some a)), .inl x0, .inl x1] n I L P)) ∧
  (∀ (lv : List mm_V) (st : List mm_V) a, mm_E d 250 6 lv [] (.inl a :: st) n I L P = if a = 0 then mm_E d 250 14 lv [] st n I L P else mm_E d 250 9 lv [] st n I L P) ∧
  (∀ (st : List mm_V) z (l0 : mm_V) (l1 : mm_V) (l2 : mm_V) (l4 : mm_V) (l5 : mm_V), mm_E d 250 9 [l0, l1, l2, (.inl z), l4, l5] [] st n I L P = mm_E d 250 10 [l0, l1, l2, (.inl z), l4, l5] [] ((.inl z) :: st) n I L P) ∧
  (∀ (lv : List mm_V) (st : List mm_V), mm_E d 250 10 lv [] st n I L P = mm_E d 250 11 lv [] (.inl (-1) :: st) n I L P) ∧
  (∀ (lv : List mm_V) (st : List mm_V) a b, mm_E d 250 11 lv [] (.inl b :: .inl a :: st) n I L P = if b ≤ a then mm_E d 250 16 lv [] st n I L P else mm_E d 250 14 lv [] st n I L P) ∧
  (∀ (lv : List mm_V) (st : List mm_V), mm_E d 250 14 lv [] st n I L P = mm_E d 250 15 lv [] (.inl (-1) :: st) n I L P) ∧
  (∀ (lv : List mm_V) z, mm_E d 250 15 lv [] [.inl z] n I L P = some (some (.inl z), n, I, L, P)) ∧
  (∀ (lv : List mm_V) (st : List mm_V), mm_E d 250 16 lv [] st n I L P = mm_E d 250 17 lv [] (.inl 0 :: st) n I L P) ∧
  (∀ (st : List mm_V) z (l0 : mm_V) (l1 : mm_V) (l2 : mm_V) (l3 : mm_V) (l4 : mm_V) (l5 : mm_V), mm_E d 250 17 [l0, l1, l2, l3, l4, l5] [] ((.inl z) :: st) n I L P = mm_E d 250 19 [l0, l1, l2, l3, (.inl z), l5] [] st n I L P) ∧
  (∀ (lv : List mm_V) (st : List mm_V), mm_E d 250 19 lv [] st n I L P = mm_E d 250 20 lv [] (.inl 0 :: st) n I L P) ∧
  (∀ (st : List mm_V) z (l0 : mm_V) (l1 : mm_V) (l2 : mm_V) (l3 : mm_V) (l4 : mm_V) (l5 : mm_V), mm_E d 250 20 [l0, l1, l2, l3, l4, l5] [] ((.inl z) :: st) n I L P = mm_E d 250 22 [l0, l1, l2, l3, l4, (.inl z)] [] st n I L P) ∧
  (∀ (lv : List mm_V) (st : List mm_V), mm_E d 250 24 lv [] st n I L P = mm_E d 250 25 lv [] (.inl 4 :: st) n I L P) ∧
  (∀ (lv : List mm_V) (st : List mm_V) a b, mm_E d 250 25 lv [] (.inl b :: .inl a :: st) n I L P = if b ≤ a then mm_E d 250 73 lv [] st n I L P else mm_E d 250 28 lv [] st n I L P) ∧
  (∀ (st : List mm_V) z (l1 : mm_V) (l2 : mm_V) (l3 : mm_V) (l4 : mm_V) (l5 : mm_V), mm_E d 250 28 [(.inr (.inr z)), l1, l2, l3, l4, l5] [] st n I L P = mm_E d 250 29 [(.inr (.inr z)), l1, l2, l3, l4, l5] [] ((.inr (.inr z)) :: st) n I L P) ∧
  (∀ (st : List mm_V) z (l0 : mm_V) (l2 : mm_V) (l3 : mm_V) (l4 : mm_V) (l5 : mm_V), mm_E d 250 29 [l0, (.inl z), l2, l3, l4, l5] [] st n I L P = mm_E d 250 30 [l0, (.inl z), l2, l3, l4, l5] [] ((.inl z) :: st) n I L P) ∧
  (∀ (st : List mm_V) z (l0 : mm_V) (l1 : mm_V) (l3 : mm_V) (l4 : mm_V) (l5 : mm_V), mm_E d 250 30 [l0, l1, (.inl z), l3, l4, l5] [] st n I L P = mm_E d 250 31 [l0, l1, (.inl z), l3, l4, l5] [] ((.inl z) :: st) n I L P) ∧
  (∀ (st : List mm_V) z (l0 : mm_V) (l1 : mm_V) (l2 : mm_V) (l3 : mm_V) (l4 : mm_V), mm_E d 250 31 [l0, l1, l2, l3, l4, (.inl z)] [] st n I L P = mm_E d 250 33 [l0, l1, l2, l3, l4, (.inl z)] [] ((.inl z) :: st) n I L P) ∧
  (∀ (lv : List mm_V) (st : List mm_V), mm_E d 250 33 lv [] st n I L P = mm_E d 250 34 lv [] (.inl 2 :: st) n I L P) ∧
  (∀ (lv : List mm_V) (st : List mm_V) a b, (¬ b = 0) → mm_E d 250 34 lv [] (.inl b :: .inl a :: st) n I L P = mm_E d 250 35 lv [] (.inl (mm_w (Int.tdiv a b)) :: st) n I L P) ∧
  (∀ (st : List mm_V) z (l0 : mm_V) (l1 : mm_V) (l2 : mm_V) (l3 : mm_V) (l4 : mm_V), mm_E d 250 35 [l0, l1, l2, l3, l4, (.inl z)] [] st n I L P = mm_E d 250 37 [l0, l1, l2, l3, l4, (.inl z)] [] ((.inl z) :: st) n I L P) ∧
  (∀ (lv : List mm_V) (st : List mm_V), mm_E d 250 37 lv [] st n I L P = mm_E d 250 38 lv [] (.inl 2 :: st) n I L P) ∧
  (∀ (lv : List mm_V) (st : List mm_V) a b, (¬ b = 0) → mm_E d 250 38 lv [] (.inl b :: .inl a :: st) n I L P = mm_E d 250 39 lv [] (.inl (mm_w (Int.tmod a b)) :: st) n I L P) ∧
  (∀ (lv : List mm_V) a x0 x1 x2 x3, (mm_ok n a 12) → mm_E d 250 39 lv [] (.inl x3 :: .inl x2 :: .inl x1 :: .inl x0 :: .inr (.inr (some a)) :: []) n I L P = mm_kr d 250 42 lv [] [] n (mm_rn d 249 [.inr (.inr (some a)), .inl x0, .inl x1, .inl x2, .inl x3] n I L P)) ∧
  (∀ (lv : List mm_V) (st : List mm_V) a, mm_E d 250 42 lv [] (.inl a :: st) n I L P = if a = 0 then mm_E d 250 67 lv [] st n I L P else mm_E d 250 45 lv [] st n I L P) ∧
  (∀ (st : List mm_V) z (l0 : mm_V) (l1 : mm_V) (l2 : mm_V) (l3 : mm_V) (l5 : mm_V), mm_E d 250 45 [l0, l1, l2, l3, (.inl z), l5] [] st n I L P = mm_E d 250 47 [l0, l1, l2, l3, (.inl z), l5] [] ((.inl z) :: st) n I L P) ∧
  (∀ (st : List mm_V) z (l0 : mm_V) (l1 : mm_V) (l2 : mm_V) (l4 : mm_V) (l5 : mm_V), mm_E d 250 47 [l0, l1, l2, (.inl z), l4, l5] [] st n I L P = mm_E d 250 48 [l0, l1, l2, (.inl z), l4, l5] [] ((.inl z) :: st) n I L P) ∧
  (∀ (lv : List mm_V) (st : List mm_V) a b, mm_E d 250 48 lv [] (.inl b :: .inl a :: st) n I L P = if a = b then mm_E d 250 51 lv [] st n I L P else mm_E d 250 64 lv [] st n I L P) ∧
  (∀ (lv : List mm_V) (st : List mm_V), mm_E d 250 51 lv [] st n I L P = mm_E d 250 53 lv [] (.inl 10 :: st) n I L P) ∧
  (∀ (st : List mm_V) z (l0 : mm_V) (l1 : mm_V) (l2 : mm_V) (l3 : mm_V) (l4 : mm_V), mm_E d 250 53 [l0, l1, l2, l3, l4, (.inl z)] [] st n I L P = mm_E d 250 55 [l0, l1, l2, l3, l4, (.inl z)] [] ((.inl z) :: st) n I L P) ∧
  (∀ (lv : List mm_V) (st : List mm_V), mm_E d 250 55 lv [] st n I L P = mm_E d 250 56 lv [] (.inl 2 :: st) n I L P) ∧
  (∀ (lv : List mm_V) (st : List mm_V) a b, (¬ b = 0) → mm_E d 250 56 lv [] (.inl b :: .inl a :: st) n I L P = mm_E d 250 57 lv [] (.inl (mm_w (Int.tdiv a b)) :: st) n I L P) ∧
  (∀ (lv : List mm_V) (st : List mm_V) a b, mm_E d 250 57 lv [] (.inl b :: .inl a :: st) n I L P = mm_E d 250 58 lv [] (.inl (mm_mul a b) :: st) n I L P) ∧
  (∀ (st : List mm_V) z (l0 : mm_V) (l1 : mm_V) (l2 : mm_V) (l3 : mm_V) (l4 : mm_V), mm_E d 250 58 [l0, l1, l2, l3, l4, (.inl z)] [] st n I L P = mm_E d 250 60 [l0, l1, l2, l3, l4, (.inl z)] [] ((.inl z) :: st) n I L P) ∧
  (∀ (lv : List mm_V) (st : List mm_V), mm_E d 250 60 lv [] st n I L P = mm_E d 250 61 lv [] (.inl 2 :: st) n I L P) ∧
  (∀ (lv : List mm_V) (st : List mm_V) a b, (¬ b = 0) → mm_E d 250 61 lv [] (.inl b :: .inl a :: st) n I L P = mm_E d 250 62 lv [] (.inl (mm_w (Int.tmod a b)) :: st) n I L P) ∧
  (∀ (lv : List mm_V) (st : List mm_V) a b, mm_E d 250 62 lv [] (.inl b :: .inl a :: st) n I L P = mm_E d 250 63 lv [] (.inl (mm_add a b) :: st) n I L P) ∧
  (∀ (lv : List mm_V) z, mm_E d 250 63 lv [] [.inl z] n I L P = some (some (.inl z), n, I, L, P)) ∧
  (∀ (st : List mm_V) z (l0 : mm_V) (l1 : mm_V) (l2 : mm_V) (l3 : mm_V) (l5 : mm_V), mm_E d 250 64 [l0, l1, l2, l3, (.inl z), l5] [] st n I L P = mm_E d 250 67 [l0, l1, l2, l3, (.inl (mm_add z 1)), l5] [] st n I L P) ∧
  (∀ (st : List mm_V) z (l0 : mm_V) (l1 : mm_V) (l2 : mm_V) (l3 : mm_V) (l4 : mm_V), mm_E d 250 67 [l0, l1, l2, l3, l4, (.inl z)] [] st n I L P = mm_E d 250 70 [l0, l1, l2, l3, l4, (.inl (mm_add z 1))] [] st n I L P) ∧
  (∀ (lv : List mm_V) (st : List mm_V), mm_E d 250 70 lv [] st n I L P = mm_E d 250 22 lv [] st n I L P) ∧
  (∀ (st : List mm_V) z (l0 : mm_V) (l1 : mm_V) (l2 : mm_V) (l4 : mm_V) (l5 : mm_V), mm_E d 250 73 [l0, l1, l2, (.inl z), l4, l5] [] st n I L P = mm_E d 250 74 [l0, l1, l2, (.inl z), l4, l5] [] ((.inl z) :: st) n I L P) ∧
  (∀ (lv : List mm_V) (st : List mm_V), mm_E d 250 74 lv [] st n I L P = mm_E d 250 75 lv [] (.inl (-1) :: st) n I L P) ∧
  (∀ (lv : List mm_V) (st : List mm_V) a b, mm_E d 250 75 lv [] (.inl b :: .inl a :: st) n I L P = if a = b then mm_E d 250 78 lv [] st n I L P else mm_E d 250 83 lv [] st n I L P) ∧
  (∀ (st : List mm_V) z (l0 : mm_V) (l1 : mm_V) (l2 : mm_V) (l3 : mm_V) (l5 : mm_V), mm_E d 250 78 [l0, l1, l2, l3, (.inl z), l5] [] st n I L P = mm_E d 250 80 [l0, l1, l2, l3, (.inl z), l5] [] ((.inl z) :: st) n I L P) ∧
  (∀ (lv : List mm_V) (st : List mm_V), mm_E d 250 80 lv [] st n I L P = mm_E d 250 84 lv [] st n I L P) ∧
  (∀ (lv : List mm_V) (st : List mm_V), mm_E d 250 83 lv [] st n I L P = mm_E d 250 84 lv [] (.inl (-1) :: st) n I L P) ∧
  (∀ (lv : List mm_V) z, mm_E d 250 84 lv [] [.inl z] n I L P = some (some (.inl z), n, I, L, P)) :=
  ⟨fun _ _ _ _ _ _ _ => mq_al (i := 0) rfl rfl,
   fun _ _ _ _ _ _ _ => mq_il (i := 1) rfl rfl,
   fun _ _ _ _ _ _ _ => mq_il (i := 2) rfl rfl,
   fun _ _ _ _ h0 => mq_cVr (na := 2) rfl rfl (Nat.le_of_ble_eq_true rfl) (Nat.le_of_ble_eq_true rfl) h0,
   fun _ _ _ => mq_if_eq rfl,
   fun _ _ _ _ _ _ _ => mq_il (i := 3) rfl rfl,
   fun _ _ => mq_push rfl,
   fun _ _ _ _ => mq_ic_ge rfl,
   fun _ _ => mq_push rfl,
   fun _ _ => mq_ri rfl,
   fun _ _ => mq_push rfl,
   fun _ _ _ _ _ _ _ _ => mq_is (i := 4) rfl rfl rfl,
   fun _ _ => mq_push rfl,
   fun _ _ _ _ _ _ _ _ => mq_is (i := 5) rfl rfl rfl,
   fun _ _ => mq_push rfl,
   fun _ _ _ _ => mq_ic_ge rfl,
   fun _ _ _ _ _ _ _ => mq_al (i := 0) rfl rfl,
   fun _ _ _ _ _ _ _ => mq_il (i := 1) rfl rfl,
   fun _ _ _ _ _ _ _ => mq_il (i := 2) rfl rfl,
   fun _ _ _ _ _ _ _ => mq_il (i := 5) rfl rfl,
   fun _ _ => mq_push rfl,
   fun _ _ _ _ h0 => mq_di rfl h0,
   fun _ _ _ _ _ _ _ => mq_il (i := 5) rfl rfl,
   fun _ _ => mq_push rfl,
   fun _ _ _ _ h0 => mq_di rfl h0,
   fun _ _ _ _ _ _ h0 => mq_cVr (na := 4) rfl rfl (Nat.le_of_ble_eq_true rfl) (Nat.le_of_ble_eq_true rfl) h0,
   fun _ _ _ => mq_if_eq rfl,
   fun _ _ _ _ _ _ _ => mq_il (i := 4) rfl rfl,
   fun _ _ _ _ _ _ _ => mq_il (i := 3) rfl rfl,
   fun _ _ _ _ => mq_ic_ne rfl,
   fun _ _ => mq_push rfl,
   fun _ _ _ _ _ _ _ => mq_il (i := 5) rfl rfl,
   fun _ _ => mq_push rfl,
   fun _ _ _ _ h0 => mq_di rfl h0,
   fun _ _ _ _ => mq_bi rfl,
   fun _ _ _ _ _ _ _ => mq_il (i := 5) rfl rfl,
   fun _ _ => mq_push rfl,
   fun _ _ _ _ h0 => mq_di rfl h0,
   fun _ _ _ _ => mq_bi rfl,
   fun _ _ => mq_ri rfl,
   fun _ _ _ _ _ _ _ => mq_iinc (i := 4) rfl rfl rfl rfl,
   fun _ _ _ _ _ _ _ => mq_iinc (i := 5) rfl rfl rfl rfl,
   fun _ _ => mq_go rfl,
   fun _ _ _ _ _ _ _ => mq_il (i := 3) rfl rfl,
   fun _ _ => mq_push rfl,
   fun _ _ _ _ => mq_ic_ne rfl,
   fun _ _ _ _ _ _ _ => mq_il (i := 4) rfl rfl,
   fun _ _ => mq_go rfl,
   fun _ _ => mq_push rfl,
   fun _ _ => mq_ri rfl⟩
theorem hX12_rests_22 (d n : Nat) (I L : mm_I) (P : mm_P) : ∀ (st : List mm_V) z (l0 : mm_V) (l1 : mm_V) (l2 : mm_V) (l3 : mm_V) (l4 : mm_V), mm_E d 250 22 [l0, l1, l2, l3, l4, (.inl z)] [] st n I L P = mm_E d 250 24 [l0, l1, l2, l3, l4, (.inl z)] [] ((.inl z) :: st) n I L P := fun _ _ _ _ _ _ _ => mq_il (i := 5) rfl rfl
theorem eX12_rests (d n : Nat) (I L : mm_I) (P : mm_P) (x0 : Option Nat) (x1 : Int) (x2 : Int) (x3 : Int) : mm_rn (d + 1) 250 [.inr (.inr x0), .inl x1, .inl x2, .inl x3] n I L P = mm_E d 250 0 [.inr (.inr x0), .inl x1, .inl x2, .inl x3, mm_junk, mm_junk] [] [] n I L P := rfl

set_option maxRecDepth 20000 in
set_option maxHeartbeats 8000000 in
theorem kX12_oddsFrom (d n : Nat) (I L : mm_I) (P : mm_P) :
  (∀ (st : List mm_V) z (l0 : mm_V) (l1 : mm_V) (l2 : mm_V) (l3 : mm_V) (l5 : mm_V) (l6 : mm_V) (l7 : mm_V) (l8 : mm_V) (l9 : mm_V) (l10 : mm_V) (l11 : mm_V), mm_E d 251 0 [l0, l1, l2, l3, (.inl z), l5, l6, l7, l8, l9, l10, l11] [] st n I L P = mm_E d 251 2 [l0, l1, l2, l3, (.inl z), l5, l6, l7, l8, l9, l10, l11] [] ((.inl z) :: st) n I L P) ∧
  (∀ (lv : List mm_V) (st : List mm_V) a, mm_E d 251 2 lv [] (.inl a :: st) n I L P = if a = 0 then mm_E d 251 5 lv [] st n I L P else mm_E d 251 18 lv [] st n I L P) ∧
  (∀ (st : List mm_V) z (l0 : mm_V) (l1 : mm_V) (l2 : mm_V) (l3 : mm_V) (l4 : mm_V) (l5 : mm_V) (l7 : mm_V) (l8 : mm_V) (l9 : mm_V) (l10 : mm_V) (l11 : mm_V), mm_E d 251 5 [l0, l1, l2, l3, l4, l5, (.inl z), l7, l8, l9, l10, l11] [] st n I L P = mm_E d 251 7 [l0, l1, l2, l3, l4, l5, (.inl z), l7, l8, l9, l10, l11] [] ((.inl z) :: st) n I L P) ∧
  (∀ (st : List mm_V) z (l0 : mm_V) (l1 : mm_V) (l2 : mm_V) (l4 : mm_V) (l5 : mm_V) (l6 : mm_V) (l7 : mm_V) (l8 : mm_V) (l9 : mm_V) (l10 : mm_V) (l11 : mm_V), mm_E d 251 7 [l0, l1, l2, (.inl z), l4, l5, l6, l7, l8, l9, l10, l11] [] st n I L P = mm_E d 251 8 [l0, l1, l2, (.inl z), l4, l5, l6, l7, l8, l9, l10, l11] [] ((.inl z) :: st) n I L P) ∧
  (∀ (lv : List mm_V) (st : List mm_V) a b, mm_E d 251 8 lv [] (.inl b :: .inl a :: st) n I L P = if a < b then mm_E d 251 16 lv [] st n I L P else mm_E d 251 11 lv [] st n I L P) ∧
  (∀ (st : List mm_V) z (l0 : mm_V) (l1 : mm_V) (l2 : mm_V) (l3 : mm_V) (l4 : mm_V) (l5 : mm_V) (l6 : mm_V) (l8 : mm_V) (l9 : mm_V) (l10 : mm_V) (l11 : mm_V), mm_E d 251 11 [l0, l1, l2, l3, l4, l5, l6, (.inl z), l8, l9, l10, l11] [] st n I L P = mm_E d 251 13 [l0, l1, l2, l3, l4, l5, l6, (.inl z), l8, l9, l10, l11] [] ((.inl z) :: st) n I L P) ∧
  (∀ (lv : List mm_V) (st : List mm_V), mm_E d 251 13 lv [] st n I L P = mm_E d 251 17 lv [] st n I L P) ∧
  (∀ (lv : List mm_V) (st : List mm_V), mm_E d 251 16 lv [] st n I L P = mm_E d 251 17 lv [] (.inl 0 :: st) n I L P) ∧
  (∀ (lv : List mm_V) z, mm_E d 251 17 lv [] [.inl z] n I L P = some (some (.inl z), n, I, L, P)) ∧
  (∀ (st : List mm_V) z (l0 : mm_V) (l1 : mm_V) (l2 : mm_V) (l3 : mm_V) (l4 : mm_V) (l5 : mm_V) (l6 : mm_V) (l8 : mm_V) (l9 : mm_V) (l10 : mm_V) (l11 : mm_V), mm_E d 251 18 [l0, l1, l2, l3, l4, l5, l6, (.inl z), l8, l9, l10, l11] [] st n I L P = mm_E d 251 20 [l0, l1, l2, l3, l4, l5, l6, (.inl z), l8, l9, l10, l11] [] ((.inl z) :: st) n I L P) ∧
  (∀ (lv : List mm_V) (st : List mm_V) a, mm_E d 251 20 lv [] (.inl a :: st) n I L P = mm_E d 251 21 lv [] (.inr (.inl a) :: st) n I L P) ∧
  (∀ (st : List mm_V) z (l0 : mm_V) (l1 : mm_V) (l2 : mm_V) (l3 : mm_V) (l4 : mm_V) (l6 : mm_V) (l7 : mm_V) (l8 : mm_V) (l9 : mm_V) (l10 : mm_V) (l11 : mm_V), mm_E d 251 21 [l0, l1, l2, l3, l4, (.inl z), l6, l7, l8, l9, l10, l11] [] st n I L P = mm_E d 251 23 [l0, l1, l2, l3, l4, (.inl z), l6, l7, l8, l9, l10, l11] [] ((.inl z) :: st) n I L P) ∧
  (∀ (lv : List mm_V) (st : List mm_V) a, mm_E d 251 23 lv [] (.inl a :: st) n I L P = mm_E d 251 24 lv [] (.inr (.inl a) :: st) n I L P) ∧
  (∀ (lv : List mm_V) (st : List mm_V) a b, mm_E d 251 24 lv [] (.inr (.inl b) :: .inr (.inl a) :: st) n I L P = mm_E d 251 25 lv [] (.inr (.inl (mm_lmull a b)) :: st) n I L P) ∧
  (∀ (lv : List mm_V) (st : List mm_V), mm_E d 251 25 lv [] st n I L P = mm_E d 251 28 lv [] (.inr (.inl 100) :: st) n I L P) ∧
  (∀ (lv : List mm_V) (st : List mm_V) a b, (¬ b = 0) → mm_E d 251 28 lv [] (.inr (.inl b) :: .inr (.inl a) :: st) n I L P = mm_E d 251 29 lv [] (.inr (.inl (mm_wl (Int.tdiv a b))) :: st) n I L P) ∧
  (∀ (lv : List mm_V) (st : List mm_V) a, mm_E d 251 29 lv [] (.inr (.inl a) :: st) n I L P = mm_E d 251 30 lv [] (.inl (mm_w a) :: st) n I L P) ∧
  (∀ (st : List mm_V) z (l0 : mm_V) (l1 : mm_V) (l2 : mm_V) (l3 : mm_V) (l4 : mm_V) (l5 : mm_V) (l6 : mm_V) (l7 : mm_V) (l8 : mm_V) (l9 : mm_V) (l10 : mm_V) (l11 : mm_V), mm_E d 251 30 [l0, l1, l2, l3, l4, l5, l6, l7, l8, l9, l10, l11] [] ((.inl z) :: st) n I L P = mm_E d 251 32 [l0, l1, l2, l3, l4, l5, l6, l7, (.inl z), l9, l10, l11] [] st n I L P) ∧
  (∀ (lv : List mm_V) (st : List mm_V), mm_E d 251 32 lv [] st n I L P = mm_E d 251 33 lv [] (.inl 0 :: st) n I L P) ∧
  (∀ (st : List mm_V) z (l0 : mm_V) (l1 : mm_V) (l2 : mm_V) (l3 : mm_V) (l4 : mm_V) (l5 : mm_V) (l6 : mm_V) (l7 : mm_V) (l8 : mm_V) (l9 : mm_V) (l10 : mm_V) (l11 : mm_V), mm_E d 251 33 [l0, l1, l2, l3, l4, l5, l6, l7, l8, l9, l10, l11] [] ((.inl z) :: st) n I L P = mm_E d 251 35 [l0, l1, l2, l3, l4, l5, l6, l7, l8, (.inl z), l10, l11] [] st n I L P) ∧
  (∀ (st : List mm_V) z (l1 : mm_V) (l2 : mm_V) (l3 : mm_V) (l4 : mm_V) (l5 : mm_V) (l6 : mm_V) (l7 : mm_V) (l8 : mm_V) (l9 : mm_V) (l10 : mm_V) (l11 : mm_V), mm_E d 251 35 [(.inr (.inr z)), l1, l2, l3, l4, l5, l6, l7, l8, l9, l10, l11] [] st n I L P = mm_E d 251 36 [(.inr (.inr z)), l1, l2, l3, l4, l5, l6, l7, l8, l9, l10, l11] [] ((.inr (.inr z)) :: st) n I L P) ∧
  (∀ (st : List mm_V) z (l0 : mm_V) (l2 : mm_V) (l3 : mm_V) (l4 : mm_V) (l5 : mm_V) (l6 : mm_V) (l7 : mm_V) (l8 : mm_V) (l9 : mm_V) (l10 : mm_V) (l11 : mm_V), mm_E d 251 36 [l0, (.inl z), l2, l3, l4, l5, l6, l7, l8, l9, l10, l11] [] st n I L P = mm_E d 251 37 [l0, (.inl z), l2, l3, l4, l5, l6, l7, l8, l9, l10, l11] [] ((.inl z) :: st) n I L P) ∧
  (∀ (lv : List mm_V) a x0, (mm_ok n a 12) → mm_E d 251 37 lv [] (.inl x0 :: .inr (.inr (some a)) :: []) n I L P = mm_kv d 251 40 lv [] [] n (mm_rn d 223 [.inr (.inr (some a)), .inl x0] n I L P)) ∧
  (∀ (lv : List mm_V) (st : List mm_V), mm_E d 251 40 lv [] st n I L P = mm_E d 251 41 lv [] (.inl 0 :: st) n I L P) ∧
  (∀ (st : List mm_V) z (l0 : mm_V) (l1 : mm_V) (l2 : mm_V) (l3 : mm_V) (l4 : mm_V) (l5 : mm_V) (l6 : mm_V) (l7 : mm_V) (l8 : mm_V) (l9 : mm_V) (l10 : mm_V) (l11 : mm_V), mm_E d 251 41 [l0, l1, l2, l3, l4, l5, l6, l7, l8, l9, l10, l11] [] ((.inl z) :: st) n I L P = mm_E d 251 43 [l0, l1, l2, l3, l4, l5, l6, l7, l8, l9, (.inl z), l11] [] st n I L P) ∧
  (∀ (lv : List mm_V) (st : List mm_V), mm_E d 251 45 lv [] st n I L P = mm_E d 251 46 lv [] (.inl 2 :: st) n I L P) ∧
  (∀ (lv : List mm_V) (st : List mm_V) a b, mm_E d 251 46 lv [] (.inl b :: .inl a :: st) n I L P = if b ≤ a then mm_E d 251 128 lv [] st n I L P else mm_E d 251 49 lv [] st n I L P) ∧
  (∀ (st : List mm_V) z (l0 : mm_V) (l1 : mm_V) (l2 : mm_V) (l3 : mm_V) (l4 : mm_V) (l5 : mm_V) (l6 : mm_V) (l7 : mm_V) (l8 : mm_V) (l9 : mm_V) (l11 : mm_V), mm_E d 251 49 [l0, l1, l2, l3, l4, l5, l6, l7, l8, l9, (.inl z), l11] [] st n I L P = mm_E d 251 51 [l0, l1, l2, l3, l4, l5, l6, l7, l8, l9, (.inl z), l11] [] ((.inl z) :: st) n I L P) ∧
  (∀ (lv : List mm_V) (st : List mm_V), mm_E d 251 51 lv [] st n I L P = mm_E d 251 52 lv [] (.inl 1 :: st) n I L P) ∧
  (∀ (lv : List mm_V) (st : List mm_V) a b, mm_E d 251 52 lv [] (.inl b :: .inl a :: st) n I L P = if a = b then mm_E d 251 55 lv [] st n I L P else mm_E d 251 70 lv [] st n I L P) ∧
  (∀ (st : List mm_V) z (l1 : mm_V) (l2 : mm_V) (l3 : mm_V) (l4 : mm_V) (l5 : mm_V) (l6 : mm_V) (l7 : mm_V) (l8 : mm_V) (l9 : mm_V) (l10 : mm_V) (l11 : mm_V), mm_E d 251 55 [(.inr (.inr z)), l1, l2, l3, l4, l5, l6, l7, l8, l9, l10, l11] [] st n I L P = mm_E d 251 56 [(.inr (.inr z)), l1, l2, l3, l4, l5, l6, l7, l8, l9, l10, l11] [] ((.inr (.inr z)) :: st) n I L P) ∧
  (∀ (st : List mm_V) z (l0 : mm_V) (l1 : mm_V) (l3 : mm_V) (l4 : mm_V) (l5 : mm_V) (l6 : mm_V) (l7 : mm_V) (l8 : mm_V) (l9 : mm_V) (l10 : mm_V) (l11 : mm_V), mm_E d 251 56 [l0, l1, (.inl z), l3, l4, l5, l6, l7, l8, l9, l10, l11] [] st n I L P = mm_E d 251 57 [l0, l1, (.inl z), l3, l4, l5, l6, l7, l8, l9, l10, l11] [] ((.inl z) :: st) n I L P) ∧
  (∀ (lv : List mm_V) a x0, (mm_ok n a 12) → mm_E d 251 57 lv [] (.inl x0 :: .inr (.inr (some a)) :: []) n I L P = mm_kr d 251 60 lv [] [] n (mm_rn d 193 [.inr (.inr (some a)), .inl x0] n I L P)) ∧
  (∀ (lv : List mm_V) (st : List mm_V) a, mm_E d 251 60 lv [] (.inl a :: st) n I L P = if a = 0 then mm_E d 251 63 lv [] st n I L P else mm_E d 251 70 lv [] st n I L P) ∧
  (∀ (st : List mm_V) z (l1 : mm_V) (l2 : mm_V) (l3 : mm_V) (l4 : mm_V) (l5 : mm_V) (l6 : mm_V) (l7 : mm_V) (l8 : mm_V) (l9 : mm_V) (l10 : mm_V) (l11 : mm_V), mm_E d 251 63 [(.inr (.inr z)), l1, l2, l3, l4, l5, l6, l7, l8, l9, l10, l11] [] st n I L P = mm_E d 251 64 [(.inr (.inr z)), l1, l2, l3, l4, l5, l6, l7, l8, l9, l10, l11] [] ((.inr (.inr z)) :: st) n I L P) ∧
  (∀ (st : List mm_V) z (l0 : mm_V) (l1 : mm_V) (l3 : mm_V) (l4 : mm_V) (l5 : mm_V) (l6 : mm_V) (l7 : mm_V) (l8 : mm_V) (l9 : mm_V) (l10 : mm_V) (l11 : mm_V), mm_E d 251 64 [l0, l1, (.inl z), l3, l4, l5, l6, l7, l8, l9, l10, l11] [] st n I L P = mm_E d 251 65 [l0, l1, (.inl z), l3, l4, l5, l6, l7, l8, l9, l10, l11] [] ((.inl z) :: st) n I L P) ∧
  (∀ (lv : List mm_V) (st : List mm_V), mm_E d 251 65 lv [] st n I L P = mm_E d 251 66 lv [] (.inl 0 :: st) n I L P) ∧
  (∀ (lv : List mm_V) (st : List mm_V), mm_E d 251 66 lv [] st n I L P = mm_E d 251 67 lv [] (.inl 1 :: st) n I L P) ∧
  (∀ (lv : List mm_V) a x0 x1 x2, (mm_ok n a 12) → mm_E d 251 67 lv [] (.inl x2 :: .inl x1 :: .inl x0 :: .inr (.inr (some a)) :: []) n I L P = mm_kv d 251 70 lv [] [] n (mm_rn d 214 [.inr (.inr (some a)), .inl x0, .inl x1, .inl x2] n I L P)) ∧
  (∀ (st : List mm_V) z (l1 : mm_V) (l2 : mm_V) (l3 : mm_V) (l4 : mm_V) (l5 : mm_V) (l6 : mm_V) (l7 : mm_V) (l8 : mm_V) (l9 : mm_V) (l10 : mm_V) (l11 : mm_V), mm_E d 251 70 [(.inr (.inr z)), l1, l2, l3, l4, l5, l6, l7, l8, l9, l10, l11] [] st n I L P = mm_E d 251 71 [(.inr (.inr z)), l1, l2, l3, l4, l5, l6, l7, l8, l9, l10, l11] [] ((.inr (.inr z)) :: st) n I L P) ∧
  (∀ (lv : List mm_V) a, (mm_ok n a 12) → mm_E d 251 71 lv [] (.inr (.inr (some a)) :: []) n I L P = mm_kr d 251 74 lv [] [] n (mm_rn d 198 [.inr (.inr (some a))] n I L P)) ∧
  (∀ (st : List mm_V) z (l0 : mm_V) (l1 : mm_V) (l2 : mm_V) (l3 : mm_V) (l4 : mm_V) (l5 : mm_V) (l6 : mm_V) (l7 : mm_V) (l8 : mm_V) (l9 : mm_V) (l10 : mm_V) (l11 : mm_V), mm_E d 251 74 [l0, l1, l2, l3, l4, l5, l6, l7, l8, l9, l10, l11] [] ((.inl z) :: st) n I L P = mm_E d 251 76 [l0, l1, l2, l3, l4, l5, l6, l7, l8, l9, l10, (.inl z)] [] st n I L P) ∧
  (∀ (st : List mm_V) z (l0 : mm_V) (l1 : mm_V) (l2 : mm_V) (l3 : mm_V) (l4 : mm_V) (l5 : mm_V) (l6 : mm_V) (l7 : mm_V) (l8 : mm_V) (l10 : mm_V) (l11 : mm_V), mm_E d 251 76 [l0, l1, l2, l3, l4, l5, l6, l7, l8, (.inl z), l10, l11] [] st n I L P = mm_E d 251 78 [l0, l1, l2, l3, l4, l5, l6, l7, l8, (.inl z), l10, l11] [] ((.inl z) :: st) n I L P) ∧
  (∀ (st : List mm_V) z (l1 : mm_V) (l2 : mm_V) (l3 : mm_V) (l4 : mm_V) (l5 : mm_V) (l6 : mm_V) (l7 : mm_V) (l8 : mm_V) (l9 : mm_V) (l10 : mm_V) (l11 : mm_V), mm_E d 251 78 [(.inr (.inr z)), l1, l2, l3, l4, l5, l6, l7, l8, l9, l10, l11] [] st n I L P = mm_E d 251 79 [(.inr (.inr z)), l1, l2, l3, l4, l5, l6, l7, l8, l9, l10, l11] [] ((.inr (.inr z)) :: st) n I L P) ∧
  (∀ (st : List mm_V) z (l0 : mm_V) (l2 : mm_V) (l3 : mm_V) (l4 : mm_V) (l5 : mm_V) (l6 : mm_V) (l7 : mm_V) (l8 : mm_V) (l9 : mm_V) (l10 : mm_V) (l11 : mm_V), mm_E d 251 79 [l0, (.inl z), l2, l3, l4, l5, l6, l7, l8, l9, l10, l11] [] st n I L P = mm_E d 251 80 [l0, (.inl z), l2, l3, l4, l5, l6, l7, l8, l9, l10, l11] [] ((.inl z) :: st) n I L P) ∧
  (∀ (lv : List mm_V) (st : List mm_V), mm_E d 251 80 lv [] st n I L P = mm_E d 251 81 lv [] (.inl 1 :: st) n I L P) ∧
  (∀ (lv : List mm_V) (st : List mm_V) a b, mm_E d 251 81 lv [] (.inl b :: .inl a :: st) n I L P = mm_E d 251 82 lv [] (.inl (mm_add a b) :: st) n I L P) ∧
  (∀ (st : List mm_V) z (l0 : mm_V) (l1 : mm_V) (l3 : mm_V) (l4 : mm_V) (l5 : mm_V) (l6 : mm_V) (l7 : mm_V) (l8 : mm_V) (l9 : mm_V) (l10 : mm_V) (l11 : mm_V), mm_E d 251 82 [l0, l1, (.inl z), l3, l4, l5, l6, l7, l8, l9, l10, l11] [] st n I L P = mm_E d 251 83 [l0, l1, (.inl z), l3, l4, l5, l6, l7, l8, l9, l10, l11] [] ((.inl z) :: st) n I L P) ∧
  (∀ (st : List mm_V) z (l0 : mm_V) (l1 : mm_V) (l2 : mm_V) (l4 : mm_V) (l5 : mm_V) (l6 : mm_V) (l7 : mm_V) (l8 : mm_V) (l9 : mm_V) (l10 : mm_V) (l11 : mm_V), mm_E d 251 83 [l0, l1, l2, (.inl z), l4, l5, l6, l7, l8, l9, l10, l11] [] st n I L P = mm_E d 251 84 [l0, l1, l2, (.inl z), l4, l5, l6, l7, l8, l9, l10, l11] [] ((.inl z) :: st) n I L P) ∧
  (∀ (st : List mm_V) z (l0 : mm_V) (l1 : mm_V) (l2 : mm_V) (l3 : mm_V) (l5 : mm_V) (l6 : mm_V) (l7 : mm_V) (l8 : mm_V) (l9 : mm_V) (l10 : mm_V) (l11 : mm_V), mm_E d 251 84 [l0, l1, l2, l3, (.inl z), l5, l6, l7, l8, l9, l10, l11] [] st n I L P = mm_E d 251 86 [l0, l1, l2, l3, (.inl z), l5, l6, l7, l8, l9, l10, l11] [] ((.inl z) :: st) n I L P) ∧
  (∀ (lv : List mm_V) (st : List mm_V), mm_E d 251 86 lv [] st n I L P = mm_E d 251 87 lv [] (.inl 1 :: st) n I L P) ∧
  (∀ (lv : List mm_V) (st : List mm_V) a b, mm_E d 251 87 lv [] (.inl b :: .inl a :: st) n I L P = mm_E d 251 88 lv [] (.inl (mm_sub a b) :: st) n I L P) ∧
  (∀ (st : List mm_V) z (l0 : mm_V) (l1 : mm_V) (l2 : mm_V) (l3 : mm_V) (l4 : mm_V) (l6 : mm_V) (l7 : mm_V) (l8 : mm_V) (l9 : mm_V) (l10 : mm_V) (l11 : mm_V), mm_E d 251 88 [l0, l1, l2, l3, l4, (.inl z), l6, l7, l8, l9, l10, l11] [] st n I L P = mm_E d 251 90 [l0, l1, l2, l3, l4, (.inl z), l6, l7, l8, l9, l10, l11] [] ((.inl z) :: st) n I L P) ∧
  (∀ (st : List mm_V) z (l0 : mm_V) (l1 : mm_V) (l2 : mm_V) (l3 : mm_V) (l4 : mm_V) (l5 : mm_V) (l7 : mm_V) (l8 : mm_V) (l9 : mm_V) (l10 : mm_V) (l11 : mm_V), mm_E d 251 90 [l0, l1, l2, l3, l4, l5, (.inl z), l7, l8, l9, l10, l11] [] st n I L P = mm_E d 251 92 [l0, l1, l2, l3, l4, l5, (.inl z), l7, l8, l9, l10, l11] [] ((.inl z) :: st) n I L P) ∧
  (∀ (st : List mm_V) z (l0 : mm_V) (l1 : mm_V) (l2 : mm_V) (l3 : mm_V) (l4 : mm_V) (l5 : mm_V) (l6 : mm_V) (l7 : mm_V) (l8 : mm_V) (l9 : mm_V) (l10 : mm_V), mm_E d 251 92 [l0, l1, l2, l3, l4, l5, l6, l7, l8, l9, l10, (.inl z)] [] st n I L P = mm_E d 251 94 [l0, l1, l2, l3, l4, l5, l6, l7, l8, l9, l10, (.inl z)] [] ((.inl z) :: st) n I L P) ∧
  (∀ (lv : List mm_V) (st : List mm_V) a b, mm_E d 251 94 lv [] (.inl b :: .inl a :: st) n I L P = mm_E d 251 95 lv [] (.inl (mm_add a b) :: st) n I L P) ∧
  (∀ (st : List mm_V) z (l0 : mm_V) (l1 : mm_V) (l2 : mm_V) (l3 : mm_V) (l4 : mm_V) (l5 : mm_V) (l6 : mm_V) (l7 : mm_V) (l8 : mm_V) (l9 : mm_V) (l11 : mm_V), mm_E d 251 95 [l0, l1, l2, l3, l4, l5, l6, l7, l8, l9, (.inl z), l11] [] st n I L P = mm_E d 251 97 [l0, l1, l2, l3, l4, l5, l6, l7, l8, l9, (.inl z), l11] [] ((.inl z) :: st) n I L P) ∧
  (∀ (lv : List mm_V) (st : List mm_V), mm_E d 251 97 lv [] st n I L P = mm_E d 251 98 lv [] (.inl 1 :: st) n I L P) ∧
  (∀ (lv : List mm_V) (st : List mm_V) a b, mm_E d 251 98 lv [] (.inl b :: .inl a :: st) n I L P = if a = b then mm_E d 251 101 lv [] st n I L P else mm_E d 251 106 lv [] st n I L P) ∧
  (∀ (st : List mm_V) z (l0 : mm_V) (l1 : mm_V) (l2 : mm_V) (l3 : mm_V) (l4 : mm_V) (l5 : mm_V) (l6 : mm_V) (l7 : mm_V) (l9 : mm_V) (l10 : mm_V) (l11 : mm_V), mm_E d 251 101 [l0, l1, l2, l3, l4, l5, l6, l7, (.inl z), l9, l10, l11] [] st n I L P = mm_E d 251 103 [l0, l1, l2, l3, l4, l5, l6, l7, (.inl z), l9, l10, l11] [] ((.inl z) :: st) n I L P) ∧
  (∀ (lv : List mm_V) (st : List mm_V), mm_E d 251 103 lv [] st n I L P = mm_E d 251 111 lv [] st n I L P) ∧
  (∀ (st : List mm_V) z (l0 : mm_V) (l1 : mm_V) (l2 : mm_V) (l3 : mm_V) (l4 : mm_V) (l5 : mm_V) (l6 : mm_V) (l8 : mm_V) (l9 : mm_V) (l10 : mm_V) (l11 : mm_V), mm_E d 251 106 [l0, l1, l2, l3, l4, l5, l6, (.inl z), l8, l9, l10, l11] [] st n I L P = mm_E d 251 108 [l0, l1, l2, l3, l4, l5, l6, (.inl z), l8, l9, l10, l11] [] ((.inl z) :: st) n I L P) ∧
  (∀ (st : List mm_V) z (l0 : mm_V) (l1 : mm_V) (l2 : mm_V) (l3 : mm_V) (l4 : mm_V) (l5 : mm_V) (l6 : mm_V) (l7 : mm_V) (l9 : mm_V) (l10 : mm_V) (l11 : mm_V), mm_E d 251 108 [l0, l1, l2, l3, l4, l5, l6, l7, (.inl z), l9, l10, l11] [] st n I L P = mm_E d 251 110 [l0, l1, l2, l3, l4, l5, l6, l7, (.inl z), l9, l10, l11] [] ((.inl z) :: st) n I L P) ∧
  (∀ (lv : List mm_V) (st : List mm_V) a b, mm_E d 251 110 lv [] (.inl b :: .inl a :: st) n I L P = mm_E d 251 111 lv [] (.inl (mm_sub a b) :: st) n I L P) ∧
  (∀ (lv : List mm_V) a x0 x1 x2 x3 x4 x5 x6 w0, (mm_ok n a 12) → mm_E d 251 111 lv [] (.inl x6 :: .inl x5 :: .inl x4 :: .inl x3 :: .inl x2 :: .inl x1 :: .inl x0 :: .inr (.inr (some a)) :: [.inl w0]) n I L P = mm_kr d 251 114 lv [] [.inl w0] n (mm_rn d 251 [.inr (.inr (some a)), .inl x0, .inl x1, .inl x2, .inl x3, .inl x4, .inl x5, .inl x6] n I L P)) ∧
  (∀ (lv : List mm_V) (st : List mm_V) a b, mm_E d 251 114 lv [] (.inl b :: .inl a :: st) n I L P = mm_E d 251 115 lv [] (.inl (mm_add a b) :: st) n I L P) ∧
  (∀ (st : List mm_V) z (l0 : mm_V) (l1 : mm_V) (l2 : mm_V) (l3 : mm_V) (l4 : mm_V) (l5 : mm_V) (l6 : mm_V) (l7 : mm_V) (l8 : mm_V) (l9 : mm_V) (l10 : mm_V) (l11 : mm_V), mm_E d 251 115 [l0, l1, l2, l3, l4, l5, l6, l7, l8, l9, l10, l11] [] ((.inl z) :: st) n I L P = mm_E d 251 117 [l0, l1, l2, l3, l4, l5, l6, l7, l8, (.inl z), l10, l11] [] st n I L P) ∧
  (∀ (st : List mm_V) z (l1 : mm_V) (l2 : mm_V) (l3 : mm_V) (l4 : mm_V) (l5 : mm_V) (l6 : mm_V) (l7 : mm_V) (l8 : mm_V) (l9 : mm_V) (l10 : mm_V) (l11 : mm_V), mm_E d 251 117 [(.inr (.inr z)), l1, l2, l3, l4, l5, l6, l7, l8, l9, l10, l11] [] st n I L P = mm_E d 251 118 [(.inr (.inr z)), l1, l2, l3, l4, l5, l6, l7, l8, l9, l10, l11] [] ((.inr (.inr z)) :: st) n I L P) ∧
  (∀ (st : List mm_V) z (l0 : mm_V) (l2 : mm_V) (l3 : mm_V) (l4 : mm_V) (l5 : mm_V) (l6 : mm_V) (l7 : mm_V) (l8 : mm_V) (l9 : mm_V) (l10 : mm_V) (l11 : mm_V), mm_E d 251 118 [l0, (.inl z), l2, l3, l4, l5, l6, l7, l8, l9, l10, l11] [] st n I L P = mm_E d 251 119 [l0, (.inl z), l2, l3, l4, l5, l6, l7, l8, l9, l10, l11] [] ((.inl z) :: st) n I L P) ∧
  (∀ (lv : List mm_V) a x0, (mm_ok n a 12) → mm_E d 251 119 lv [] (.inl x0 :: .inr (.inr (some a)) :: []) n I L P = mm_kv d 251 122 lv [] [] n (mm_rn d 224 [.inr (.inr (some a)), .inl x0] n I L P)) ∧
  (∀ (st : List mm_V) z (l0 : mm_V) (l1 : mm_V) (l2 : mm_V) (l3 : mm_V) (l4 : mm_V) (l5 : mm_V) (l6 : mm_V) (l7 : mm_V) (l8 : mm_V) (l9 : mm_V) (l11 : mm_V), mm_E d 251 122 [l0, l1, l2, l3, l4, l5, l6, l7, l8, l9, (.inl z), l11] [] st n I L P = mm_E d 251 125 [l0, l1, l2, l3, l4, l5, l6, l7, l8, l9, (.inl (mm_add z 1)), l11] [] st n I L P) ∧
  (∀ (lv : List mm_V) (st : List mm_V), mm_E d 251 125 lv [] st n I L P = mm_E d 251 43 lv [] st n I L P) ∧
  (∀ (st : List mm_V) z (l0 : mm_V) (l1 : mm_V) (l2 : mm_V) (l3 : mm_V) (l4 : mm_V) (l5 : mm_V) (l6 : mm_V) (l7 : mm_V) (l8 : mm_V) (l10 : mm_V) (l11 : mm_V), mm_E d 251 128 [l0, l1, l2, l3, l4, l5, l6, l7, l8, (.inl z), l10, l11] [] st n I L P = mm_E d 251 130 [l0, l1, l2, l3, l4, l5, l6, l7, l8, (.inl z), l10, l11] [] ((.inl z) :: st) n I L P) ∧
  (∀ (lv : List mm_V) z, mm_E d 251 130 lv [] [.inl z] n I L P = some (some (.inl z), n, I, L, P)) :=
  ⟨fun _ _ _ _ _ _ _ _ _ _ _ _ _ => mq_il (i := 4) rfl rfl,
   fun _ _ _ => mq_if_ne rfl,
   fun _ _ _ _ _ _ _ _ _ _ _ _ _ => mq_il (i := 6) rfl rfl,
   fun _ _ _ _ _ _ _ _ _ _ _ _ _ => mq_il (i := 3) rfl rfl,
   fun _ _ _ _ => mq_ic_lt rfl,
   fun _ _ _ _ _ _ _ _ _ _ _ _ _ => mq_il (i := 7) rfl rfl,
   fun _ _ => mq_go rfl,
   fun _ _ => mq_push rfl,
   fun _ _ => mq_ri rfl,
   fun _ _ _ _ _ _ _ _ _ _ _ _ _ => mq_il (i := 7) rfl rfl,
   fun _ _ _ => mq_i2l rfl,
   fun _ _ _ _ _ _ _ _ _ _ _ _ _ => mq_il (i := 5) rfl rfl,
   fun _ _ _ => mq_i2l rfl,
   fun _ _ _ _ => mq_bl rfl,
   fun _ _ => mq_push rfl,
   fun _ _ _ _ h0 => mq_dl rfl h0,
   fun _ _ _ => mq_l2i rfl,
   fun _ _ _ _ _ _ _ _ _ _ _ _ _ _ => mq_is (i := 8) rfl rfl rfl,
   fun _ _ => mq_push rfl,
   fun _ _ _ _ _ _ _ _ _ _ _ _ _ _ => mq_is (i := 9) rfl rfl rfl,
   fun _ _ _ _ _ _ _ _ _ _ _ _ _ => mq_al (i := 0) rfl rfl,
   fun _ _ _ _ _ _ _ _ _ _ _ _ _ => mq_il (i := 1) rfl rfl,
   fun _ _ _ h0 => mq_cVv (na := 1) rfl rfl (Nat.le_of_ble_eq_true rfl) (Nat.le_of_ble_eq_true rfl) h0,
   fun _ _ => mq_push rfl,
   fun _ _ _ _ _ _ _ _ _ _ _ _ _ _ => mq_is (i := 10) rfl rfl rfl,
   fun _ _ => mq_push rfl,
   fun _ _ _ _ => mq_ic_ge rfl,
   fun _ _ _ _ _ _ _ _ _ _ _ _ _ => mq_il (i := 10) rfl rfl,
   fun _ _ => mq_push rfl,
   fun _ _ _ _ => mq_ic_ne rfl,
   fun _ _ _ _ _ _ _ _ _ _ _ _ _ => mq_al (i := 0) rfl rfl,
   fun _ _ _ _ _ _ _ _ _ _ _ _ _ => mq_il (i := 2) rfl rfl,
   fun _ _ _ h0 => mq_cVr (na := 1) rfl rfl (Nat.le_of_ble_eq_true rfl) (Nat.le_of_ble_eq_true rfl) h0,
   fun _ _ _ => mq_if_ne rfl,
   fun _ _ _ _ _ _ _ _ _ _ _ _ _ => mq_al (i := 0) rfl rfl,
   fun _ _ _ _ _ _ _ _ _ _ _ _ _ => mq_il (i := 2) rfl rfl,
   fun _ _ => mq_push rfl,
   fun _ _ => mq_push rfl,
   fun _ _ _ _ _ h0 => mq_cVv (na := 3) rfl rfl (Nat.le_of_ble_eq_true rfl) (Nat.le_of_ble_eq_true rfl) h0,
   fun _ _ _ _ _ _ _ _ _ _ _ _ _ => mq_al (i := 0) rfl rfl,
   fun _ _ h0 => mq_cVr (na := 0) rfl rfl (Nat.le_of_ble_eq_true rfl) (Nat.le_of_ble_eq_true rfl) h0,
   fun _ _ _ _ _ _ _ _ _ _ _ _ _ _ => mq_is (i := 11) rfl rfl rfl,
   fun _ _ _ _ _ _ _ _ _ _ _ _ _ => mq_il (i := 9) rfl rfl,
   fun _ _ _ _ _ _ _ _ _ _ _ _ _ => mq_al (i := 0) rfl rfl,
   fun _ _ _ _ _ _ _ _ _ _ _ _ _ => mq_il (i := 1) rfl rfl,
   fun _ _ => mq_push rfl,
   fun _ _ _ _ => mq_bi rfl,
   fun _ _ _ _ _ _ _ _ _ _ _ _ _ => mq_il (i := 2) rfl rfl,
   fun _ _ _ _ _ _ _ _ _ _ _ _ _ => mq_il (i := 3) rfl rfl,
   fun _ _ _ _ _ _ _ _ _ _ _ _ _ => mq_il (i := 4) rfl rfl,
   fun _ _ => mq_push rfl,
   fun _ _ _ _ => mq_bi rfl,
   fun _ _ _ _ _ _ _ _ _ _ _ _ _ => mq_il (i := 5) rfl rfl,
   fun _ _ _ _ _ _ _ _ _ _ _ _ _ => mq_il (i := 6) rfl rfl,
   fun _ _ _ _ _ _ _ _ _ _ _ _ _ => mq_il (i := 11) rfl rfl,
   fun _ _ _ _ => mq_bi rfl,
   fun _ _ _ _ _ _ _ _ _ _ _ _ _ => mq_il (i := 10) rfl rfl,
   fun _ _ => mq_push rfl,
   fun _ _ _ _ => mq_ic_ne rfl,
   fun _ _ _ _ _ _ _ _ _ _ _ _ _ => mq_il (i := 8) rfl rfl,
   fun _ _ => mq_go rfl,
   fun _ _ _ _ _ _ _ _ _ _ _ _ _ => mq_il (i := 7) rfl rfl,
   fun _ _ _ _ _ _ _ _ _ _ _ _ _ => mq_il (i := 8) rfl rfl,
   fun _ _ _ _ => mq_bi rfl,
   fun _ _ _ _ _ _ _ _ _ _ h0 => mq_cVr (na := 7) rfl rfl (Nat.le_of_ble_eq_true rfl) (Nat.le_of_ble_eq_true rfl) h0,
   fun _ _ _ _ => mq_bi rfl,
   fun _ _ _ _ _ _ _ _ _ _ _ _ _ _ => mq_is (i := 9) rfl rfl rfl,
   fun _ _ _ _ _ _ _ _ _ _ _ _ _ => mq_al (i := 0) rfl rfl,
   fun _ _ _ _ _ _ _ _ _ _ _ _ _ => mq_il (i := 1) rfl rfl,
   fun _ _ _ h0 => mq_cVv (na := 1) rfl rfl (Nat.le_of_ble_eq_true rfl) (Nat.le_of_ble_eq_true rfl) h0,
   fun _ _ _ _ _ _ _ _ _ _ _ _ _ => mq_iinc (i := 10) rfl rfl rfl rfl,
   fun _ _ => mq_go rfl,
   fun _ _ _ _ _ _ _ _ _ _ _ _ _ => mq_il (i := 9) rfl rfl,
   fun _ _ => mq_ri rfl⟩
theorem hX12_oddsFrom_43 (d n : Nat) (I L : mm_I) (P : mm_P) : ∀ (st : List mm_V) z (l0 : mm_V) (l1 : mm_V) (l2 : mm_V) (l3 : mm_V) (l4 : mm_V) (l5 : mm_V) (l6 : mm_V) (l7 : mm_V) (l8 : mm_V) (l9 : mm_V) (l11 : mm_V), mm_E d 251 43 [l0, l1, l2, l3, l4, l5, l6, l7, l8, l9, (.inl z), l11] [] st n I L P = mm_E d 251 45 [l0, l1, l2, l3, l4, l5, l6, l7, l8, l9, (.inl z), l11] [] ((.inl z) :: st) n I L P := fun _ _ _ _ _ _ _ _ _ _ _ _ _ => mq_il (i := 10) rfl rfl
theorem eX12_oddsFrom (d n : Nat) (I L : mm_I) (P : mm_P) (x0 : Option Nat) (x1 : Int) (x2 : Int) (x3 : Int) (x4 : Int) (x5 : Int) (x6 : Int) (x7 : Int) : mm_rn (d + 1) 251 [.inr (.inr x0), .inl x1, .inl x2, .inl x3, .inl x4, .inl x5, .inl x6, .inl x7] n I L P = mm_E d 251 0 [.inr (.inr x0), .inl x1, .inl x2, .inl x3, .inl x4, .inl x5, .inl x6, .inl x7, mm_junk, mm_junk, mm_junk, mm_junk] [] [] n I L P := rfl

set_option maxRecDepth 20000 in
set_option maxHeartbeats 8000000 in
theorem kX12_odds (d n : Nat) (I L : mm_I) (P : mm_P) :
  (∀ (st : List mm_V) z (l1 : mm_V) (l2 : mm_V) (l3 : mm_V) (l4 : mm_V), mm_E d 252 0 [(.inr (.inr z)), l1, l2, l3, l4] [] st n I L P = mm_E d 252 1 [(.inr (.inr z)), l1, l2, l3, l4] [] ((.inr (.inr z)) :: st) n I L P) ∧
  (∀ (st : List mm_V) z (l0 : mm_V) (l2 : mm_V) (l3 : mm_V) (l4 : mm_V), mm_E d 252 1 [l0, (.inl z), l2, l3, l4] [] st n I L P = mm_E d 252 2 [l0, (.inl z), l2, l3, l4] [] ((.inl z) :: st) n I L P) ∧
  (∀ (lv : List mm_V) a x0, (mm_ok n a 12) → mm_E d 252 2 lv [] (.inl x0 :: .inr (.inr (some a)) :: []) n I L P = mm_kr d 252 5 lv [] [] n (mm_rn d 191 [.inr (.inr (some a)), .inl x0] n I L P)) ∧
  (∀ (lv : List mm_V) (st : List mm_V) a, mm_E d 252 5 lv [] (.inl a :: st) n I L P = if a = 0 then mm_E d 252 40 lv [] st n I L P else mm_E d 252 8 lv [] st n I L P) ∧
  (∀ (st : List mm_V) z (l0 : mm_V) (l1 : mm_V) (l3 : mm_V) (l4 : mm_V), mm_E d 252 8 [l0, l1, (.inl z), l3, l4] [] st n I L P = mm_E d 252 9 [l0, l1, (.inl z), l3, l4] [] ((.inl z) :: st) n I L P) ∧
  (∀ (lv : List mm_V) (st : List mm_V), mm_E d 252 9 lv [] st n I L P = mm_E d 252 10 lv [] (.inl 0 :: st) n I L P) ∧
  (∀ (lv : List mm_V) (st : List mm_V), mm_E d 252 10 lv [] st n I L P = mm_E d 252 12 lv [] (.inl 6 :: st) n I L P) ∧
  (∀ (lv : List mm_V) x0 x1 x2, mm_E d 252 12 lv [] (.inl x2 :: .inl x1 :: .inl x0 :: []) n I L P = mm_kr d 252 15 lv [] [] n (mm_rn d 145 [.inl x0, .inl x1, .inl x2] n I L P)) ∧
  (∀ (lv : List mm_V) (st : List mm_V) a, mm_E d 252 15 lv [] (.inl a :: st) n I L P = if a = 0 then mm_E d 252 40 lv [] st n I L P else mm_E d 252 18 lv [] st n I L P) ∧
  (∀ (st : List mm_V) z (l0 : mm_V) (l1 : mm_V) (l2 : mm_V) (l4 : mm_V), mm_E d 252 18 [l0, l1, l2, (.inl z), l4] [] st n I L P = mm_E d 252 19 [l0, l1, l2, (.inl z), l4] [] ((.inl z) :: st) n I L P) ∧
  (∀ (lv : List mm_V) (st : List mm_V), mm_E d 252 19 lv [] st n I L P = mm_E d 252 20 lv [] (.inl 0 :: st) n I L P) ∧
  (∀ (lv : List mm_V) (st : List mm_V), mm_E d 252 20 lv [] st n I L P = mm_E d 252 23 lv [] (.inl 999 :: st) n I L P) ∧
  (∀ (lv : List mm_V) x0 x1 x2, mm_E d 252 23 lv [] (.inl x2 :: .inl x1 :: .inl x0 :: []) n I L P = mm_kr d 252 26 lv [] [] n (mm_rn d 145 [.inl x0, .inl x1, .inl x2] n I L P)) ∧
  (∀ (lv : List mm_V) (st : List mm_V) a, mm_E d 252 26 lv [] (.inl a :: st) n I L P = if a = 0 then mm_E d 252 40 lv [] st n I L P else mm_E d 252 29 lv [] st n I L P) ∧
  (∀ (st : List mm_V) z (l0 : mm_V) (l1 : mm_V) (l2 : mm_V) (l3 : mm_V), mm_E d 252 29 [l0, l1, l2, l3, (.inl z)] [] st n I L P = mm_E d 252 31 [l0, l1, l2, l3, (.inl z)] [] ((.inl z) :: st) n I L P) ∧
  (∀ (lv : List mm_V) (st : List mm_V), mm_E d 252 31 lv [] st n I L P = mm_E d 252 32 lv [] (.inl 0 :: st) n I L P) ∧
  (∀ (lv : List mm_V) (st : List mm_V), mm_E d 252 32 lv [] st n I L P = mm_E d 252 34 lv [] (.inl 100 :: st) n I L P) ∧
  (∀ (lv : List mm_V) x0 x1 x2, mm_E d 252 34 lv [] (.inl x2 :: .inl x1 :: .inl x0 :: []) n I L P = mm_kr d 252 37 lv [] [] n (mm_rn d 145 [.inl x0, .inl x1, .inl x2] n I L P)) ∧
  (∀ (lv : List mm_V) (st : List mm_V) a, mm_E d 252 37 lv [] (.inl a :: st) n I L P = if a = 0 then mm_E d 252 40 lv [] st n I L P else mm_E d 252 42 lv [] st n I L P) ∧
  (∀ (lv : List mm_V) (st : List mm_V), mm_E d 252 40 lv [] st n I L P = mm_E d 252 41 lv [] (.inl (-1) :: st) n I L P) ∧
  (∀ (lv : List mm_V) z, mm_E d 252 41 lv [] [.inl z] n I L P = some (some (.inl z), n, I, L, P)) ∧
  (∀ (st : List mm_V) z (l1 : mm_V) (l2 : mm_V) (l3 : mm_V) (l4 : mm_V), mm_E d 252 42 [(.inr (.inr z)), l1, l2, l3, l4] [] st n I L P = mm_E d 252 43 [(.inr (.inr z)), l1, l2, l3, l4] [] ((.inr (.inr z)) :: st) n I L P) ∧
  (∀ (lv : List mm_V) (st : List mm_V), mm_E d 252 43 lv [] st n I L P = mm_E d 252 44 lv [] (.inl 0 :: st) n I L P) ∧
  (∀ (st : List mm_V) z (l0 : mm_V) (l2 : mm_V) (l3 : mm_V) (l4 : mm_V), mm_E d 252 44 [l0, (.inl z), l2, l3, l4] [] st n I L P = mm_E d 252 45 [l0, (.inl z), l2, l3, l4] [] ((.inl z) :: st) n I L P) ∧
  (∀ (st : List mm_V) z (l0 : mm_V) (l1 : mm_V) (l2 : mm_V) (l4 : mm_V), mm_E d 252 45 [l0, l1, l2, (.inl z), l4] [] st n I L P = mm_E d 252 46 [l0, l1, l2, (.inl z), l4] [] ((.inl z) :: st) n I L P) ∧
  (∀ (st : List mm_V) z (l0 : mm_V) (l1 : mm_V) (l3 : mm_V) (l4 : mm_V), mm_E d 252 46 [l0, l1, (.inl z), l3, l4] [] st n I L P = mm_E d 252 47 [l0, l1, (.inl z), l3, l4] [] ((.inl z) :: st) n I L P) ∧
  (∀ (st : List mm_V) z (l0 : mm_V) (l1 : mm_V) (l2 : mm_V) (l3 : mm_V), mm_E d 252 47 [l0, l1, l2, l3, (.inl z)] [] st n I L P = mm_E d 252 49 [l0, l1, l2, l3, (.inl z)] [] ((.inl z) :: st) n I L P) ∧
  (∀ (lv : List mm_V) (st : List mm_V), mm_E d 252 49 lv [] st n I L P = mm_E d 252 50 lv [] (.inl 0 :: st) n I L P) ∧
  (∀ (lv : List mm_V) (st : List mm_V), mm_E d 252 50 lv [] st n I L P = mm_E d 252 53 lv [] (.inl 1000000000 :: st) n I L P) ∧
  (∀ (lv : List mm_V) a x0 x1 x2 x3 x4 x5 x6, (mm_ok n a 12) → mm_E d 252 53 lv [] (.inl x6 :: .inl x5 :: .inl x4 :: .inl x3 :: .inl x2 :: .inl x1 :: .inl x0 :: .inr (.inr (some a)) :: []) n I L P = mm_kr d 252 56 lv [] [] n (mm_rn d 251 [.inr (.inr (some a)), .inl x0, .inl x1, .inl x2, .inl x3, .inl x4, .inl x5, .inl x6] n I L P)) ∧
  (∀ (lv : List mm_V) z, mm_E d 252 56 lv [] [.inl z] n I L P = some (some (.inl z), n, I, L, P)) :=
  ⟨fun _ _ _ _ _ _ => mq_al (i := 0) rfl rfl,
   fun _ _ _ _ _ _ => mq_il (i := 1) rfl rfl,
   fun _ _ _ h0 => mq_cVr (na := 1) rfl rfl (Nat.le_of_ble_eq_true rfl) (Nat.le_of_ble_eq_true rfl) h0,
   fun _ _ _ => mq_if_eq rfl,
   fun _ _ _ _ _ _ => mq_il (i := 2) rfl rfl,
   fun _ _ => mq_push rfl,
   fun _ _ => mq_push rfl,
   fun _ _ _ _ => mq_cSr (na := 3) rfl (Nat.le_of_ble_eq_true rfl) (Nat.le_of_ble_eq_true rfl),
   fun _ _ _ => mq_if_eq rfl,
   fun _ _ _ _ _ _ => mq_il (i := 3) rfl rfl,
   fun _ _ => mq_push rfl,
   fun _ _ => mq_push rfl,
   fun _ _ _ _ => mq_cSr (na := 3) rfl (Nat.le_of_ble_eq_true rfl) (Nat.le_of_ble_eq_true rfl),
   fun _ _ _ => mq_if_eq rfl,
   fun _ _ _ _ _ _ => mq_il (i := 4) rfl rfl,
   fun _ _ => mq_push rfl,
   fun _ _ => mq_push rfl,
   fun _ _ _ _ => mq_cSr (na := 3) rfl (Nat.le_of_ble_eq_true rfl) (Nat.le_of_ble_eq_true rfl),
   fun _ _ _ => mq_if_ne rfl,
   fun _ _ => mq_push rfl,
   fun _ _ => mq_ri rfl,
   fun _ _ _ _ _ _ => mq_al (i := 0) rfl rfl,
   fun _ _ => mq_push rfl,
   fun _ _ _ _ _ _ => mq_il (i := 1) rfl rfl,
   fun _ _ _ _ _ _ => mq_il (i := 3) rfl rfl,
   fun _ _ _ _ _ _ => mq_il (i := 2) rfl rfl,
   fun _ _ _ _ _ _ => mq_il (i := 4) rfl rfl,
   fun _ _ => mq_push rfl,
   fun _ _ => mq_push rfl,
   fun _ _ _ _ _ _ _ _ _ h0 => mq_cVr (na := 7) rfl rfl (Nat.le_of_ble_eq_true rfl) (Nat.le_of_ble_eq_true rfl) h0,
   fun _ _ => mq_ri rfl⟩
theorem eX12_odds (d n : Nat) (I L : mm_I) (P : mm_P) (x0 : Option Nat) (x1 : Int) (x2 : Int) (x3 : Int) (x4 : Int) : mm_rn (d + 1) 252 [.inr (.inr x0), .inl x1, .inl x2, .inl x3, .inl x4] n I L P = mm_E d 252 0 [.inr (.inr x0), .inl x1, .inl x2, .inl x3, .inl x4] [] [] n I L P := rfl

set_option maxRecDepth 20000 in
set_option maxHeartbeats 8000000 in
theorem kX12_shares (d n : Nat) (I L : mm_I) (P : mm_P) :
  (∀ (st : List mm_V) z (l1 : mm_V) (l2 : mm_V) (l3 : mm_V), mm_E d 253 0 [(.inr (.inr z)), l1, l2, l3] [] st n I L P = mm_E d 253 1 [(.inr (.inr z)), l1, l2, l3] [] ((.inr (.inr z)) :: st) n I L P) ∧
  (∀ (st : List mm_V) z (l0 : mm_V) (l2 : mm_V) (l3 : mm_V), mm_E d 253 1 [l0, (.inl z), l2, l3] [] st n I L P = mm_E d 253 2 [l0, (.inl z), l2, l3] [] ((.inl z) :: st) n I L P) ∧
  (∀ (lv : List mm_V) a x0, (mm_ok n a 12) → mm_E d 253 2 lv [] (.inl x0 :: .inr (.inr (some a)) :: []) n I L P = mm_kr d 253 5 lv [] [] n (mm_rn d 191 [.inr (.inr (some a)), .inl x0] n I L P)) ∧
  (∀ (lv : List mm_V) (st : List mm_V) a, mm_E d 253 5 lv [] (.inl a :: st) n I L P = if a = 0 then mm_E d 253 19 lv [] st n I L P else mm_E d 253 8 lv [] st n I L P) ∧
  (∀ (st : List mm_V) z (l0 : mm_V) (l1 : mm_V) (l3 : mm_V), mm_E d 253 8 [l0, l1, (.inl z), l3] [] st n I L P = mm_E d 253 9 [l0, l1, (.inl z), l3] [] ((.inl z) :: st) n I L P) ∧
  (∀ (lv : List mm_V) (st : List mm_V), mm_E d 253 9 lv [] st n I L P = mm_E d 253 10 lv [] (.inl 0 :: st) n I L P) ∧
  (∀ (lv : List mm_V) (st : List mm_V), mm_E d 253 10 lv [] st n I L P = mm_E d 253 13 lv [] (.inl 999 :: st) n I L P) ∧
  (∀ (lv : List mm_V) x0 x1 x2, mm_E d 253 13 lv [] (.inl x2 :: .inl x1 :: .inl x0 :: []) n I L P = mm_kr d 253 16 lv [] [] n (mm_rn d 145 [.inl x0, .inl x1, .inl x2] n I L P)) ∧
  (∀ (lv : List mm_V) (st : List mm_V) a, mm_E d 253 16 lv [] (.inl a :: st) n I L P = if a = 0 then mm_E d 253 19 lv [] st n I L P else mm_E d 253 21 lv [] st n I L P) ∧
  (∀ (lv : List mm_V) (st : List mm_V), mm_E d 253 19 lv [] st n I L P = mm_E d 253 20 lv [] (.inl (-1) :: st) n I L P) ∧
  (∀ (lv : List mm_V) z, mm_E d 253 20 lv [] [.inl z] n I L P = some (some (.inl z), n, I, L, P)) ∧
  (∀ (st : List mm_V) z (l1 : mm_V) (l2 : mm_V) (l3 : mm_V), mm_E d 253 21 [(.inr (.inr z)), l1, l2, l3] [] st n I L P = mm_E d 253 22 [(.inr (.inr z)), l1, l2, l3] [] ((.inr (.inr z)) :: st) n I L P) ∧
  (∀ (lv : List mm_V) (st : List mm_V), mm_E d 253 22 lv [] st n I L P = mm_E d 253 23 lv [] (.inl 1 :: st) n I L P) ∧
  (∀ (st : List mm_V) z (l1 : mm_V) (l2 : mm_V) (l3 : mm_V), mm_E d 253 23 [(.inr (.inr z)), l1, l2, l3] [] st n I L P = mm_E d 253 24 [(.inr (.inr z)), l1, l2, l3] [] ((.inr (.inr z)) :: st) n I L P) ∧
  (∀ (lv : List mm_V) (st : List mm_V) a, (mm_ok n a 12) → mm_E d 253 24 lv [] (.inr (.inr (some a)) :: st) n I L P = mm_E d 253 27 lv [] (.inl (I a 26) :: st) n I L P) ∧
  (∀ (lv : List mm_V) (st : List mm_V) a b, mm_E d 253 27 lv [] (.inl b :: .inl a :: st) n I L P = mm_E d 253 28 lv [] (.inl (mm_shl a b) :: st) n I L P) ∧
  (∀ (lv : List mm_V) (st : List mm_V), mm_E d 253 28 lv [] st n I L P = mm_E d 253 29 lv [] (.inl 1 :: st) n I L P) ∧
  (∀ (lv : List mm_V) (st : List mm_V) a b, mm_E d 253 29 lv [] (.inl b :: .inl a :: st) n I L P = mm_E d 253 30 lv [] (.inl (mm_sub a b) :: st) n I L P) ∧
  (∀ (lv : List mm_V) a x0, (mm_ok n a 12) → mm_E d 253 30 lv [] (.inl x0 :: .inr (.inr (some a)) :: []) n I L P = mm_kr d 253 33 lv [] [] n (mm_rn d 235 [.inr (.inr (some a)), .inl x0] n I L P)) ∧
  (∀ (st : List mm_V) z (l0 : mm_V) (l1 : mm_V) (l2 : mm_V) (l3 : mm_V), mm_E d 253 33 [l0, l1, l2, l3] [] ((.inl z) :: st) n I L P = mm_E d 253 34 [l0, l1, l2, (.inl z)] [] st n I L P) ∧
  (∀ (st : List mm_V) z (l0 : mm_V) (l1 : mm_V) (l2 : mm_V), mm_E d 253 34 [l0, l1, l2, (.inl z)] [] st n I L P = mm_E d 253 35 [l0, l1, l2, (.inl z)] [] ((.inl z) :: st) n I L P) ∧
  (∀ (lv : List mm_V) (st : List mm_V) a, mm_E d 253 35 lv [] (.inl a :: st) n I L P = if a = 0 then mm_E d 253 38 lv [] st n I L P else mm_E d 253 42 lv [] st n I L P) ∧
  (∀ (lv : List mm_V) (st : List mm_V), mm_E d 253 38 lv [] st n I L P = mm_E d 253 39 lv [] (.inl 0 :: st) n I L P) ∧
  (∀ (lv : List mm_V) (st : List mm_V), mm_E d 253 39 lv [] st n I L P = mm_E d 253 54 lv [] st n I L P) ∧
  (∀ (st : List mm_V) z (l0 : mm_V) (l1 : mm_V) (l3 : mm_V), mm_E d 253 42 [l0, l1, (.inl z), l3] [] st n I L P = mm_E d 253 43 [l0, l1, (.inl z), l3] [] ((.inl z) :: st) n I L P) ∧
  (∀ (st : List mm_V) z (l1 : mm_V) (l2 : mm_V) (l3 : mm_V), mm_E d 253 43 [(.inr (.inr z)), l1, l2, l3] [] st n I L P = mm_E d 253 44 [(.inr (.inr z)), l1, l2, l3] [] ((.inr (.inr z)) :: st) n I L P) ∧
  (∀ (lv : List mm_V) (st : List mm_V) a, (mm_ok n a 12) → mm_E d 253 44 lv [] (.inr (.inr (some a)) :: st) n I L P = mm_E d 253 47 lv [] (.inr (.inr (P a 27)) :: st) n I L P) ∧
  (∀ (lv : List mm_V) (st : List mm_V), mm_E d 253 47 lv [] st n I L P = mm_E d 253 48 lv [] (.inl 0 :: st) n I L P) ∧
  (∀ (st : List mm_V) z (l0 : mm_V) (l2 : mm_V) (l3 : mm_V), mm_E d 253 48 [l0, (.inl z), l2, l3] [] st n I L P = mm_E d 253 49 [l0, (.inl z), l2, l3] [] ((.inl z) :: st) n I L P) ∧
  (∀ (lv : List mm_V) (st : List mm_V) a b, mm_E d 253 49 lv [] (.inl b :: .inl a :: st) n I L P = mm_E d 253 50 lv [] (.inl (mm_add a b) :: st) n I L P) ∧
  (∀ (lv : List mm_V) (st : List mm_V) a i, (mm_ix n a 20 i) → mm_E d 253 50 lv [] (.inl i :: .inr (.inr (some a)) :: st) n I L P = mm_E d 253 51 lv [] (.inl (I a i.toNat) :: st) n I L P) ∧
  (∀ (lv : List mm_V) (st : List mm_V) a b, mm_E d 253 51 lv [] (.inl b :: .inl a :: st) n I L P = mm_E d 253 52 lv [] (.inl (mm_mul a b) :: st) n I L P) ∧
  (∀ (st : List mm_V) z (l0 : mm_V) (l1 : mm_V) (l2 : mm_V), mm_E d 253 52 [l0, l1, l2, (.inl z)] [] st n I L P = mm_E d 253 53 [l0, l1, l2, (.inl z)] [] ((.inl z) :: st) n I L P) ∧
  (∀ (lv : List mm_V) (st : List mm_V) a b, (¬ b = 0) → mm_E d 253 53 lv [] (.inl b :: .inl a :: st) n I L P = mm_E d 253 54 lv [] (.inl (mm_w (Int.tdiv a b)) :: st) n I L P) ∧
  (∀ (lv : List mm_V) z, mm_E d 253 54 lv [] [.inl z] n I L P = some (some (.inl z), n, I, L, P)) :=
  ⟨fun _ _ _ _ _ => mq_al (i := 0) rfl rfl,
   fun _ _ _ _ _ => mq_il (i := 1) rfl rfl,
   fun _ _ _ h0 => mq_cVr (na := 1) rfl rfl (Nat.le_of_ble_eq_true rfl) (Nat.le_of_ble_eq_true rfl) h0,
   fun _ _ _ => mq_if_eq rfl,
   fun _ _ _ _ _ => mq_il (i := 2) rfl rfl,
   fun _ _ => mq_push rfl,
   fun _ _ => mq_push rfl,
   fun _ _ _ _ => mq_cSr (na := 3) rfl (Nat.le_of_ble_eq_true rfl) (Nat.le_of_ble_eq_true rfl),
   fun _ _ _ => mq_if_ne rfl,
   fun _ _ => mq_push rfl,
   fun _ _ => mq_ri rfl,
   fun _ _ _ _ _ => mq_al (i := 0) rfl rfl,
   fun _ _ => mq_push rfl,
   fun _ _ _ _ _ => mq_al (i := 0) rfl rfl,
   fun _ _ _ h0 => mq_getI rfl h0,
   fun _ _ _ _ => mq_bi rfl,
   fun _ _ => mq_push rfl,
   fun _ _ _ _ => mq_bi rfl,
   fun _ _ _ h0 => mq_cVr (na := 1) rfl rfl (Nat.le_of_ble_eq_true rfl) (Nat.le_of_ble_eq_true rfl) h0,
   fun _ _ _ _ _ _ => mq_is (i := 3) rfl rfl rfl,
   fun _ _ _ _ _ => mq_il (i := 3) rfl rfl,
   fun _ _ _ => mq_if_ne rfl,
   fun _ _ => mq_push rfl,
   fun _ _ => mq_go rfl,
   fun _ _ _ _ _ => mq_il (i := 2) rfl rfl,
   fun _ _ _ _ _ => mq_al (i := 0) rfl rfl,
   fun _ _ _ h0 => mq_getR rfl h0,
   fun _ _ => mq_push rfl,
   fun _ _ _ _ _ => mq_il (i := 1) rfl rfl,
   fun _ _ _ _ => mq_bi rfl,
   fun _ _ _ _ h0 => mq_iald rfl h0,
   fun _ _ _ _ => mq_bi rfl,
   fun _ _ _ _ _ => mq_il (i := 3) rfl rfl,
   fun _ _ _ _ h0 => mq_di rfl h0,
   fun _ _ => mq_ri rfl⟩
theorem eX12_shares (d n : Nat) (I L : mm_I) (P : mm_P) (x0 : Option Nat) (x1 : Int) (x2 : Int) : mm_rn (d + 1) 253 [.inr (.inr x0), .inl x1, .inl x2] n I L P = mm_E d 253 0 [.inr (.inr x0), .inl x1, .inl x2, mm_junk] [] [] n I L P := rfl

set_option maxRecDepth 20000 in
set_option maxHeartbeats 8000000 in
theorem kX12_valueOf (d n : Nat) (I L : mm_I) (P : mm_P) :
  (∀ (st : List mm_V) z (l0 : mm_V) (l1 : mm_V), mm_E d 254 0 [l0, l1, (.inl z)] [] st n I L P = mm_E d 254 1 [l0, l1, (.inl z)] [] ((.inl z) :: st) n I L P) ∧
  (∀ (lv : List mm_V) (st : List mm_V) a, mm_E d 254 1 lv [] (.inl a :: st) n I L P = if a = 0 then mm_E d 254 32 lv [] st n I L P else if a = 1 then mm_E d 254 41 lv [] st n I L P else if a = 2 then mm_E d 254 52 lv [] st n I L P else if a = 3 then mm_E d 254 62 lv [] st n I L P else mm_E d 254 75 lv [] st n I L P) ∧
  (∀ (st : List mm_V) z (l1 : mm_V) (l2 : mm_V), mm_E d 254 32 [(.inr (.inr z)), l1, l2] [] st n I L P = mm_E d 254 33 [(.inr (.inr z)), l1, l2] [] ((.inr (.inr z)) :: st) n I L P) ∧
  (∀ (lv : List mm_V) (st : List mm_V) a, (mm_ok n a 12) → mm_E d 254 33 lv [] (.inr (.inr (some a)) :: st) n I L P = mm_E d 254 36 lv [] (.inr (.inr (P a 27)) :: st) n I L P) ∧
  (∀ (lv : List mm_V) (st : List mm_V), mm_E d 254 36 lv [] st n I L P = mm_E d 254 37 lv [] (.inl 0 :: st) n I L P) ∧
  (∀ (st : List mm_V) z (l0 : mm_V) (l2 : mm_V), mm_E d 254 37 [l0, (.inl z), l2] [] st n I L P = mm_E d 254 38 [l0, (.inl z), l2] [] ((.inl z) :: st) n I L P) ∧
  (∀ (lv : List mm_V) (st : List mm_V) a b, mm_E d 254 38 lv [] (.inl b :: .inl a :: st) n I L P = mm_E d 254 39 lv [] (.inl (mm_add a b) :: st) n I L P) ∧
  (∀ (lv : List mm_V) (st : List mm_V) a i, (mm_ix n a 20 i) → mm_E d 254 39 lv [] (.inl i :: .inr (.inr (some a)) :: st) n I L P = mm_E d 254 40 lv [] (.inl (I a i.toNat) :: st) n I L P) ∧
  (∀ (lv : List mm_V) z, mm_E d 254 40 lv [] [.inl z] n I L P = some (some (.inl z), n, I, L, P)) ∧
  (∀ (st : List mm_V) z (l1 : mm_V) (l2 : mm_V), mm_E d 254 41 [(.inr (.inr z)), l1, l2] [] st n I L P = mm_E d 254 42 [(.inr (.inr z)), l1, l2] [] ((.inr (.inr z)) :: st) n I L P) ∧
  (∀ (lv : List mm_V) (st : List mm_V) a, (mm_ok n a 12) → mm_E d 254 42 lv [] (.inr (.inr (some a)) :: st) n I L P = mm_E d 254 45 lv [] (.inr (.inr (P a 23)) :: st) n I L P) ∧
  (∀ (lv : List mm_V) (st : List mm_V), mm_E d 254 45 lv [] st n I L P = mm_E d 254 46 lv [] (.inl 2 :: st) n I L P) ∧
  (∀ (st : List mm_V) z (l0 : mm_V) (l2 : mm_V), mm_E d 254 46 [l0, (.inl z), l2] [] st n I L P = mm_E d 254 47 [l0, (.inl z), l2] [] ((.inl z) :: st) n I L P) ∧
  (∀ (lv : List mm_V) (st : List mm_V) a b, mm_E d 254 47 lv [] (.inl b :: .inl a :: st) n I L P = mm_E d 254 48 lv [] (.inl (mm_mul a b) :: st) n I L P) ∧
  (∀ (lv : List mm_V) (st : List mm_V), mm_E d 254 48 lv [] st n I L P = mm_E d 254 49 lv [] (.inl 1 :: st) n I L P) ∧
  (∀ (lv : List mm_V) (st : List mm_V) a b, mm_E d 254 49 lv [] (.inl b :: .inl a :: st) n I L P = mm_E d 254 50 lv [] (.inl (mm_add a b) :: st) n I L P) ∧
  (∀ (lv : List mm_V) (st : List mm_V) a i, (mm_ix n a 20 i) → mm_E d 254 50 lv [] (.inl i :: .inr (.inr (some a)) :: st) n I L P = mm_E d 254 51 lv [] (.inl (I a i.toNat) :: st) n I L P) ∧
  (∀ (lv : List mm_V) z, mm_E d 254 51 lv [] [.inl z] n I L P = some (some (.inl z), n, I, L, P)) ∧
  (∀ (st : List mm_V) z (l1 : mm_V) (l2 : mm_V), mm_E d 254 52 [(.inr (.inr z)), l1, l2] [] st n I L P = mm_E d 254 53 [(.inr (.inr z)), l1, l2] [] ((.inr (.inr z)) :: st) n I L P) ∧
  (∀ (lv : List mm_V) (st : List mm_V) a, (mm_ok n a 12) → mm_E d 254 53 lv [] (.inr (.inr (some a)) :: st) n I L P = mm_E d 254 56 lv [] (.inr (.inr (P a 24)) :: st) n I L P) ∧
  (∀ (st : List mm_V) z (l0 : mm_V) (l2 : mm_V), mm_E d 254 56 [l0, (.inl z), l2] [] st n I L P = mm_E d 254 57 [l0, (.inl z), l2] [] ((.inl z) :: st) n I L P) ∧
  (∀ (lv : List mm_V) (st : List mm_V) a i, (mm_ix n a 20 i) → mm_E d 254 57 lv [] (.inl i :: .inr (.inr (some a)) :: st) n I L P = mm_E d 254 58 lv [] (.inl (I a i.toNat) :: st) n I L P) ∧
  (∀ (lv : List mm_V) x0, mm_E d 254 58 lv [] (.inl x0 :: []) n I L P = mm_kr d 254 61 lv [] [] n (mm_rn d 263 [.inl x0] n I L P)) ∧
  (∀ (lv : List mm_V) z, mm_E d 254 61 lv [] [.inl z] n I L P = some (some (.inl z), n, I, L, P)) ∧
  (∀ (st : List mm_V) z (l1 : mm_V) (l2 : mm_V), mm_E d 254 62 [(.inr (.inr z)), l1, l2] [] st n I L P = mm_E d 254 63 [(.inr (.inr z)), l1, l2] [] ((.inr (.inr z)) :: st) n I L P) ∧
  (∀ (st : List mm_V) z (l1 : mm_V) (l2 : mm_V), mm_E d 254 63 [(.inr (.inr z)), l1, l2] [] st n I L P = mm_E d 254 64 [(.inr (.inr z)), l1, l2] [] ((.inr (.inr z)) :: st) n I L P) ∧
  (∀ (lv : List mm_V) (st : List mm_V) a, (mm_ok n a 12) → mm_E d 254 64 lv [] (.inr (.inr (some a)) :: st) n I L P = mm_E d 254 67 lv [] (.inr (.inr (P a 27)) :: st) n I L P) ∧
  (∀ (lv : List mm_V) (st : List mm_V), mm_E d 254 67 lv [] st n I L P = mm_E d 254 69 lv [] (.inl 24 :: st) n I L P) ∧
  (∀ (lv : List mm_V) (st : List mm_V) a i, (mm_ix n a 20 i) → mm_E d 254 69 lv [] (.inl i :: .inr (.inr (some a)) :: st) n I L P = mm_E d 254 70 lv [] (.inl (I a i.toNat) :: st) n I L P) ∧
  (∀ (st : List mm_V) z (l0 : mm_V) (l2 : mm_V), mm_E d 254 70 [l0, (.inl z), l2] [] st n I L P = mm_E d 254 71 [l0, (.inl z), l2] [] ((.inl z) :: st) n I L P) ∧
  (∀ (lv : List mm_V) a x0 x1, (mm_ok n a 12) → mm_E d 254 71 lv [] (.inl x1 :: .inl x0 :: .inr (.inr (some a)) :: []) n I L P = mm_kr d 254 74 lv [] [] n (mm_rn d 192 [.inr (.inr (some a)), .inl x0, .inl x1] n I L P)) ∧
  (∀ (lv : List mm_V) z, mm_E d 254 74 lv [] [.inl z] n I L P = some (some (.inl z), n, I, L, P)) ∧
  (∀ (st : List mm_V) z (l1 : mm_V) (l2 : mm_V), mm_E d 254 75 [(.inr (.inr z)), l1, l2] [] st n I L P = mm_E d 254 76 [(.inr (.inr z)), l1, l2] [] ((.inr (.inr z)) :: st) n I L P) ∧
  (∀ (lv : List mm_V) (st : List mm_V) a, (mm_ok n a 12) → mm_E d 254 76 lv [] (.inr (.inr (some a)) :: st) n I L P = mm_E d 254 79 lv [] (.inr (.inr (P a 27)) :: st) n I L P) ∧
  (∀ (lv : List mm_V) (st : List mm_V), mm_E d 254 79 lv [] st n I L P = mm_E d 254 81 lv [] (.inl 16 :: st) n I L P) ∧
  (∀ (st : List mm_V) z (l0 : mm_V) (l2 : mm_V), mm_E d 254 81 [l0, (.inl z), l2] [] st n I L P = mm_E d 254 82 [l0, (.inl z), l2] [] ((.inl z) :: st) n I L P) ∧
  (∀ (lv : List mm_V) (st : List mm_V) a b, mm_E d 254 82 lv [] (.inl b :: .inl a :: st) n I L P = mm_E d 254 83 lv [] (.inl (mm_add a b) :: st) n I L P) ∧
  (∀ (lv : List mm_V) (st : List mm_V) a i, (mm_ix n a 20 i) → mm_E d 254 83 lv [] (.inl i :: .inr (.inr (some a)) :: st) n I L P = mm_E d 254 84 lv [] (.inl (I a i.toNat) :: st) n I L P) ∧
  (∀ (lv : List mm_V) z, mm_E d 254 84 lv [] [.inl z] n I L P = some (some (.inl z), n, I, L, P)) :=
  ⟨fun _ _ _ _ => mq_il (i := 2) rfl rfl,
   fun _ _ _ => mq_sw (l := [(0, 32), (1, 41), (2, 52), (3, 62)]) (df := 75) rfl,
   fun _ _ _ _ => mq_al (i := 0) rfl rfl,
   fun _ _ _ h0 => mq_getR rfl h0,
   fun _ _ => mq_push rfl,
   fun _ _ _ _ => mq_il (i := 1) rfl rfl,
   fun _ _ _ _ => mq_bi rfl,
   fun _ _ _ _ h0 => mq_iald rfl h0,
   fun _ _ => mq_ri rfl,
   fun _ _ _ _ => mq_al (i := 0) rfl rfl,
   fun _ _ _ h0 => mq_getR rfl h0,
   fun _ _ => mq_push rfl,
   fun _ _ _ _ => mq_il (i := 1) rfl rfl,
   fun _ _ _ _ => mq_bi rfl,
   fun _ _ => mq_push rfl,
   fun _ _ _ _ => mq_bi rfl,
   fun _ _ _ _ h0 => mq_iald rfl h0,
   fun _ _ => mq_ri rfl,
   fun _ _ _ _ => mq_al (i := 0) rfl rfl,
   fun _ _ _ h0 => mq_getR rfl h0,
   fun _ _ _ _ => mq_il (i := 1) rfl rfl,
   fun _ _ _ _ h0 => mq_iald rfl h0,
   fun _ _ => mq_cSr (na := 1) rfl (Nat.le_of_ble_eq_true rfl) (Nat.le_of_ble_eq_true rfl),
   fun _ _ => mq_ri rfl,
   fun _ _ _ _ => mq_al (i := 0) rfl rfl,
   fun _ _ _ _ => mq_al (i := 0) rfl rfl,
   fun _ _ _ h0 => mq_getR rfl h0,
   fun _ _ => mq_push rfl,
   fun _ _ _ _ h0 => mq_iald rfl h0,
   fun _ _ _ _ => mq_il (i := 1) rfl rfl,
   fun _ _ _ _ h0 => mq_cVr (na := 2) rfl rfl (Nat.le_of_ble_eq_true rfl) (Nat.le_of_ble_eq_true rfl) h0,
   fun _ _ => mq_ri rfl,
   fun _ _ _ _ => mq_al (i := 0) rfl rfl,
   fun _ _ _ h0 => mq_getR rfl h0,
   fun _ _ => mq_push rfl,
   fun _ _ _ _ => mq_il (i := 1) rfl rfl,
   fun _ _ _ _ => mq_bi rfl,
   fun _ _ _ _ h0 => mq_iald rfl h0,
   fun _ _ => mq_ri rfl⟩
theorem eX12_valueOf (d n : Nat) (I L : mm_I) (P : mm_P) (x0 : Option Nat) (x1 : Int) (x2 : Int) : mm_rn (d + 1) 254 [.inr (.inr x0), .inl x1, .inl x2] n I L P = mm_E d 254 0 [.inr (.inr x0), .inl x1, .inl x2] [] [] n I L P := rfl

set_option maxRecDepth 20000 in
set_option maxHeartbeats 8000000 in
theorem kX12_topBy (d n : Nat) (I L : mm_I) (P : mm_P) :
  (∀ (lv : List mm_V) (st : List mm_V), mm_E d 255 0 lv [] st n I L P = mm_E d 255 1 lv [] (.inl 0 :: st) n I L P) ∧
  (∀ (st : List mm_V) z (l0 : mm_V) (l1 : mm_V) (l2 : mm_V) (l3 : mm_V), mm_E d 255 1 [l0, l1, l2, l3] [] ((.inl z) :: st) n I L P = mm_E d 255 2 [l0, l1, (.inl z), l3] [] st n I L P) ∧
  (∀ (lv : List mm_V) (st : List mm_V), mm_E d 255 2 lv [] st n I L P = mm_E d 255 3 lv [] (.inl 1 :: st) n I L P) ∧
  (∀ (st : List mm_V) z (l0 : mm_V) (l1 : mm_V) (l2 : mm_V) (l3 : mm_V), mm_E d 255 3 [l0, l1, l2, l3] [] ((.inl z) :: st) n I L P = mm_E d 255 4 [l0, l1, l2, (.inl z)] [] st n I L P) ∧
  (∀ (st : List mm_V) z (l1 : mm_V) (l2 : mm_V) (l3 : mm_V), mm_E d 255 5 [(.inr (.inr z)), l1, l2, l3] [] st n I L P = mm_E d 255 6 [(.inr (.inr z)), l1, l2, l3] [] ((.inr (.inr z)) :: st) n I L P) ∧
  (∀ (lv : List mm_V) (st : List mm_V) a, (mm_ok n a 12) → mm_E d 255 6 lv [] (.inr (.inr (some a)) :: st) n I L P = mm_E d 255 9 lv [] (.inl (I a 26) :: st) n I L P) ∧
  (∀ (lv : List mm_V) (st : List mm_V) a b, mm_E d 255 9 lv [] (.inl b :: .inl a :: st) n I L P = if b ≤ a then mm_E d 255 39 lv [] st n I L P else mm_E d 255 12 lv [] st n I L P) ∧
  (∀ (st : List mm_V) z (l1 : mm_V) (l2 : mm_V) (l3 : mm_V), mm_E d 255 12 [(.inr (.inr z)), l1, l2, l3] [] st n I L P = mm_E d 255 13 [(.inr (.inr z)), l1, l2, l3] [] ((.inr (.inr z)) :: st) n I L P) ∧
  (∀ (st : List mm_V) z (l0 : mm_V) (l1 : mm_V) (l2 : mm_V), mm_E d 255 13 [l0, l1, l2, (.inl z)] [] st n I L P = mm_E d 255 14 [l0, l1, l2, (.inl z)] [] ((.inl z) :: st) n I L P) ∧
  (∀ (st : List mm_V) z (l0 : mm_V) (l2 : mm_V) (l3 : mm_V), mm_E d 255 14 [l0, (.inl z), l2, l3] [] st n I L P = mm_E d 255 15 [l0, (.inl z), l2, l3] [] ((.inl z) :: st) n I L P) ∧
  (∀ (lv : List mm_V) a x0 x1, (mm_ok n a 12) → mm_E d 255 15 lv [] (.inl x1 :: .inl x0 :: .inr (.inr (some a)) :: []) n I L P = mm_kr d 255 18 lv [] [] n (mm_rn d 254 [.inr (.inr (some a)), .inl x0, .inl x1] n I L P)) ∧
  (∀ (st : List mm_V) z (l1 : mm_V) (l2 : mm_V) (l3 : mm_V), mm_E d 255 18 [(.inr (.inr z)), l1, l2, l3] [] st n I L P = mm_E d 255 19 [(.inr (.inr z)), l1, l2, l3] [] ((.inr (.inr z)) :: st) n I L P) ∧
  (∀ (st : List mm_V) z (l0 : mm_V) (l1 : mm_V) (l3 : mm_V), mm_E d 255 19 [l0, l1, (.inl z), l3] [] st n I L P = mm_E d 255 20 [l0, l1, (.inl z), l3] [] ((.inl z) :: st) n I L P) ∧
  (∀ (st : List mm_V) z (l0 : mm_V) (l2 : mm_V) (l3 : mm_V), mm_E d 255 20 [l0, (.inl z), l2, l3] [] st n I L P = mm_E d 255 21 [l0, (.inl z), l2, l3] [] ((.inl z) :: st) n I L P) ∧
  (∀ (lv : List mm_V) a x0 x1 w0, (mm_ok n a 12) → mm_E d 255 21 lv [] (.inl x1 :: .inl x0 :: .inr (.inr (some a)) :: [.inl w0]) n I L P = mm_kr d 255 24 lv [] [.inl w0] n (mm_rn d 254 [.inr (.inr (some a)), .inl x0, .inl x1] n I L P)) ∧
  (∀ (lv : List mm_V) (st : List mm_V) a b, mm_E d 255 24 lv [] (.inl b :: .inl a :: st) n I L P = if a ≤ b then mm_E d 255 31 lv [] st n I L P else mm_E d 255 27 lv [] st n I L P) ∧
  (∀ (st : List mm_V) z (l0 : mm_V) (l1 : mm_V) (l2 : mm_V), mm_E d 255 27 [l0, l1, l2, (.inl z)] [] st n I L P = mm_E d 255 28 [l0, l1, l2, (.inl z)] [] ((.inl z) :: st) n I L P) ∧
  (∀ (lv : List mm_V) (st : List mm_V), mm_E d 255 28 lv [] st n I L P = mm_E d 255 32 lv [] st n I L P) ∧
  (∀ (st : List mm_V) z (l0 : mm_V) (l1 : mm_V) (l3 : mm_V), mm_E d 255 31 [l0, l1, (.inl z), l3] [] st n I L P = mm_E d 255 32 [l0, l1, (.inl z), l3] [] ((.inl z) :: st) n I L P) ∧
  (∀ (st : List mm_V) z (l0 : mm_V) (l1 : mm_V) (l2 : mm_V) (l3 : mm_V), mm_E d 255 32 [l0, l1, l2, l3] [] ((.inl z) :: st) n I L P = mm_E d 255 33 [l0, l1, (.inl z), l3] [] st n I L P) ∧
  (∀ (st : List mm_V) z (l0 : mm_V) (l1 : mm_V) (l2 : mm_V), mm_E d 255 33 [l0, l1, l2, (.inl z)] [] st n I L P = mm_E d 255 36 [l0, l1, l2, (.inl (mm_add z 1))] [] st n I L P) ∧
  (∀ (lv : List mm_V) (st : List mm_V), mm_E d 255 36 lv [] st n I L P = mm_E d 255 4 lv [] st n I L P) ∧
  (∀ (st : List mm_V) z (l0 : mm_V) (l1 : mm_V) (l3 : mm_V), mm_E d 255 39 [l0, l1, (.inl z), l3] [] st n I L P = mm_E d 255 40 [l0, l1, (.inl z), l3] [] ((.inl z) :: st) n I L P) ∧
  (∀ (lv : List mm_V) z, mm_E d 255 40 lv [] [.inl z] n I L P = some (some (.inl z), n, I, L, P)) :=
  ⟨fun _ _ => mq_push rfl,
   fun _ _ _ _ _ _ => mq_is (i := 2) rfl rfl rfl,
   fun _ _ => mq_push rfl,
   fun _ _ _ _ _ _ => mq_is (i := 3) rfl rfl rfl,
   fun _ _ _ _ _ => mq_al (i := 0) rfl rfl,
   fun _ _ _ h0 => mq_getI rfl h0,
   fun _ _ _ _ => mq_ic_ge rfl,
   fun _ _ _ _ _ => mq_al (i := 0) rfl rfl,
   fun _ _ _ _ _ => mq_il (i := 3) rfl rfl,
   fun _ _ _ _ _ => mq_il (i := 1) rfl rfl,
   fun _ _ _ _ h0 => mq_cVr (na := 2) rfl rfl (Nat.le_of_ble_eq_true rfl) (Nat.le_of_ble_eq_true rfl) h0,
   fun _ _ _ _ _ => mq_al (i := 0) rfl rfl,
   fun _ _ _ _ _ => mq_il (i := 2) rfl rfl,
   fun _ _ _ _ _ => mq_il (i := 1) rfl rfl,
   fun _ _ _ _ _ h0 => mq_cVr (na := 2) rfl rfl (Nat.le_of_ble_eq_true rfl) (Nat.le_of_ble_eq_true rfl) h0,
   fun _ _ _ _ => mq_ic_le rfl,
   fun _ _ _ _ _ => mq_il (i := 3) rfl rfl,
   fun _ _ => mq_go rfl,
   fun _ _ _ _ _ => mq_il (i := 2) rfl rfl,
   fun _ _ _ _ _ _ => mq_is (i := 2) rfl rfl rfl,
   fun _ _ _ _ _ => mq_iinc (i := 3) rfl rfl rfl rfl,
   fun _ _ => mq_go rfl,
   fun _ _ _ _ _ => mq_il (i := 2) rfl rfl,
   fun _ _ => mq_ri rfl⟩
theorem hX12_topBy_4 (d n : Nat) (I L : mm_I) (P : mm_P) : ∀ (st : List mm_V) z (l0 : mm_V) (l1 : mm_V) (l2 : mm_V), mm_E d 255 4 [l0, l1, l2, (.inl z)] [] st n I L P = mm_E d 255 5 [l0, l1, l2, (.inl z)] [] ((.inl z) :: st) n I L P := fun _ _ _ _ _ => mq_il (i := 3) rfl rfl
theorem eX12_topBy (d n : Nat) (I L : mm_I) (P : mm_P) (x0 : Option Nat) (x1 : Int) : mm_rn (d + 1) 255 [.inr (.inr x0), .inl x1] n I L P = mm_E d 255 0 [.inr (.inr x0), .inl x1, mm_junk, mm_junk] [] [] n I L P := rfl

set_option maxRecDepth 20000 in
set_option maxHeartbeats 8000000 in
theorem kX12_onesOf (d n : Nat) (I L : mm_I) (P : mm_P) :
  (∀ (lv : List mm_V) (st : List mm_V), mm_E d 256 0 lv [] st n I L P = mm_E d 256 1 lv [] (.inl 0 :: st) n I L P) ∧
  (∀ (st : List mm_V) z (l0 : mm_V) (l1 : mm_V) (l2 : mm_V) (l3 : mm_V), mm_E d 256 1 [l0, l1, l2, l3] [] ((.inl z) :: st) n I L P = mm_E d 256 2 [l0, l1, (.inl z), l3] [] st n I L P) ∧
  (∀ (lv : List mm_V) (st : List mm_V), mm_E d 256 2 lv [] st n I L P = mm_E d 256 3 lv [] (.inl 0 :: st) n I L P) ∧
  (∀ (st : List mm_V) z (l0 : mm_V) (l1 : mm_V) (l2 : mm_V) (l3 : mm_V), mm_E d 256 3 [l0, l1, l2, l3] [] ((.inl z) :: st) n I L P = mm_E d 256 4 [l0, l1, l2, (.inl z)] [] st n I L P) ∧
  (∀ (st : List mm_V) z (l1 : mm_V) (l2 : mm_V) (l3 : mm_V), mm_E d 256 5 [(.inr (.inr z)), l1, l2, l3] [] st n I L P = mm_E d 256 6 [(.inr (.inr z)), l1, l2, l3] [] ((.inr (.inr z)) :: st) n I L P) ∧
  (∀ (lv : List mm_V) (st : List mm_V) a, (mm_ok n a 12) → mm_E d 256 6 lv [] (.inr (.inr (some a)) :: st) n I L P = mm_E d 256 9 lv [] (.inl (I a 26) :: st) n I L P) ∧
  (∀ (lv : List mm_V) (st : List mm_V) a b, mm_E d 256 9 lv [] (.inl b :: .inl a :: st) n I L P = if b ≤ a then mm_E d 256 49 lv [] st n I L P else mm_E d 256 12 lv [] st n I L P) ∧
  (∀ (st : List mm_V) z (l0 : mm_V) (l1 : mm_V) (l3 : mm_V), mm_E d 256 12 [l0, l1, (.inl z), l3] [] st n I L P = mm_E d 256 13 [l0, l1, (.inl z), l3] [] ((.inl z) :: st) n I L P) ∧
  (∀ (st : List mm_V) z (l1 : mm_V) (l2 : mm_V) (l3 : mm_V), mm_E d 256 13 [(.inr (.inr z)), l1, l2, l3] [] st n I L P = mm_E d 256 14 [(.inr (.inr z)), l1, l2, l3] [] ((.inr (.inr z)) :: st) n I L P) ∧
  (∀ (st : List mm_V) z (l0 : mm_V) (l1 : mm_V) (l2 : mm_V), mm_E d 256 14 [l0, l1, l2, (.inl z)] [] st n I L P = mm_E d 256 15 [l0, l1, l2, (.inl z)] [] ((.inl z) :: st) n I L P) ∧
  (∀ (lv : List mm_V) a x0 w0, (mm_ok n a 12) → mm_E d 256 15 lv [] (.inl x0 :: .inr (.inr (some a)) :: [.inl w0]) n I L P = mm_kr d 256 18 lv [] [.inl w0] n (mm_rn d 193 [.inr (.inr (some a)), .inl x0] n I L P)) ∧
  (∀ (lv : List mm_V) (st : List mm_V) a, mm_E d 256 18 lv [] (.inl a :: st) n I L P = if a = 0 then mm_E d 256 40 lv [] st n I L P else mm_E d 256 21 lv [] st n I L P) ∧
  (∀ (st : List mm_V) z (l1 : mm_V) (l2 : mm_V) (l3 : mm_V), mm_E d 256 21 [(.inr (.inr z)), l1, l2, l3] [] st n I L P = mm_E d 256 22 [(.inr (.inr z)), l1, l2, l3] [] ((.inr (.inr z)) :: st) n I L P) ∧
  (∀ (lv : List mm_V) (st : List mm_V) a, (mm_ok n a 12) → mm_E d 256 22 lv [] (.inr (.inr (some a)) :: st) n I L P = mm_E d 256 25 lv [] (.inr (.inr (P a 27)) :: st) n I L P) ∧
  (∀ (lv : List mm_V) (st : List mm_V), mm_E d 256 25 lv [] st n I L P = mm_E d 256 27 lv [] (.inl 8 :: st) n I L P) ∧
  (∀ (st : List mm_V) z (l0 : mm_V) (l1 : mm_V) (l2 : mm_V), mm_E d 256 27 [l0, l1, l2, (.inl z)] [] st n I L P = mm_E d 256 28 [l0, l1, l2, (.inl z)] [] ((.inl z) :: st) n I L P) ∧
  (∀ (lv : List mm_V) (st : List mm_V) a b, mm_E d 256 28 lv [] (.inl b :: .inl a :: st) n I L P = mm_E d 256 29 lv [] (.inl (mm_add a b) :: st) n I L P) ∧
  (∀ (lv : List mm_V) (st : List mm_V) a i, (mm_ix n a 20 i) → mm_E d 256 29 lv [] (.inl i :: .inr (.inr (some a)) :: st) n I L P = mm_E d 256 30 lv [] (.inl (I a i.toNat) :: st) n I L P) ∧
  (∀ (st : List mm_V) z (l0 : mm_V) (l2 : mm_V) (l3 : mm_V), mm_E d 256 30 [l0, (.inl z), l2, l3] [] st n I L P = mm_E d 256 31 [l0, (.inl z), l2, l3] [] ((.inl z) :: st) n I L P) ∧
  (∀ (lv : List mm_V) (st : List mm_V) a b, mm_E d 256 31 lv [] (.inl b :: .inl a :: st) n I L P = if a = b then mm_E d 256 34 lv [] st n I L P else mm_E d 256 40 lv [] st n I L P) ∧
  (∀ (lv : List mm_V) (st : List mm_V), mm_E d 256 34 lv [] st n I L P = mm_E d 256 35 lv [] (.inl 1 :: st) n I L P) ∧
  (∀ (st : List mm_V) z (l0 : mm_V) (l1 : mm_V) (l2 : mm_V), mm_E d 256 35 [l0, l1, l2, (.inl z)] [] st n I L P = mm_E d 256 36 [l0, l1, l2, (.inl z)] [] ((.inl z) :: st) n I L P) ∧
  (∀ (lv : List mm_V) (st : List mm_V) a b, mm_E d 256 36 lv [] (.inl b :: .inl a :: st) n I L P = mm_E d 256 37 lv [] (.inl (mm_shl a b) :: st) n I L P) ∧
  (∀ (lv : List mm_V) (st : List mm_V), mm_E d 256 37 lv [] st n I L P = mm_E d 256 41 lv [] st n I L P) ∧
  (∀ (lv : List mm_V) (st : List mm_V), mm_E d 256 40 lv [] st n I L P = mm_E d 256 41 lv [] (.inl 0 :: st) n I L P) ∧
  (∀ (lv : List mm_V) (st : List mm_V) a b, mm_E d 256 41 lv [] (.inl b :: .inl a :: st) n I L P = mm_E d 256 42 lv [] (.inl (mm_or a b) :: st) n I L P) ∧
  (∀ (st : List mm_V) z (l0 : mm_V) (l1 : mm_V) (l2 : mm_V) (l3 : mm_V), mm_E d 256 42 [l0, l1, l2, l3] [] ((.inl z) :: st) n I L P = mm_E d 256 43 [l0, l1, (.inl z), l3] [] st n I L P) ∧
  (∀ (st : List mm_V) z (l0 : mm_V) (l1 : mm_V) (l2 : mm_V), mm_E d 256 43 [l0, l1, l2, (.inl z)] [] st n I L P = mm_E d 256 46 [l0, l1, l2, (.inl (mm_add z 1))] [] st n I L P) ∧
  (∀ (lv : List mm_V) (st : List mm_V), mm_E d 256 46 lv [] st n I L P = mm_E d 256 4 lv [] st n I L P) ∧
  (∀ (st : List mm_V) z (l0 : mm_V) (l1 : mm_V) (l3 : mm_V), mm_E d 256 49 [l0, l1, (.inl z), l3] [] st n I L P = mm_E d 256 50 [l0, l1, (.inl z), l3] [] ((.inl z) :: st) n I L P) ∧
  (∀ (lv : List mm_V) z, mm_E d 256 50 lv [] [.inl z] n I L P = some (some (.inl z), n, I, L, P)) :=
  ⟨fun _ _ => mq_push rfl,
   fun _ _ _ _ _ _ => mq_is (i := 2) rfl rfl rfl,
   fun _ _ => mq_push rfl,
   fun _ _ _ _ _ _ => mq_is (i := 3) rfl rfl rfl,
   fun _ _ _ _ _ => mq_al (i := 0) rfl rfl,
   fun _ _ _ h0 => mq_getI rfl h0,
   fun _ _ _ _ => mq_ic_ge rfl,
   fun _ _ _ _ _ => mq_il (i := 2) rfl rfl,
   fun _ _ _ _ _ => mq_al (i := 0) rfl rfl,
   fun _ _ _ _ _ => mq_il (i := 3) rfl rfl,
   fun _ _ _ _ h0 => mq_cVr (na := 1) rfl rfl (Nat.le_of_ble_eq_true rfl) (Nat.le_of_ble_eq_true rfl) h0,
   fun _ _ _ => mq_if_eq rfl,
   fun _ _ _ _ _ => mq_al (i := 0) rfl rfl,
   fun _ _ _ h0 => mq_getR rfl h0,
   fun _ _ => mq_push rfl,
   fun _ _ _ _ _ => mq_il (i := 3) rfl rfl,
   fun _ _ _ _ => mq_bi rfl,
   fun _ _ _ _ h0 => mq_iald rfl h0,
   fun _ _ _ _ _ => mq_il (i := 1) rfl rfl,
   fun _ _ _ _ => mq_ic_ne rfl,
   fun _ _ => mq_push rfl,
   fun _ _ _ _ _ => mq_il (i := 3) rfl rfl,
   fun _ _ _ _ => mq_bi rfl,
   fun _ _ => mq_go rfl,
   fun _ _ => mq_push rfl,
   fun _ _ _ _ => mq_bi rfl,
   fun _ _ _ _ _ _ => mq_is (i := 2) rfl rfl rfl,
   fun _ _ _ _ _ => mq_iinc (i := 3) rfl rfl rfl rfl,
   fun _ _ => mq_go rfl,
   fun _ _ _ _ _ => mq_il (i := 2) rfl rfl,
   fun _ _ => mq_ri rfl⟩
theorem hX12_onesOf_4 (d n : Nat) (I L : mm_I) (P : mm_P) : ∀ (st : List mm_V) z (l0 : mm_V) (l1 : mm_V) (l2 : mm_V), mm_E d 256 4 [l0, l1, l2, (.inl z)] [] st n I L P = mm_E d 256 5 [l0, l1, l2, (.inl z)] [] ((.inl z) :: st) n I L P := fun _ _ _ _ _ => mq_il (i := 3) rfl rfl
theorem eX12_onesOf (d n : Nat) (I L : mm_I) (P : mm_P) (x0 : Option Nat) (x1 : Int) : mm_rn (d + 1) 256 [.inr (.inr x0), .inl x1] n I L P = mm_E d 256 0 [.inr (.inr x0), .inl x1, mm_junk, mm_junk] [] [] n I L P := rfl

set_option maxRecDepth 20000 in
set_option maxHeartbeats 8000000 in
theorem kX12_ruins (d n : Nat) (I L : mm_I) (P : mm_P) :
  (∀ (lv : List mm_V) (st : List mm_V), mm_E d 257 0 lv [] st n I L P = mm_E d 257 1 lv [] (.inl 0 :: st) n I L P) ∧
  (∀ (st : List mm_V) z (l0 : mm_V) (l1 : mm_V) (l2 : mm_V), mm_E d 257 1 [l0, l1, l2] [] ((.inl z) :: st) n I L P = mm_E d 257 2 [l0, (.inl z), l2] [] st n I L P) ∧
  (∀ (lv : List mm_V) (st : List mm_V), mm_E d 257 2 lv [] st n I L P = mm_E d 257 3 lv [] (.inl 0 :: st) n I L P) ∧
  (∀ (st : List mm_V) z (l0 : mm_V) (l1 : mm_V) (l2 : mm_V), mm_E d 257 3 [l0, l1, l2] [] ((.inl z) :: st) n I L P = mm_E d 257 4 [l0, l1, (.inl z)] [] st n I L P) ∧
  (∀ (st : List mm_V) z (l1 : mm_V) (l2 : mm_V), mm_E d 257 5 [(.inr (.inr z)), l1, l2] [] st n I L P = mm_E d 257 6 [(.inr (.inr z)), l1, l2] [] ((.inr (.inr z)) :: st) n I L P) ∧
  (∀ (lv : List mm_V) (st : List mm_V) a, (mm_ok n a 12) → mm_E d 257 6 lv [] (.inr (.inr (some a)) :: st) n I L P = mm_E d 257 9 lv [] (.inl (I a 26) :: st) n I L P) ∧
  (∀ (lv : List mm_V) (st : List mm_V) a b, mm_E d 257 9 lv [] (.inl b :: .inl a :: st) n I L P = if b ≤ a then mm_E d 257 39 lv [] st n I L P else mm_E d 257 12 lv [] st n I L P) ∧
  (∀ (st : List mm_V) z (l0 : mm_V) (l2 : mm_V), mm_E d 257 12 [l0, (.inl z), l2] [] st n I L P = mm_E d 257 13 [l0, (.inl z), l2] [] ((.inl z) :: st) n I L P) ∧
  (∀ (st : List mm_V) z (l1 : mm_V) (l2 : mm_V), mm_E d 257 13 [(.inr (.inr z)), l1, l2] [] st n I L P = mm_E d 257 14 [(.inr (.inr z)), l1, l2] [] ((.inr (.inr z)) :: st) n I L P) ∧
  (∀ (lv : List mm_V) (st : List mm_V) a, (mm_ok n a 12) → mm_E d 257 14 lv [] (.inr (.inr (some a)) :: st) n I L P = mm_E d 257 17 lv [] (.inr (.inr (P a 27)) :: st) n I L P) ∧
  (∀ (lv : List mm_V) (st : List mm_V), mm_E d 257 17 lv [] st n I L P = mm_E d 257 18 lv [] (.inl 0 :: st) n I L P) ∧
  (∀ (st : List mm_V) z (l0 : mm_V) (l1 : mm_V), mm_E d 257 18 [l0, l1, (.inl z)] [] st n I L P = mm_E d 257 19 [l0, l1, (.inl z)] [] ((.inl z) :: st) n I L P) ∧
  (∀ (lv : List mm_V) (st : List mm_V) a b, mm_E d 257 19 lv [] (.inl b :: .inl a :: st) n I L P = mm_E d 257 20 lv [] (.inl (mm_add a b) :: st) n I L P) ∧
  (∀ (lv : List mm_V) (st : List mm_V) a i, (mm_ix n a 20 i) → mm_E d 257 20 lv [] (.inl i :: .inr (.inr (some a)) :: st) n I L P = mm_E d 257 21 lv [] (.inl (I a i.toNat) :: st) n I L P) ∧
  (∀ (lv : List mm_V) (st : List mm_V) a, mm_E d 257 21 lv [] (.inl a :: st) n I L P = if a = 0 then mm_E d 257 24 lv [] st n I L P else mm_E d 257 30 lv [] st n I L P) ∧
  (∀ (lv : List mm_V) (st : List mm_V), mm_E d 257 24 lv [] st n I L P = mm_E d 257 25 lv [] (.inl 1 :: st) n I L P) ∧
  (∀ (st : List mm_V) z (l0 : mm_V) (l1 : mm_V), mm_E d 257 25 [l0, l1, (.inl z)] [] st n I L P = mm_E d 257 26 [l0, l1, (.inl z)] [] ((.inl z) :: st) n I L P) ∧
  (∀ (lv : List mm_V) (st : List mm_V) a b, mm_E d 257 26 lv [] (.inl b :: .inl a :: st) n I L P = mm_E d 257 27 lv [] (.inl (mm_shl a b) :: st) n I L P) ∧
  (∀ (lv : List mm_V) (st : List mm_V), mm_E d 257 27 lv [] st n I L P = mm_E d 257 31 lv [] st n I L P) ∧
  (∀ (lv : List mm_V) (st : List mm_V), mm_E d 257 30 lv [] st n I L P = mm_E d 257 31 lv [] (.inl 0 :: st) n I L P) ∧
  (∀ (lv : List mm_V) (st : List mm_V) a b, mm_E d 257 31 lv [] (.inl b :: .inl a :: st) n I L P = mm_E d 257 32 lv [] (.inl (mm_or a b) :: st) n I L P) ∧
  (∀ (st : List mm_V) z (l0 : mm_V) (l1 : mm_V) (l2 : mm_V), mm_E d 257 32 [l0, l1, l2] [] ((.inl z) :: st) n I L P = mm_E d 257 33 [l0, (.inl z), l2] [] st n I L P) ∧
  (∀ (st : List mm_V) z (l0 : mm_V) (l1 : mm_V), mm_E d 257 33 [l0, l1, (.inl z)] [] st n I L P = mm_E d 257 36 [l0, l1, (.inl (mm_add z 1))] [] st n I L P) ∧
  (∀ (lv : List mm_V) (st : List mm_V), mm_E d 257 36 lv [] st n I L P = mm_E d 257 4 lv [] st n I L P) ∧
  (∀ (st : List mm_V) z (l0 : mm_V) (l2 : mm_V), mm_E d 257 39 [l0, (.inl z), l2] [] st n I L P = mm_E d 257 40 [l0, (.inl z), l2] [] ((.inl z) :: st) n I L P) ∧
  (∀ (lv : List mm_V) z, mm_E d 257 40 lv [] [.inl z] n I L P = some (some (.inl z), n, I, L, P)) :=
  ⟨fun _ _ => mq_push rfl,
   fun _ _ _ _ _ => mq_is (i := 1) rfl rfl rfl,
   fun _ _ => mq_push rfl,
   fun _ _ _ _ _ => mq_is (i := 2) rfl rfl rfl,
   fun _ _ _ _ => mq_al (i := 0) rfl rfl,
   fun _ _ _ h0 => mq_getI rfl h0,
   fun _ _ _ _ => mq_ic_ge rfl,
   fun _ _ _ _ => mq_il (i := 1) rfl rfl,
   fun _ _ _ _ => mq_al (i := 0) rfl rfl,
   fun _ _ _ h0 => mq_getR rfl h0,
   fun _ _ => mq_push rfl,
   fun _ _ _ _ => mq_il (i := 2) rfl rfl,
   fun _ _ _ _ => mq_bi rfl,
   fun _ _ _ _ h0 => mq_iald rfl h0,
   fun _ _ _ => mq_if_ne rfl,
   fun _ _ => mq_push rfl,
   fun _ _ _ _ => mq_il (i := 2) rfl rfl,
   fun _ _ _ _ => mq_bi rfl,
   fun _ _ => mq_go rfl,
   fun _ _ => mq_push rfl,
   fun _ _ _ _ => mq_bi rfl,
   fun _ _ _ _ _ => mq_is (i := 1) rfl rfl rfl,
   fun _ _ _ _ => mq_iinc (i := 2) rfl rfl rfl rfl,
   fun _ _ => mq_go rfl,
   fun _ _ _ _ => mq_il (i := 1) rfl rfl,
   fun _ _ => mq_ri rfl⟩
theorem hX12_ruins_4 (d n : Nat) (I L : mm_I) (P : mm_P) : ∀ (st : List mm_V) z (l0 : mm_V) (l1 : mm_V), mm_E d 257 4 [l0, l1, (.inl z)] [] st n I L P = mm_E d 257 5 [l0, l1, (.inl z)] [] ((.inl z) :: st) n I L P := fun _ _ _ _ => mq_il (i := 2) rfl rfl
theorem eX12_ruins (d n : Nat) (I L : mm_I) (P : mm_P) (x0 : Option Nat) : mm_rn (d + 1) 257 [.inr (.inr x0)] n I L P = mm_E d 257 0 [.inr (.inr x0), mm_junk, mm_junk] [] [] n I L P := rfl

set_option maxRecDepth 20000 in
set_option maxHeartbeats 8000000 in
theorem kX12_parts (d n : Nat) (I L : mm_I) (P : mm_P) :
  (∀ (lv : List mm_V) (st : List mm_V), mm_E d 258 0 lv [] st n I L P = mm_E d 258 1 lv [] (.inl 0 :: st) n I L P) ∧
  (∀ (st : List mm_V) z (l0 : mm_V) (l1 : mm_V) (l2 : mm_V) (l3 : mm_V) (l4 : mm_V), mm_E d 258 1 [l0, l1, l2, l3, l4] [] ((.inl z) :: st) n I L P = mm_E d 258 2 [l0, (.inl z), l2, l3, l4] [] st n I L P) ∧
  (∀ (lv : List mm_V) (st : List mm_V), mm_E d 258 2 lv [] st n I L P = mm_E d 258 3 lv [] (.inl 0 :: st) n I L P) ∧
  (∀ (st : List mm_V) z (l0 : mm_V) (l1 : mm_V) (l2 : mm_V) (l3 : mm_V) (l4 : mm_V), mm_E d 258 3 [l0, l1, l2, l3, l4] [] ((.inl z) :: st) n I L P = mm_E d 258 4 [l0, l1, (.inl z), l3, l4] [] st n I L P) ∧
  (∀ (st : List mm_V) z (l1 : mm_V) (l2 : mm_V) (l3 : mm_V) (l4 : mm_V), mm_E d 258 5 [(.inr (.inr z)), l1, l2, l3, l4] [] st n I L P = mm_E d 258 6 [(.inr (.inr z)), l1, l2, l3, l4] [] ((.inr (.inr z)) :: st) n I L P) ∧
  (∀ (lv : List mm_V) (st : List mm_V) a, (mm_ok n a 12) → mm_E d 258 6 lv [] (.inr (.inr (some a)) :: st) n I L P = mm_E d 258 9 lv [] (.inl (I a 26) :: st) n I L P) ∧
  (∀ (lv : List mm_V) (st : List mm_V) a b, mm_E d 258 9 lv [] (.inl b :: .inl a :: st) n I L P = if b ≤ a then mm_E d 258 69 lv [] st n I L P else mm_E d 258 12 lv [] st n I L P) ∧
  (∀ (lv : List mm_V) (st : List mm_V), mm_E d 258 12 lv [] st n I L P = mm_E d 258 13 lv [] (.inl 1 :: st) n I L P) ∧
  (∀ (st : List mm_V) z (l0 : mm_V) (l1 : mm_V) (l2 : mm_V) (l3 : mm_V) (l4 : mm_V), mm_E d 258 13 [l0, l1, l2, l3, l4] [] ((.inl z) :: st) n I L P = mm_E d 258 14 [l0, l1, l2, (.inl z), l4] [] st n I L P) ∧
  (∀ (lv : List mm_V) (st : List mm_V), mm_E d 258 14 lv [] st n I L P = mm_E d 258 15 lv [] (.inl 0 :: st) n I L P) ∧
  (∀ (st : List mm_V) z (l0 : mm_V) (l1 : mm_V) (l2 : mm_V) (l3 : mm_V) (l4 : mm_V), mm_E d 258 15 [l0, l1, l2, l3, l4] [] ((.inl z) :: st) n I L P = mm_E d 258 17 [l0, l1, l2, l3, (.inl z)] [] st n I L P) ∧
  (∀ (st : List mm_V) z (l0 : mm_V) (l1 : mm_V) (l3 : mm_V) (l4 : mm_V), mm_E d 258 19 [l0, l1, (.inl z), l3, l4] [] st n I L P = mm_E d 258 20 [l0, l1, (.inl z), l3, l4] [] ((.inl z) :: st) n I L P) ∧
  (∀ (lv : List mm_V) (st : List mm_V) a b, mm_E d 258 20 lv [] (.inl b :: .inl a :: st) n I L P = if b ≤ a then mm_E d 258 51 lv [] st n I L P else mm_E d 258 23 lv [] st n I L P) ∧
  (∀ (st : List mm_V) z (l0 : mm_V) (l1 : mm_V) (l2 : mm_V) (l4 : mm_V), mm_E d 258 23 [l0, l1, l2, (.inl z), l4] [] st n I L P = mm_E d 258 24 [l0, l1, l2, (.inl z), l4] [] ((.inl z) :: st) n I L P) ∧
  (∀ (lv : List mm_V) (st : List mm_V) a, mm_E d 258 24 lv [] (.inl a :: st) n I L P = if a = 0 then mm_E d 258 43 lv [] st n I L P else mm_E d 258 27 lv [] st n I L P) ∧
  (∀ (st : List mm_V) z (l1 : mm_V) (l2 : mm_V) (l3 : mm_V) (l4 : mm_V), mm_E d 258 27 [(.inr (.inr z)), l1, l2, l3, l4] [] st n I L P = mm_E d 258 28 [(.inr (.inr z)), l1, l2, l3, l4] [] ((.inr (.inr z)) :: st) n I L P) ∧
  (∀ (st : List mm_V) z (l0 : mm_V) (l1 : mm_V) (l3 : mm_V) (l4 : mm_V), mm_E d 258 28 [l0, l1, (.inl z), l3, l4] [] st n I L P = mm_E d 258 29 [l0, l1, (.inl z), l3, l4] [] ((.inl z) :: st) n I L P) ∧
  (∀ (st : List mm_V) z (l0 : mm_V) (l1 : mm_V) (l2 : mm_V) (l3 : mm_V), mm_E d 258 29 [l0, l1, l2, l3, (.inl z)] [] st n I L P = mm_E d 258 31 [l0, l1, l2, l3, (.inl z)] [] ((.inl z) :: st) n I L P) ∧
  (∀ (lv : List mm_V) a x0 x1, (mm_ok n a 12) → mm_E d 258 31 lv [] (.inl x1 :: .inl x0 :: .inr (.inr (some a)) :: []) n I L P = mm_kr d 258 34 lv [] [] n (mm_rn d 192 [.inr (.inr (some a)), .inl x0, .inl x1] n I L P)) ∧
  (∀ (lv : List mm_V) (st : List mm_V), mm_E d 258 34 lv [] st n I L P = mm_E d 258 36 lv [] (.inl 99 :: st) n I L P) ∧
  (∀ (lv : List mm_V) (st : List mm_V) a b, mm_E d 258 36 lv [] (.inl b :: .inl a :: st) n I L P = if a < b then mm_E d 258 43 lv [] st n I L P else mm_E d 258 39 lv [] st n I L P) ∧
  (∀ (lv : List mm_V) (st : List mm_V), mm_E d 258 39 lv [] st n I L P = mm_E d 258 40 lv [] (.inl 1 :: st) n I L P) ∧
  (∀ (lv : List mm_V) (st : List mm_V), mm_E d 258 40 lv [] st n I L P = mm_E d 258 44 lv [] st n I L P) ∧
  (∀ (lv : List mm_V) (st : List mm_V), mm_E d 258 43 lv [] st n I L P = mm_E d 258 44 lv [] (.inl 0 :: st) n I L P) ∧
  (∀ (st : List mm_V) z (l0 : mm_V) (l1 : mm_V) (l2 : mm_V) (l3 : mm_V) (l4 : mm_V), mm_E d 258 44 [l0, l1, l2, l3, l4] [] ((.inl z) :: st) n I L P = mm_E d 258 45 [l0, l1, l2, (.inl z), l4] [] st n I L P) ∧
  (∀ (st : List mm_V) z (l0 : mm_V) (l1 : mm_V) (l2 : mm_V) (l3 : mm_V), mm_E d 258 45 [l0, l1, l2, l3, (.inl z)] [] st n I L P = mm_E d 258 48 [l0, l1, l2, l3, (.inl (mm_add z 1))] [] st n I L P) ∧
  (∀ (lv : List mm_V) (st : List mm_V), mm_E d 258 48 lv [] st n I L P = mm_E d 258 17 lv [] st n I L P) ∧
  (∀ (st : List mm_V) z (l0 : mm_V) (l2 : mm_V) (l3 : mm_V) (l4 : mm_V), mm_E d 258 51 [l0, (.inl z), l2, l3, l4] [] st n I L P = mm_E d 258 52 [l0, (.inl z), l2, l3, l4] [] ((.inl z) :: st) n I L P) ∧
  (∀ (st : List mm_V) z (l0 : mm_V) (l1 : mm_V) (l2 : mm_V) (l4 : mm_V), mm_E d 258 52 [l0, l1, l2, (.inl z), l4] [] st n I L P = mm_E d 258 53 [l0, l1, l2, (.inl z), l4] [] ((.inl z) :: st) n I L P) ∧
  (∀ (lv : List mm_V) (st : List mm_V) a, mm_E d 258 53 lv [] (.inl a :: st) n I L P = if a = 0 then mm_E d 258 60 lv [] st n I L P else mm_E d 258 56 lv [] st n I L P) ∧
  (∀ (lv : List mm_V) (st : List mm_V), mm_E d 258 56 lv [] st n I L P = mm_E d 258 57 lv [] (.inl 1 :: st) n I L P) ∧
  (∀ (lv : List mm_V) (st : List mm_V), mm_E d 258 57 lv [] st n I L P = mm_E d 258 61 lv [] st n I L P) ∧
  (∀ (lv : List mm_V) (st : List mm_V), mm_E d 258 60 lv [] st n I L P = mm_E d 258 61 lv [] (.inl 0 :: st) n I L P) ∧
  (∀ (lv : List mm_V) (st : List mm_V) a b, mm_E d 258 61 lv [] (.inl b :: .inl a :: st) n I L P = mm_E d 258 62 lv [] (.inl (mm_add a b) :: st) n I L P) ∧
  (∀ (st : List mm_V) z (l0 : mm_V) (l1 : mm_V) (l2 : mm_V) (l3 : mm_V) (l4 : mm_V), mm_E d 258 62 [l0, l1, l2, l3, l4] [] ((.inl z) :: st) n I L P = mm_E d 258 63 [l0, (.inl z), l2, l3, l4] [] st n I L P) ∧
  (∀ (st : List mm_V) z (l0 : mm_V) (l1 : mm_V) (l3 : mm_V) (l4 : mm_V), mm_E d 258 63 [l0, l1, (.inl z), l3, l4] [] st n I L P = mm_E d 258 66 [l0, l1, (.inl (mm_add z 1)), l3, l4] [] st n I L P) ∧
  (∀ (lv : List mm_V) (st : List mm_V), mm_E d 258 66 lv [] st n I L P = mm_E d 258 4 lv [] st n I L P) ∧
  (∀ (st : List mm_V) z (l0 : mm_V) (l2 : mm_V) (l3 : mm_V) (l4 : mm_V), mm_E d 258 69 [l0, (.inl z), l2, l3, l4] [] st n I L P = mm_E d 258 70 [l0, (.inl z), l2, l3, l4] [] ((.inl z) :: st) n I L P) ∧
  (∀ (lv : List mm_V) z, mm_E d 258 70 lv [] [.inl z] n I L P = some (some (.inl z), n, I, L, P)) :=
  ⟨fun _ _ => mq_push rfl,
   fun _ _ _ _ _ _ _ => mq_is (i := 1) rfl rfl rfl,
   fun _ _ => mq_push rfl,
   fun _ _ _ _ _ _ _ => mq_is (i := 2) rfl rfl rfl,
   fun _ _ _ _ _ _ => mq_al (i := 0) rfl rfl,
   fun _ _ _ h0 => mq_getI rfl h0,
   fun _ _ _ _ => mq_ic_ge rfl,
   fun _ _ => mq_push rfl,
   fun _ _ _ _ _ _ _ => mq_is (i := 3) rfl rfl rfl,
   fun _ _ => mq_push rfl,
   fun _ _ _ _ _ _ _ => mq_is (i := 4) rfl rfl rfl,
   fun _ _ _ _ _ _ => mq_il (i := 2) rfl rfl,
   fun _ _ _ _ => mq_ic_ge rfl,
   fun _ _ _ _ _ _ => mq_il (i := 3) rfl rfl,
   fun _ _ _ => mq_if_eq rfl,
   fun _ _ _ _ _ _ => mq_al (i := 0) rfl rfl,
   fun _ _ _ _ _ _ => mq_il (i := 2) rfl rfl,
   fun _ _ _ _ _ _ => mq_il (i := 4) rfl rfl,
   fun _ _ _ _ h0 => mq_cVr (na := 2) rfl rfl (Nat.le_of_ble_eq_true rfl) (Nat.le_of_ble_eq_true rfl) h0,
   fun _ _ => mq_push rfl,
   fun _ _ _ _ => mq_ic_lt rfl,
   fun _ _ => mq_push rfl,
   fun _ _ => mq_go rfl,
   fun _ _ => mq_push rfl,
   fun _ _ _ _ _ _ _ => mq_is (i := 3) rfl rfl rfl,
   fun _ _ _ _ _ _ => mq_iinc (i := 4) rfl rfl rfl rfl,
   fun _ _ => mq_go rfl,
   fun _ _ _ _ _ _ => mq_il (i := 1) rfl rfl,
   fun _ _ _ _ _ _ => mq_il (i := 3) rfl rfl,
   fun _ _ _ => mq_if_eq rfl,
   fun _ _ => mq_push rfl,
   fun _ _ => mq_go rfl,
   fun _ _ => mq_push rfl,
   fun _ _ _ _ => mq_bi rfl,
   fun _ _ _ _ _ _ _ => mq_is (i := 1) rfl rfl rfl,
   fun _ _ _ _ _ _ => mq_iinc (i := 2) rfl rfl rfl rfl,
   fun _ _ => mq_go rfl,
   fun _ _ _ _ _ _ => mq_il (i := 1) rfl rfl,
   fun _ _ => mq_ri rfl⟩
theorem hX12_parts_4 (d n : Nat) (I L : mm_I) (P : mm_P) : ∀ (st : List mm_V) z (l0 : mm_V) (l1 : mm_V) (l3 : mm_V) (l4 : mm_V), mm_E d 258 4 [l0, l1, (.inl z), l3, l4] [] st n I L P = mm_E d 258 5 [l0, l1, (.inl z), l3, l4] [] ((.inl z) :: st) n I L P := fun _ _ _ _ _ _ => mq_il (i := 2) rfl rfl
theorem hX12_parts_17 (d n : Nat) (I L : mm_I) (P : mm_P) : ∀ (st : List mm_V) z (l0 : mm_V) (l1 : mm_V) (l2 : mm_V) (l3 : mm_V), mm_E d 258 17 [l0, l1, l2, l3, (.inl z)] [] st n I L P = mm_E d 258 19 [l0, l1, l2, l3, (.inl z)] [] ((.inl z) :: st) n I L P := fun _ _ _ _ _ _ => mq_il (i := 4) rfl rfl
theorem eX12_parts (d n : Nat) (I L : mm_I) (P : mm_P) (x0 : Option Nat) : mm_rn (d + 1) 258 [.inr (.inr x0)] n I L P = mm_E d 258 0 [.inr (.inr x0), mm_junk, mm_junk, mm_junk, mm_junk] [] [] n I L P := rfl

set_option maxRecDepth 20000 in
set_option maxHeartbeats 8000000 in
theorem kX12_most (d n : Nat) (I L : mm_I) (P : mm_P) :
  (∀ (st : List mm_V) z (l1 : mm_V), mm_E d 259 0 [(.inr (.inr z)), l1] [] st n I L P = mm_E d 259 1 [(.inr (.inr z)), l1] [] ((.inr (.inr z)) :: st) n I L P) ∧
  (∀ (lv : List mm_V) (st : List mm_V) a, (mm_ok n a 12) → mm_E d 259 1 lv [] (.inr (.inr (some a)) :: st) n I L P = mm_E d 259 4 lv [] (.inl (I a 26) :: st) n I L P) ∧
  (∀ (lv : List mm_V) (st : List mm_V) a, mm_E d 259 4 lv [] (.inl a :: st) n I L P = if a = 0 then mm_E d 259 17 lv [] st n I L P else mm_E d 259 7 lv [] st n I L P) ∧
  (∀ (st : List mm_V) z (l0 : mm_V), mm_E d 259 7 [l0, (.inl z)] [] st n I L P = mm_E d 259 8 [l0, (.inl z)] [] ((.inl z) :: st) n I L P) ∧
  (∀ (lv : List mm_V) (st : List mm_V), mm_E d 259 8 lv [] st n I L P = mm_E d 259 9 lv [] (.inl 0 :: st) n I L P) ∧
  (∀ (lv : List mm_V) (st : List mm_V), mm_E d 259 9 lv [] st n I L P = mm_E d 259 11 lv [] (.inl 12 :: st) n I L P) ∧
  (∀ (lv : List mm_V) x0 x1 x2, mm_E d 259 11 lv [] (.inl x2 :: .inl x1 :: .inl x0 :: []) n I L P = mm_kr d 259 14 lv [] [] n (mm_rn d 145 [.inl x0, .inl x1, .inl x2] n I L P)) ∧
  (∀ (lv : List mm_V) (st : List mm_V) a, mm_E d 259 14 lv [] (.inl a :: st) n I L P = if a = 0 then mm_E d 259 17 lv [] st n I L P else mm_E d 259 19 lv [] st n I L P) ∧
  (∀ (lv : List mm_V) (st : List mm_V), mm_E d 259 17 lv [] st n I L P = mm_E d 259 18 lv [] (.inl (-1) :: st) n I L P) ∧
  (∀ (lv : List mm_V) z, mm_E d 259 18 lv [] [.inl z] n I L P = some (some (.inl z), n, I, L, P)) ∧
  (∀ (st : List mm_V) z (l0 : mm_V), mm_E d 259 19 [l0, (.inl z)] [] st n I L P = mm_E d 259 20 [l0, (.inl z)] [] ((.inl z) :: st) n I L P) ∧
  (∀ (lv : List mm_V) (st : List mm_V) a, mm_E d 259 20 lv [] (.inl a :: st) n I L P = if a = 4 then mm_E d 259 72 lv [] st n I L P else if a = 5 then mm_E d 259 77 lv [] st n I L P else if a = 6 then mm_E d 259 89 lv [] st n I L P else if a = 7 then mm_E d 259 89 lv [] st n I L P else if a = 8 then mm_E d 259 89 lv [] st n I L P else if a = 9 then mm_E d 259 98 lv [] st n I L P else if a = 10 then mm_E d 259 103 lv [] st n I L P else if a = 11 then mm_E d 259 120 lv [] st n I L P else if a = 12 then mm_E d 259 133 lv [] st n I L P else mm_E d 259 138 lv [] st n I L P) ∧
  (∀ (st : List mm_V) z (l1 : mm_V), mm_E d 259 72 [(.inr (.inr z)), l1] [] st n I L P = mm_E d 259 73 [(.inr (.inr z)), l1] [] ((.inr (.inr z)) :: st) n I L P) ∧
  (∀ (lv : List mm_V) a, (mm_ok n a 12) → mm_E d 259 73 lv [] (.inr (.inr (some a)) :: []) n I L P = mm_kr d 259 76 lv [] [] n (mm_rn d 194 [.inr (.inr (some a))] n I L P)) ∧
  (∀ (lv : List mm_V) z, mm_E d 259 76 lv [] [.inl z] n I L P = some (some (.inl z), n, I, L, P)) ∧
  (∀ (st : List mm_V) z (l1 : mm_V), mm_E d 259 77 [(.inr (.inr z)), l1] [] st n I L P = mm_E d 259 78 [(.inr (.inr z)), l1] [] ((.inr (.inr z)) :: st) n I L P) ∧
  (∀ (st : List mm_V) z (l1 : mm_V), mm_E d 259 78 [(.inr (.inr z)), l1] [] st n I L P = mm_E d 259 79 [(.inr (.inr z)), l1] [] ((.inr (.inr z)) :: st) n I L P) ∧
  (∀ (lv : List mm_V) (st : List mm_V) a, (mm_ok n a 12) → mm_E d 259 79 lv [] (.inr (.inr (some a)) :: st) n I L P = mm_E d 259 82 lv [] (.inr (.inr (P a 27)) :: st) n I L P) ∧
  (∀ (lv : List mm_V) (st : List mm_V), mm_E d 259 82 lv [] st n I L P = mm_E d 259 84 lv [] (.inl 24 :: st) n I L P) ∧
  (∀ (lv : List mm_V) (st : List mm_V) a i, (mm_ix n a 20 i) → mm_E d 259 84 lv [] (.inl i :: .inr (.inr (some a)) :: st) n I L P = mm_E d 259 85 lv [] (.inl (I a i.toNat) :: st) n I L P) ∧
  (∀ (lv : List mm_V) a x0, (mm_ok n a 12) → mm_E d 259 85 lv [] (.inl x0 :: .inr (.inr (some a)) :: []) n I L P = mm_kr d 259 88 lv [] [] n (mm_rn d 195 [.inr (.inr (some a)), .inl x0] n I L P)) ∧
  (∀ (lv : List mm_V) z, mm_E d 259 88 lv [] [.inl z] n I L P = some (some (.inl z), n, I, L, P)) ∧
  (∀ (st : List mm_V) z (l1 : mm_V), mm_E d 259 89 [(.inr (.inr z)), l1] [] st n I L P = mm_E d 259 90 [(.inr (.inr z)), l1] [] ((.inr (.inr z)) :: st) n I L P) ∧
  (∀ (st : List mm_V) z (l0 : mm_V), mm_E d 259 90 [l0, (.inl z)] [] st n I L P = mm_E d 259 91 [l0, (.inl z)] [] ((.inl z) :: st) n I L P) ∧
  (∀ (lv : List mm_V) (st : List mm_V), mm_E d 259 91 lv [] st n I L P = mm_E d 259 93 lv [] (.inl 6 :: st) n I L P) ∧
  (∀ (lv : List mm_V) (st : List mm_V) a b, mm_E d 259 93 lv [] (.inl b :: .inl a :: st) n I L P = mm_E d 259 94 lv [] (.inl (mm_sub a b) :: st) n I L P) ∧
  (∀ (lv : List mm_V) a x0, (mm_ok n a 12) → mm_E d 259 94 lv [] (.inl x0 :: .inr (.inr (some a)) :: []) n I L P = mm_kr d 259 97 lv [] [] n (mm_rn d 256 [.inr (.inr (some a)), .inl x0] n I L P)) ∧
  (∀ (lv : List mm_V) z, mm_E d 259 97 lv [] [.inl z] n I L P = some (some (.inl z), n, I, L, P)) ∧
  (∀ (st : List mm_V) z (l1 : mm_V), mm_E d 259 98 [(.inr (.inr z)), l1] [] st n I L P = mm_E d 259 99 [(.inr (.inr z)), l1] [] ((.inr (.inr z)) :: st) n I L P) ∧
  (∀ (lv : List mm_V) a, (mm_ok n a 12) → mm_E d 259 99 lv [] (.inr (.inr (some a)) :: []) n I L P = mm_kr d 259 102 lv [] [] n (mm_rn d 257 [.inr (.inr (some a))] n I L P)) ∧
  (∀ (lv : List mm_V) z, mm_E d 259 102 lv [] [.inl z] n I L P = some (some (.inl z), n, I, L, P)) ∧
  (∀ (st : List mm_V) z (l1 : mm_V), mm_E d 259 103 [(.inr (.inr z)), l1] [] st n I L P = mm_E d 259 104 [(.inr (.inr z)), l1] [] ((.inr (.inr z)) :: st) n I L P) ∧
  (∀ (lv : List mm_V) a, (mm_ok n a 12) → mm_E d 259 104 lv [] (.inr (.inr (some a)) :: []) n I L P = mm_kr d 259 107 lv [] [] n (mm_rn d 194 [.inr (.inr (some a))] n I L P)) ∧
  (∀ (lv : List mm_V) (st : List mm_V) a, mm_E d 259 107 lv [] (.inl a :: st) n I L P = if a = 0 then mm_E d 259 110 lv [] st n I L P else mm_E d 259 114 lv [] st n I L P) ∧
  (∀ (lv : List mm_V) (st : List mm_V), mm_E d 259 110 lv [] st n I L P = mm_E d 259 111 lv [] (.inl (-1) :: st) n I L P) ∧
  (∀ (lv : List mm_V) (st : List mm_V), mm_E d 259 111 lv [] st n I L P = mm_E d 259 119 lv [] st n I L P) ∧
  (∀ (st : List mm_V) z (l1 : mm_V), mm_E d 259 114 [(.inr (.inr z)), l1] [] st n I L P = mm_E d 259 115 [(.inr (.inr z)), l1] [] ((.inr (.inr z)) :: st) n I L P) ∧
  (∀ (st : List mm_V) z (l0 : mm_V), mm_E d 259 115 [l0, (.inl z)] [] st n I L P = mm_E d 259 116 [l0, (.inl z)] [] ((.inl z) :: st) n I L P) ∧
  (∀ (lv : List mm_V) a x0, (mm_ok n a 12) → mm_E d 259 116 lv [] (.inl x0 :: .inr (.inr (some a)) :: []) n I L P = mm_kr d 259 119 lv [] [] n (mm_rn d 255 [.inr (.inr (some a)), .inl x0] n I L P)) ∧
  (∀ (lv : List mm_V) z, mm_E d 259 119 lv [] [.inl z] n I L P = some (some (.inl z), n, I, L, P)) ∧
  (∀ (st : List mm_V) z (l1 : mm_V), mm_E d 259 120 [(.inr (.inr z)), l1] [] st n I L P = mm_E d 259 121 [(.inr (.inr z)), l1] [] ((.inr (.inr z)) :: st) n I L P) ∧
  (∀ (lv : List mm_V) (st : List mm_V), mm_E d 259 121 lv [] st n I L P = mm_E d 259 122 lv [] (.inl 1 :: st) n I L P) ∧
  (∀ (st : List mm_V) z (l1 : mm_V), mm_E d 259 122 [(.inr (.inr z)), l1] [] st n I L P = mm_E d 259 123 [(.inr (.inr z)), l1] [] ((.inr (.inr z)) :: st) n I L P) ∧
  (∀ (lv : List mm_V) (st : List mm_V) a, (mm_ok n a 12) → mm_E d 259 123 lv [] (.inr (.inr (some a)) :: st) n I L P = mm_E d 259 126 lv [] (.inl (I a 26) :: st) n I L P) ∧
  (∀ (lv : List mm_V) (st : List mm_V) a b, mm_E d 259 126 lv [] (.inl b :: .inl a :: st) n I L P = mm_E d 259 127 lv [] (.inl (mm_shl a b) :: st) n I L P) ∧
  (∀ (lv : List mm_V) (st : List mm_V), mm_E d 259 127 lv [] st n I L P = mm_E d 259 128 lv [] (.inl 1 :: st) n I L P) ∧
  (∀ (lv : List mm_V) (st : List mm_V) a b, mm_E d 259 128 lv [] (.inl b :: .inl a :: st) n I L P = mm_E d 259 129 lv [] (.inl (mm_sub a b) :: st) n I L P) ∧
  (∀ (lv : List mm_V) a x0, (mm_ok n a 12) → mm_E d 259 129 lv [] (.inl x0 :: .inr (.inr (some a)) :: []) n I L P = mm_kr d 259 132 lv [] [] n (mm_rn d 235 [.inr (.inr (some a)), .inl x0] n I L P)) ∧
  (∀ (lv : List mm_V) z, mm_E d 259 132 lv [] [.inl z] n I L P = some (some (.inl z), n, I, L, P)) ∧
  (∀ (st : List mm_V) z (l1 : mm_V), mm_E d 259 133 [(.inr (.inr z)), l1] [] st n I L P = mm_E d 259 134 [(.inr (.inr z)), l1] [] ((.inr (.inr z)) :: st) n I L P) ∧
  (∀ (lv : List mm_V) a, (mm_ok n a 12) → mm_E d 259 134 lv [] (.inr (.inr (some a)) :: []) n I L P = mm_kr d 259 137 lv [] [] n (mm_rn d 258 [.inr (.inr (some a))] n I L P)) ∧
  (∀ (lv : List mm_V) z, mm_E d 259 137 lv [] [.inl z] n I L P = some (some (.inl z), n, I, L, P)) ∧
  (∀ (st : List mm_V) z (l1 : mm_V), mm_E d 259 138 [(.inr (.inr z)), l1] [] st n I L P = mm_E d 259 139 [(.inr (.inr z)), l1] [] ((.inr (.inr z)) :: st) n I L P) ∧
  (∀ (st : List mm_V) z (l0 : mm_V), mm_E d 259 139 [l0, (.inl z)] [] st n I L P = mm_E d 259 140 [l0, (.inl z)] [] ((.inl z) :: st) n I L P) ∧
  (∀ (lv : List mm_V) a x0, (mm_ok n a 12) → mm_E d 259 140 lv [] (.inl x0 :: .inr (.inr (some a)) :: []) n I L P = mm_kr d 259 143 lv [] [] n (mm_rn d 255 [.inr (.inr (some a)), .inl x0] n I L P)) ∧
  (∀ (lv : List mm_V) z, mm_E d 259 143 lv [] [.inl z] n I L P = some (some (.inl z), n, I, L, P)) :=
  ⟨fun _ _ _ => mq_al (i := 0) rfl rfl,
   fun _ _ _ h0 => mq_getI rfl h0,
   fun _ _ _ => mq_if_eq rfl,
   fun _ _ _ => mq_il (i := 1) rfl rfl,
   fun _ _ => mq_push rfl,
   fun _ _ => mq_push rfl,
   fun _ _ _ _ => mq_cSr (na := 3) rfl (Nat.le_of_ble_eq_true rfl) (Nat.le_of_ble_eq_true rfl),
   fun _ _ _ => mq_if_ne rfl,
   fun _ _ => mq_push rfl,
   fun _ _ => mq_ri rfl,
   fun _ _ _ => mq_il (i := 1) rfl rfl,
   fun _ _ _ => mq_sw (l := [(4, 72), (5, 77), (6, 89), (7, 89), (8, 89), (9, 98), (10, 103), (11, 120), (12, 133)]) (df := 138) rfl,
   fun _ _ _ => mq_al (i := 0) rfl rfl,
   fun _ _ h0 => mq_cVr (na := 0) rfl rfl (Nat.le_of_ble_eq_true rfl) (Nat.le_of_ble_eq_true rfl) h0,
   fun _ _ => mq_ri rfl,
   fun _ _ _ => mq_al (i := 0) rfl rfl,
   fun _ _ _ => mq_al (i := 0) rfl rfl,
   fun _ _ _ h0 => mq_getR rfl h0,
   fun _ _ => mq_push rfl,
   fun _ _ _ _ h0 => mq_iald rfl h0,
   fun _ _ _ h0 => mq_cVr (na := 1) rfl rfl (Nat.le_of_ble_eq_true rfl) (Nat.le_of_ble_eq_true rfl) h0,
   fun _ _ => mq_ri rfl,
   fun _ _ _ => mq_al (i := 0) rfl rfl,
   fun _ _ _ => mq_il (i := 1) rfl rfl,
   fun _ _ => mq_push rfl,
   fun _ _ _ _ => mq_bi rfl,
   fun _ _ _ h0 => mq_cVr (na := 1) rfl rfl (Nat.le_of_ble_eq_true rfl) (Nat.le_of_ble_eq_true rfl) h0,
   fun _ _ => mq_ri rfl,
   fun _ _ _ => mq_al (i := 0) rfl rfl,
   fun _ _ h0 => mq_cVr (na := 0) rfl rfl (Nat.le_of_ble_eq_true rfl) (Nat.le_of_ble_eq_true rfl) h0,
   fun _ _ => mq_ri rfl,
   fun _ _ _ => mq_al (i := 0) rfl rfl,
   fun _ _ h0 => mq_cVr (na := 0) rfl rfl (Nat.le_of_ble_eq_true rfl) (Nat.le_of_ble_eq_true rfl) h0,
   fun _ _ _ => mq_if_ne rfl,
   fun _ _ => mq_push rfl,
   fun _ _ => mq_go rfl,
   fun _ _ _ => mq_al (i := 0) rfl rfl,
   fun _ _ _ => mq_il (i := 1) rfl rfl,
   fun _ _ _ h0 => mq_cVr (na := 1) rfl rfl (Nat.le_of_ble_eq_true rfl) (Nat.le_of_ble_eq_true rfl) h0,
   fun _ _ => mq_ri rfl,
   fun _ _ _ => mq_al (i := 0) rfl rfl,
   fun _ _ => mq_push rfl,
   fun _ _ _ => mq_al (i := 0) rfl rfl,
   fun _ _ _ h0 => mq_getI rfl h0,
   fun _ _ _ _ => mq_bi rfl,
   fun _ _ => mq_push rfl,
   fun _ _ _ _ => mq_bi rfl,
   fun _ _ _ h0 => mq_cVr (na := 1) rfl rfl (Nat.le_of_ble_eq_true rfl) (Nat.le_of_ble_eq_true rfl) h0,
   fun _ _ => mq_ri rfl,
   fun _ _ _ => mq_al (i := 0) rfl rfl,
   fun _ _ h0 => mq_cVr (na := 0) rfl rfl (Nat.le_of_ble_eq_true rfl) (Nat.le_of_ble_eq_true rfl) h0,
   fun _ _ => mq_ri rfl,
   fun _ _ _ => mq_al (i := 0) rfl rfl,
   fun _ _ _ => mq_il (i := 1) rfl rfl,
   fun _ _ _ h0 => mq_cVr (na := 1) rfl rfl (Nat.le_of_ble_eq_true rfl) (Nat.le_of_ble_eq_true rfl) h0,
   fun _ _ => mq_ri rfl⟩
theorem eX12_most (d n : Nat) (I L : mm_I) (P : mm_P) (x0 : Option Nat) (x1 : Int) : mm_rn (d + 1) 259 [.inr (.inr x0), .inl x1] n I L P = mm_E d 259 0 [.inr (.inr x0), .inl x1] [] [] n I L P := rfl

set_option maxRecDepth 20000 in
set_option maxHeartbeats 8000000 in
theorem kX12_image (d n : Nat) (I L : mm_I) (P : mm_P) :
  (∀ (st : List mm_V) z (l1 : mm_V), mm_E d 260 0 [(.inr (.inr z)), l1] [] st n I L P = mm_E d 260 1 [(.inr (.inr z)), l1] [] ((.inr (.inr z)) :: st) n I L P) ∧
  (∀ (lv : List mm_V) (st : List mm_V) a, (mm_ok n a 12) → mm_E d 260 1 lv [] (.inr (.inr (some a)) :: st) n I L P = mm_E d 260 4 lv [] (.inl (I a 26) :: st) n I L P) ∧
  (∀ (lv : List mm_V) (st : List mm_V) a, mm_E d 260 4 lv [] (.inl a :: st) n I L P = if a = 0 then mm_E d 260 7 lv [] st n I L P else mm_E d 260 9 lv [] st n I L P) ∧
  (∀ (lv : List mm_V) (st : List mm_V), mm_E d 260 7 lv [] st n I L P = mm_E d 260 8 lv [] (.inl (-1) :: st) n I L P) ∧
  (∀ (lv : List mm_V) z, mm_E d 260 8 lv [] [.inl z] n I L P = some (some (.inl z), n, I, L, P)) ∧
  (∀ (lv : List mm_V) (st : List mm_V), mm_E d 260 9 lv [] st n I L P = mm_E d 260 10 lv [] (.inl 0 :: st) n I L P) ∧
  (∀ (st : List mm_V) z (l0 : mm_V) (l1 : mm_V), mm_E d 260 10 [l0, l1] [] ((.inl z) :: st) n I L P = mm_E d 260 11 [l0, (.inl z)] [] st n I L P) ∧
  (∀ (lv : List mm_V) (st : List mm_V), mm_E d 260 12 lv [] st n I L P = mm_E d 260 15 lv [] (.inl 211 :: st) n I L P) ∧
  (∀ (lv : List mm_V) (st : List mm_V) a b, mm_E d 260 15 lv [] (.inl b :: .inl a :: st) n I L P = if b ≤ a then mm_E d 260 36 lv [] st n I L P else mm_E d 260 18 lv [] st n I L P) ∧
  (∀ (st : List mm_V) z (l1 : mm_V), mm_E d 260 18 [(.inr (.inr z)), l1] [] st n I L P = mm_E d 260 19 [(.inr (.inr z)), l1] [] ((.inr (.inr z)) :: st) n I L P) ∧
  (∀ (lv : List mm_V) (st : List mm_V) a, (mm_ok n a 12) → mm_E d 260 19 lv [] (.inr (.inr (some a)) :: st) n I L P = mm_E d 260 22 lv [] (.inr (.inr (P a 45)) :: st) n I L P) ∧
  (∀ (st : List mm_V) z (l0 : mm_V), mm_E d 260 22 [l0, (.inl z)] [] st n I L P = mm_E d 260 23 [l0, (.inl z)] [] ((.inl z) :: st) n I L P) ∧
  (∀ (st : List mm_V) z (l1 : mm_V), mm_E d 260 23 [(.inr (.inr z)), l1] [] st n I L P = mm_E d 260 24 [(.inr (.inr z)), l1] [] ((.inr (.inr z)) :: st) n I L P) ∧
  (∀ (lv : List mm_V) (st : List mm_V) a, (mm_ok n a 12) → mm_E d 260 24 lv [] (.inr (.inr (some a)) :: st) n I L P = mm_E d 260 27 lv [] (.inr (.inr (P a 27)) :: st) n I L P) ∧
  (∀ (st : List mm_V) z (l0 : mm_V), mm_E d 260 27 [l0, (.inl z)] [] st n I L P = mm_E d 260 28 [l0, (.inl z)] [] ((.inl z) :: st) n I L P) ∧
  (∀ (lv : List mm_V) (st : List mm_V) a i, (mm_ix n a 20 i) → mm_E d 260 28 lv [] (.inl i :: .inr (.inr (some a)) :: st) n I L P = mm_E d 260 29 lv [] (.inl (I a i.toNat) :: st) n I L P) ∧
  (∀ (lv : List mm_V) (st : List mm_V) a i z, (mm_ix n a 20 i) → mm_E d 260 29 lv [] (.inl z :: .inl i :: .inr (.inr (some a)) :: st) n I L P = mm_E d 260 30 lv [] st n (mm_ui I a i.toNat z) L P) ∧
  (∀ (st : List mm_V) z (l0 : mm_V), mm_E d 260 30 [l0, (.inl z)] [] st n I L P = mm_E d 260 33 [l0, (.inl (mm_add z 1))] [] st n I L P) ∧
  (∀ (lv : List mm_V) (st : List mm_V), mm_E d 260 33 lv [] st n I L P = mm_E d 260 11 lv [] st n I L P) ∧
  (∀ (st : List mm_V) z (l1 : mm_V), mm_E d 260 36 [(.inr (.inr z)), l1] [] st n I L P = mm_E d 260 37 [(.inr (.inr z)), l1] [] ((.inr (.inr z)) :: st) n I L P) ∧
  (∀ (lv : List mm_V) (st : List mm_V), mm_E d 260 37 lv [] st n I L P = mm_E d 260 38 lv [] (.inl 1 :: st) n I L P) ∧
  (∀ (lv : List mm_V) (st : List mm_V) a z, (mm_ok n a 12) → (z = 0 ∨ z = 1) → mm_E d 260 38 lv [] (.inl z :: .inr (.inr (some a)) :: st) n I L P = mm_E d 260 41 lv [] st n (mm_ui I a 46 z) L P) ∧
  (∀ (st : List mm_V) z (l1 : mm_V), mm_E d 260 41 [(.inr (.inr z)), l1] [] st n I L P = mm_E d 260 42 [(.inr (.inr z)), l1] [] ((.inr (.inr z)) :: st) n I L P) ∧
  (∀ (lv : List mm_V) (st : List mm_V) a, (mm_ok n a 12) → mm_E d 260 42 lv [] (.inr (.inr (some a)) :: st) n I L P = mm_E d 260 45 lv [] (.inr (.inr (P a 27)) :: st) n I L P) ∧
  (∀ (lv : List mm_V) (st : List mm_V), mm_E d 260 45 lv [] st n I L P = mm_E d 260 47 lv [] (.inl 29 :: st) n I L P) ∧
  (∀ (lv : List mm_V) (st : List mm_V) a i, (mm_ix n a 20 i) → mm_E d 260 47 lv [] (.inl i :: .inr (.inr (some a)) :: st) n I L P = mm_E d 260 48 lv [] (.inl (I a i.toNat) :: st) n I L P) ∧
  (∀ (lv : List mm_V) z, mm_E d 260 48 lv [] [.inl z] n I L P = some (some (.inl z), n, I, L, P)) :=
  ⟨fun _ _ _ => mq_al (i := 0) rfl rfl,
   fun _ _ _ h0 => mq_getI rfl h0,
   fun _ _ _ => mq_if_ne rfl,
   fun _ _ => mq_push rfl,
   fun _ _ => mq_ri rfl,
   fun _ _ => mq_push rfl,
   fun _ _ _ _ => mq_is (i := 1) rfl rfl rfl,
   fun _ _ => mq_push rfl,
   fun _ _ _ _ => mq_ic_ge rfl,
   fun _ _ _ => mq_al (i := 0) rfl rfl,
   fun _ _ _ h0 => mq_getR rfl h0,
   fun _ _ _ => mq_il (i := 1) rfl rfl,
   fun _ _ _ => mq_al (i := 0) rfl rfl,
   fun _ _ _ h0 => mq_getR rfl h0,
   fun _ _ _ => mq_il (i := 1) rfl rfl,
   fun _ _ _ _ h0 => mq_iald rfl h0,
   fun _ _ _ _ _ h0 => mq_iast rfl h0,
   fun _ _ _ => mq_iinc (i := 1) rfl rfl rfl rfl,
   fun _ _ => mq_go rfl,
   fun _ _ _ => mq_al (i := 0) rfl rfl,
   fun _ _ => mq_push rfl,
   fun _ _ _ _ h0 h1 => mq_putZ rfl h0 h1,
   fun _ _ _ => mq_al (i := 0) rfl rfl,
   fun _ _ _ h0 => mq_getR rfl h0,
   fun _ _ => mq_push rfl,
   fun _ _ _ _ h0 => mq_iald rfl h0,
   fun _ _ => mq_ri rfl⟩
theorem hX12_image_11 (d n : Nat) (I L : mm_I) (P : mm_P) : ∀ (st : List mm_V) z (l0 : mm_V), mm_E d 260 11 [l0, (.inl z)] [] st n I L P = mm_E d 260 12 [l0, (.inl z)] [] ((.inl z) :: st) n I L P := fun _ _ _ => mq_il (i := 1) rfl rfl
theorem eX12_image (d n : Nat) (I L : mm_I) (P : mm_P) (x0 : Option Nat) : mm_rn (d + 1) 260 [.inr (.inr x0)] n I L P = mm_E d 260 0 [.inr (.inr x0), mm_junk] [] [] n I L P := rfl

set_option maxRecDepth 20000 in
set_option maxHeartbeats 8000000 in
theorem kX12_back (d n : Nat) (I L : mm_I) (P : mm_P) :
  (∀ (st : List mm_V) z (l1 : mm_V), mm_E d 261 0 [(.inr (.inr z)), l1] [] st n I L P = mm_E d 261 1 [(.inr (.inr z)), l1] [] ((.inr (.inr z)) :: st) n I L P) ∧
  (∀ (lv : List mm_V) (st : List mm_V) a, (mm_ok n a 12) → mm_E d 261 1 lv [] (.inr (.inr (some a)) :: st) n I L P = mm_E d 261 4 lv [] (.inl (I a 46) :: st) n I L P) ∧
  (∀ (lv : List mm_V) (st : List mm_V) a, mm_E d 261 4 lv [] (.inl a :: st) n I L P = if a = 0 then mm_E d 261 7 lv [] st n I L P else mm_E d 261 9 lv [] st n I L P) ∧
  (∀ (lv : List mm_V) (st : List mm_V), mm_E d 261 7 lv [] st n I L P = mm_E d 261 8 lv [] (.inl (-1) :: st) n I L P) ∧
  (∀ (lv : List mm_V) z, mm_E d 261 8 lv [] [.inl z] n I L P = some (some (.inl z), n, I, L, P)) ∧
  (∀ (lv : List mm_V) (st : List mm_V), mm_E d 261 9 lv [] st n I L P = mm_E d 261 10 lv [] (.inl 0 :: st) n I L P) ∧
  (∀ (st : List mm_V) z (l0 : mm_V) (l1 : mm_V), mm_E d 261 10 [l0, l1] [] ((.inl z) :: st) n I L P = mm_E d 261 11 [l0, (.inl z)] [] st n I L P) ∧
  (∀ (lv : List mm_V) (st : List mm_V), mm_E d 261 12 lv [] st n I L P = mm_E d 261 15 lv [] (.inl 211 :: st) n I L P) ∧
  (∀ (lv : List mm_V) (st : List mm_V) a b, mm_E d 261 15 lv [] (.inl b :: .inl a :: st) n I L P = if b ≤ a then mm_E d 261 36 lv [] st n I L P else mm_E d 261 18 lv [] st n I L P) ∧
  (∀ (st : List mm_V) z (l1 : mm_V), mm_E d 261 18 [(.inr (.inr z)), l1] [] st n I L P = mm_E d 261 19 [(.inr (.inr z)), l1] [] ((.inr (.inr z)) :: st) n I L P) ∧
  (∀ (lv : List mm_V) (st : List mm_V) a, (mm_ok n a 12) → mm_E d 261 19 lv [] (.inr (.inr (some a)) :: st) n I L P = mm_E d 261 22 lv [] (.inr (.inr (P a 27)) :: st) n I L P) ∧
  (∀ (st : List mm_V) z (l0 : mm_V), mm_E d 261 22 [l0, (.inl z)] [] st n I L P = mm_E d 261 23 [l0, (.inl z)] [] ((.inl z) :: st) n I L P) ∧
  (∀ (st : List mm_V) z (l1 : mm_V), mm_E d 261 23 [(.inr (.inr z)), l1] [] st n I L P = mm_E d 261 24 [(.inr (.inr z)), l1] [] ((.inr (.inr z)) :: st) n I L P) ∧
  (∀ (lv : List mm_V) (st : List mm_V) a, (mm_ok n a 12) → mm_E d 261 24 lv [] (.inr (.inr (some a)) :: st) n I L P = mm_E d 261 27 lv [] (.inr (.inr (P a 45)) :: st) n I L P) ∧
  (∀ (st : List mm_V) z (l0 : mm_V), mm_E d 261 27 [l0, (.inl z)] [] st n I L P = mm_E d 261 28 [l0, (.inl z)] [] ((.inl z) :: st) n I L P) ∧
  (∀ (lv : List mm_V) (st : List mm_V) a i, (mm_ix n a 20 i) → mm_E d 261 28 lv [] (.inl i :: .inr (.inr (some a)) :: st) n I L P = mm_E d 261 29 lv [] (.inl (I a i.toNat) :: st) n I L P) ∧
  (∀ (lv : List mm_V) (st : List mm_V) a i z, (mm_ix n a 20 i) → mm_E d 261 29 lv [] (.inl z :: .inl i :: .inr (.inr (some a)) :: st) n I L P = mm_E d 261 30 lv [] st n (mm_ui I a i.toNat z) L P) ∧
  (∀ (st : List mm_V) z (l0 : mm_V), mm_E d 261 30 [l0, (.inl z)] [] st n I L P = mm_E d 261 33 [l0, (.inl (mm_add z 1))] [] st n I L P) ∧
  (∀ (lv : List mm_V) (st : List mm_V), mm_E d 261 33 lv [] st n I L P = mm_E d 261 11 lv [] st n I L P) ∧
  (∀ (st : List mm_V) z (l1 : mm_V), mm_E d 261 36 [(.inr (.inr z)), l1] [] st n I L P = mm_E d 261 37 [(.inr (.inr z)), l1] [] ((.inr (.inr z)) :: st) n I L P) ∧
  (∀ (lv : List mm_V) (st : List mm_V), mm_E d 261 37 lv [] st n I L P = mm_E d 261 38 lv [] (.inl 0 :: st) n I L P) ∧
  (∀ (lv : List mm_V) (st : List mm_V) a z, (mm_ok n a 12) → mm_E d 261 38 lv [] (.inl z :: .inr (.inr (some a)) :: st) n I L P = mm_E d 261 41 lv [] st n (mm_ui I a 33 z) L P) ∧
  (∀ (st : List mm_V) z (l1 : mm_V), mm_E d 261 41 [(.inr (.inr z)), l1] [] st n I L P = mm_E d 261 42 [(.inr (.inr z)), l1] [] ((.inr (.inr z)) :: st) n I L P) ∧
  (∀ (lv : List mm_V) (st : List mm_V) a, (mm_ok n a 12) → mm_E d 261 42 lv [] (.inr (.inr (some a)) :: st) n I L P = mm_E d 261 45 lv [] (.inr (.inr (P a 27)) :: st) n I L P) ∧
  (∀ (lv : List mm_V) (st : List mm_V), mm_E d 261 45 lv [] st n I L P = mm_E d 261 47 lv [] (.inl 29 :: st) n I L P) ∧
  (∀ (lv : List mm_V) (st : List mm_V) a i, (mm_ix n a 20 i) → mm_E d 261 47 lv [] (.inl i :: .inr (.inr (some a)) :: st) n I L P = mm_E d 261 48 lv [] (.inl (I a i.toNat) :: st) n I L P) ∧
  (∀ (lv : List mm_V) z, mm_E d 261 48 lv [] [.inl z] n I L P = some (some (.inl z), n, I, L, P)) :=
  ⟨fun _ _ _ => mq_al (i := 0) rfl rfl,
   fun _ _ _ h0 => mq_getI rfl h0,
   fun _ _ _ => mq_if_ne rfl,
   fun _ _ => mq_push rfl,
   fun _ _ => mq_ri rfl,
   fun _ _ => mq_push rfl,
   fun _ _ _ _ => mq_is (i := 1) rfl rfl rfl,
   fun _ _ => mq_push rfl,
   fun _ _ _ _ => mq_ic_ge rfl,
   fun _ _ _ => mq_al (i := 0) rfl rfl,
   fun _ _ _ h0 => mq_getR rfl h0,
   fun _ _ _ => mq_il (i := 1) rfl rfl,
   fun _ _ _ => mq_al (i := 0) rfl rfl,
   fun _ _ _ h0 => mq_getR rfl h0,
   fun _ _ _ => mq_il (i := 1) rfl rfl,
   fun _ _ _ _ h0 => mq_iald rfl h0,
   fun _ _ _ _ _ h0 => mq_iast rfl h0,
   fun _ _ _ => mq_iinc (i := 1) rfl rfl rfl rfl,
   fun _ _ => mq_go rfl,
   fun _ _ _ => mq_al (i := 0) rfl rfl,
   fun _ _ => mq_push rfl,
   fun _ _ _ _ h0 => mq_putI rfl h0,
   fun _ _ _ => mq_al (i := 0) rfl rfl,
   fun _ _ _ h0 => mq_getR rfl h0,
   fun _ _ => mq_push rfl,
   fun _ _ _ _ h0 => mq_iald rfl h0,
   fun _ _ => mq_ri rfl⟩
theorem hX12_back_11 (d n : Nat) (I L : mm_I) (P : mm_P) : ∀ (st : List mm_V) z (l0 : mm_V), mm_E d 261 11 [l0, (.inl z)] [] st n I L P = mm_E d 261 12 [l0, (.inl z)] [] ((.inl z) :: st) n I L P := fun _ _ _ => mq_il (i := 1) rfl rfl
theorem eX12_back (d n : Nat) (I L : mm_I) (P : mm_P) (x0 : Option Nat) : mm_rn (d + 1) 261 [.inr (.inr x0)] n I L P = mm_E d 261 0 [.inr (.inr x0), mm_junk] [] [] n I L P := rfl

set_option maxRecDepth 20000 in
set_option maxHeartbeats 8000000 in
theorem kX12_count (d n : Nat) (I L : mm_I) (P : mm_P) :
  (∀ (st : List mm_V) z (l0 : mm_V), mm_E d 262 0 [l0, (.inl z)] [] st n I L P = mm_E d 262 1 [l0, (.inl z)] [] ((.inl z) :: st) n I L P) ∧
  (∀ (lv : List mm_V) (st : List mm_V) a, mm_E d 262 1 lv [] (.inl a :: st) n I L P = if a = 0 then mm_E d 262 52 lv [] st n I L P else if a = 1 then mm_E d 262 57 lv [] st n I L P else if a = 2 then mm_E d 262 62 lv [] st n I L P else if a = 3 then mm_E d 262 67 lv [] st n I L P else if a = 4 then mm_E d 262 72 lv [] st n I L P else if a = 5 then mm_E d 262 80 lv [] st n I L P else if a = 6 then mm_E d 262 85 lv [] st n I L P else if a = 7 then mm_E d 262 90 lv [] st n I L P else if a = 8 then mm_E d 262 98 lv [] st n I L P else mm_E d 262 103 lv [] st n I L P) ∧
  (∀ (st : List mm_V) z (l1 : mm_V), mm_E d 262 52 [(.inr (.inr z)), l1] [] st n I L P = mm_E d 262 53 [(.inr (.inr z)), l1] [] ((.inr (.inr z)) :: st) n I L P) ∧
  (∀ (lv : List mm_V) (st : List mm_V) a, (mm_ok n a 12) → mm_E d 262 53 lv [] (.inr (.inr (some a)) :: st) n I L P = mm_E d 262 56 lv [] (.inl (I a 26) :: st) n I L P) ∧
  (∀ (lv : List mm_V) z, mm_E d 262 56 lv [] [.inl z] n I L P = some (some (.inl z), n, I, L, P)) ∧
  (∀ (st : List mm_V) z (l1 : mm_V), mm_E d 262 57 [(.inr (.inr z)), l1] [] st n I L P = mm_E d 262 58 [(.inr (.inr z)), l1] [] ((.inr (.inr z)) :: st) n I L P) ∧
  (∀ (lv : List mm_V) (st : List mm_V) a, (mm_ok n a 12) → mm_E d 262 58 lv [] (.inr (.inr (some a)) :: st) n I L P = mm_E d 262 61 lv [] (.inl (I a 13) :: st) n I L P) ∧
  (∀ (lv : List mm_V) z, mm_E d 262 61 lv [] [.inl z] n I L P = some (some (.inl z), n, I, L, P)) ∧
  (∀ (st : List mm_V) z (l1 : mm_V), mm_E d 262 62 [(.inr (.inr z)), l1] [] st n I L P = mm_E d 262 63 [(.inr (.inr z)), l1] [] ((.inr (.inr z)) :: st) n I L P) ∧
  (∀ (lv : List mm_V) (st : List mm_V) a, (mm_ok n a 12) → mm_E d 262 63 lv [] (.inr (.inr (some a)) :: st) n I L P = mm_E d 262 66 lv [] (.inl (I a 2) :: st) n I L P) ∧
  (∀ (lv : List mm_V) z, mm_E d 262 66 lv [] [.inl z] n I L P = some (some (.inl z), n, I, L, P)) ∧
  (∀ (st : List mm_V) z (l1 : mm_V), mm_E d 262 67 [(.inr (.inr z)), l1] [] st n I L P = mm_E d 262 68 [(.inr (.inr z)), l1] [] ((.inr (.inr z)) :: st) n I L P) ∧
  (∀ (lv : List mm_V) (st : List mm_V) a, (mm_ok n a 12) → mm_E d 262 68 lv [] (.inr (.inr (some a)) :: st) n I L P = mm_E d 262 71 lv [] (.inl (I a 29) :: st) n I L P) ∧
  (∀ (lv : List mm_V) z, mm_E d 262 71 lv [] [.inl z] n I L P = some (some (.inl z), n, I, L, P)) ∧
  (∀ (st : List mm_V) z (l1 : mm_V), mm_E d 262 72 [(.inr (.inr z)), l1] [] st n I L P = mm_E d 262 73 [(.inr (.inr z)), l1] [] ((.inr (.inr z)) :: st) n I L P) ∧
  (∀ (lv : List mm_V) (st : List mm_V) a, (mm_ok n a 12) → mm_E d 262 73 lv [] (.inr (.inr (some a)) :: st) n I L P = mm_E d 262 76 lv [] (.inr (.inr (P a 27)) :: st) n I L P) ∧
  (∀ (lv : List mm_V) (st : List mm_V), mm_E d 262 76 lv [] st n I L P = mm_E d 262 78 lv [] (.inl 29 :: st) n I L P) ∧
  (∀ (lv : List mm_V) (st : List mm_V) a i, (mm_ix n a 20 i) → mm_E d 262 78 lv [] (.inl i :: .inr (.inr (some a)) :: st) n I L P = mm_E d 262 79 lv [] (.inl (I a i.toNat) :: st) n I L P) ∧
  (∀ (lv : List mm_V) z, mm_E d 262 79 lv [] [.inl z] n I L P = some (some (.inl z), n, I, L, P)) ∧
  (∀ (st : List mm_V) z (l1 : mm_V), mm_E d 262 80 [(.inr (.inr z)), l1] [] st n I L P = mm_E d 262 81 [(.inr (.inr z)), l1] [] ((.inr (.inr z)) :: st) n I L P) ∧
  (∀ (lv : List mm_V) (st : List mm_V) a, (mm_ok n a 12) → mm_E d 262 81 lv [] (.inr (.inr (some a)) :: st) n I L P = mm_E d 262 84 lv [] (.inl (I a 30) :: st) n I L P) ∧
  (∀ (lv : List mm_V) z, mm_E d 262 84 lv [] [.inl z] n I L P = some (some (.inl z), n, I, L, P)) ∧
  (∀ (st : List mm_V) z (l1 : mm_V), mm_E d 262 85 [(.inr (.inr z)), l1] [] st n I L P = mm_E d 262 86 [(.inr (.inr z)), l1] [] ((.inr (.inr z)) :: st) n I L P) ∧
  (∀ (lv : List mm_V) (st : List mm_V) a, (mm_ok n a 12) → mm_E d 262 86 lv [] (.inr (.inr (some a)) :: st) n I L P = mm_E d 262 89 lv [] (.inl (I a 42) :: st) n I L P) ∧
  (∀ (lv : List mm_V) z, mm_E d 262 89 lv [] [.inl z] n I L P = some (some (.inl z), n, I, L, P)) ∧
  (∀ (st : List mm_V) z (l1 : mm_V), mm_E d 262 90 [(.inr (.inr z)), l1] [] st n I L P = mm_E d 262 91 [(.inr (.inr z)), l1] [] ((.inr (.inr z)) :: st) n I L P) ∧
  (∀ (lv : List mm_V) (st : List mm_V) a, (mm_ok n a 12) → mm_E d 262 91 lv [] (.inr (.inr (some a)) :: st) n I L P = mm_E d 262 94 lv [] (.inr (.inr (P a 27)) :: st) n I L P) ∧
  (∀ (lv : List mm_V) (st : List mm_V), mm_E d 262 94 lv [] st n I L P = mm_E d 262 96 lv [] (.inl 30 :: st) n I L P) ∧
  (∀ (lv : List mm_V) (st : List mm_V) a i, (mm_ix n a 20 i) → mm_E d 262 96 lv [] (.inl i :: .inr (.inr (some a)) :: st) n I L P = mm_E d 262 97 lv [] (.inl (I a i.toNat) :: st) n I L P) ∧
  (∀ (lv : List mm_V) z, mm_E d 262 97 lv [] [.inl z] n I L P = some (some (.inl z), n, I, L, P)) ∧
  (∀ (st : List mm_V) z (l1 : mm_V), mm_E d 262 98 [(.inr (.inr z)), l1] [] st n I L P = mm_E d 262 99 [(.inr (.inr z)), l1] [] ((.inr (.inr z)) :: st) n I L P) ∧
  (∀ (lv : List mm_V) (st : List mm_V) a, (mm_ok n a 12) → mm_E d 262 99 lv [] (.inr (.inr (some a)) :: st) n I L P = mm_E d 262 102 lv [] (.inl (I a 33) :: st) n I L P) ∧
  (∀ (lv : List mm_V) z, mm_E d 262 102 lv [] [.inl z] n I L P = some (some (.inl z), n, I, L, P)) ∧
  (∀ (lv : List mm_V) (st : List mm_V), mm_E d 262 103 lv [] st n I L P = mm_E d 262 106 lv [] (.inl (-1000000) :: st) n I L P) ∧
  (∀ (lv : List mm_V) z, mm_E d 262 106 lv [] [.inl z] n I L P = some (some (.inl z), n, I, L, P)) :=
  ⟨fun _ _ _ => mq_il (i := 1) rfl rfl,
   fun _ _ _ => mq_sw (l := [(0, 52), (1, 57), (2, 62), (3, 67), (4, 72), (5, 80), (6, 85), (7, 90), (8, 98)]) (df := 103) rfl,
   fun _ _ _ => mq_al (i := 0) rfl rfl,
   fun _ _ _ h0 => mq_getI rfl h0,
   fun _ _ => mq_ri rfl,
   fun _ _ _ => mq_al (i := 0) rfl rfl,
   fun _ _ _ h0 => mq_getI rfl h0,
   fun _ _ => mq_ri rfl,
   fun _ _ _ => mq_al (i := 0) rfl rfl,
   fun _ _ _ h0 => mq_getI rfl h0,
   fun _ _ => mq_ri rfl,
   fun _ _ _ => mq_al (i := 0) rfl rfl,
   fun _ _ _ h0 => mq_getI rfl h0,
   fun _ _ => mq_ri rfl,
   fun _ _ _ => mq_al (i := 0) rfl rfl,
   fun _ _ _ h0 => mq_getR rfl h0,
   fun _ _ => mq_push rfl,
   fun _ _ _ _ h0 => mq_iald rfl h0,
   fun _ _ => mq_ri rfl,
   fun _ _ _ => mq_al (i := 0) rfl rfl,
   fun _ _ _ h0 => mq_getI rfl h0,
   fun _ _ => mq_ri rfl,
   fun _ _ _ => mq_al (i := 0) rfl rfl,
   fun _ _ _ h0 => mq_getI rfl h0,
   fun _ _ => mq_ri rfl,
   fun _ _ _ => mq_al (i := 0) rfl rfl,
   fun _ _ _ h0 => mq_getR rfl h0,
   fun _ _ => mq_push rfl,
   fun _ _ _ _ h0 => mq_iald rfl h0,
   fun _ _ => mq_ri rfl,
   fun _ _ _ => mq_al (i := 0) rfl rfl,
   fun _ _ _ h0 => mq_getI rfl h0,
   fun _ _ => mq_ri rfl,
   fun _ _ => mq_push rfl,
   fun _ _ => mq_ri rfl⟩
theorem eX12_count (d n : Nat) (I L : mm_I) (P : mm_P) (x0 : Option Nat) (x1 : Int) : mm_rn (d + 1) 262 [.inr (.inr x0), .inl x1] n I L P = mm_E d 262 0 [.inr (.inr x0), .inl x1] [] [] n I L P := rfl
