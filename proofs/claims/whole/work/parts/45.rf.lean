/-! step rules of each method, printed by program -/
set_option maxRecDepth 20000 in
set_option maxHeartbeats 8000000 in
theorem kL_law_s (d n : Nat) (I L : mm_I) (P : mm_P) :
  (∀ (lv : List mm_V) (st : List mm_V), (n < mm_NC ∧ (mm_ty n).1 = 11) → mm_E d 282 0 lv [] st n I L P = mm_E d 282 3 lv [] (.inr (.inr (some n)) :: st) (n + 1) (mm_zi I n) (mm_zi L n) (mm_zp P n)) ∧
  (∀ (lv : List mm_V) (st : List mm_V) a, mm_E d 282 3 lv [] ((.inr (.inr a)) :: st) n I L P = mm_E d 282 4 lv [] ((.inr (.inr a)) :: (.inr (.inr a)) :: st) n I L P) ∧
  (∀ (lv : List mm_V) a w0, (a < n) → mm_E d 282 4 lv [] (.inr (.inr (some a)) :: [.inr (.inr w0)]) n I L P = mm_kv d 282 7 lv [] [.inr (.inr w0)] n (mm_rn d 83 [.inr (.inr (some a))] n I L P)) ∧
  (∀ (st : List mm_V) z (l0 : mm_V) (l1 : mm_V) (l2 : mm_V) (l3 : mm_V) (l4 : mm_V) (l5 : mm_V) (l6 : mm_V), mm_E d 282 7 [l0, l1, l2, l3, l4, l5, l6] [] ((.inr (.inr z)) :: st) n I L P = mm_E d 282 8 [l0, (.inr (.inr z)), l2, l3, l4, l5, l6] [] st n I L P) ∧
  (∀ (lv : List mm_V) (st : List mm_V), (n < mm_NC ∧ (mm_ty n).1 = 12) → mm_E d 282 8 lv [] st n I L P = mm_E d 282 11 lv [] (.inr (.inr (some n)) :: st) (n + 1) (mm_zi I n) (mm_zi L n) (mm_zp P n)) ∧
  (∀ (lv : List mm_V) (st : List mm_V) a, mm_E d 282 11 lv [] ((.inr (.inr a)) :: st) n I L P = mm_E d 282 12 lv [] ((.inr (.inr a)) :: (.inr (.inr a)) :: st) n I L P) ∧
  (∀ (lv : List mm_V) a w0, (a < n) → mm_E d 282 12 lv [] (.inr (.inr (some a)) :: [.inr (.inr w0)]) n I L P = mm_kv d 282 15 lv [] [.inr (.inr w0)] n (mm_rn d 147 [.inr (.inr (some a))] n I L P)) ∧
  (∀ (st : List mm_V) z (l0 : mm_V) (l1 : mm_V) (l2 : mm_V) (l3 : mm_V) (l4 : mm_V) (l5 : mm_V) (l6 : mm_V), mm_E d 282 15 [l0, l1, l2, l3, l4, l5, l6] [] ((.inr (.inr z)) :: st) n I L P = mm_E d 282 16 [l0, l1, (.inr (.inr z)), l3, l4, l5, l6] [] st n I L P) ∧
  (∀ (lv : List mm_V) (st : List mm_V), mm_E d 282 16 lv [] st n I L P = mm_E d 282 17 lv [] (.inl 1 :: st) n I L P) ∧
  (∀ (lv : List mm_V) (st : List mm_V) z, (n < mm_NC ∧ mm_ty n = (22, z.toNat) ∧ 0 ≤ z) → mm_E d 282 17 lv [] (.inl z :: st) n I L P = mm_E d 282 19 lv [] (.inr (.inr (some n)) :: st) (n + 1) (mm_zi I n) (mm_zi L n) (mm_zp P n)) ∧
  (∀ (st : List mm_V) z (l0 : mm_V) (l1 : mm_V) (l2 : mm_V) (l3 : mm_V) (l4 : mm_V) (l5 : mm_V) (l6 : mm_V), mm_E d 282 19 [l0, l1, l2, l3, l4, l5, l6] [] ((.inr (.inr z)) :: st) n I L P = mm_E d 282 20 [l0, l1, l2, (.inr (.inr z)), l4, l5, l6] [] st n I L P) ∧
  (∀ (lv : List mm_V) (st : List mm_V), mm_E d 282 20 lv [] st n I L P = mm_E d 282 21 lv [] (.inl 0 :: st) n I L P) ∧
  (∀ (st : List mm_V) z (l0 : mm_V) (l1 : mm_V) (l2 : mm_V) (l3 : mm_V) (l4 : mm_V) (l5 : mm_V) (l6 : mm_V), mm_E d 282 21 [l0, l1, l2, l3, l4, l5, l6] [] ((.inl z) :: st) n I L P = mm_E d 282 23 [l0, l1, l2, l3, (.inl z), l5, l6] [] st n I L P) ∧
  (∀ (st : List mm_V) z (l1 : mm_V) (l2 : mm_V) (l3 : mm_V) (l4 : mm_V) (l5 : mm_V) (l6 : mm_V), mm_E d 282 25 [(.inr (.inr z)), l1, l2, l3, l4, l5, l6] [] st n I L P = mm_E d 282 26 [(.inr (.inr z)), l1, l2, l3, l4, l5, l6] [] ((.inr (.inr z)) :: st) n I L P) ∧
  (∀ (lv : List mm_V) (st : List mm_V), mm_E d 282 26 lv [] (.inr (.inr (some 1000006)) :: st) n I L P = mm_E d 282 27 lv [] (.inl (I 1000006 5000) :: st) n I L P) ∧
  (∀ (lv : List mm_V) (st : List mm_V), mm_E d 282 27 lv [] st n I L P = mm_E d 282 29 lv [] (.inl 6 :: st) n I L P) ∧
  (∀ (lv : List mm_V) (st : List mm_V) a b, mm_E d 282 29 lv [] (.inl b :: .inl a :: st) n I L P = mm_E d 282 30 lv [] (.inl (mm_sub a b) :: st) n I L P) ∧
  (∀ (lv : List mm_V) (st : List mm_V) a b, mm_E d 282 30 lv [] (.inl b :: .inl a :: st) n I L P = if b < a then mm_E d 282 1500 lv [] st n I L P else mm_E d 282 33 lv [] st n I L P) ∧
  (∀ (st : List mm_V) z (l1 : mm_V) (l2 : mm_V) (l3 : mm_V) (l4 : mm_V) (l5 : mm_V) (l6 : mm_V), mm_E d 282 33 [(.inr (.inr z)), l1, l2, l3, l4, l5, l6] [] st n I L P = mm_E d 282 34 [(.inr (.inr z)), l1, l2, l3, l4, l5, l6] [] ((.inr (.inr z)) :: st) n I L P) ∧
  (∀ (st : List mm_V) z (l0 : mm_V) (l1 : mm_V) (l2 : mm_V) (l3 : mm_V) (l5 : mm_V) (l6 : mm_V), mm_E d 282 34 [l0, l1, l2, l3, (.inl z), l5, l6] [] st n I L P = mm_E d 282 36 [l0, l1, l2, l3, (.inl z), l5, l6] [] ((.inl z) :: st) n I L P) ∧
  (∀ (lv : List mm_V) (st : List mm_V) i, (0 ≤ i ∧ i < I 1000006 5000) → mm_E d 282 36 lv [] (.inl i :: .inr (.inr (some 1000006)) :: st) n I L P = mm_E d 282 37 lv [] (.inl (I 1000006 i.toNat) :: st) n I L P) ∧
  (∀ (lv : List mm_V) (st : List mm_V), mm_E d 282 37 lv [] st n I L P = mm_E d 282 39 lv [] (.inl 63 :: st) n I L P) ∧
  (∀ (lv : List mm_V) (st : List mm_V) a b, mm_E d 282 39 lv [] (.inl b :: .inl a :: st) n I L P = mm_E d 282 40 lv [] (.inl (mm_and a b) :: st) n I L P) ∧
  (∀ (lv : List mm_V) (st : List mm_V) a, mm_E d 282 40 lv [] (.inl a :: st) n I L P = if a = 0 then mm_E d 282 212 lv [] st n I L P else if a = 1 then mm_E d 282 285 lv [] st n I L P else if a = 2 then mm_E d 282 310 lv [] st n I L P else if a = 3 then mm_E d 282 335 lv [] st n I L P else if a = 4 then mm_E d 282 360 lv [] st n I L P else if a = 5 then mm_E d 282 385 lv [] st n I L P else if a = 6 then mm_E d 282 453 lv [] st n I L P else if a = 7 then mm_E d 282 490 lv [] st n I L P else if a = 8 then mm_E d 282 515 lv [] st n I L P else if a = 9 then mm_E d 282 540 lv [] st n I L P else if a = 10 then mm_E d 282 565 lv [] st n I L P else if a = 11 then mm_E d 282 590 lv [] st n I L P else if a = 12 then mm_E d 282 603 lv [] st n I L P else if a = 13 then mm_E d 282 616 lv [] st n I L P else if a = 14 then mm_E d 282 629 lv [] st n I L P else if a = 15 then mm_E d 282 678 lv [] st n I L P else if a = 16 then mm_E d 282 703 lv [] st n I L P else if a = 17 then mm_E d 282 772 lv [] st n I L P else if a = 18 then mm_E d 282 797 lv [] st n I L P else if a = 19 then mm_E d 282 810 lv [] st n I L P else if a = 20 then mm_E d 282 847 lv [] st n I L P else if a = 21 then mm_E d 282 872 lv [] st n I L P else if a = 22 then mm_E d 282 909 lv [] st n I L P else if a = 23 then mm_E d 282 934 lv [] st n I L P else if a = 24 then mm_E d 282 971 lv [] st n I L P else if a = 25 then mm_E d 282 984 lv [] st n I L P else if a = 26 then mm_E d 282 1021 lv [] st n I L P else if a = 27 then mm_E d 282 1058 lv [] st n I L P else if a = 28 then mm_E d 282 1071 lv [] st n I L P else if a = 29 then mm_E d 282 1148 lv [] st n I L P else if a = 30 then mm_E d 282 1173 lv [] st n I L P else if a = 31 then mm_E d 282 1198 lv [] st n I L P else if a = 32 then mm_E d 282 1271 lv [] st n I L P else if a = 33 then mm_E d 282 1320 lv [] st n I L P else if a = 34 then mm_E d 282 1381 lv [] st n I L P else if a = 35 then mm_E d 282 1418 lv [] st n I L P else if a = 36 then mm_E d 282 1443 lv [] st n I L P else if a = 37 then mm_E d 282 1456 lv [] st n I L P else if a = 38 then mm_E d 282 1469 lv [] st n I L P else mm_E d 282 1494 lv [] st n I L P) :=
  ⟨fun _ _ h0 => mq_new rfl h0,
   fun _ _ _ => mq_dup rfl rfl,
   fun _ _ _ h0 => mq_cI (na := 0) rfl rfl (Nat.le_of_ble_eq_true rfl) (Nat.le_of_ble_eq_true rfl) h0,
   fun _ _ _ _ _ _ _ _ _ => mq_as (i := 1) rfl rfl rfl,
   fun _ _ h0 => mq_new rfl h0,
   fun _ _ _ => mq_dup rfl rfl,
   fun _ _ _ h0 => mq_cI (na := 0) rfl rfl (Nat.le_of_ble_eq_true rfl) (Nat.le_of_ble_eq_true rfl) h0,
   fun _ _ _ _ _ _ _ _ _ => mq_as (i := 2) rfl rfl rfl,
   fun _ _ => mq_push rfl,
   fun _ _ _ h0 => mq_newa rfl h0,
   fun _ _ _ _ _ _ _ _ _ => mq_as (i := 3) rfl rfl rfl,
   fun _ _ => mq_push rfl,
   fun _ _ _ _ _ _ _ _ _ => mq_is (i := 4) rfl rfl rfl,
   fun _ _ _ _ _ _ _ _ => mq_al (i := 0) rfl rfl,
   fun _ _ => mq_xlen rfl,
   fun _ _ => mq_push rfl,
   fun _ _ _ _ => mq_bi rfl,
   fun _ _ _ _ => mq_ic_gt rfl,
   fun _ _ _ _ _ _ _ _ => mq_al (i := 0) rfl rfl,
   fun _ _ _ _ _ _ _ _ => mq_il (i := 4) rfl rfl,
   fun _ _ _ h0 => mq_xald rfl h0,
   fun _ _ => mq_push rfl,
   fun _ _ _ _ => mq_bi rfl,
   fun _ _ _ => mq_sw (l := [(0, 212), (1, 285), (2, 310), (3, 335), (4, 360), (5, 385), (6, 453), (7, 490), (8, 515), (9, 540), (10, 565), (11, 590), (12, 603), (13, 616), (14, 629), (15, 678), (16, 703), (17, 772), (18, 797), (19, 810), (20, 847), (21, 872), (22, 909), (23, 934), (24, 971), (25, 984), (26, 1021), (27, 1058), (28, 1071), (29, 1148), (30, 1173), (31, 1198), (32, 1271), (33, 1320), (34, 1381), (35, 1418), (36, 1443), (37, 1456), (38, 1469)]) (df := 1494) rfl⟩
set_option maxRecDepth 20000 in
set_option maxHeartbeats 8000000 in
theorem kL_law_0 (d n : Nat) (I L : mm_I) (P : mm_P) :
  (∀ (st : List mm_V) z (l0 : mm_V) (l2 : mm_V) (l3 : mm_V) (l4 : mm_V) (l5 : mm_V) (l6 : mm_V), mm_E d 282 212 [l0, (.inr (.inr z)), l2, l3, l4, l5, l6] [] st n I L P = mm_E d 282 213 [l0, (.inr (.inr z)), l2, l3, l4, l5, l6] [] ((.inr (.inr z)) :: st) n I L P) ∧
  (∀ (st : List mm_V) z (l1 : mm_V) (l2 : mm_V) (l3 : mm_V) (l4 : mm_V) (l5 : mm_V) (l6 : mm_V), mm_E d 282 213 [(.inr (.inr z)), l1, l2, l3, l4, l5, l6] [] st n I L P = mm_E d 282 214 [(.inr (.inr z)), l1, l2, l3, l4, l5, l6] [] ((.inr (.inr z)) :: st) n I L P) ∧
  (∀ (st : List mm_V) z (l0 : mm_V) (l1 : mm_V) (l2 : mm_V) (l3 : mm_V) (l5 : mm_V) (l6 : mm_V), mm_E d 282 214 [l0, l1, l2, l3, (.inl z), l5, l6] [] st n I L P = mm_E d 282 216 [l0, l1, l2, l3, (.inl z), l5, l6] [] ((.inl z) :: st) n I L P) ∧
  (∀ (lv : List mm_V) (st : List mm_V), mm_E d 282 216 lv [] st n I L P = mm_E d 282 217 lv [] (.inl 1 :: st) n I L P) ∧
  (∀ (lv : List mm_V) (st : List mm_V) a b, mm_E d 282 217 lv [] (.inl b :: .inl a :: st) n I L P = mm_E d 282 218 lv [] (.inl (mm_add a b) :: st) n I L P) ∧
  (∀ (lv : List mm_V) (st : List mm_V) i, (0 ≤ i ∧ i < I 1000006 5000) → mm_E d 282 218 lv [] (.inl i :: .inr (.inr (some 1000006)) :: st) n I L P = mm_E d 282 219 lv [] (.inl (I 1000006 i.toNat) :: st) n I L P) ∧
  (∀ (st : List mm_V) z (l1 : mm_V) (l2 : mm_V) (l3 : mm_V) (l4 : mm_V) (l5 : mm_V) (l6 : mm_V), mm_E d 282 219 [(.inr (.inr z)), l1, l2, l3, l4, l5, l6] [] st n I L P = mm_E d 282 220 [(.inr (.inr z)), l1, l2, l3, l4, l5, l6] [] ((.inr (.inr z)) :: st) n I L P) ∧
  (∀ (st : List mm_V) z (l0 : mm_V) (l1 : mm_V) (l2 : mm_V) (l3 : mm_V) (l5 : mm_V) (l6 : mm_V), mm_E d 282 220 [l0, l1, l2, l3, (.inl z), l5, l6] [] st n I L P = mm_E d 282 222 [l0, l1, l2, l3, (.inl z), l5, l6] [] ((.inl z) :: st) n I L P) ∧
  (∀ (lv : List mm_V) (st : List mm_V), mm_E d 282 222 lv [] st n I L P = mm_E d 282 223 lv [] (.inl 2 :: st) n I L P) ∧
  (∀ (lv : List mm_V) (st : List mm_V) a b, mm_E d 282 223 lv [] (.inl b :: .inl a :: st) n I L P = mm_E d 282 224 lv [] (.inl (mm_add a b) :: st) n I L P) ∧
  (∀ (lv : List mm_V) (st : List mm_V) i, (0 ≤ i ∧ i < I 1000006 5000) → mm_E d 282 224 lv [] (.inl i :: .inr (.inr (some 1000006)) :: st) n I L P = mm_E d 282 225 lv [] (.inl (I 1000006 i.toNat) :: st) n I L P) ∧
  (∀ (st : List mm_V) z (l1 : mm_V) (l2 : mm_V) (l3 : mm_V) (l4 : mm_V) (l5 : mm_V) (l6 : mm_V), mm_E d 282 225 [(.inr (.inr z)), l1, l2, l3, l4, l5, l6] [] st n I L P = mm_E d 282 226 [(.inr (.inr z)), l1, l2, l3, l4, l5, l6] [] ((.inr (.inr z)) :: st) n I L P) ∧
  (∀ (st : List mm_V) z (l0 : mm_V) (l1 : mm_V) (l2 : mm_V) (l3 : mm_V) (l5 : mm_V) (l6 : mm_V), mm_E d 282 226 [l0, l1, l2, l3, (.inl z), l5, l6] [] st n I L P = mm_E d 282 228 [l0, l1, l2, l3, (.inl z), l5, l6] [] ((.inl z) :: st) n I L P) ∧
  (∀ (lv : List mm_V) (st : List mm_V), mm_E d 282 228 lv [] st n I L P = mm_E d 282 229 lv [] (.inl 3 :: st) n I L P) ∧
  (∀ (lv : List mm_V) (st : List mm_V) a b, mm_E d 282 229 lv [] (.inl b :: .inl a :: st) n I L P = mm_E d 282 230 lv [] (.inl (mm_add a b) :: st) n I L P) ∧
  (∀ (lv : List mm_V) (st : List mm_V) i, (0 ≤ i ∧ i < I 1000006 5000) → mm_E d 282 230 lv [] (.inl i :: .inr (.inr (some 1000006)) :: st) n I L P = mm_E d 282 231 lv [] (.inl (I 1000006 i.toNat) :: st) n I L P) ∧
  (∀ (st : List mm_V) z (l1 : mm_V) (l2 : mm_V) (l3 : mm_V) (l4 : mm_V) (l5 : mm_V) (l6 : mm_V), mm_E d 282 231 [(.inr (.inr z)), l1, l2, l3, l4, l5, l6] [] st n I L P = mm_E d 282 232 [(.inr (.inr z)), l1, l2, l3, l4, l5, l6] [] ((.inr (.inr z)) :: st) n I L P) ∧
  (∀ (st : List mm_V) z (l0 : mm_V) (l1 : mm_V) (l2 : mm_V) (l3 : mm_V) (l5 : mm_V) (l6 : mm_V), mm_E d 282 232 [l0, l1, l2, l3, (.inl z), l5, l6] [] st n I L P = mm_E d 282 234 [l0, l1, l2, l3, (.inl z), l5, l6] [] ((.inl z) :: st) n I L P) ∧
  (∀ (lv : List mm_V) (st : List mm_V), mm_E d 282 234 lv [] st n I L P = mm_E d 282 235 lv [] (.inl 4 :: st) n I L P) ∧
  (∀ (lv : List mm_V) (st : List mm_V) a b, mm_E d 282 235 lv [] (.inl b :: .inl a :: st) n I L P = mm_E d 282 236 lv [] (.inl (mm_add a b) :: st) n I L P) ∧
  (∀ (lv : List mm_V) (st : List mm_V) i, (0 ≤ i ∧ i < I 1000006 5000) → mm_E d 282 236 lv [] (.inl i :: .inr (.inr (some 1000006)) :: st) n I L P = mm_E d 282 237 lv [] (.inl (I 1000006 i.toNat) :: st) n I L P) ∧
  (∀ (st : List mm_V) z (l1 : mm_V) (l2 : mm_V) (l3 : mm_V) (l4 : mm_V) (l5 : mm_V) (l6 : mm_V), mm_E d 282 237 [(.inr (.inr z)), l1, l2, l3, l4, l5, l6] [] st n I L P = mm_E d 282 238 [(.inr (.inr z)), l1, l2, l3, l4, l5, l6] [] ((.inr (.inr z)) :: st) n I L P) ∧
  (∀ (st : List mm_V) z (l0 : mm_V) (l1 : mm_V) (l2 : mm_V) (l3 : mm_V) (l5 : mm_V) (l6 : mm_V), mm_E d 282 238 [l0, l1, l2, l3, (.inl z), l5, l6] [] st n I L P = mm_E d 282 240 [l0, l1, l2, l3, (.inl z), l5, l6] [] ((.inl z) :: st) n I L P) ∧
  (∀ (lv : List mm_V) (st : List mm_V), mm_E d 282 240 lv [] st n I L P = mm_E d 282 241 lv [] (.inl 5 :: st) n I L P) ∧
  (∀ (lv : List mm_V) (st : List mm_V) a b, mm_E d 282 241 lv [] (.inl b :: .inl a :: st) n I L P = mm_E d 282 242 lv [] (.inl (mm_add a b) :: st) n I L P) ∧
  (∀ (lv : List mm_V) (st : List mm_V) i, (0 ≤ i ∧ i < I 1000006 5000) → mm_E d 282 242 lv [] (.inl i :: .inr (.inr (some 1000006)) :: st) n I L P = mm_E d 282 243 lv [] (.inl (I 1000006 i.toNat) :: st) n I L P) ∧
  (∀ (lv : List mm_V) a x0 x1 x2 x3 x4, (mm_ok n a 11) → mm_E d 282 243 lv [] (.inl x4 :: .inl x3 :: .inl x2 :: .inl x1 :: .inl x0 :: .inr (.inr (some a)) :: []) n I L P = mm_kr d 282 246 lv [] [] n (mm_rn d 84 [.inr (.inr (some a)), .inl x0, .inl x1, .inl x2, .inl x3, .inl x4] n I L P)) ∧
  (∀ (st : List mm_V) z (l0 : mm_V) (l1 : mm_V) (l3 : mm_V) (l4 : mm_V) (l5 : mm_V) (l6 : mm_V), mm_E d 282 246 [l0, l1, (.inr (.inr z)), l3, l4, l5, l6] [] st n I L P = mm_E d 282 247 [l0, l1, (.inr (.inr z)), l3, l4, l5, l6] [] ((.inr (.inr z)) :: st) n I L P) ∧
  (∀ (st : List mm_V) z (l1 : mm_V) (l2 : mm_V) (l3 : mm_V) (l4 : mm_V) (l5 : mm_V) (l6 : mm_V), mm_E d 282 247 [(.inr (.inr z)), l1, l2, l3, l4, l5, l6] [] st n I L P = mm_E d 282 248 [(.inr (.inr z)), l1, l2, l3, l4, l5, l6] [] ((.inr (.inr z)) :: st) n I L P) ∧
  (∀ (st : List mm_V) z (l0 : mm_V) (l1 : mm_V) (l2 : mm_V) (l3 : mm_V) (l5 : mm_V) (l6 : mm_V), mm_E d 282 248 [l0, l1, l2, l3, (.inl z), l5, l6] [] st n I L P = mm_E d 282 250 [l0, l1, l2, l3, (.inl z), l5, l6] [] ((.inl z) :: st) n I L P) ∧
  (∀ (lv : List mm_V) (st : List mm_V), mm_E d 282 250 lv [] st n I L P = mm_E d 282 251 lv [] (.inl 1 :: st) n I L P) ∧
  (∀ (lv : List mm_V) (st : List mm_V) a b, mm_E d 282 251 lv [] (.inl b :: .inl a :: st) n I L P = mm_E d 282 252 lv [] (.inl (mm_add a b) :: st) n I L P) ∧
  (∀ (lv : List mm_V) (st : List mm_V) i, (0 ≤ i ∧ i < I 1000006 5000) → mm_E d 282 252 lv [] (.inl i :: .inr (.inr (some 1000006)) :: st) n I L P = mm_E d 282 253 lv [] (.inl (I 1000006 i.toNat) :: st) n I L P) ∧
  (∀ (st : List mm_V) z (l1 : mm_V) (l2 : mm_V) (l3 : mm_V) (l4 : mm_V) (l5 : mm_V) (l6 : mm_V), mm_E d 282 253 [(.inr (.inr z)), l1, l2, l3, l4, l5, l6] [] st n I L P = mm_E d 282 254 [(.inr (.inr z)), l1, l2, l3, l4, l5, l6] [] ((.inr (.inr z)) :: st) n I L P) ∧
  (∀ (st : List mm_V) z (l0 : mm_V) (l1 : mm_V) (l2 : mm_V) (l3 : mm_V) (l5 : mm_V) (l6 : mm_V), mm_E d 282 254 [l0, l1, l2, l3, (.inl z), l5, l6] [] st n I L P = mm_E d 282 256 [l0, l1, l2, l3, (.inl z), l5, l6] [] ((.inl z) :: st) n I L P) ∧
  (∀ (lv : List mm_V) (st : List mm_V), mm_E d 282 256 lv [] st n I L P = mm_E d 282 257 lv [] (.inl 2 :: st) n I L P) ∧
  (∀ (lv : List mm_V) (st : List mm_V) a b, mm_E d 282 257 lv [] (.inl b :: .inl a :: st) n I L P = mm_E d 282 258 lv [] (.inl (mm_add a b) :: st) n I L P) ∧
  (∀ (lv : List mm_V) (st : List mm_V) i, (0 ≤ i ∧ i < I 1000006 5000) → mm_E d 282 258 lv [] (.inl i :: .inr (.inr (some 1000006)) :: st) n I L P = mm_E d 282 259 lv [] (.inl (I 1000006 i.toNat) :: st) n I L P) ∧
  (∀ (st : List mm_V) z (l1 : mm_V) (l2 : mm_V) (l3 : mm_V) (l4 : mm_V) (l5 : mm_V) (l6 : mm_V), mm_E d 282 259 [(.inr (.inr z)), l1, l2, l3, l4, l5, l6] [] st n I L P = mm_E d 282 260 [(.inr (.inr z)), l1, l2, l3, l4, l5, l6] [] ((.inr (.inr z)) :: st) n I L P) ∧
  (∀ (st : List mm_V) z (l0 : mm_V) (l1 : mm_V) (l2 : mm_V) (l3 : mm_V) (l5 : mm_V) (l6 : mm_V), mm_E d 282 260 [l0, l1, l2, l3, (.inl z), l5, l6] [] st n I L P = mm_E d 282 262 [l0, l1, l2, l3, (.inl z), l5, l6] [] ((.inl z) :: st) n I L P) ∧
  (∀ (lv : List mm_V) (st : List mm_V), mm_E d 282 262 lv [] st n I L P = mm_E d 282 263 lv [] (.inl 3 :: st) n I L P) ∧
  (∀ (lv : List mm_V) (st : List mm_V) a b, mm_E d 282 263 lv [] (.inl b :: .inl a :: st) n I L P = mm_E d 282 264 lv [] (.inl (mm_add a b) :: st) n I L P) ∧
  (∀ (lv : List mm_V) (st : List mm_V) i, (0 ≤ i ∧ i < I 1000006 5000) → mm_E d 282 264 lv [] (.inl i :: .inr (.inr (some 1000006)) :: st) n I L P = mm_E d 282 265 lv [] (.inl (I 1000006 i.toNat) :: st) n I L P) ∧
  (∀ (st : List mm_V) z (l1 : mm_V) (l2 : mm_V) (l3 : mm_V) (l4 : mm_V) (l5 : mm_V) (l6 : mm_V), mm_E d 282 265 [(.inr (.inr z)), l1, l2, l3, l4, l5, l6] [] st n I L P = mm_E d 282 266 [(.inr (.inr z)), l1, l2, l3, l4, l5, l6] [] ((.inr (.inr z)) :: st) n I L P) ∧
  (∀ (st : List mm_V) z (l0 : mm_V) (l1 : mm_V) (l2 : mm_V) (l3 : mm_V) (l5 : mm_V) (l6 : mm_V), mm_E d 282 266 [l0, l1, l2, l3, (.inl z), l5, l6] [] st n I L P = mm_E d 282 268 [l0, l1, l2, l3, (.inl z), l5, l6] [] ((.inl z) :: st) n I L P) ∧
  (∀ (lv : List mm_V) (st : List mm_V), mm_E d 282 268 lv [] st n I L P = mm_E d 282 269 lv [] (.inl 4 :: st) n I L P) ∧
  (∀ (lv : List mm_V) (st : List mm_V) a b, mm_E d 282 269 lv [] (.inl b :: .inl a :: st) n I L P = mm_E d 282 270 lv [] (.inl (mm_add a b) :: st) n I L P) ∧
  (∀ (lv : List mm_V) (st : List mm_V) i, (0 ≤ i ∧ i < I 1000006 5000) → mm_E d 282 270 lv [] (.inl i :: .inr (.inr (some 1000006)) :: st) n I L P = mm_E d 282 271 lv [] (.inl (I 1000006 i.toNat) :: st) n I L P) ∧
  (∀ (st : List mm_V) z (l1 : mm_V) (l2 : mm_V) (l3 : mm_V) (l4 : mm_V) (l5 : mm_V) (l6 : mm_V), mm_E d 282 271 [(.inr (.inr z)), l1, l2, l3, l4, l5, l6] [] st n I L P = mm_E d 282 272 [(.inr (.inr z)), l1, l2, l3, l4, l5, l6] [] ((.inr (.inr z)) :: st) n I L P) ∧
  (∀ (st : List mm_V) z (l0 : mm_V) (l1 : mm_V) (l2 : mm_V) (l3 : mm_V) (l5 : mm_V) (l6 : mm_V), mm_E d 282 272 [l0, l1, l2, l3, (.inl z), l5, l6] [] st n I L P = mm_E d 282 274 [l0, l1, l2, l3, (.inl z), l5, l6] [] ((.inl z) :: st) n I L P) ∧
  (∀ (lv : List mm_V) (st : List mm_V), mm_E d 282 274 lv [] st n I L P = mm_E d 282 275 lv [] (.inl 5 :: st) n I L P) ∧
  (∀ (lv : List mm_V) (st : List mm_V) a b, mm_E d 282 275 lv [] (.inl b :: .inl a :: st) n I L P = mm_E d 282 276 lv [] (.inl (mm_add a b) :: st) n I L P) ∧
  (∀ (lv : List mm_V) (st : List mm_V) i, (0 ≤ i ∧ i < I 1000006 5000) → mm_E d 282 276 lv [] (.inl i :: .inr (.inr (some 1000006)) :: st) n I L P = mm_E d 282 277 lv [] (.inl (I 1000006 i.toNat) :: st) n I L P) ∧
  (∀ (lv : List mm_V) a x0 x1 x2 x3 x4 w0, (mm_ok n a 12) → mm_E d 282 277 lv [] (.inl x4 :: .inl x3 :: .inl x2 :: .inl x1 :: .inl x0 :: .inr (.inr (some a)) :: [.inl w0]) n I L P = mm_kr d 282 280 lv [] [.inl w0] n (mm_rn d 150 [.inr (.inr (some a)), .inl x0, .inl x1, .inl x2, .inl x3, .inl x4] n I L P)) ∧
  (∀ (lv : List mm_V) (st : List mm_V) a b, mm_E d 282 280 lv [] (.inl b :: .inl a :: st) n I L P = if a = b then mm_E d 282 1494 lv [] st n I L P else mm_E d 282 283 lv [] st n I L P) ∧
  (∀ (lv : List mm_V) (st : List mm_V), mm_E d 282 283 lv [] st n I L P = mm_E d 282 284 lv [] (.inl 0 :: st) n I L P) ∧
  (∀ (lv : List mm_V) z, (0 ≤ z ∧ z < 2) → mm_E d 282 284 lv [] [.inl z] n I L P = some (some (.inl z), n, I, L, P)) :=
  ⟨fun _ _ _ _ _ _ _ _ => mq_al (i := 1) rfl rfl,
   fun _ _ _ _ _ _ _ _ => mq_al (i := 0) rfl rfl,
   fun _ _ _ _ _ _ _ _ => mq_il (i := 4) rfl rfl,
   fun _ _ => mq_push rfl,
   fun _ _ _ _ => mq_bi rfl,
   fun _ _ _ h0 => mq_xald rfl h0,
   fun _ _ _ _ _ _ _ _ => mq_al (i := 0) rfl rfl,
   fun _ _ _ _ _ _ _ _ => mq_il (i := 4) rfl rfl,
   fun _ _ => mq_push rfl,
   fun _ _ _ _ => mq_bi rfl,
   fun _ _ _ h0 => mq_xald rfl h0,
   fun _ _ _ _ _ _ _ _ => mq_al (i := 0) rfl rfl,
   fun _ _ _ _ _ _ _ _ => mq_il (i := 4) rfl rfl,
   fun _ _ => mq_push rfl,
   fun _ _ _ _ => mq_bi rfl,
   fun _ _ _ h0 => mq_xald rfl h0,
   fun _ _ _ _ _ _ _ _ => mq_al (i := 0) rfl rfl,
   fun _ _ _ _ _ _ _ _ => mq_il (i := 4) rfl rfl,
   fun _ _ => mq_push rfl,
   fun _ _ _ _ => mq_bi rfl,
   fun _ _ _ h0 => mq_xald rfl h0,
   fun _ _ _ _ _ _ _ _ => mq_al (i := 0) rfl rfl,
   fun _ _ _ _ _ _ _ _ => mq_il (i := 4) rfl rfl,
   fun _ _ => mq_push rfl,
   fun _ _ _ _ => mq_bi rfl,
   fun _ _ _ h0 => mq_xald rfl h0,
   fun _ _ _ _ _ _ _ h0 => mq_cVr (na := 5) rfl rfl (Nat.le_of_ble_eq_true rfl) (Nat.le_of_ble_eq_true rfl) h0,
   fun _ _ _ _ _ _ _ _ => mq_al (i := 2) rfl rfl,
   fun _ _ _ _ _ _ _ _ => mq_al (i := 0) rfl rfl,
   fun _ _ _ _ _ _ _ _ => mq_il (i := 4) rfl rfl,
   fun _ _ => mq_push rfl,
   fun _ _ _ _ => mq_bi rfl,
   fun _ _ _ h0 => mq_xald rfl h0,
   fun _ _ _ _ _ _ _ _ => mq_al (i := 0) rfl rfl,
   fun _ _ _ _ _ _ _ _ => mq_il (i := 4) rfl rfl,
   fun _ _ => mq_push rfl,
   fun _ _ _ _ => mq_bi rfl,
   fun _ _ _ h0 => mq_xald rfl h0,
   fun _ _ _ _ _ _ _ _ => mq_al (i := 0) rfl rfl,
   fun _ _ _ _ _ _ _ _ => mq_il (i := 4) rfl rfl,
   fun _ _ => mq_push rfl,
   fun _ _ _ _ => mq_bi rfl,
   fun _ _ _ h0 => mq_xald rfl h0,
   fun _ _ _ _ _ _ _ _ => mq_al (i := 0) rfl rfl,
   fun _ _ _ _ _ _ _ _ => mq_il (i := 4) rfl rfl,
   fun _ _ => mq_push rfl,
   fun _ _ _ _ => mq_bi rfl,
   fun _ _ _ h0 => mq_xald rfl h0,
   fun _ _ _ _ _ _ _ _ => mq_al (i := 0) rfl rfl,
   fun _ _ _ _ _ _ _ _ => mq_il (i := 4) rfl rfl,
   fun _ _ => mq_push rfl,
   fun _ _ _ _ => mq_bi rfl,
   fun _ _ _ h0 => mq_xald rfl h0,
   fun _ _ _ _ _ _ _ _ h0 => mq_cVr (na := 5) rfl rfl (Nat.le_of_ble_eq_true rfl) (Nat.le_of_ble_eq_true rfl) h0,
   fun _ _ _ _ => mq_ic_eq rfl,
   fun _ _ => mq_push rfl,
   fun _ _ h0 => mq_rz rfl h0⟩
set_option maxRecDepth 20000 in
set_option maxHeartbeats 8000000 in
theorem kL_law_1 (d n : Nat) (I L : mm_I) (P : mm_P) :
  (∀ (st : List mm_V) z (l0 : mm_V) (l2 : mm_V) (l3 : mm_V) (l4 : mm_V) (l5 : mm_V) (l6 : mm_V), mm_E d 282 285 [l0, (.inr (.inr z)), l2, l3, l4, l5, l6] [] st n I L P = mm_E d 282 286 [l0, (.inr (.inr z)), l2, l3, l4, l5, l6] [] ((.inr (.inr z)) :: st) n I L P) ∧
  (∀ (st : List mm_V) z (l1 : mm_V) (l2 : mm_V) (l3 : mm_V) (l4 : mm_V) (l5 : mm_V) (l6 : mm_V), mm_E d 282 286 [(.inr (.inr z)), l1, l2, l3, l4, l5, l6] [] st n I L P = mm_E d 282 287 [(.inr (.inr z)), l1, l2, l3, l4, l5, l6] [] ((.inr (.inr z)) :: st) n I L P) ∧
  (∀ (st : List mm_V) z (l0 : mm_V) (l1 : mm_V) (l2 : mm_V) (l3 : mm_V) (l5 : mm_V) (l6 : mm_V), mm_E d 282 287 [l0, l1, l2, l3, (.inl z), l5, l6] [] st n I L P = mm_E d 282 289 [l0, l1, l2, l3, (.inl z), l5, l6] [] ((.inl z) :: st) n I L P) ∧
  (∀ (lv : List mm_V) (st : List mm_V), mm_E d 282 289 lv [] st n I L P = mm_E d 282 290 lv [] (.inl 1 :: st) n I L P) ∧
  (∀ (lv : List mm_V) (st : List mm_V) a b, mm_E d 282 290 lv [] (.inl b :: .inl a :: st) n I L P = mm_E d 282 291 lv [] (.inl (mm_add a b) :: st) n I L P) ∧
  (∀ (lv : List mm_V) (st : List mm_V) i, (0 ≤ i ∧ i < I 1000006 5000) → mm_E d 282 291 lv [] (.inl i :: .inr (.inr (some 1000006)) :: st) n I L P = mm_E d 282 292 lv [] (.inl (I 1000006 i.toNat) :: st) n I L P) ∧
  (∀ (lv : List mm_V) a x0, (mm_ok n a 11) → mm_E d 282 292 lv [] (.inl x0 :: .inr (.inr (some a)) :: []) n I L P = mm_kr d 282 295 lv [] [] n (mm_rn d 86 [.inr (.inr (some a)), .inl x0] n I L P)) ∧
  (∀ (st : List mm_V) z (l0 : mm_V) (l1 : mm_V) (l3 : mm_V) (l4 : mm_V) (l5 : mm_V) (l6 : mm_V), mm_E d 282 295 [l0, l1, (.inr (.inr z)), l3, l4, l5, l6] [] st n I L P = mm_E d 282 296 [l0, l1, (.inr (.inr z)), l3, l4, l5, l6] [] ((.inr (.inr z)) :: st) n I L P) ∧
  (∀ (st : List mm_V) z (l1 : mm_V) (l2 : mm_V) (l3 : mm_V) (l4 : mm_V) (l5 : mm_V) (l6 : mm_V), mm_E d 282 296 [(.inr (.inr z)), l1, l2, l3, l4, l5, l6] [] st n I L P = mm_E d 282 297 [(.inr (.inr z)), l1, l2, l3, l4, l5, l6] [] ((.inr (.inr z)) :: st) n I L P) ∧
  (∀ (st : List mm_V) z (l0 : mm_V) (l1 : mm_V) (l2 : mm_V) (l3 : mm_V) (l5 : mm_V) (l6 : mm_V), mm_E d 282 297 [l0, l1, l2, l3, (.inl z), l5, l6] [] st n I L P = mm_E d 282 299 [l0, l1, l2, l3, (.inl z), l5, l6] [] ((.inl z) :: st) n I L P) ∧
  (∀ (lv : List mm_V) (st : List mm_V), mm_E d 282 299 lv [] st n I L P = mm_E d 282 300 lv [] (.inl 1 :: st) n I L P) ∧
  (∀ (lv : List mm_V) (st : List mm_V) a b, mm_E d 282 300 lv [] (.inl b :: .inl a :: st) n I L P = mm_E d 282 301 lv [] (.inl (mm_add a b) :: st) n I L P) ∧
  (∀ (lv : List mm_V) (st : List mm_V) i, (0 ≤ i ∧ i < I 1000006 5000) → mm_E d 282 301 lv [] (.inl i :: .inr (.inr (some 1000006)) :: st) n I L P = mm_E d 282 302 lv [] (.inl (I 1000006 i.toNat) :: st) n I L P) ∧
  (∀ (lv : List mm_V) a x0 w0, (mm_ok n a 12) → mm_E d 282 302 lv [] (.inl x0 :: .inr (.inr (some a)) :: [.inl w0]) n I L P = mm_kr d 282 305 lv [] [.inl w0] n (mm_rn d 151 [.inr (.inr (some a)), .inl x0] n I L P)) ∧
  (∀ (lv : List mm_V) (st : List mm_V) a b, mm_E d 282 305 lv [] (.inl b :: .inl a :: st) n I L P = if a = b then mm_E d 282 1494 lv [] st n I L P else mm_E d 282 308 lv [] st n I L P) ∧
  (∀ (lv : List mm_V) (st : List mm_V), mm_E d 282 308 lv [] st n I L P = mm_E d 282 309 lv [] (.inl 0 :: st) n I L P) ∧
  (∀ (lv : List mm_V) z, (0 ≤ z ∧ z < 2) → mm_E d 282 309 lv [] [.inl z] n I L P = some (some (.inl z), n, I, L, P)) :=
  ⟨fun _ _ _ _ _ _ _ _ => mq_al (i := 1) rfl rfl,
   fun _ _ _ _ _ _ _ _ => mq_al (i := 0) rfl rfl,
   fun _ _ _ _ _ _ _ _ => mq_il (i := 4) rfl rfl,
   fun _ _ => mq_push rfl,
   fun _ _ _ _ => mq_bi rfl,
   fun _ _ _ h0 => mq_xald rfl h0,
   fun _ _ _ h0 => mq_cVr (na := 1) rfl rfl (Nat.le_of_ble_eq_true rfl) (Nat.le_of_ble_eq_true rfl) h0,
   fun _ _ _ _ _ _ _ _ => mq_al (i := 2) rfl rfl,
   fun _ _ _ _ _ _ _ _ => mq_al (i := 0) rfl rfl,
   fun _ _ _ _ _ _ _ _ => mq_il (i := 4) rfl rfl,
   fun _ _ => mq_push rfl,
   fun _ _ _ _ => mq_bi rfl,
   fun _ _ _ h0 => mq_xald rfl h0,
   fun _ _ _ _ h0 => mq_cVr (na := 1) rfl rfl (Nat.le_of_ble_eq_true rfl) (Nat.le_of_ble_eq_true rfl) h0,
   fun _ _ _ _ => mq_ic_eq rfl,
   fun _ _ => mq_push rfl,
   fun _ _ h0 => mq_rz rfl h0⟩
set_option maxRecDepth 20000 in
set_option maxHeartbeats 8000000 in
theorem kL_law_2 (d n : Nat) (I L : mm_I) (P : mm_P) :
  (∀ (st : List mm_V) z (l0 : mm_V) (l2 : mm_V) (l3 : mm_V) (l4 : mm_V) (l5 : mm_V) (l6 : mm_V), mm_E d 282 310 [l0, (.inr (.inr z)), l2, l3, l4, l5, l6] [] st n I L P = mm_E d 282 311 [l0, (.inr (.inr z)), l2, l3, l4, l5, l6] [] ((.inr (.inr z)) :: st) n I L P) ∧
  (∀ (st : List mm_V) z (l1 : mm_V) (l2 : mm_V) (l3 : mm_V) (l4 : mm_V) (l5 : mm_V) (l6 : mm_V), mm_E d 282 311 [(.inr (.inr z)), l1, l2, l3, l4, l5, l6] [] st n I L P = mm_E d 282 312 [(.inr (.inr z)), l1, l2, l3, l4, l5, l6] [] ((.inr (.inr z)) :: st) n I L P) ∧
  (∀ (st : List mm_V) z (l0 : mm_V) (l1 : mm_V) (l2 : mm_V) (l3 : mm_V) (l5 : mm_V) (l6 : mm_V), mm_E d 282 312 [l0, l1, l2, l3, (.inl z), l5, l6] [] st n I L P = mm_E d 282 314 [l0, l1, l2, l3, (.inl z), l5, l6] [] ((.inl z) :: st) n I L P) ∧
  (∀ (lv : List mm_V) (st : List mm_V), mm_E d 282 314 lv [] st n I L P = mm_E d 282 315 lv [] (.inl 1 :: st) n I L P) ∧
  (∀ (lv : List mm_V) (st : List mm_V) a b, mm_E d 282 315 lv [] (.inl b :: .inl a :: st) n I L P = mm_E d 282 316 lv [] (.inl (mm_add a b) :: st) n I L P) ∧
  (∀ (lv : List mm_V) (st : List mm_V) i, (0 ≤ i ∧ i < I 1000006 5000) → mm_E d 282 316 lv [] (.inl i :: .inr (.inr (some 1000006)) :: st) n I L P = mm_E d 282 317 lv [] (.inl (I 1000006 i.toNat) :: st) n I L P) ∧
  (∀ (lv : List mm_V) a x0, (mm_ok n a 11) → mm_E d 282 317 lv [] (.inl x0 :: .inr (.inr (some a)) :: []) n I L P = mm_kr d 282 320 lv [] [] n (mm_rn d 87 [.inr (.inr (some a)), .inl x0] n I L P)) ∧
  (∀ (st : List mm_V) z (l0 : mm_V) (l1 : mm_V) (l3 : mm_V) (l4 : mm_V) (l5 : mm_V) (l6 : mm_V), mm_E d 282 320 [l0, l1, (.inr (.inr z)), l3, l4, l5, l6] [] st n I L P = mm_E d 282 321 [l0, l1, (.inr (.inr z)), l3, l4, l5, l6] [] ((.inr (.inr z)) :: st) n I L P) ∧
  (∀ (st : List mm_V) z (l1 : mm_V) (l2 : mm_V) (l3 : mm_V) (l4 : mm_V) (l5 : mm_V) (l6 : mm_V), mm_E d 282 321 [(.inr (.inr z)), l1, l2, l3, l4, l5, l6] [] st n I L P = mm_E d 282 322 [(.inr (.inr z)), l1, l2, l3, l4, l5, l6] [] ((.inr (.inr z)) :: st) n I L P) ∧
  (∀ (st : List mm_V) z (l0 : mm_V) (l1 : mm_V) (l2 : mm_V) (l3 : mm_V) (l5 : mm_V) (l6 : mm_V), mm_E d 282 322 [l0, l1, l2, l3, (.inl z), l5, l6] [] st n I L P = mm_E d 282 324 [l0, l1, l2, l3, (.inl z), l5, l6] [] ((.inl z) :: st) n I L P) ∧
  (∀ (lv : List mm_V) (st : List mm_V), mm_E d 282 324 lv [] st n I L P = mm_E d 282 325 lv [] (.inl 1 :: st) n I L P) ∧
  (∀ (lv : List mm_V) (st : List mm_V) a b, mm_E d 282 325 lv [] (.inl b :: .inl a :: st) n I L P = mm_E d 282 326 lv [] (.inl (mm_add a b) :: st) n I L P) ∧
  (∀ (lv : List mm_V) (st : List mm_V) i, (0 ≤ i ∧ i < I 1000006 5000) → mm_E d 282 326 lv [] (.inl i :: .inr (.inr (some 1000006)) :: st) n I L P = mm_E d 282 327 lv [] (.inl (I 1000006 i.toNat) :: st) n I L P) ∧
  (∀ (lv : List mm_V) a x0 w0, (mm_ok n a 12) → mm_E d 282 327 lv [] (.inl x0 :: .inr (.inr (some a)) :: [.inl w0]) n I L P = mm_kr d 282 330 lv [] [.inl w0] n (mm_rn d 186 [.inr (.inr (some a)), .inl x0] n I L P)) ∧
  (∀ (lv : List mm_V) (st : List mm_V) a b, mm_E d 282 330 lv [] (.inl b :: .inl a :: st) n I L P = if a = b then mm_E d 282 1494 lv [] st n I L P else mm_E d 282 333 lv [] st n I L P) ∧
  (∀ (lv : List mm_V) (st : List mm_V), mm_E d 282 333 lv [] st n I L P = mm_E d 282 334 lv [] (.inl 0 :: st) n I L P) ∧
  (∀ (lv : List mm_V) z, (0 ≤ z ∧ z < 2) → mm_E d 282 334 lv [] [.inl z] n I L P = some (some (.inl z), n, I, L, P)) :=
  ⟨fun _ _ _ _ _ _ _ _ => mq_al (i := 1) rfl rfl,
   fun _ _ _ _ _ _ _ _ => mq_al (i := 0) rfl rfl,
   fun _ _ _ _ _ _ _ _ => mq_il (i := 4) rfl rfl,
   fun _ _ => mq_push rfl,
   fun _ _ _ _ => mq_bi rfl,
   fun _ _ _ h0 => mq_xald rfl h0,
   fun _ _ _ h0 => mq_cVr (na := 1) rfl rfl (Nat.le_of_ble_eq_true rfl) (Nat.le_of_ble_eq_true rfl) h0,
   fun _ _ _ _ _ _ _ _ => mq_al (i := 2) rfl rfl,
   fun _ _ _ _ _ _ _ _ => mq_al (i := 0) rfl rfl,
   fun _ _ _ _ _ _ _ _ => mq_il (i := 4) rfl rfl,
   fun _ _ => mq_push rfl,
   fun _ _ _ _ => mq_bi rfl,
   fun _ _ _ h0 => mq_xald rfl h0,
   fun _ _ _ _ h0 => mq_cVr (na := 1) rfl rfl (Nat.le_of_ble_eq_true rfl) (Nat.le_of_ble_eq_true rfl) h0,
   fun _ _ _ _ => mq_ic_eq rfl,
   fun _ _ => mq_push rfl,
   fun _ _ h0 => mq_rz rfl h0⟩
set_option maxRecDepth 20000 in
set_option maxHeartbeats 8000000 in
theorem kL_law_3 (d n : Nat) (I L : mm_I) (P : mm_P) :
  (∀ (st : List mm_V) z (l0 : mm_V) (l2 : mm_V) (l3 : mm_V) (l4 : mm_V) (l5 : mm_V) (l6 : mm_V), mm_E d 282 335 [l0, (.inr (.inr z)), l2, l3, l4, l5, l6] [] st n I L P = mm_E d 282 336 [l0, (.inr (.inr z)), l2, l3, l4, l5, l6] [] ((.inr (.inr z)) :: st) n I L P) ∧
  (∀ (st : List mm_V) z (l1 : mm_V) (l2 : mm_V) (l3 : mm_V) (l4 : mm_V) (l5 : mm_V) (l6 : mm_V), mm_E d 282 336 [(.inr (.inr z)), l1, l2, l3, l4, l5, l6] [] st n I L P = mm_E d 282 337 [(.inr (.inr z)), l1, l2, l3, l4, l5, l6] [] ((.inr (.inr z)) :: st) n I L P) ∧
  (∀ (st : List mm_V) z (l0 : mm_V) (l1 : mm_V) (l2 : mm_V) (l3 : mm_V) (l5 : mm_V) (l6 : mm_V), mm_E d 282 337 [l0, l1, l2, l3, (.inl z), l5, l6] [] st n I L P = mm_E d 282 339 [l0, l1, l2, l3, (.inl z), l5, l6] [] ((.inl z) :: st) n I L P) ∧
  (∀ (lv : List mm_V) (st : List mm_V), mm_E d 282 339 lv [] st n I L P = mm_E d 282 340 lv [] (.inl 1 :: st) n I L P) ∧
  (∀ (lv : List mm_V) (st : List mm_V) a b, mm_E d 282 340 lv [] (.inl b :: .inl a :: st) n I L P = mm_E d 282 341 lv [] (.inl (mm_add a b) :: st) n I L P) ∧
  (∀ (lv : List mm_V) (st : List mm_V) i, (0 ≤ i ∧ i < I 1000006 5000) → mm_E d 282 341 lv [] (.inl i :: .inr (.inr (some 1000006)) :: st) n I L P = mm_E d 282 342 lv [] (.inl (I 1000006 i.toNat) :: st) n I L P) ∧
  (∀ (lv : List mm_V) a x0, (mm_ok n a 11) → mm_E d 282 342 lv [] (.inl x0 :: .inr (.inr (some a)) :: []) n I L P = mm_kr d 282 345 lv [] [] n (mm_rn d 88 [.inr (.inr (some a)), .inl x0] n I L P)) ∧
  (∀ (st : List mm_V) z (l0 : mm_V) (l1 : mm_V) (l3 : mm_V) (l4 : mm_V) (l5 : mm_V) (l6 : mm_V), mm_E d 282 345 [l0, l1, (.inr (.inr z)), l3, l4, l5, l6] [] st n I L P = mm_E d 282 346 [l0, l1, (.inr (.inr z)), l3, l4, l5, l6] [] ((.inr (.inr z)) :: st) n I L P) ∧
  (∀ (st : List mm_V) z (l1 : mm_V) (l2 : mm_V) (l3 : mm_V) (l4 : mm_V) (l5 : mm_V) (l6 : mm_V), mm_E d 282 346 [(.inr (.inr z)), l1, l2, l3, l4, l5, l6] [] st n I L P = mm_E d 282 347 [(.inr (.inr z)), l1, l2, l3, l4, l5, l6] [] ((.inr (.inr z)) :: st) n I L P) ∧
  (∀ (st : List mm_V) z (l0 : mm_V) (l1 : mm_V) (l2 : mm_V) (l3 : mm_V) (l5 : mm_V) (l6 : mm_V), mm_E d 282 347 [l0, l1, l2, l3, (.inl z), l5, l6] [] st n I L P = mm_E d 282 349 [l0, l1, l2, l3, (.inl z), l5, l6] [] ((.inl z) :: st) n I L P) ∧
  (∀ (lv : List mm_V) (st : List mm_V), mm_E d 282 349 lv [] st n I L P = mm_E d 282 350 lv [] (.inl 1 :: st) n I L P) ∧
  (∀ (lv : List mm_V) (st : List mm_V) a b, mm_E d 282 350 lv [] (.inl b :: .inl a :: st) n I L P = mm_E d 282 351 lv [] (.inl (mm_add a b) :: st) n I L P) ∧
  (∀ (lv : List mm_V) (st : List mm_V) i, (0 ≤ i ∧ i < I 1000006 5000) → mm_E d 282 351 lv [] (.inl i :: .inr (.inr (some 1000006)) :: st) n I L P = mm_E d 282 352 lv [] (.inl (I 1000006 i.toNat) :: st) n I L P) ∧
  (∀ (lv : List mm_V) a x0 w0, (mm_ok n a 12) → mm_E d 282 352 lv [] (.inl x0 :: .inr (.inr (some a)) :: [.inl w0]) n I L P = mm_kr d 282 355 lv [] [.inl w0] n (mm_rn d 190 [.inr (.inr (some a)), .inl x0] n I L P)) ∧
  (∀ (lv : List mm_V) (st : List mm_V) a b, mm_E d 282 355 lv [] (.inl b :: .inl a :: st) n I L P = if a = b then mm_E d 282 1494 lv [] st n I L P else mm_E d 282 358 lv [] st n I L P) ∧
  (∀ (lv : List mm_V) (st : List mm_V), mm_E d 282 358 lv [] st n I L P = mm_E d 282 359 lv [] (.inl 0 :: st) n I L P) ∧
  (∀ (lv : List mm_V) z, (0 ≤ z ∧ z < 2) → mm_E d 282 359 lv [] [.inl z] n I L P = some (some (.inl z), n, I, L, P)) :=
  ⟨fun _ _ _ _ _ _ _ _ => mq_al (i := 1) rfl rfl,
   fun _ _ _ _ _ _ _ _ => mq_al (i := 0) rfl rfl,
   fun _ _ _ _ _ _ _ _ => mq_il (i := 4) rfl rfl,
   fun _ _ => mq_push rfl,
   fun _ _ _ _ => mq_bi rfl,
   fun _ _ _ h0 => mq_xald rfl h0,
   fun _ _ _ h0 => mq_cVr (na := 1) rfl rfl (Nat.le_of_ble_eq_true rfl) (Nat.le_of_ble_eq_true rfl) h0,
   fun _ _ _ _ _ _ _ _ => mq_al (i := 2) rfl rfl,
   fun _ _ _ _ _ _ _ _ => mq_al (i := 0) rfl rfl,
   fun _ _ _ _ _ _ _ _ => mq_il (i := 4) rfl rfl,
   fun _ _ => mq_push rfl,
   fun _ _ _ _ => mq_bi rfl,
   fun _ _ _ h0 => mq_xald rfl h0,
   fun _ _ _ _ h0 => mq_cVr (na := 1) rfl rfl (Nat.le_of_ble_eq_true rfl) (Nat.le_of_ble_eq_true rfl) h0,
   fun _ _ _ _ => mq_ic_eq rfl,
   fun _ _ => mq_push rfl,
   fun _ _ h0 => mq_rz rfl h0⟩
set_option maxRecDepth 20000 in
set_option maxHeartbeats 8000000 in
theorem kL_law_4 (d n : Nat) (I L : mm_I) (P : mm_P) :
  (∀ (st : List mm_V) z (l0 : mm_V) (l2 : mm_V) (l3 : mm_V) (l4 : mm_V) (l5 : mm_V) (l6 : mm_V), mm_E d 282 360 [l0, (.inr (.inr z)), l2, l3, l4, l5, l6] [] st n I L P = mm_E d 282 361 [l0, (.inr (.inr z)), l2, l3, l4, l5, l6] [] ((.inr (.inr z)) :: st) n I L P) ∧
  (∀ (st : List mm_V) z (l1 : mm_V) (l2 : mm_V) (l3 : mm_V) (l4 : mm_V) (l5 : mm_V) (l6 : mm_V), mm_E d 282 361 [(.inr (.inr z)), l1, l2, l3, l4, l5, l6] [] st n I L P = mm_E d 282 362 [(.inr (.inr z)), l1, l2, l3, l4, l5, l6] [] ((.inr (.inr z)) :: st) n I L P) ∧
  (∀ (st : List mm_V) z (l0 : mm_V) (l1 : mm_V) (l2 : mm_V) (l3 : mm_V) (l5 : mm_V) (l6 : mm_V), mm_E d 282 362 [l0, l1, l2, l3, (.inl z), l5, l6] [] st n I L P = mm_E d 282 364 [l0, l1, l2, l3, (.inl z), l5, l6] [] ((.inl z) :: st) n I L P) ∧
  (∀ (lv : List mm_V) (st : List mm_V), mm_E d 282 364 lv [] st n I L P = mm_E d 282 365 lv [] (.inl 1 :: st) n I L P) ∧
  (∀ (lv : List mm_V) (st : List mm_V) a b, mm_E d 282 365 lv [] (.inl b :: .inl a :: st) n I L P = mm_E d 282 366 lv [] (.inl (mm_add a b) :: st) n I L P) ∧
  (∀ (lv : List mm_V) (st : List mm_V) i, (0 ≤ i ∧ i < I 1000006 5000) → mm_E d 282 366 lv [] (.inl i :: .inr (.inr (some 1000006)) :: st) n I L P = mm_E d 282 367 lv [] (.inl (I 1000006 i.toNat) :: st) n I L P) ∧
  (∀ (lv : List mm_V) a x0, (mm_ok n a 11) → mm_E d 282 367 lv [] (.inl x0 :: .inr (.inr (some a)) :: []) n I L P = mm_kr d 282 370 lv [] [] n (mm_rn d 91 [.inr (.inr (some a)), .inl x0] n I L P)) ∧
  (∀ (st : List mm_V) z (l0 : mm_V) (l1 : mm_V) (l3 : mm_V) (l4 : mm_V) (l5 : mm_V) (l6 : mm_V), mm_E d 282 370 [l0, l1, (.inr (.inr z)), l3, l4, l5, l6] [] st n I L P = mm_E d 282 371 [l0, l1, (.inr (.inr z)), l3, l4, l5, l6] [] ((.inr (.inr z)) :: st) n I L P) ∧
  (∀ (st : List mm_V) z (l1 : mm_V) (l2 : mm_V) (l3 : mm_V) (l4 : mm_V) (l5 : mm_V) (l6 : mm_V), mm_E d 282 371 [(.inr (.inr z)), l1, l2, l3, l4, l5, l6] [] st n I L P = mm_E d 282 372 [(.inr (.inr z)), l1, l2, l3, l4, l5, l6] [] ((.inr (.inr z)) :: st) n I L P) ∧
  (∀ (st : List mm_V) z (l0 : mm_V) (l1 : mm_V) (l2 : mm_V) (l3 : mm_V) (l5 : mm_V) (l6 : mm_V), mm_E d 282 372 [l0, l1, l2, l3, (.inl z), l5, l6] [] st n I L P = mm_E d 282 374 [l0, l1, l2, l3, (.inl z), l5, l6] [] ((.inl z) :: st) n I L P) ∧
  (∀ (lv : List mm_V) (st : List mm_V), mm_E d 282 374 lv [] st n I L P = mm_E d 282 375 lv [] (.inl 1 :: st) n I L P) ∧
  (∀ (lv : List mm_V) (st : List mm_V) a b, mm_E d 282 375 lv [] (.inl b :: .inl a :: st) n I L P = mm_E d 282 376 lv [] (.inl (mm_add a b) :: st) n I L P) ∧
  (∀ (lv : List mm_V) (st : List mm_V) i, (0 ≤ i ∧ i < I 1000006 5000) → mm_E d 282 376 lv [] (.inl i :: .inr (.inr (some 1000006)) :: st) n I L P = mm_E d 282 377 lv [] (.inl (I 1000006 i.toNat) :: st) n I L P) ∧
  (∀ (lv : List mm_V) a x0 w0, (mm_ok n a 12) → mm_E d 282 377 lv [] (.inl x0 :: .inr (.inr (some a)) :: [.inl w0]) n I L P = mm_kr d 282 380 lv [] [.inl w0] n (mm_rn d 200 [.inr (.inr (some a)), .inl x0] n I L P)) ∧
  (∀ (lv : List mm_V) (st : List mm_V) a b, mm_E d 282 380 lv [] (.inl b :: .inl a :: st) n I L P = if a = b then mm_E d 282 1494 lv [] st n I L P else mm_E d 282 383 lv [] st n I L P) ∧
  (∀ (lv : List mm_V) (st : List mm_V), mm_E d 282 383 lv [] st n I L P = mm_E d 282 384 lv [] (.inl 0 :: st) n I L P) ∧
  (∀ (lv : List mm_V) z, (0 ≤ z ∧ z < 2) → mm_E d 282 384 lv [] [.inl z] n I L P = some (some (.inl z), n, I, L, P)) :=
  ⟨fun _ _ _ _ _ _ _ _ => mq_al (i := 1) rfl rfl,
   fun _ _ _ _ _ _ _ _ => mq_al (i := 0) rfl rfl,
   fun _ _ _ _ _ _ _ _ => mq_il (i := 4) rfl rfl,
   fun _ _ => mq_push rfl,
   fun _ _ _ _ => mq_bi rfl,
   fun _ _ _ h0 => mq_xald rfl h0,
   fun _ _ _ h0 => mq_cVr (na := 1) rfl rfl (Nat.le_of_ble_eq_true rfl) (Nat.le_of_ble_eq_true rfl) h0,
   fun _ _ _ _ _ _ _ _ => mq_al (i := 2) rfl rfl,
   fun _ _ _ _ _ _ _ _ => mq_al (i := 0) rfl rfl,
   fun _ _ _ _ _ _ _ _ => mq_il (i := 4) rfl rfl,
   fun _ _ => mq_push rfl,
   fun _ _ _ _ => mq_bi rfl,
   fun _ _ _ h0 => mq_xald rfl h0,
   fun _ _ _ _ h0 => mq_cVr (na := 1) rfl rfl (Nat.le_of_ble_eq_true rfl) (Nat.le_of_ble_eq_true rfl) h0,
   fun _ _ _ _ => mq_ic_eq rfl,
   fun _ _ => mq_push rfl,
   fun _ _ h0 => mq_rz rfl h0⟩
set_option maxRecDepth 20000 in
set_option maxHeartbeats 8000000 in
theorem kL_law_5 (d n : Nat) (I L : mm_I) (P : mm_P) :
  (∀ (st : List mm_V) z (l0 : mm_V) (l2 : mm_V) (l3 : mm_V) (l4 : mm_V) (l5 : mm_V) (l6 : mm_V), mm_E d 282 385 [l0, (.inr (.inr z)), l2, l3, l4, l5, l6] [] st n I L P = mm_E d 282 386 [l0, (.inr (.inr z)), l2, l3, l4, l5, l6] [] ((.inr (.inr z)) :: st) n I L P) ∧
  (∀ (st : List mm_V) z (l1 : mm_V) (l2 : mm_V) (l3 : mm_V) (l4 : mm_V) (l5 : mm_V) (l6 : mm_V), mm_E d 282 386 [(.inr (.inr z)), l1, l2, l3, l4, l5, l6] [] st n I L P = mm_E d 282 387 [(.inr (.inr z)), l1, l2, l3, l4, l5, l6] [] ((.inr (.inr z)) :: st) n I L P) ∧
  (∀ (st : List mm_V) z (l0 : mm_V) (l1 : mm_V) (l2 : mm_V) (l3 : mm_V) (l5 : mm_V) (l6 : mm_V), mm_E d 282 387 [l0, l1, l2, l3, (.inl z), l5, l6] [] st n I L P = mm_E d 282 389 [l0, l1, l2, l3, (.inl z), l5, l6] [] ((.inl z) :: st) n I L P) ∧
  (∀ (lv : List mm_V) (st : List mm_V), mm_E d 282 389 lv [] st n I L P = mm_E d 282 390 lv [] (.inl 1 :: st) n I L P) ∧
  (∀ (lv : List mm_V) (st : List mm_V) a b, mm_E d 282 390 lv [] (.inl b :: .inl a :: st) n I L P = mm_E d 282 391 lv [] (.inl (mm_add a b) :: st) n I L P) ∧
  (∀ (lv : List mm_V) (st : List mm_V) i, (0 ≤ i ∧ i < I 1000006 5000) → mm_E d 282 391 lv [] (.inl i :: .inr (.inr (some 1000006)) :: st) n I L P = mm_E d 282 392 lv [] (.inl (I 1000006 i.toNat) :: st) n I L P) ∧
  (∀ (st : List mm_V) z (l1 : mm_V) (l2 : mm_V) (l3 : mm_V) (l4 : mm_V) (l5 : mm_V) (l6 : mm_V), mm_E d 282 392 [(.inr (.inr z)), l1, l2, l3, l4, l5, l6] [] st n I L P = mm_E d 282 393 [(.inr (.inr z)), l1, l2, l3, l4, l5, l6] [] ((.inr (.inr z)) :: st) n I L P) ∧
  (∀ (st : List mm_V) z (l0 : mm_V) (l1 : mm_V) (l2 : mm_V) (l3 : mm_V) (l5 : mm_V) (l6 : mm_V), mm_E d 282 393 [l0, l1, l2, l3, (.inl z), l5, l6] [] st n I L P = mm_E d 282 395 [l0, l1, l2, l3, (.inl z), l5, l6] [] ((.inl z) :: st) n I L P) ∧
  (∀ (lv : List mm_V) (st : List mm_V), mm_E d 282 395 lv [] st n I L P = mm_E d 282 396 lv [] (.inl 2 :: st) n I L P) ∧
  (∀ (lv : List mm_V) (st : List mm_V) a b, mm_E d 282 396 lv [] (.inl b :: .inl a :: st) n I L P = mm_E d 282 397 lv [] (.inl (mm_add a b) :: st) n I L P) ∧
  (∀ (lv : List mm_V) (st : List mm_V) i, (0 ≤ i ∧ i < I 1000006 5000) → mm_E d 282 397 lv [] (.inl i :: .inr (.inr (some 1000006)) :: st) n I L P = mm_E d 282 398 lv [] (.inl (I 1000006 i.toNat) :: st) n I L P) ∧
  (∀ (st : List mm_V) z (l0 : mm_V) (l1 : mm_V) (l2 : mm_V) (l4 : mm_V) (l5 : mm_V) (l6 : mm_V), mm_E d 282 398 [l0, l1, l2, (.inr (.inr z)), l4, l5, l6] [] st n I L P = mm_E d 282 399 [l0, l1, l2, (.inr (.inr z)), l4, l5, l6] [] ((.inr (.inr z)) :: st) n I L P) ∧
  (∀ (lv : List mm_V) x0 x1 x2 x3, mm_E d 282 399 lv [] (.inr (.inr x3) :: .inl x2 :: .inl x1 :: .inr (.inr x0) :: []) n I L P = mm_kr d 282 402 lv [] [] n (mm_rn d 281 [.inr (.inr x0), .inl x1, .inl x2, .inr (.inr x3)] n I L P)) ∧
  (∀ (st : List mm_V) z (l0 : mm_V) (l1 : mm_V) (l2 : mm_V) (l3 : mm_V) (l4 : mm_V) (l5 : mm_V) (l6 : mm_V), mm_E d 282 402 [l0, l1, l2, l3, l4, l5, l6] [] ((.inl z) :: st) n I L P = mm_E d 282 404 [l0, l1, l2, l3, l4, (.inl z), l6] [] st n I L P) ∧
  (∀ (st : List mm_V) z (l0 : mm_V) (l1 : mm_V) (l3 : mm_V) (l4 : mm_V) (l5 : mm_V) (l6 : mm_V), mm_E d 282 404 [l0, l1, (.inr (.inr z)), l3, l4, l5, l6] [] st n I L P = mm_E d 282 405 [l0, l1, (.inr (.inr z)), l3, l4, l5, l6] [] ((.inr (.inr z)) :: st) n I L P) ∧
  (∀ (st : List mm_V) z (l1 : mm_V) (l2 : mm_V) (l3 : mm_V) (l4 : mm_V) (l5 : mm_V) (l6 : mm_V), mm_E d 282 405 [(.inr (.inr z)), l1, l2, l3, l4, l5, l6] [] st n I L P = mm_E d 282 406 [(.inr (.inr z)), l1, l2, l3, l4, l5, l6] [] ((.inr (.inr z)) :: st) n I L P) ∧
  (∀ (st : List mm_V) z (l0 : mm_V) (l1 : mm_V) (l2 : mm_V) (l3 : mm_V) (l5 : mm_V) (l6 : mm_V), mm_E d 282 406 [l0, l1, l2, l3, (.inl z), l5, l6] [] st n I L P = mm_E d 282 408 [l0, l1, l2, l3, (.inl z), l5, l6] [] ((.inl z) :: st) n I L P) ∧
  (∀ (lv : List mm_V) (st : List mm_V), mm_E d 282 408 lv [] st n I L P = mm_E d 282 409 lv [] (.inl 1 :: st) n I L P) ∧
  (∀ (lv : List mm_V) (st : List mm_V) a b, mm_E d 282 409 lv [] (.inl b :: .inl a :: st) n I L P = mm_E d 282 410 lv [] (.inl (mm_add a b) :: st) n I L P) ∧
  (∀ (lv : List mm_V) (st : List mm_V) i, (0 ≤ i ∧ i < I 1000006 5000) → mm_E d 282 410 lv [] (.inl i :: .inr (.inr (some 1000006)) :: st) n I L P = mm_E d 282 411 lv [] (.inl (I 1000006 i.toNat) :: st) n I L P) ∧
  (∀ (st : List mm_V) z (l1 : mm_V) (l2 : mm_V) (l3 : mm_V) (l4 : mm_V) (l5 : mm_V) (l6 : mm_V), mm_E d 282 411 [(.inr (.inr z)), l1, l2, l3, l4, l5, l6] [] st n I L P = mm_E d 282 412 [(.inr (.inr z)), l1, l2, l3, l4, l5, l6] [] ((.inr (.inr z)) :: st) n I L P) ∧
  (∀ (st : List mm_V) z (l0 : mm_V) (l1 : mm_V) (l2 : mm_V) (l3 : mm_V) (l5 : mm_V) (l6 : mm_V), mm_E d 282 412 [l0, l1, l2, l3, (.inl z), l5, l6] [] st n I L P = mm_E d 282 414 [l0, l1, l2, l3, (.inl z), l5, l6] [] ((.inl z) :: st) n I L P) ∧
  (∀ (lv : List mm_V) (st : List mm_V), mm_E d 282 414 lv [] st n I L P = mm_E d 282 415 lv [] (.inl 2 :: st) n I L P) ∧
  (∀ (lv : List mm_V) (st : List mm_V) a b, mm_E d 282 415 lv [] (.inl b :: .inl a :: st) n I L P = mm_E d 282 416 lv [] (.inl (mm_add a b) :: st) n I L P) ∧
  (∀ (lv : List mm_V) (st : List mm_V) i, (0 ≤ i ∧ i < I 1000006 5000) → mm_E d 282 416 lv [] (.inl i :: .inr (.inr (some 1000006)) :: st) n I L P = mm_E d 282 417 lv [] (.inl (I 1000006 i.toNat) :: st) n I L P) ∧
  (∀ (lv : List mm_V) a x0 x1, (mm_ok n a 12) → mm_E d 282 417 lv [] (.inl x1 :: .inl x0 :: .inr (.inr (some a)) :: []) n I L P = mm_kr d 282 420 lv [] [] n (mm_rn d 201 [.inr (.inr (some a)), .inl x0, .inl x1] n I L P)) ∧
  (∀ (st : List mm_V) z (l0 : mm_V) (l1 : mm_V) (l2 : mm_V) (l3 : mm_V) (l4 : mm_V) (l5 : mm_V) (l6 : mm_V), mm_E d 282 420 [l0, l1, l2, l3, l4, l5, l6] [] ((.inl z) :: st) n I L P = mm_E d 282 422 [l0, l1, l2, l3, l4, l5, (.inl z)] [] st n I L P) ∧
  (∀ (st : List mm_V) z (l0 : mm_V) (l1 : mm_V) (l3 : mm_V) (l4 : mm_V) (l5 : mm_V) (l6 : mm_V), mm_E d 282 422 [l0, l1, (.inr (.inr z)), l3, l4, l5, l6] [] st n I L P = mm_E d 282 423 [l0, l1, (.inr (.inr z)), l3, l4, l5, l6] [] ((.inr (.inr z)) :: st) n I L P) ∧
  (∀ (lv : List mm_V) a, (mm_ok n a 12) → mm_E d 282 423 lv [] (.inr (.inr (some a)) :: []) n I L P = mm_kr d 282 426 lv [] [] n (mm_rn d 148 [.inr (.inr (some a))] n I L P)) ∧
  (∀ (st : List mm_V) z (l0 : mm_V) (l1 : mm_V) (l2 : mm_V) (l3 : mm_V) (l4 : mm_V) (l6 : mm_V), mm_E d 282 426 [l0, l1, l2, l3, l4, (.inl z), l6] [] st n I L P = mm_E d 282 428 [l0, l1, l2, l3, l4, (.inl z), l6] [] ((.inl z) :: st) n I L P) ∧
  (∀ (lv : List mm_V) (st : List mm_V) a b, mm_E d 282 428 lv [] (.inl b :: .inl a :: st) n I L P = if a = b then mm_E d 282 433 lv [] st n I L P else mm_E d 282 431 lv [] st n I L P) ∧
  (∀ (lv : List mm_V) (st : List mm_V), mm_E d 282 431 lv [] st n I L P = mm_E d 282 432 lv [] (.inl 0 :: st) n I L P) ∧
  (∀ (lv : List mm_V) z, (0 ≤ z ∧ z < 2) → mm_E d 282 432 lv [] [.inl z] n I L P = some (some (.inl z), n, I, L, P)) ∧
  (∀ (st : List mm_V) z (l0 : mm_V) (l1 : mm_V) (l2 : mm_V) (l3 : mm_V) (l4 : mm_V) (l6 : mm_V), mm_E d 282 433 [l0, l1, l2, l3, l4, (.inl z), l6] [] st n I L P = mm_E d 282 435 [l0, l1, l2, l3, l4, (.inl z), l6] [] ((.inl z) :: st) n I L P) ∧
  (∀ (lv : List mm_V) (st : List mm_V) a, mm_E d 282 435 lv [] (.inl a :: st) n I L P = if a = 0 then mm_E d 282 438 lv [] st n I L P else mm_E d 282 450 lv [] st n I L P) ∧
  (∀ (st : List mm_V) z (l0 : mm_V) (l1 : mm_V) (l2 : mm_V) (l4 : mm_V) (l5 : mm_V) (l6 : mm_V), mm_E d 282 438 [l0, l1, l2, (.inr (.inr z)), l4, l5, l6] [] st n I L P = mm_E d 282 439 [l0, l1, l2, (.inr (.inr z)), l4, l5, l6] [] ((.inr (.inr z)) :: st) n I L P) ∧
  (∀ (lv : List mm_V) (st : List mm_V), mm_E d 282 439 lv [] st n I L P = mm_E d 282 440 lv [] (.inl 0 :: st) n I L P) ∧
  (∀ (lv : List mm_V) (st : List mm_V) a i, (mm_ix n a 22 i) → mm_E d 282 440 lv [] (.inl i :: .inr (.inr (some a)) :: st) n I L P = mm_E d 282 441 lv [] (.inr (.inl (L a i.toNat)) :: st) n I L P) ∧
  (∀ (st : List mm_V) z (l0 : mm_V) (l1 : mm_V) (l2 : mm_V) (l3 : mm_V) (l4 : mm_V) (l5 : mm_V), mm_E d 282 441 [l0, l1, l2, l3, l4, l5, (.inl z)] [] st n I L P = mm_E d 282 443 [l0, l1, l2, l3, l4, l5, (.inl z)] [] ((.inl z) :: st) n I L P) ∧
  (∀ (lv : List mm_V) (st : List mm_V) a, mm_E d 282 443 lv [] (.inl a :: st) n I L P = mm_E d 282 444 lv [] (.inr (.inl a) :: st) n I L P) ∧
  (∀ (lv : List mm_V) (st : List mm_V) a b, mm_E d 282 444 lv [] (.inr (.inl b) :: .inr (.inl a) :: st) n I L P = mm_E d 282 445 lv [] (.inl (if a < b then -1 else if a = b then 0 else 1) :: st) n I L P) ∧
  (∀ (lv : List mm_V) (st : List mm_V) a, mm_E d 282 445 lv [] (.inl a :: st) n I L P = if a = 0 then mm_E d 282 450 lv [] st n I L P else mm_E d 282 448 lv [] st n I L P) ∧
  (∀ (lv : List mm_V) (st : List mm_V), mm_E d 282 448 lv [] st n I L P = mm_E d 282 449 lv [] (.inl 0 :: st) n I L P) ∧
  (∀ (lv : List mm_V) z, (0 ≤ z ∧ z < 2) → mm_E d 282 449 lv [] [.inl z] n I L P = some (some (.inl z), n, I, L, P)) ∧
  (∀ (lv : List mm_V) (st : List mm_V), mm_E d 282 450 lv [] st n I L P = mm_E d 282 1494 lv [] st n I L P) :=
  ⟨fun _ _ _ _ _ _ _ _ => mq_al (i := 1) rfl rfl,
   fun _ _ _ _ _ _ _ _ => mq_al (i := 0) rfl rfl,
   fun _ _ _ _ _ _ _ _ => mq_il (i := 4) rfl rfl,
   fun _ _ => mq_push rfl,
   fun _ _ _ _ => mq_bi rfl,
   fun _ _ _ h0 => mq_xald rfl h0,
   fun _ _ _ _ _ _ _ _ => mq_al (i := 0) rfl rfl,
   fun _ _ _ _ _ _ _ _ => mq_il (i := 4) rfl rfl,
   fun _ _ => mq_push rfl,
   fun _ _ _ _ => mq_bi rfl,
   fun _ _ _ h0 => mq_xald rfl h0,
   fun _ _ _ _ _ _ _ _ => mq_al (i := 3) rfl rfl,
   fun _ _ _ _ _ => mq_cSr (na := 4) rfl (Nat.le_of_ble_eq_true rfl) (Nat.le_of_ble_eq_true rfl),
   fun _ _ _ _ _ _ _ _ _ => mq_is (i := 5) rfl rfl rfl,
   fun _ _ _ _ _ _ _ _ => mq_al (i := 2) rfl rfl,
   fun _ _ _ _ _ _ _ _ => mq_al (i := 0) rfl rfl,
   fun _ _ _ _ _ _ _ _ => mq_il (i := 4) rfl rfl,
   fun _ _ => mq_push rfl,
   fun _ _ _ _ => mq_bi rfl,
   fun _ _ _ h0 => mq_xald rfl h0,
   fun _ _ _ _ _ _ _ _ => mq_al (i := 0) rfl rfl,
   fun _ _ _ _ _ _ _ _ => mq_il (i := 4) rfl rfl,
   fun _ _ => mq_push rfl,
   fun _ _ _ _ => mq_bi rfl,
   fun _ _ _ h0 => mq_xald rfl h0,
   fun _ _ _ _ h0 => mq_cVr (na := 2) rfl rfl (Nat.le_of_ble_eq_true rfl) (Nat.le_of_ble_eq_true rfl) h0,
   fun _ _ _ _ _ _ _ _ _ => mq_is (i := 6) rfl rfl rfl,
   fun _ _ _ _ _ _ _ _ => mq_al (i := 2) rfl rfl,
   fun _ _ h0 => mq_cVr (na := 0) rfl rfl (Nat.le_of_ble_eq_true rfl) (Nat.le_of_ble_eq_true rfl) h0,
   fun _ _ _ _ _ _ _ _ => mq_il (i := 5) rfl rfl,
   fun _ _ _ _ => mq_ic_eq rfl,
   fun _ _ => mq_push rfl,
   fun _ _ h0 => mq_rz rfl h0,
   fun _ _ _ _ _ _ _ _ => mq_il (i := 5) rfl rfl,
   fun _ _ _ => mq_if_ne rfl,
   fun _ _ _ _ _ _ _ _ => mq_al (i := 3) rfl rfl,
   fun _ _ => mq_push rfl,
   fun _ _ _ _ h0 => mq_lald rfl h0,
   fun _ _ _ _ _ _ _ _ => mq_il (i := 6) rfl rfl,
   fun _ _ _ => mq_i2l rfl,
   fun _ _ _ _ => mq_lcmp rfl,
   fun _ _ _ => mq_if_eq rfl,
   fun _ _ => mq_push rfl,
   fun _ _ h0 => mq_rz rfl h0,
   fun _ _ => mq_go rfl⟩
set_option maxRecDepth 20000 in
set_option maxHeartbeats 8000000 in
theorem kL_law_6 (d n : Nat) (I L : mm_I) (P : mm_P) :
  (∀ (st : List mm_V) z (l0 : mm_V) (l2 : mm_V) (l3 : mm_V) (l4 : mm_V) (l5 : mm_V) (l6 : mm_V), mm_E d 282 453 [l0, (.inr (.inr z)), l2, l3, l4, l5, l6] [] st n I L P = mm_E d 282 454 [l0, (.inr (.inr z)), l2, l3, l4, l5, l6] [] ((.inr (.inr z)) :: st) n I L P) ∧
  (∀ (st : List mm_V) z (l1 : mm_V) (l2 : mm_V) (l3 : mm_V) (l4 : mm_V) (l5 : mm_V) (l6 : mm_V), mm_E d 282 454 [(.inr (.inr z)), l1, l2, l3, l4, l5, l6] [] st n I L P = mm_E d 282 455 [(.inr (.inr z)), l1, l2, l3, l4, l5, l6] [] ((.inr (.inr z)) :: st) n I L P) ∧
  (∀ (st : List mm_V) z (l0 : mm_V) (l1 : mm_V) (l2 : mm_V) (l3 : mm_V) (l5 : mm_V) (l6 : mm_V), mm_E d 282 455 [l0, l1, l2, l3, (.inl z), l5, l6] [] st n I L P = mm_E d 282 457 [l0, l1, l2, l3, (.inl z), l5, l6] [] ((.inl z) :: st) n I L P) ∧
  (∀ (lv : List mm_V) (st : List mm_V), mm_E d 282 457 lv [] st n I L P = mm_E d 282 458 lv [] (.inl 1 :: st) n I L P) ∧
  (∀ (lv : List mm_V) (st : List mm_V) a b, mm_E d 282 458 lv [] (.inl b :: .inl a :: st) n I L P = mm_E d 282 459 lv [] (.inl (mm_add a b) :: st) n I L P) ∧
  (∀ (lv : List mm_V) (st : List mm_V) i, (0 ≤ i ∧ i < I 1000006 5000) → mm_E d 282 459 lv [] (.inl i :: .inr (.inr (some 1000006)) :: st) n I L P = mm_E d 282 460 lv [] (.inl (I 1000006 i.toNat) :: st) n I L P) ∧
  (∀ (st : List mm_V) z (l1 : mm_V) (l2 : mm_V) (l3 : mm_V) (l4 : mm_V) (l5 : mm_V) (l6 : mm_V), mm_E d 282 460 [(.inr (.inr z)), l1, l2, l3, l4, l5, l6] [] st n I L P = mm_E d 282 461 [(.inr (.inr z)), l1, l2, l3, l4, l5, l6] [] ((.inr (.inr z)) :: st) n I L P) ∧
  (∀ (st : List mm_V) z (l0 : mm_V) (l1 : mm_V) (l2 : mm_V) (l3 : mm_V) (l5 : mm_V) (l6 : mm_V), mm_E d 282 461 [l0, l1, l2, l3, (.inl z), l5, l6] [] st n I L P = mm_E d 282 463 [l0, l1, l2, l3, (.inl z), l5, l6] [] ((.inl z) :: st) n I L P) ∧
  (∀ (lv : List mm_V) (st : List mm_V), mm_E d 282 463 lv [] st n I L P = mm_E d 282 464 lv [] (.inl 2 :: st) n I L P) ∧
  (∀ (lv : List mm_V) (st : List mm_V) a b, mm_E d 282 464 lv [] (.inl b :: .inl a :: st) n I L P = mm_E d 282 465 lv [] (.inl (mm_add a b) :: st) n I L P) ∧
  (∀ (lv : List mm_V) (st : List mm_V) i, (0 ≤ i ∧ i < I 1000006 5000) → mm_E d 282 465 lv [] (.inl i :: .inr (.inr (some 1000006)) :: st) n I L P = mm_E d 282 466 lv [] (.inl (I 1000006 i.toNat) :: st) n I L P) ∧
  (∀ (lv : List mm_V) a x0 x1, (mm_ok n a 11) → mm_E d 282 466 lv [] (.inl x1 :: .inl x0 :: .inr (.inr (some a)) :: []) n I L P = mm_kr d 282 469 lv [] [] n (mm_rn d 94 [.inr (.inr (some a)), .inl x0, .inl x1] n I L P)) ∧
  (∀ (st : List mm_V) z (l0 : mm_V) (l1 : mm_V) (l3 : mm_V) (l4 : mm_V) (l5 : mm_V) (l6 : mm_V), mm_E d 282 469 [l0, l1, (.inr (.inr z)), l3, l4, l5, l6] [] st n I L P = mm_E d 282 470 [l0, l1, (.inr (.inr z)), l3, l4, l5, l6] [] ((.inr (.inr z)) :: st) n I L P) ∧
  (∀ (st : List mm_V) z (l1 : mm_V) (l2 : mm_V) (l3 : mm_V) (l4 : mm_V) (l5 : mm_V) (l6 : mm_V), mm_E d 282 470 [(.inr (.inr z)), l1, l2, l3, l4, l5, l6] [] st n I L P = mm_E d 282 471 [(.inr (.inr z)), l1, l2, l3, l4, l5, l6] [] ((.inr (.inr z)) :: st) n I L P) ∧
  (∀ (st : List mm_V) z (l0 : mm_V) (l1 : mm_V) (l2 : mm_V) (l3 : mm_V) (l5 : mm_V) (l6 : mm_V), mm_E d 282 471 [l0, l1, l2, l3, (.inl z), l5, l6] [] st n I L P = mm_E d 282 473 [l0, l1, l2, l3, (.inl z), l5, l6] [] ((.inl z) :: st) n I L P) ∧
  (∀ (lv : List mm_V) (st : List mm_V), mm_E d 282 473 lv [] st n I L P = mm_E d 282 474 lv [] (.inl 1 :: st) n I L P) ∧
  (∀ (lv : List mm_V) (st : List mm_V) a b, mm_E d 282 474 lv [] (.inl b :: .inl a :: st) n I L P = mm_E d 282 475 lv [] (.inl (mm_add a b) :: st) n I L P) ∧
  (∀ (lv : List mm_V) (st : List mm_V) i, (0 ≤ i ∧ i < I 1000006 5000) → mm_E d 282 475 lv [] (.inl i :: .inr (.inr (some 1000006)) :: st) n I L P = mm_E d 282 476 lv [] (.inl (I 1000006 i.toNat) :: st) n I L P) ∧
  (∀ (st : List mm_V) z (l1 : mm_V) (l2 : mm_V) (l3 : mm_V) (l4 : mm_V) (l5 : mm_V) (l6 : mm_V), mm_E d 282 476 [(.inr (.inr z)), l1, l2, l3, l4, l5, l6] [] st n I L P = mm_E d 282 477 [(.inr (.inr z)), l1, l2, l3, l4, l5, l6] [] ((.inr (.inr z)) :: st) n I L P) ∧
  (∀ (st : List mm_V) z (l0 : mm_V) (l1 : mm_V) (l2 : mm_V) (l3 : mm_V) (l5 : mm_V) (l6 : mm_V), mm_E d 282 477 [l0, l1, l2, l3, (.inl z), l5, l6] [] st n I L P = mm_E d 282 479 [l0, l1, l2, l3, (.inl z), l5, l6] [] ((.inl z) :: st) n I L P) ∧
  (∀ (lv : List mm_V) (st : List mm_V), mm_E d 282 479 lv [] st n I L P = mm_E d 282 480 lv [] (.inl 2 :: st) n I L P) ∧
  (∀ (lv : List mm_V) (st : List mm_V) a b, mm_E d 282 480 lv [] (.inl b :: .inl a :: st) n I L P = mm_E d 282 481 lv [] (.inl (mm_add a b) :: st) n I L P) ∧
  (∀ (lv : List mm_V) (st : List mm_V) i, (0 ≤ i ∧ i < I 1000006 5000) → mm_E d 282 481 lv [] (.inl i :: .inr (.inr (some 1000006)) :: st) n I L P = mm_E d 282 482 lv [] (.inl (I 1000006 i.toNat) :: st) n I L P) ∧
  (∀ (lv : List mm_V) a x0 x1 w0, (mm_ok n a 12) → mm_E d 282 482 lv [] (.inl x1 :: .inl x0 :: .inr (.inr (some a)) :: [.inl w0]) n I L P = mm_kr d 282 485 lv [] [.inl w0] n (mm_rn d 202 [.inr (.inr (some a)), .inl x0, .inl x1] n I L P)) ∧
  (∀ (lv : List mm_V) (st : List mm_V) a b, mm_E d 282 485 lv [] (.inl b :: .inl a :: st) n I L P = if a = b then mm_E d 282 1494 lv [] st n I L P else mm_E d 282 488 lv [] st n I L P) ∧
  (∀ (lv : List mm_V) (st : List mm_V), mm_E d 282 488 lv [] st n I L P = mm_E d 282 489 lv [] (.inl 0 :: st) n I L P) ∧
  (∀ (lv : List mm_V) z, (0 ≤ z ∧ z < 2) → mm_E d 282 489 lv [] [.inl z] n I L P = some (some (.inl z), n, I, L, P)) :=
  ⟨fun _ _ _ _ _ _ _ _ => mq_al (i := 1) rfl rfl,
   fun _ _ _ _ _ _ _ _ => mq_al (i := 0) rfl rfl,
   fun _ _ _ _ _ _ _ _ => mq_il (i := 4) rfl rfl,
   fun _ _ => mq_push rfl,
   fun _ _ _ _ => mq_bi rfl,
   fun _ _ _ h0 => mq_xald rfl h0,
   fun _ _ _ _ _ _ _ _ => mq_al (i := 0) rfl rfl,
   fun _ _ _ _ _ _ _ _ => mq_il (i := 4) rfl rfl,
   fun _ _ => mq_push rfl,
   fun _ _ _ _ => mq_bi rfl,
   fun _ _ _ h0 => mq_xald rfl h0,
   fun _ _ _ _ h0 => mq_cVr (na := 2) rfl rfl (Nat.le_of_ble_eq_true rfl) (Nat.le_of_ble_eq_true rfl) h0,
   fun _ _ _ _ _ _ _ _ => mq_al (i := 2) rfl rfl,
   fun _ _ _ _ _ _ _ _ => mq_al (i := 0) rfl rfl,
   fun _ _ _ _ _ _ _ _ => mq_il (i := 4) rfl rfl,
   fun _ _ => mq_push rfl,
   fun _ _ _ _ => mq_bi rfl,
   fun _ _ _ h0 => mq_xald rfl h0,
   fun _ _ _ _ _ _ _ _ => mq_al (i := 0) rfl rfl,
   fun _ _ _ _ _ _ _ _ => mq_il (i := 4) rfl rfl,
   fun _ _ => mq_push rfl,
   fun _ _ _ _ => mq_bi rfl,
   fun _ _ _ h0 => mq_xald rfl h0,
   fun _ _ _ _ _ h0 => mq_cVr (na := 2) rfl rfl (Nat.le_of_ble_eq_true rfl) (Nat.le_of_ble_eq_true rfl) h0,
   fun _ _ _ _ => mq_ic_eq rfl,
   fun _ _ => mq_push rfl,
   fun _ _ h0 => mq_rz rfl h0⟩
set_option maxRecDepth 20000 in
set_option maxHeartbeats 8000000 in
theorem kL_law_7 (d n : Nat) (I L : mm_I) (P : mm_P) :
  (∀ (st : List mm_V) z (l0 : mm_V) (l2 : mm_V) (l3 : mm_V) (l4 : mm_V) (l5 : mm_V) (l6 : mm_V), mm_E d 282 490 [l0, (.inr (.inr z)), l2, l3, l4, l5, l6] [] st n I L P = mm_E d 282 491 [l0, (.inr (.inr z)), l2, l3, l4, l5, l6] [] ((.inr (.inr z)) :: st) n I L P) ∧
  (∀ (st : List mm_V) z (l1 : mm_V) (l2 : mm_V) (l3 : mm_V) (l4 : mm_V) (l5 : mm_V) (l6 : mm_V), mm_E d 282 491 [(.inr (.inr z)), l1, l2, l3, l4, l5, l6] [] st n I L P = mm_E d 282 492 [(.inr (.inr z)), l1, l2, l3, l4, l5, l6] [] ((.inr (.inr z)) :: st) n I L P) ∧
  (∀ (st : List mm_V) z (l0 : mm_V) (l1 : mm_V) (l2 : mm_V) (l3 : mm_V) (l5 : mm_V) (l6 : mm_V), mm_E d 282 492 [l0, l1, l2, l3, (.inl z), l5, l6] [] st n I L P = mm_E d 282 494 [l0, l1, l2, l3, (.inl z), l5, l6] [] ((.inl z) :: st) n I L P) ∧
  (∀ (lv : List mm_V) (st : List mm_V), mm_E d 282 494 lv [] st n I L P = mm_E d 282 495 lv [] (.inl 1 :: st) n I L P) ∧
  (∀ (lv : List mm_V) (st : List mm_V) a b, mm_E d 282 495 lv [] (.inl b :: .inl a :: st) n I L P = mm_E d 282 496 lv [] (.inl (mm_add a b) :: st) n I L P) ∧
  (∀ (lv : List mm_V) (st : List mm_V) i, (0 ≤ i ∧ i < I 1000006 5000) → mm_E d 282 496 lv [] (.inl i :: .inr (.inr (some 1000006)) :: st) n I L P = mm_E d 282 497 lv [] (.inl (I 1000006 i.toNat) :: st) n I L P) ∧
  (∀ (lv : List mm_V) a x0, (mm_ok n a 11) → mm_E d 282 497 lv [] (.inl x0 :: .inr (.inr (some a)) :: []) n I L P = mm_kr d 282 500 lv [] [] n (mm_rn d 95 [.inr (.inr (some a)), .inl x0] n I L P)) ∧
  (∀ (st : List mm_V) z (l0 : mm_V) (l1 : mm_V) (l3 : mm_V) (l4 : mm_V) (l5 : mm_V) (l6 : mm_V), mm_E d 282 500 [l0, l1, (.inr (.inr z)), l3, l4, l5, l6] [] st n I L P = mm_E d 282 501 [l0, l1, (.inr (.inr z)), l3, l4, l5, l6] [] ((.inr (.inr z)) :: st) n I L P) ∧
  (∀ (st : List mm_V) z (l1 : mm_V) (l2 : mm_V) (l3 : mm_V) (l4 : mm_V) (l5 : mm_V) (l6 : mm_V), mm_E d 282 501 [(.inr (.inr z)), l1, l2, l3, l4, l5, l6] [] st n I L P = mm_E d 282 502 [(.inr (.inr z)), l1, l2, l3, l4, l5, l6] [] ((.inr (.inr z)) :: st) n I L P) ∧
  (∀ (st : List mm_V) z (l0 : mm_V) (l1 : mm_V) (l2 : mm_V) (l3 : mm_V) (l5 : mm_V) (l6 : mm_V), mm_E d 282 502 [l0, l1, l2, l3, (.inl z), l5, l6] [] st n I L P = mm_E d 282 504 [l0, l1, l2, l3, (.inl z), l5, l6] [] ((.inl z) :: st) n I L P) ∧
  (∀ (lv : List mm_V) (st : List mm_V), mm_E d 282 504 lv [] st n I L P = mm_E d 282 505 lv [] (.inl 1 :: st) n I L P) ∧
  (∀ (lv : List mm_V) (st : List mm_V) a b, mm_E d 282 505 lv [] (.inl b :: .inl a :: st) n I L P = mm_E d 282 506 lv [] (.inl (mm_add a b) :: st) n I L P) ∧
  (∀ (lv : List mm_V) (st : List mm_V) i, (0 ≤ i ∧ i < I 1000006 5000) → mm_E d 282 506 lv [] (.inl i :: .inr (.inr (some 1000006)) :: st) n I L P = mm_E d 282 507 lv [] (.inl (I 1000006 i.toNat) :: st) n I L P) ∧
  (∀ (lv : List mm_V) a x0 w0, (mm_ok n a 12) → mm_E d 282 507 lv [] (.inl x0 :: .inr (.inr (some a)) :: [.inl w0]) n I L P = mm_kr d 282 510 lv [] [.inl w0] n (mm_rn d 203 [.inr (.inr (some a)), .inl x0] n I L P)) ∧
  (∀ (lv : List mm_V) (st : List mm_V) a b, mm_E d 282 510 lv [] (.inl b :: .inl a :: st) n I L P = if a = b then mm_E d 282 1494 lv [] st n I L P else mm_E d 282 513 lv [] st n I L P) ∧
  (∀ (lv : List mm_V) (st : List mm_V), mm_E d 282 513 lv [] st n I L P = mm_E d 282 514 lv [] (.inl 0 :: st) n I L P) ∧
  (∀ (lv : List mm_V) z, (0 ≤ z ∧ z < 2) → mm_E d 282 514 lv [] [.inl z] n I L P = some (some (.inl z), n, I, L, P)) :=
  ⟨fun _ _ _ _ _ _ _ _ => mq_al (i := 1) rfl rfl,
   fun _ _ _ _ _ _ _ _ => mq_al (i := 0) rfl rfl,
   fun _ _ _ _ _ _ _ _ => mq_il (i := 4) rfl rfl,
   fun _ _ => mq_push rfl,
   fun _ _ _ _ => mq_bi rfl,
   fun _ _ _ h0 => mq_xald rfl h0,
   fun _ _ _ h0 => mq_cVr (na := 1) rfl rfl (Nat.le_of_ble_eq_true rfl) (Nat.le_of_ble_eq_true rfl) h0,
   fun _ _ _ _ _ _ _ _ => mq_al (i := 2) rfl rfl,
   fun _ _ _ _ _ _ _ _ => mq_al (i := 0) rfl rfl,
   fun _ _ _ _ _ _ _ _ => mq_il (i := 4) rfl rfl,
   fun _ _ => mq_push rfl,
   fun _ _ _ _ => mq_bi rfl,
   fun _ _ _ h0 => mq_xald rfl h0,
   fun _ _ _ _ h0 => mq_cVr (na := 1) rfl rfl (Nat.le_of_ble_eq_true rfl) (Nat.le_of_ble_eq_true rfl) h0,
   fun _ _ _ _ => mq_ic_eq rfl,
   fun _ _ => mq_push rfl,
   fun _ _ h0 => mq_rz rfl h0⟩
set_option maxRecDepth 20000 in
set_option maxHeartbeats 8000000 in
theorem kL_law_8 (d n : Nat) (I L : mm_I) (P : mm_P) :
  (∀ (st : List mm_V) z (l0 : mm_V) (l2 : mm_V) (l3 : mm_V) (l4 : mm_V) (l5 : mm_V) (l6 : mm_V), mm_E d 282 515 [l0, (.inr (.inr z)), l2, l3, l4, l5, l6] [] st n I L P = mm_E d 282 516 [l0, (.inr (.inr z)), l2, l3, l4, l5, l6] [] ((.inr (.inr z)) :: st) n I L P) ∧
  (∀ (st : List mm_V) z (l1 : mm_V) (l2 : mm_V) (l3 : mm_V) (l4 : mm_V) (l5 : mm_V) (l6 : mm_V), mm_E d 282 516 [(.inr (.inr z)), l1, l2, l3, l4, l5, l6] [] st n I L P = mm_E d 282 517 [(.inr (.inr z)), l1, l2, l3, l4, l5, l6] [] ((.inr (.inr z)) :: st) n I L P) ∧
  (∀ (st : List mm_V) z (l0 : mm_V) (l1 : mm_V) (l2 : mm_V) (l3 : mm_V) (l5 : mm_V) (l6 : mm_V), mm_E d 282 517 [l0, l1, l2, l3, (.inl z), l5, l6] [] st n I L P = mm_E d 282 519 [l0, l1, l2, l3, (.inl z), l5, l6] [] ((.inl z) :: st) n I L P) ∧
  (∀ (lv : List mm_V) (st : List mm_V), mm_E d 282 519 lv [] st n I L P = mm_E d 282 520 lv [] (.inl 1 :: st) n I L P) ∧
  (∀ (lv : List mm_V) (st : List mm_V) a b, mm_E d 282 520 lv [] (.inl b :: .inl a :: st) n I L P = mm_E d 282 521 lv [] (.inl (mm_add a b) :: st) n I L P) ∧
  (∀ (lv : List mm_V) (st : List mm_V) i, (0 ≤ i ∧ i < I 1000006 5000) → mm_E d 282 521 lv [] (.inl i :: .inr (.inr (some 1000006)) :: st) n I L P = mm_E d 282 522 lv [] (.inl (I 1000006 i.toNat) :: st) n I L P) ∧
  (∀ (lv : List mm_V) a x0, (mm_ok n a 11) → mm_E d 282 522 lv [] (.inl x0 :: .inr (.inr (some a)) :: []) n I L P = mm_kr d 282 525 lv [] [] n (mm_rn d 97 [.inr (.inr (some a)), .inl x0] n I L P)) ∧
  (∀ (st : List mm_V) z (l0 : mm_V) (l1 : mm_V) (l3 : mm_V) (l4 : mm_V) (l5 : mm_V) (l6 : mm_V), mm_E d 282 525 [l0, l1, (.inr (.inr z)), l3, l4, l5, l6] [] st n I L P = mm_E d 282 526 [l0, l1, (.inr (.inr z)), l3, l4, l5, l6] [] ((.inr (.inr z)) :: st) n I L P) ∧
  (∀ (st : List mm_V) z (l1 : mm_V) (l2 : mm_V) (l3 : mm_V) (l4 : mm_V) (l5 : mm_V) (l6 : mm_V), mm_E d 282 526 [(.inr (.inr z)), l1, l2, l3, l4, l5, l6] [] st n I L P = mm_E d 282 527 [(.inr (.inr z)), l1, l2, l3, l4, l5, l6] [] ((.inr (.inr z)) :: st) n I L P) ∧
  (∀ (st : List mm_V) z (l0 : mm_V) (l1 : mm_V) (l2 : mm_V) (l3 : mm_V) (l5 : mm_V) (l6 : mm_V), mm_E d 282 527 [l0, l1, l2, l3, (.inl z), l5, l6] [] st n I L P = mm_E d 282 529 [l0, l1, l2, l3, (.inl z), l5, l6] [] ((.inl z) :: st) n I L P) ∧
  (∀ (lv : List mm_V) (st : List mm_V), mm_E d 282 529 lv [] st n I L P = mm_E d 282 530 lv [] (.inl 1 :: st) n I L P) ∧
  (∀ (lv : List mm_V) (st : List mm_V) a b, mm_E d 282 530 lv [] (.inl b :: .inl a :: st) n I L P = mm_E d 282 531 lv [] (.inl (mm_add a b) :: st) n I L P) ∧
  (∀ (lv : List mm_V) (st : List mm_V) i, (0 ≤ i ∧ i < I 1000006 5000) → mm_E d 282 531 lv [] (.inl i :: .inr (.inr (some 1000006)) :: st) n I L P = mm_E d 282 532 lv [] (.inl (I 1000006 i.toNat) :: st) n I L P) ∧
  (∀ (lv : List mm_V) a x0 w0, (mm_ok n a 12) → mm_E d 282 532 lv [] (.inl x0 :: .inr (.inr (some a)) :: [.inl w0]) n I L P = mm_kr d 282 535 lv [] [.inl w0] n (mm_rn d 204 [.inr (.inr (some a)), .inl x0] n I L P)) ∧
  (∀ (lv : List mm_V) (st : List mm_V) a b, mm_E d 282 535 lv [] (.inl b :: .inl a :: st) n I L P = if a = b then mm_E d 282 1494 lv [] st n I L P else mm_E d 282 538 lv [] st n I L P) ∧
  (∀ (lv : List mm_V) (st : List mm_V), mm_E d 282 538 lv [] st n I L P = mm_E d 282 539 lv [] (.inl 0 :: st) n I L P) ∧
  (∀ (lv : List mm_V) z, (0 ≤ z ∧ z < 2) → mm_E d 282 539 lv [] [.inl z] n I L P = some (some (.inl z), n, I, L, P)) :=
  ⟨fun _ _ _ _ _ _ _ _ => mq_al (i := 1) rfl rfl,
   fun _ _ _ _ _ _ _ _ => mq_al (i := 0) rfl rfl,
   fun _ _ _ _ _ _ _ _ => mq_il (i := 4) rfl rfl,
   fun _ _ => mq_push rfl,
   fun _ _ _ _ => mq_bi rfl,
   fun _ _ _ h0 => mq_xald rfl h0,
   fun _ _ _ h0 => mq_cVr (na := 1) rfl rfl (Nat.le_of_ble_eq_true rfl) (Nat.le_of_ble_eq_true rfl) h0,
   fun _ _ _ _ _ _ _ _ => mq_al (i := 2) rfl rfl,
   fun _ _ _ _ _ _ _ _ => mq_al (i := 0) rfl rfl,
   fun _ _ _ _ _ _ _ _ => mq_il (i := 4) rfl rfl,
   fun _ _ => mq_push rfl,
   fun _ _ _ _ => mq_bi rfl,
   fun _ _ _ h0 => mq_xald rfl h0,
   fun _ _ _ _ h0 => mq_cVr (na := 1) rfl rfl (Nat.le_of_ble_eq_true rfl) (Nat.le_of_ble_eq_true rfl) h0,
   fun _ _ _ _ => mq_ic_eq rfl,
   fun _ _ => mq_push rfl,
   fun _ _ h0 => mq_rz rfl h0⟩
set_option maxRecDepth 20000 in
set_option maxHeartbeats 8000000 in
theorem kL_law_9 (d n : Nat) (I L : mm_I) (P : mm_P) :
  (∀ (st : List mm_V) z (l0 : mm_V) (l2 : mm_V) (l3 : mm_V) (l4 : mm_V) (l5 : mm_V) (l6 : mm_V), mm_E d 282 540 [l0, (.inr (.inr z)), l2, l3, l4, l5, l6] [] st n I L P = mm_E d 282 541 [l0, (.inr (.inr z)), l2, l3, l4, l5, l6] [] ((.inr (.inr z)) :: st) n I L P) ∧
  (∀ (st : List mm_V) z (l1 : mm_V) (l2 : mm_V) (l3 : mm_V) (l4 : mm_V) (l5 : mm_V) (l6 : mm_V), mm_E d 282 541 [(.inr (.inr z)), l1, l2, l3, l4, l5, l6] [] st n I L P = mm_E d 282 542 [(.inr (.inr z)), l1, l2, l3, l4, l5, l6] [] ((.inr (.inr z)) :: st) n I L P) ∧
  (∀ (st : List mm_V) z (l0 : mm_V) (l1 : mm_V) (l2 : mm_V) (l3 : mm_V) (l5 : mm_V) (l6 : mm_V), mm_E d 282 542 [l0, l1, l2, l3, (.inl z), l5, l6] [] st n I L P = mm_E d 282 544 [l0, l1, l2, l3, (.inl z), l5, l6] [] ((.inl z) :: st) n I L P) ∧
  (∀ (lv : List mm_V) (st : List mm_V), mm_E d 282 544 lv [] st n I L P = mm_E d 282 545 lv [] (.inl 1 :: st) n I L P) ∧
  (∀ (lv : List mm_V) (st : List mm_V) a b, mm_E d 282 545 lv [] (.inl b :: .inl a :: st) n I L P = mm_E d 282 546 lv [] (.inl (mm_add a b) :: st) n I L P) ∧
  (∀ (lv : List mm_V) (st : List mm_V) i, (0 ≤ i ∧ i < I 1000006 5000) → mm_E d 282 546 lv [] (.inl i :: .inr (.inr (some 1000006)) :: st) n I L P = mm_E d 282 547 lv [] (.inl (I 1000006 i.toNat) :: st) n I L P) ∧
  (∀ (lv : List mm_V) a x0, (mm_ok n a 11) → mm_E d 282 547 lv [] (.inl x0 :: .inr (.inr (some a)) :: []) n I L P = mm_kr d 282 550 lv [] [] n (mm_rn d 99 [.inr (.inr (some a)), .inl x0] n I L P)) ∧
  (∀ (st : List mm_V) z (l0 : mm_V) (l1 : mm_V) (l3 : mm_V) (l4 : mm_V) (l5 : mm_V) (l6 : mm_V), mm_E d 282 550 [l0, l1, (.inr (.inr z)), l3, l4, l5, l6] [] st n I L P = mm_E d 282 551 [l0, l1, (.inr (.inr z)), l3, l4, l5, l6] [] ((.inr (.inr z)) :: st) n I L P) ∧
  (∀ (st : List mm_V) z (l1 : mm_V) (l2 : mm_V) (l3 : mm_V) (l4 : mm_V) (l5 : mm_V) (l6 : mm_V), mm_E d 282 551 [(.inr (.inr z)), l1, l2, l3, l4, l5, l6] [] st n I L P = mm_E d 282 552 [(.inr (.inr z)), l1, l2, l3, l4, l5, l6] [] ((.inr (.inr z)) :: st) n I L P) ∧
  (∀ (st : List mm_V) z (l0 : mm_V) (l1 : mm_V) (l2 : mm_V) (l3 : mm_V) (l5 : mm_V) (l6 : mm_V), mm_E d 282 552 [l0, l1, l2, l3, (.inl z), l5, l6] [] st n I L P = mm_E d 282 554 [l0, l1, l2, l3, (.inl z), l5, l6] [] ((.inl z) :: st) n I L P) ∧
  (∀ (lv : List mm_V) (st : List mm_V), mm_E d 282 554 lv [] st n I L P = mm_E d 282 555 lv [] (.inl 1 :: st) n I L P) ∧
  (∀ (lv : List mm_V) (st : List mm_V) a b, mm_E d 282 555 lv [] (.inl b :: .inl a :: st) n I L P = mm_E d 282 556 lv [] (.inl (mm_add a b) :: st) n I L P) ∧
  (∀ (lv : List mm_V) (st : List mm_V) i, (0 ≤ i ∧ i < I 1000006 5000) → mm_E d 282 556 lv [] (.inl i :: .inr (.inr (some 1000006)) :: st) n I L P = mm_E d 282 557 lv [] (.inl (I 1000006 i.toNat) :: st) n I L P) ∧
  (∀ (lv : List mm_V) a x0 w0, (mm_ok n a 12) → mm_E d 282 557 lv [] (.inl x0 :: .inr (.inr (some a)) :: [.inl w0]) n I L P = mm_kr d 282 560 lv [] [.inl w0] n (mm_rn d 208 [.inr (.inr (some a)), .inl x0] n I L P)) ∧
  (∀ (lv : List mm_V) (st : List mm_V) a b, mm_E d 282 560 lv [] (.inl b :: .inl a :: st) n I L P = if a = b then mm_E d 282 1494 lv [] st n I L P else mm_E d 282 563 lv [] st n I L P) ∧
  (∀ (lv : List mm_V) (st : List mm_V), mm_E d 282 563 lv [] st n I L P = mm_E d 282 564 lv [] (.inl 0 :: st) n I L P) ∧
  (∀ (lv : List mm_V) z, (0 ≤ z ∧ z < 2) → mm_E d 282 564 lv [] [.inl z] n I L P = some (some (.inl z), n, I, L, P)) :=
  ⟨fun _ _ _ _ _ _ _ _ => mq_al (i := 1) rfl rfl,
   fun _ _ _ _ _ _ _ _ => mq_al (i := 0) rfl rfl,
   fun _ _ _ _ _ _ _ _ => mq_il (i := 4) rfl rfl,
   fun _ _ => mq_push rfl,
   fun _ _ _ _ => mq_bi rfl,
   fun _ _ _ h0 => mq_xald rfl h0,
   fun _ _ _ h0 => mq_cVr (na := 1) rfl rfl (Nat.le_of_ble_eq_true rfl) (Nat.le_of_ble_eq_true rfl) h0,
   fun _ _ _ _ _ _ _ _ => mq_al (i := 2) rfl rfl,
   fun _ _ _ _ _ _ _ _ => mq_al (i := 0) rfl rfl,
   fun _ _ _ _ _ _ _ _ => mq_il (i := 4) rfl rfl,
   fun _ _ => mq_push rfl,
   fun _ _ _ _ => mq_bi rfl,
   fun _ _ _ h0 => mq_xald rfl h0,
   fun _ _ _ _ h0 => mq_cVr (na := 1) rfl rfl (Nat.le_of_ble_eq_true rfl) (Nat.le_of_ble_eq_true rfl) h0,
   fun _ _ _ _ => mq_ic_eq rfl,
   fun _ _ => mq_push rfl,
   fun _ _ h0 => mq_rz rfl h0⟩
set_option maxRecDepth 20000 in
set_option maxHeartbeats 8000000 in
theorem kL_law_10 (d n : Nat) (I L : mm_I) (P : mm_P) :
  (∀ (st : List mm_V) z (l0 : mm_V) (l2 : mm_V) (l3 : mm_V) (l4 : mm_V) (l5 : mm_V) (l6 : mm_V), mm_E d 282 565 [l0, (.inr (.inr z)), l2, l3, l4, l5, l6] [] st n I L P = mm_E d 282 566 [l0, (.inr (.inr z)), l2, l3, l4, l5, l6] [] ((.inr (.inr z)) :: st) n I L P) ∧
  (∀ (st : List mm_V) z (l1 : mm_V) (l2 : mm_V) (l3 : mm_V) (l4 : mm_V) (l5 : mm_V) (l6 : mm_V), mm_E d 282 566 [(.inr (.inr z)), l1, l2, l3, l4, l5, l6] [] st n I L P = mm_E d 282 567 [(.inr (.inr z)), l1, l2, l3, l4, l5, l6] [] ((.inr (.inr z)) :: st) n I L P) ∧
  (∀ (st : List mm_V) z (l0 : mm_V) (l1 : mm_V) (l2 : mm_V) (l3 : mm_V) (l5 : mm_V) (l6 : mm_V), mm_E d 282 567 [l0, l1, l2, l3, (.inl z), l5, l6] [] st n I L P = mm_E d 282 569 [l0, l1, l2, l3, (.inl z), l5, l6] [] ((.inl z) :: st) n I L P) ∧
  (∀ (lv : List mm_V) (st : List mm_V), mm_E d 282 569 lv [] st n I L P = mm_E d 282 570 lv [] (.inl 1 :: st) n I L P) ∧
  (∀ (lv : List mm_V) (st : List mm_V) a b, mm_E d 282 570 lv [] (.inl b :: .inl a :: st) n I L P = mm_E d 282 571 lv [] (.inl (mm_add a b) :: st) n I L P) ∧
  (∀ (lv : List mm_V) (st : List mm_V) i, (0 ≤ i ∧ i < I 1000006 5000) → mm_E d 282 571 lv [] (.inl i :: .inr (.inr (some 1000006)) :: st) n I L P = mm_E d 282 572 lv [] (.inl (I 1000006 i.toNat) :: st) n I L P) ∧
  (∀ (lv : List mm_V) a x0, (mm_ok n a 11) → mm_E d 282 572 lv [] (.inl x0 :: .inr (.inr (some a)) :: []) n I L P = mm_kr d 282 575 lv [] [] n (mm_rn d 101 [.inr (.inr (some a)), .inl x0] n I L P)) ∧
  (∀ (st : List mm_V) z (l0 : mm_V) (l1 : mm_V) (l3 : mm_V) (l4 : mm_V) (l5 : mm_V) (l6 : mm_V), mm_E d 282 575 [l0, l1, (.inr (.inr z)), l3, l4, l5, l6] [] st n I L P = mm_E d 282 576 [l0, l1, (.inr (.inr z)), l3, l4, l5, l6] [] ((.inr (.inr z)) :: st) n I L P) ∧
  (∀ (st : List mm_V) z (l1 : mm_V) (l2 : mm_V) (l3 : mm_V) (l4 : mm_V) (l5 : mm_V) (l6 : mm_V), mm_E d 282 576 [(.inr (.inr z)), l1, l2, l3, l4, l5, l6] [] st n I L P = mm_E d 282 577 [(.inr (.inr z)), l1, l2, l3, l4, l5, l6] [] ((.inr (.inr z)) :: st) n I L P) ∧
  (∀ (st : List mm_V) z (l0 : mm_V) (l1 : mm_V) (l2 : mm_V) (l3 : mm_V) (l5 : mm_V) (l6 : mm_V), mm_E d 282 577 [l0, l1, l2, l3, (.inl z), l5, l6] [] st n I L P = mm_E d 282 579 [l0, l1, l2, l3, (.inl z), l5, l6] [] ((.inl z) :: st) n I L P) ∧
  (∀ (lv : List mm_V) (st : List mm_V), mm_E d 282 579 lv [] st n I L P = mm_E d 282 580 lv [] (.inl 1 :: st) n I L P) ∧
  (∀ (lv : List mm_V) (st : List mm_V) a b, mm_E d 282 580 lv [] (.inl b :: .inl a :: st) n I L P = mm_E d 282 581 lv [] (.inl (mm_add a b) :: st) n I L P) ∧
  (∀ (lv : List mm_V) (st : List mm_V) i, (0 ≤ i ∧ i < I 1000006 5000) → mm_E d 282 581 lv [] (.inl i :: .inr (.inr (some 1000006)) :: st) n I L P = mm_E d 282 582 lv [] (.inl (I 1000006 i.toNat) :: st) n I L P) ∧
  (∀ (lv : List mm_V) a x0 w0, (mm_ok n a 12) → mm_E d 282 582 lv [] (.inl x0 :: .inr (.inr (some a)) :: [.inl w0]) n I L P = mm_kr d 282 585 lv [] [.inl w0] n (mm_rn d 209 [.inr (.inr (some a)), .inl x0] n I L P)) ∧
  (∀ (lv : List mm_V) (st : List mm_V) a b, mm_E d 282 585 lv [] (.inl b :: .inl a :: st) n I L P = if a = b then mm_E d 282 1494 lv [] st n I L P else mm_E d 282 588 lv [] st n I L P) ∧
  (∀ (lv : List mm_V) (st : List mm_V), mm_E d 282 588 lv [] st n I L P = mm_E d 282 589 lv [] (.inl 0 :: st) n I L P) ∧
  (∀ (lv : List mm_V) z, (0 ≤ z ∧ z < 2) → mm_E d 282 589 lv [] [.inl z] n I L P = some (some (.inl z), n, I, L, P)) :=
  ⟨fun _ _ _ _ _ _ _ _ => mq_al (i := 1) rfl rfl,
   fun _ _ _ _ _ _ _ _ => mq_al (i := 0) rfl rfl,
   fun _ _ _ _ _ _ _ _ => mq_il (i := 4) rfl rfl,
   fun _ _ => mq_push rfl,
   fun _ _ _ _ => mq_bi rfl,
   fun _ _ _ h0 => mq_xald rfl h0,
   fun _ _ _ h0 => mq_cVr (na := 1) rfl rfl (Nat.le_of_ble_eq_true rfl) (Nat.le_of_ble_eq_true rfl) h0,
   fun _ _ _ _ _ _ _ _ => mq_al (i := 2) rfl rfl,
   fun _ _ _ _ _ _ _ _ => mq_al (i := 0) rfl rfl,
   fun _ _ _ _ _ _ _ _ => mq_il (i := 4) rfl rfl,
   fun _ _ => mq_push rfl,
   fun _ _ _ _ => mq_bi rfl,
   fun _ _ _ h0 => mq_xald rfl h0,
   fun _ _ _ _ h0 => mq_cVr (na := 1) rfl rfl (Nat.le_of_ble_eq_true rfl) (Nat.le_of_ble_eq_true rfl) h0,
   fun _ _ _ _ => mq_ic_eq rfl,
   fun _ _ => mq_push rfl,
   fun _ _ h0 => mq_rz rfl h0⟩
set_option maxRecDepth 20000 in
set_option maxHeartbeats 8000000 in
theorem kL_law_11 (d n : Nat) (I L : mm_I) (P : mm_P) :
  (∀ (st : List mm_V) z (l0 : mm_V) (l2 : mm_V) (l3 : mm_V) (l4 : mm_V) (l5 : mm_V) (l6 : mm_V), mm_E d 282 590 [l0, (.inr (.inr z)), l2, l3, l4, l5, l6] [] st n I L P = mm_E d 282 591 [l0, (.inr (.inr z)), l2, l3, l4, l5, l6] [] ((.inr (.inr z)) :: st) n I L P) ∧
  (∀ (lv : List mm_V) a, (mm_ok n a 11) → mm_E d 282 591 lv [] (.inr (.inr (some a)) :: []) n I L P = mm_kr d 282 594 lv [] [] n (mm_rn d 102 [.inr (.inr (some a))] n I L P)) ∧
  (∀ (st : List mm_V) z (l0 : mm_V) (l1 : mm_V) (l3 : mm_V) (l4 : mm_V) (l5 : mm_V) (l6 : mm_V), mm_E d 282 594 [l0, l1, (.inr (.inr z)), l3, l4, l5, l6] [] st n I L P = mm_E d 282 595 [l0, l1, (.inr (.inr z)), l3, l4, l5, l6] [] ((.inr (.inr z)) :: st) n I L P) ∧
  (∀ (lv : List mm_V) a w0, (mm_ok n a 12) → mm_E d 282 595 lv [] (.inr (.inr (some a)) :: [.inl w0]) n I L P = mm_kr d 282 598 lv [] [.inl w0] n (mm_rn d 211 [.inr (.inr (some a))] n I L P)) ∧
  (∀ (lv : List mm_V) (st : List mm_V) a b, mm_E d 282 598 lv [] (.inl b :: .inl a :: st) n I L P = if a = b then mm_E d 282 1494 lv [] st n I L P else mm_E d 282 601 lv [] st n I L P) ∧
  (∀ (lv : List mm_V) (st : List mm_V), mm_E d 282 601 lv [] st n I L P = mm_E d 282 602 lv [] (.inl 0 :: st) n I L P) ∧
  (∀ (lv : List mm_V) z, (0 ≤ z ∧ z < 2) → mm_E d 282 602 lv [] [.inl z] n I L P = some (some (.inl z), n, I, L, P)) :=
  ⟨fun _ _ _ _ _ _ _ _ => mq_al (i := 1) rfl rfl,
   fun _ _ h0 => mq_cVr (na := 0) rfl rfl (Nat.le_of_ble_eq_true rfl) (Nat.le_of_ble_eq_true rfl) h0,
   fun _ _ _ _ _ _ _ _ => mq_al (i := 2) rfl rfl,
   fun _ _ _ h0 => mq_cVr (na := 0) rfl rfl (Nat.le_of_ble_eq_true rfl) (Nat.le_of_ble_eq_true rfl) h0,
   fun _ _ _ _ => mq_ic_eq rfl,
   fun _ _ => mq_push rfl,
   fun _ _ h0 => mq_rz rfl h0⟩
set_option maxRecDepth 20000 in
set_option maxHeartbeats 8000000 in
theorem kL_law_12 (d n : Nat) (I L : mm_I) (P : mm_P) :
  (∀ (st : List mm_V) z (l0 : mm_V) (l2 : mm_V) (l3 : mm_V) (l4 : mm_V) (l5 : mm_V) (l6 : mm_V), mm_E d 282 603 [l0, (.inr (.inr z)), l2, l3, l4, l5, l6] [] st n I L P = mm_E d 282 604 [l0, (.inr (.inr z)), l2, l3, l4, l5, l6] [] ((.inr (.inr z)) :: st) n I L P) ∧
  (∀ (lv : List mm_V) a, (mm_ok n a 11) → mm_E d 282 604 lv [] (.inr (.inr (some a)) :: []) n I L P = mm_kr d 282 607 lv [] [] n (mm_rn d 103 [.inr (.inr (some a))] n I L P)) ∧
  (∀ (st : List mm_V) z (l0 : mm_V) (l1 : mm_V) (l3 : mm_V) (l4 : mm_V) (l5 : mm_V) (l6 : mm_V), mm_E d 282 607 [l0, l1, (.inr (.inr z)), l3, l4, l5, l6] [] st n I L P = mm_E d 282 608 [l0, l1, (.inr (.inr z)), l3, l4, l5, l6] [] ((.inr (.inr z)) :: st) n I L P) ∧
  (∀ (lv : List mm_V) a w0, (mm_ok n a 12) → mm_E d 282 608 lv [] (.inr (.inr (some a)) :: [.inl w0]) n I L P = mm_kr d 282 611 lv [] [.inl w0] n (mm_rn d 212 [.inr (.inr (some a))] n I L P)) ∧
  (∀ (lv : List mm_V) (st : List mm_V) a b, mm_E d 282 611 lv [] (.inl b :: .inl a :: st) n I L P = if a = b then mm_E d 282 1494 lv [] st n I L P else mm_E d 282 614 lv [] st n I L P) ∧
  (∀ (lv : List mm_V) (st : List mm_V), mm_E d 282 614 lv [] st n I L P = mm_E d 282 615 lv [] (.inl 0 :: st) n I L P) ∧
  (∀ (lv : List mm_V) z, (0 ≤ z ∧ z < 2) → mm_E d 282 615 lv [] [.inl z] n I L P = some (some (.inl z), n, I, L, P)) :=
  ⟨fun _ _ _ _ _ _ _ _ => mq_al (i := 1) rfl rfl,
   fun _ _ h0 => mq_cVr (na := 0) rfl rfl (Nat.le_of_ble_eq_true rfl) (Nat.le_of_ble_eq_true rfl) h0,
   fun _ _ _ _ _ _ _ _ => mq_al (i := 2) rfl rfl,
   fun _ _ _ h0 => mq_cVr (na := 0) rfl rfl (Nat.le_of_ble_eq_true rfl) (Nat.le_of_ble_eq_true rfl) h0,
   fun _ _ _ _ => mq_ic_eq rfl,
   fun _ _ => mq_push rfl,
   fun _ _ h0 => mq_rz rfl h0⟩
set_option maxRecDepth 20000 in
set_option maxHeartbeats 8000000 in
theorem kL_law_13 (d n : Nat) (I L : mm_I) (P : mm_P) :
  (∀ (st : List mm_V) z (l0 : mm_V) (l2 : mm_V) (l3 : mm_V) (l4 : mm_V) (l5 : mm_V) (l6 : mm_V), mm_E d 282 616 [l0, (.inr (.inr z)), l2, l3, l4, l5, l6] [] st n I L P = mm_E d 282 617 [l0, (.inr (.inr z)), l2, l3, l4, l5, l6] [] ((.inr (.inr z)) :: st) n I L P) ∧
  (∀ (lv : List mm_V) a, (mm_ok n a 11) → mm_E d 282 617 lv [] (.inr (.inr (some a)) :: []) n I L P = mm_kr d 282 620 lv [] [] n (mm_rn d 104 [.inr (.inr (some a))] n I L P)) ∧
  (∀ (st : List mm_V) z (l0 : mm_V) (l1 : mm_V) (l3 : mm_V) (l4 : mm_V) (l5 : mm_V) (l6 : mm_V), mm_E d 282 620 [l0, l1, (.inr (.inr z)), l3, l4, l5, l6] [] st n I L P = mm_E d 282 621 [l0, l1, (.inr (.inr z)), l3, l4, l5, l6] [] ((.inr (.inr z)) :: st) n I L P) ∧
  (∀ (lv : List mm_V) a w0, (mm_ok n a 12) → mm_E d 282 621 lv [] (.inr (.inr (some a)) :: [.inl w0]) n I L P = mm_kr d 282 624 lv [] [.inl w0] n (mm_rn d 213 [.inr (.inr (some a))] n I L P)) ∧
  (∀ (lv : List mm_V) (st : List mm_V) a b, mm_E d 282 624 lv [] (.inl b :: .inl a :: st) n I L P = if a = b then mm_E d 282 1494 lv [] st n I L P else mm_E d 282 627 lv [] st n I L P) ∧
  (∀ (lv : List mm_V) (st : List mm_V), mm_E d 282 627 lv [] st n I L P = mm_E d 282 628 lv [] (.inl 0 :: st) n I L P) ∧
  (∀ (lv : List mm_V) z, (0 ≤ z ∧ z < 2) → mm_E d 282 628 lv [] [.inl z] n I L P = some (some (.inl z), n, I, L, P)) :=
  ⟨fun _ _ _ _ _ _ _ _ => mq_al (i := 1) rfl rfl,
   fun _ _ h0 => mq_cVr (na := 0) rfl rfl (Nat.le_of_ble_eq_true rfl) (Nat.le_of_ble_eq_true rfl) h0,
   fun _ _ _ _ _ _ _ _ => mq_al (i := 2) rfl rfl,
   fun _ _ _ h0 => mq_cVr (na := 0) rfl rfl (Nat.le_of_ble_eq_true rfl) (Nat.le_of_ble_eq_true rfl) h0,
   fun _ _ _ _ => mq_ic_eq rfl,
   fun _ _ => mq_push rfl,
   fun _ _ h0 => mq_rz rfl h0⟩
set_option maxRecDepth 20000 in
set_option maxHeartbeats 8000000 in
theorem kL_law_14 (d n : Nat) (I L : mm_I) (P : mm_P) :
  (∀ (st : List mm_V) z (l0 : mm_V) (l2 : mm_V) (l3 : mm_V) (l4 : mm_V) (l5 : mm_V) (l6 : mm_V), mm_E d 282 629 [l0, (.inr (.inr z)), l2, l3, l4, l5, l6] [] st n I L P = mm_E d 282 630 [l0, (.inr (.inr z)), l2, l3, l4, l5, l6] [] ((.inr (.inr z)) :: st) n I L P) ∧
  (∀ (st : List mm_V) z (l1 : mm_V) (l2 : mm_V) (l3 : mm_V) (l4 : mm_V) (l5 : mm_V) (l6 : mm_V), mm_E d 282 630 [(.inr (.inr z)), l1, l2, l3, l4, l5, l6] [] st n I L P = mm_E d 282 631 [(.inr (.inr z)), l1, l2, l3, l4, l5, l6] [] ((.inr (.inr z)) :: st) n I L P) ∧
  (∀ (st : List mm_V) z (l0 : mm_V) (l1 : mm_V) (l2 : mm_V) (l3 : mm_V) (l5 : mm_V) (l6 : mm_V), mm_E d 282 631 [l0, l1, l2, l3, (.inl z), l5, l6] [] st n I L P = mm_E d 282 633 [l0, l1, l2, l3, (.inl z), l5, l6] [] ((.inl z) :: st) n I L P) ∧
  (∀ (lv : List mm_V) (st : List mm_V), mm_E d 282 633 lv [] st n I L P = mm_E d 282 634 lv [] (.inl 1 :: st) n I L P) ∧
  (∀ (lv : List mm_V) (st : List mm_V) a b, mm_E d 282 634 lv [] (.inl b :: .inl a :: st) n I L P = mm_E d 282 635 lv [] (.inl (mm_add a b) :: st) n I L P) ∧
  (∀ (lv : List mm_V) (st : List mm_V) i, (0 ≤ i ∧ i < I 1000006 5000) → mm_E d 282 635 lv [] (.inl i :: .inr (.inr (some 1000006)) :: st) n I L P = mm_E d 282 636 lv [] (.inl (I 1000006 i.toNat) :: st) n I L P) ∧
  (∀ (st : List mm_V) z (l1 : mm_V) (l2 : mm_V) (l3 : mm_V) (l4 : mm_V) (l5 : mm_V) (l6 : mm_V), mm_E d 282 636 [(.inr (.inr z)), l1, l2, l3, l4, l5, l6] [] st n I L P = mm_E d 282 637 [(.inr (.inr z)), l1, l2, l3, l4, l5, l6] [] ((.inr (.inr z)) :: st) n I L P) ∧
  (∀ (st : List mm_V) z (l0 : mm_V) (l1 : mm_V) (l2 : mm_V) (l3 : mm_V) (l5 : mm_V) (l6 : mm_V), mm_E d 282 637 [l0, l1, l2, l3, (.inl z), l5, l6] [] st n I L P = mm_E d 282 639 [l0, l1, l2, l3, (.inl z), l5, l6] [] ((.inl z) :: st) n I L P) ∧
  (∀ (lv : List mm_V) (st : List mm_V), mm_E d 282 639 lv [] st n I L P = mm_E d 282 640 lv [] (.inl 2 :: st) n I L P) ∧
  (∀ (lv : List mm_V) (st : List mm_V) a b, mm_E d 282 640 lv [] (.inl b :: .inl a :: st) n I L P = mm_E d 282 641 lv [] (.inl (mm_add a b) :: st) n I L P) ∧
  (∀ (lv : List mm_V) (st : List mm_V) i, (0 ≤ i ∧ i < I 1000006 5000) → mm_E d 282 641 lv [] (.inl i :: .inr (.inr (some 1000006)) :: st) n I L P = mm_E d 282 642 lv [] (.inl (I 1000006 i.toNat) :: st) n I L P) ∧
  (∀ (st : List mm_V) z (l1 : mm_V) (l2 : mm_V) (l3 : mm_V) (l4 : mm_V) (l5 : mm_V) (l6 : mm_V), mm_E d 282 642 [(.inr (.inr z)), l1, l2, l3, l4, l5, l6] [] st n I L P = mm_E d 282 643 [(.inr (.inr z)), l1, l2, l3, l4, l5, l6] [] ((.inr (.inr z)) :: st) n I L P) ∧
  (∀ (st : List mm_V) z (l0 : mm_V) (l1 : mm_V) (l2 : mm_V) (l3 : mm_V) (l5 : mm_V) (l6 : mm_V), mm_E d 282 643 [l0, l1, l2, l3, (.inl z), l5, l6] [] st n I L P = mm_E d 282 645 [l0, l1, l2, l3, (.inl z), l5, l6] [] ((.inl z) :: st) n I L P) ∧
  (∀ (lv : List mm_V) (st : List mm_V), mm_E d 282 645 lv [] st n I L P = mm_E d 282 646 lv [] (.inl 3 :: st) n I L P) ∧
  (∀ (lv : List mm_V) (st : List mm_V) a b, mm_E d 282 646 lv [] (.inl b :: .inl a :: st) n I L P = mm_E d 282 647 lv [] (.inl (mm_add a b) :: st) n I L P) ∧
  (∀ (lv : List mm_V) (st : List mm_V) i, (0 ≤ i ∧ i < I 1000006 5000) → mm_E d 282 647 lv [] (.inl i :: .inr (.inr (some 1000006)) :: st) n I L P = mm_E d 282 648 lv [] (.inl (I 1000006 i.toNat) :: st) n I L P) ∧
  (∀ (lv : List mm_V) a x0 x1 x2, (mm_ok n a 11) → mm_E d 282 648 lv [] (.inl x2 :: .inl x1 :: .inl x0 :: .inr (.inr (some a)) :: []) n I L P = mm_kr d 282 651 lv [] [] n (mm_rn d 105 [.inr (.inr (some a)), .inl x0, .inl x1, .inl x2] n I L P)) ∧
  (∀ (st : List mm_V) z (l0 : mm_V) (l1 : mm_V) (l3 : mm_V) (l4 : mm_V) (l5 : mm_V) (l6 : mm_V), mm_E d 282 651 [l0, l1, (.inr (.inr z)), l3, l4, l5, l6] [] st n I L P = mm_E d 282 652 [l0, l1, (.inr (.inr z)), l3, l4, l5, l6] [] ((.inr (.inr z)) :: st) n I L P) ∧
  (∀ (st : List mm_V) z (l1 : mm_V) (l2 : mm_V) (l3 : mm_V) (l4 : mm_V) (l5 : mm_V) (l6 : mm_V), mm_E d 282 652 [(.inr (.inr z)), l1, l2, l3, l4, l5, l6] [] st n I L P = mm_E d 282 653 [(.inr (.inr z)), l1, l2, l3, l4, l5, l6] [] ((.inr (.inr z)) :: st) n I L P) ∧
  (∀ (st : List mm_V) z (l0 : mm_V) (l1 : mm_V) (l2 : mm_V) (l3 : mm_V) (l5 : mm_V) (l6 : mm_V), mm_E d 282 653 [l0, l1, l2, l3, (.inl z), l5, l6] [] st n I L P = mm_E d 282 655 [l0, l1, l2, l3, (.inl z), l5, l6] [] ((.inl z) :: st) n I L P) ∧
  (∀ (lv : List mm_V) (st : List mm_V), mm_E d 282 655 lv [] st n I L P = mm_E d 282 656 lv [] (.inl 1 :: st) n I L P) ∧
  (∀ (lv : List mm_V) (st : List mm_V) a b, mm_E d 282 656 lv [] (.inl b :: .inl a :: st) n I L P = mm_E d 282 657 lv [] (.inl (mm_add a b) :: st) n I L P) ∧
  (∀ (lv : List mm_V) (st : List mm_V) i, (0 ≤ i ∧ i < I 1000006 5000) → mm_E d 282 657 lv [] (.inl i :: .inr (.inr (some 1000006)) :: st) n I L P = mm_E d 282 658 lv [] (.inl (I 1000006 i.toNat) :: st) n I L P) ∧
  (∀ (st : List mm_V) z (l1 : mm_V) (l2 : mm_V) (l3 : mm_V) (l4 : mm_V) (l5 : mm_V) (l6 : mm_V), mm_E d 282 658 [(.inr (.inr z)), l1, l2, l3, l4, l5, l6] [] st n I L P = mm_E d 282 659 [(.inr (.inr z)), l1, l2, l3, l4, l5, l6] [] ((.inr (.inr z)) :: st) n I L P) ∧
  (∀ (st : List mm_V) z (l0 : mm_V) (l1 : mm_V) (l2 : mm_V) (l3 : mm_V) (l5 : mm_V) (l6 : mm_V), mm_E d 282 659 [l0, l1, l2, l3, (.inl z), l5, l6] [] st n I L P = mm_E d 282 661 [l0, l1, l2, l3, (.inl z), l5, l6] [] ((.inl z) :: st) n I L P) ∧
  (∀ (lv : List mm_V) (st : List mm_V), mm_E d 282 661 lv [] st n I L P = mm_E d 282 662 lv [] (.inl 2 :: st) n I L P) ∧
  (∀ (lv : List mm_V) (st : List mm_V) a b, mm_E d 282 662 lv [] (.inl b :: .inl a :: st) n I L P = mm_E d 282 663 lv [] (.inl (mm_add a b) :: st) n I L P) ∧
  (∀ (lv : List mm_V) (st : List mm_V) i, (0 ≤ i ∧ i < I 1000006 5000) → mm_E d 282 663 lv [] (.inl i :: .inr (.inr (some 1000006)) :: st) n I L P = mm_E d 282 664 lv [] (.inl (I 1000006 i.toNat) :: st) n I L P) ∧
  (∀ (st : List mm_V) z (l1 : mm_V) (l2 : mm_V) (l3 : mm_V) (l4 : mm_V) (l5 : mm_V) (l6 : mm_V), mm_E d 282 664 [(.inr (.inr z)), l1, l2, l3, l4, l5, l6] [] st n I L P = mm_E d 282 665 [(.inr (.inr z)), l1, l2, l3, l4, l5, l6] [] ((.inr (.inr z)) :: st) n I L P) ∧
  (∀ (st : List mm_V) z (l0 : mm_V) (l1 : mm_V) (l2 : mm_V) (l3 : mm_V) (l5 : mm_V) (l6 : mm_V), mm_E d 282 665 [l0, l1, l2, l3, (.inl z), l5, l6] [] st n I L P = mm_E d 282 667 [l0, l1, l2, l3, (.inl z), l5, l6] [] ((.inl z) :: st) n I L P) ∧
  (∀ (lv : List mm_V) (st : List mm_V), mm_E d 282 667 lv [] st n I L P = mm_E d 282 668 lv [] (.inl 3 :: st) n I L P) ∧
  (∀ (lv : List mm_V) (st : List mm_V) a b, mm_E d 282 668 lv [] (.inl b :: .inl a :: st) n I L P = mm_E d 282 669 lv [] (.inl (mm_add a b) :: st) n I L P) ∧
  (∀ (lv : List mm_V) (st : List mm_V) i, (0 ≤ i ∧ i < I 1000006 5000) → mm_E d 282 669 lv [] (.inl i :: .inr (.inr (some 1000006)) :: st) n I L P = mm_E d 282 670 lv [] (.inl (I 1000006 i.toNat) :: st) n I L P) ∧
  (∀ (lv : List mm_V) a x0 x1 x2 w0, (mm_ok n a 12) → mm_E d 282 670 lv [] (.inl x2 :: .inl x1 :: .inl x0 :: .inr (.inr (some a)) :: [.inl w0]) n I L P = mm_kr d 282 673 lv [] [.inl w0] n (mm_rn d 215 [.inr (.inr (some a)), .inl x0, .inl x1, .inl x2] n I L P)) ∧
  (∀ (lv : List mm_V) (st : List mm_V) a b, mm_E d 282 673 lv [] (.inl b :: .inl a :: st) n I L P = if a = b then mm_E d 282 1494 lv [] st n I L P else mm_E d 282 676 lv [] st n I L P) ∧
  (∀ (lv : List mm_V) (st : List mm_V), mm_E d 282 676 lv [] st n I L P = mm_E d 282 677 lv [] (.inl 0 :: st) n I L P) ∧
  (∀ (lv : List mm_V) z, (0 ≤ z ∧ z < 2) → mm_E d 282 677 lv [] [.inl z] n I L P = some (some (.inl z), n, I, L, P)) :=
  ⟨fun _ _ _ _ _ _ _ _ => mq_al (i := 1) rfl rfl,
   fun _ _ _ _ _ _ _ _ => mq_al (i := 0) rfl rfl,
   fun _ _ _ _ _ _ _ _ => mq_il (i := 4) rfl rfl,
   fun _ _ => mq_push rfl,
   fun _ _ _ _ => mq_bi rfl,
   fun _ _ _ h0 => mq_xald rfl h0,
   fun _ _ _ _ _ _ _ _ => mq_al (i := 0) rfl rfl,
   fun _ _ _ _ _ _ _ _ => mq_il (i := 4) rfl rfl,
   fun _ _ => mq_push rfl,
   fun _ _ _ _ => mq_bi rfl,
   fun _ _ _ h0 => mq_xald rfl h0,
   fun _ _ _ _ _ _ _ _ => mq_al (i := 0) rfl rfl,
   fun _ _ _ _ _ _ _ _ => mq_il (i := 4) rfl rfl,
   fun _ _ => mq_push rfl,
   fun _ _ _ _ => mq_bi rfl,
   fun _ _ _ h0 => mq_xald rfl h0,
   fun _ _ _ _ _ h0 => mq_cVr (na := 3) rfl rfl (Nat.le_of_ble_eq_true rfl) (Nat.le_of_ble_eq_true rfl) h0,
   fun _ _ _ _ _ _ _ _ => mq_al (i := 2) rfl rfl,
   fun _ _ _ _ _ _ _ _ => mq_al (i := 0) rfl rfl,
   fun _ _ _ _ _ _ _ _ => mq_il (i := 4) rfl rfl,
   fun _ _ => mq_push rfl,
   fun _ _ _ _ => mq_bi rfl,
   fun _ _ _ h0 => mq_xald rfl h0,
   fun _ _ _ _ _ _ _ _ => mq_al (i := 0) rfl rfl,
   fun _ _ _ _ _ _ _ _ => mq_il (i := 4) rfl rfl,
   fun _ _ => mq_push rfl,
   fun _ _ _ _ => mq_bi rfl,
   fun _ _ _ h0 => mq_xald rfl h0,
   fun _ _ _ _ _ _ _ _ => mq_al (i := 0) rfl rfl,
   fun _ _ _ _ _ _ _ _ => mq_il (i := 4) rfl rfl,
   fun _ _ => mq_push rfl,
   fun _ _ _ _ => mq_bi rfl,
   fun _ _ _ h0 => mq_xald rfl h0,
   fun _ _ _ _ _ _ h0 => mq_cVr (na := 3) rfl rfl (Nat.le_of_ble_eq_true rfl) (Nat.le_of_ble_eq_true rfl) h0,
   fun _ _ _ _ => mq_ic_eq rfl,
   fun _ _ => mq_push rfl,
   fun _ _ h0 => mq_rz rfl h0⟩
set_option maxRecDepth 20000 in
set_option maxHeartbeats 8000000 in
theorem kL_law_15 (d n : Nat) (I L : mm_I) (P : mm_P) :
  (∀ (st : List mm_V) z (l0 : mm_V) (l2 : mm_V) (l3 : mm_V) (l4 : mm_V) (l5 : mm_V) (l6 : mm_V), mm_E d 282 678 [l0, (.inr (.inr z)), l2, l3, l4, l5, l6] [] st n I L P = mm_E d 282 679 [l0, (.inr (.inr z)), l2, l3, l4, l5, l6] [] ((.inr (.inr z)) :: st) n I L P) ∧
  (∀ (st : List mm_V) z (l1 : mm_V) (l2 : mm_V) (l3 : mm_V) (l4 : mm_V) (l5 : mm_V) (l6 : mm_V), mm_E d 282 679 [(.inr (.inr z)), l1, l2, l3, l4, l5, l6] [] st n I L P = mm_E d 282 680 [(.inr (.inr z)), l1, l2, l3, l4, l5, l6] [] ((.inr (.inr z)) :: st) n I L P) ∧
  (∀ (st : List mm_V) z (l0 : mm_V) (l1 : mm_V) (l2 : mm_V) (l3 : mm_V) (l5 : mm_V) (l6 : mm_V), mm_E d 282 680 [l0, l1, l2, l3, (.inl z), l5, l6] [] st n I L P = mm_E d 282 682 [l0, l1, l2, l3, (.inl z), l5, l6] [] ((.inl z) :: st) n I L P) ∧
  (∀ (lv : List mm_V) (st : List mm_V), mm_E d 282 682 lv [] st n I L P = mm_E d 282 683 lv [] (.inl 1 :: st) n I L P) ∧
  (∀ (lv : List mm_V) (st : List mm_V) a b, mm_E d 282 683 lv [] (.inl b :: .inl a :: st) n I L P = mm_E d 282 684 lv [] (.inl (mm_add a b) :: st) n I L P) ∧
  (∀ (lv : List mm_V) (st : List mm_V) i, (0 ≤ i ∧ i < I 1000006 5000) → mm_E d 282 684 lv [] (.inl i :: .inr (.inr (some 1000006)) :: st) n I L P = mm_E d 282 685 lv [] (.inl (I 1000006 i.toNat) :: st) n I L P) ∧
  (∀ (lv : List mm_V) a x0, (mm_ok n a 11) → mm_E d 282 685 lv [] (.inl x0 :: .inr (.inr (some a)) :: []) n I L P = mm_kr d 282 688 lv [] [] n (mm_rn d 106 [.inr (.inr (some a)), .inl x0] n I L P)) ∧
  (∀ (st : List mm_V) z (l0 : mm_V) (l1 : mm_V) (l3 : mm_V) (l4 : mm_V) (l5 : mm_V) (l6 : mm_V), mm_E d 282 688 [l0, l1, (.inr (.inr z)), l3, l4, l5, l6] [] st n I L P = mm_E d 282 689 [l0, l1, (.inr (.inr z)), l3, l4, l5, l6] [] ((.inr (.inr z)) :: st) n I L P) ∧
  (∀ (st : List mm_V) z (l1 : mm_V) (l2 : mm_V) (l3 : mm_V) (l4 : mm_V) (l5 : mm_V) (l6 : mm_V), mm_E d 282 689 [(.inr (.inr z)), l1, l2, l3, l4, l5, l6] [] st n I L P = mm_E d 282 690 [(.inr (.inr z)), l1, l2, l3, l4, l5, l6] [] ((.inr (.inr z)) :: st) n I L P) ∧
  (∀ (st : List mm_V) z (l0 : mm_V) (l1 : mm_V) (l2 : mm_V) (l3 : mm_V) (l5 : mm_V) (l6 : mm_V), mm_E d 282 690 [l0, l1, l2, l3, (.inl z), l5, l6] [] st n I L P = mm_E d 282 692 [l0, l1, l2, l3, (.inl z), l5, l6] [] ((.inl z) :: st) n I L P) ∧
  (∀ (lv : List mm_V) (st : List mm_V), mm_E d 282 692 lv [] st n I L P = mm_E d 282 693 lv [] (.inl 1 :: st) n I L P) ∧
  (∀ (lv : List mm_V) (st : List mm_V) a b, mm_E d 282 693 lv [] (.inl b :: .inl a :: st) n I L P = mm_E d 282 694 lv [] (.inl (mm_add a b) :: st) n I L P) ∧
  (∀ (lv : List mm_V) (st : List mm_V) i, (0 ≤ i ∧ i < I 1000006 5000) → mm_E d 282 694 lv [] (.inl i :: .inr (.inr (some 1000006)) :: st) n I L P = mm_E d 282 695 lv [] (.inl (I 1000006 i.toNat) :: st) n I L P) ∧
  (∀ (lv : List mm_V) a x0 w0, (mm_ok n a 12) → mm_E d 282 695 lv [] (.inl x0 :: .inr (.inr (some a)) :: [.inl w0]) n I L P = mm_kr d 282 698 lv [] [.inl w0] n (mm_rn d 216 [.inr (.inr (some a)), .inl x0] n I L P)) ∧
  (∀ (lv : List mm_V) (st : List mm_V) a b, mm_E d 282 698 lv [] (.inl b :: .inl a :: st) n I L P = if a = b then mm_E d 282 1494 lv [] st n I L P else mm_E d 282 701 lv [] st n I L P) ∧
  (∀ (lv : List mm_V) (st : List mm_V), mm_E d 282 701 lv [] st n I L P = mm_E d 282 702 lv [] (.inl 0 :: st) n I L P) ∧
  (∀ (lv : List mm_V) z, (0 ≤ z ∧ z < 2) → mm_E d 282 702 lv [] [.inl z] n I L P = some (some (.inl z), n, I, L, P)) :=
  ⟨fun _ _ _ _ _ _ _ _ => mq_al (i := 1) rfl rfl,
   fun _ _ _ _ _ _ _ _ => mq_al (i := 0) rfl rfl,
   fun _ _ _ _ _ _ _ _ => mq_il (i := 4) rfl rfl,
   fun _ _ => mq_push rfl,
   fun _ _ _ _ => mq_bi rfl,
   fun _ _ _ h0 => mq_xald rfl h0,
   fun _ _ _ h0 => mq_cVr (na := 1) rfl rfl (Nat.le_of_ble_eq_true rfl) (Nat.le_of_ble_eq_true rfl) h0,
   fun _ _ _ _ _ _ _ _ => mq_al (i := 2) rfl rfl,
   fun _ _ _ _ _ _ _ _ => mq_al (i := 0) rfl rfl,
   fun _ _ _ _ _ _ _ _ => mq_il (i := 4) rfl rfl,
   fun _ _ => mq_push rfl,
   fun _ _ _ _ => mq_bi rfl,
   fun _ _ _ h0 => mq_xald rfl h0,
   fun _ _ _ _ h0 => mq_cVr (na := 1) rfl rfl (Nat.le_of_ble_eq_true rfl) (Nat.le_of_ble_eq_true rfl) h0,
   fun _ _ _ _ => mq_ic_eq rfl,
   fun _ _ => mq_push rfl,
   fun _ _ h0 => mq_rz rfl h0⟩
set_option maxRecDepth 20000 in
set_option maxHeartbeats 8000000 in
theorem kL_law_16 (d n : Nat) (I L : mm_I) (P : mm_P) :
  (∀ (st : List mm_V) z (l0 : mm_V) (l2 : mm_V) (l3 : mm_V) (l4 : mm_V) (l5 : mm_V) (l6 : mm_V), mm_E d 282 703 [l0, (.inr (.inr z)), l2, l3, l4, l5, l6] [] st n I L P = mm_E d 282 704 [l0, (.inr (.inr z)), l2, l3, l4, l5, l6] [] ((.inr (.inr z)) :: st) n I L P) ∧
  (∀ (st : List mm_V) z (l1 : mm_V) (l2 : mm_V) (l3 : mm_V) (l4 : mm_V) (l5 : mm_V) (l6 : mm_V), mm_E d 282 704 [(.inr (.inr z)), l1, l2, l3, l4, l5, l6] [] st n I L P = mm_E d 282 705 [(.inr (.inr z)), l1, l2, l3, l4, l5, l6] [] ((.inr (.inr z)) :: st) n I L P) ∧
  (∀ (st : List mm_V) z (l0 : mm_V) (l1 : mm_V) (l2 : mm_V) (l3 : mm_V) (l5 : mm_V) (l6 : mm_V), mm_E d 282 705 [l0, l1, l2, l3, (.inl z), l5, l6] [] st n I L P = mm_E d 282 707 [l0, l1, l2, l3, (.inl z), l5, l6] [] ((.inl z) :: st) n I L P) ∧
  (∀ (lv : List mm_V) (st : List mm_V), mm_E d 282 707 lv [] st n I L P = mm_E d 282 708 lv [] (.inl 1 :: st) n I L P) ∧
  (∀ (lv : List mm_V) (st : List mm_V) a b, mm_E d 282 708 lv [] (.inl b :: .inl a :: st) n I L P = mm_E d 282 709 lv [] (.inl (mm_add a b) :: st) n I L P) ∧
  (∀ (lv : List mm_V) (st : List mm_V) i, (0 ≤ i ∧ i < I 1000006 5000) → mm_E d 282 709 lv [] (.inl i :: .inr (.inr (some 1000006)) :: st) n I L P = mm_E d 282 710 lv [] (.inl (I 1000006 i.toNat) :: st) n I L P) ∧
  (∀ (st : List mm_V) z (l1 : mm_V) (l2 : mm_V) (l3 : mm_V) (l4 : mm_V) (l5 : mm_V) (l6 : mm_V), mm_E d 282 710 [(.inr (.inr z)), l1, l2, l3, l4, l5, l6] [] st n I L P = mm_E d 282 711 [(.inr (.inr z)), l1, l2, l3, l4, l5, l6] [] ((.inr (.inr z)) :: st) n I L P) ∧
  (∀ (st : List mm_V) z (l0 : mm_V) (l1 : mm_V) (l2 : mm_V) (l3 : mm_V) (l5 : mm_V) (l6 : mm_V), mm_E d 282 711 [l0, l1, l2, l3, (.inl z), l5, l6] [] st n I L P = mm_E d 282 713 [l0, l1, l2, l3, (.inl z), l5, l6] [] ((.inl z) :: st) n I L P) ∧
  (∀ (lv : List mm_V) (st : List mm_V), mm_E d 282 713 lv [] st n I L P = mm_E d 282 714 lv [] (.inl 2 :: st) n I L P) ∧
  (∀ (lv : List mm_V) (st : List mm_V) a b, mm_E d 282 714 lv [] (.inl b :: .inl a :: st) n I L P = mm_E d 282 715 lv [] (.inl (mm_add a b) :: st) n I L P) ∧
  (∀ (lv : List mm_V) (st : List mm_V) i, (0 ≤ i ∧ i < I 1000006 5000) → mm_E d 282 715 lv [] (.inl i :: .inr (.inr (some 1000006)) :: st) n I L P = mm_E d 282 716 lv [] (.inl (I 1000006 i.toNat) :: st) n I L P) ∧
  (∀ (lv : List mm_V) (st : List mm_V) a, mm_E d 282 716 lv [] (.inl a :: st) n I L P = mm_E d 282 717 lv [] (.inr (.inl a) :: st) n I L P) ∧
  (∀ (lv : List mm_V) (st : List mm_V), mm_E d 282 717 lv [] st n I L P = mm_E d 282 719 lv [] (.inl 32 :: st) n I L P) ∧
  (∀ (lv : List mm_V) (st : List mm_V) a b, mm_E d 282 719 lv [] (.inl b :: .inr (.inl a) :: st) n I L P = mm_E d 282 720 lv [] (.inr (.inl (mm_lshl a b)) :: st) n I L P) ∧
  (∀ (st : List mm_V) z (l1 : mm_V) (l2 : mm_V) (l3 : mm_V) (l4 : mm_V) (l5 : mm_V) (l6 : mm_V), mm_E d 282 720 [(.inr (.inr z)), l1, l2, l3, l4, l5, l6] [] st n I L P = mm_E d 282 721 [(.inr (.inr z)), l1, l2, l3, l4, l5, l6] [] ((.inr (.inr z)) :: st) n I L P) ∧
  (∀ (st : List mm_V) z (l0 : mm_V) (l1 : mm_V) (l2 : mm_V) (l3 : mm_V) (l5 : mm_V) (l6 : mm_V), mm_E d 282 721 [l0, l1, l2, l3, (.inl z), l5, l6] [] st n I L P = mm_E d 282 723 [l0, l1, l2, l3, (.inl z), l5, l6] [] ((.inl z) :: st) n I L P) ∧
  (∀ (lv : List mm_V) (st : List mm_V), mm_E d 282 723 lv [] st n I L P = mm_E d 282 724 lv [] (.inl 3 :: st) n I L P) ∧
  (∀ (lv : List mm_V) (st : List mm_V) a b, mm_E d 282 724 lv [] (.inl b :: .inl a :: st) n I L P = mm_E d 282 725 lv [] (.inl (mm_add a b) :: st) n I L P) ∧
  (∀ (lv : List mm_V) (st : List mm_V) i, (0 ≤ i ∧ i < I 1000006 5000) → mm_E d 282 725 lv [] (.inl i :: .inr (.inr (some 1000006)) :: st) n I L P = mm_E d 282 726 lv [] (.inl (I 1000006 i.toNat) :: st) n I L P) ∧
  (∀ (lv : List mm_V) (st : List mm_V) a, mm_E d 282 726 lv [] (.inl a :: st) n I L P = mm_E d 282 727 lv [] (.inr (.inl a) :: st) n I L P) ∧
  (∀ (lv : List mm_V) (st : List mm_V), mm_E d 282 727 lv [] st n I L P = mm_E d 282 730 lv [] (.inr (.inl 4294967295) :: st) n I L P) ∧
  (∀ (lv : List mm_V) (st : List mm_V) a b, mm_E d 282 730 lv [] (.inr (.inl b) :: .inr (.inl a) :: st) n I L P = mm_E d 282 731 lv [] (.inr (.inl (mm_landl a b)) :: st) n I L P) ∧
  (∀ (lv : List mm_V) (st : List mm_V) a b, mm_E d 282 731 lv [] (.inr (.inl b) :: .inr (.inl a) :: st) n I L P = mm_E d 282 732 lv [] (.inr (.inl (mm_lorl a b)) :: st) n I L P) ∧
  (∀ (lv : List mm_V) a x0 x1, (mm_ok n a 11) → mm_E d 282 732 lv [] (.inr (.inl x1) :: .inl x0 :: .inr (.inr (some a)) :: []) n I L P = mm_kr d 282 735 lv [] [] n (mm_rn d 107 [.inr (.inr (some a)), .inl x0, .inr (.inl x1)] n I L P)) ∧
  (∀ (st : List mm_V) z (l0 : mm_V) (l1 : mm_V) (l3 : mm_V) (l4 : mm_V) (l5 : mm_V) (l6 : mm_V), mm_E d 282 735 [l0, l1, (.inr (.inr z)), l3, l4, l5, l6] [] st n I L P = mm_E d 282 736 [l0, l1, (.inr (.inr z)), l3, l4, l5, l6] [] ((.inr (.inr z)) :: st) n I L P) ∧
  (∀ (st : List mm_V) z (l1 : mm_V) (l2 : mm_V) (l3 : mm_V) (l4 : mm_V) (l5 : mm_V) (l6 : mm_V), mm_E d 282 736 [(.inr (.inr z)), l1, l2, l3, l4, l5, l6] [] st n I L P = mm_E d 282 737 [(.inr (.inr z)), l1, l2, l3, l4, l5, l6] [] ((.inr (.inr z)) :: st) n I L P) ∧
  (∀ (st : List mm_V) z (l0 : mm_V) (l1 : mm_V) (l2 : mm_V) (l3 : mm_V) (l5 : mm_V) (l6 : mm_V), mm_E d 282 737 [l0, l1, l2, l3, (.inl z), l5, l6] [] st n I L P = mm_E d 282 739 [l0, l1, l2, l3, (.inl z), l5, l6] [] ((.inl z) :: st) n I L P) ∧
  (∀ (lv : List mm_V) (st : List mm_V), mm_E d 282 739 lv [] st n I L P = mm_E d 282 740 lv [] (.inl 1 :: st) n I L P) ∧
  (∀ (lv : List mm_V) (st : List mm_V) a b, mm_E d 282 740 lv [] (.inl b :: .inl a :: st) n I L P = mm_E d 282 741 lv [] (.inl (mm_add a b) :: st) n I L P) ∧
  (∀ (lv : List mm_V) (st : List mm_V) i, (0 ≤ i ∧ i < I 1000006 5000) → mm_E d 282 741 lv [] (.inl i :: .inr (.inr (some 1000006)) :: st) n I L P = mm_E d 282 742 lv [] (.inl (I 1000006 i.toNat) :: st) n I L P) ∧
  (∀ (st : List mm_V) z (l1 : mm_V) (l2 : mm_V) (l3 : mm_V) (l4 : mm_V) (l5 : mm_V) (l6 : mm_V), mm_E d 282 742 [(.inr (.inr z)), l1, l2, l3, l4, l5, l6] [] st n I L P = mm_E d 282 743 [(.inr (.inr z)), l1, l2, l3, l4, l5, l6] [] ((.inr (.inr z)) :: st) n I L P) ∧
  (∀ (st : List mm_V) z (l0 : mm_V) (l1 : mm_V) (l2 : mm_V) (l3 : mm_V) (l5 : mm_V) (l6 : mm_V), mm_E d 282 743 [l0, l1, l2, l3, (.inl z), l5, l6] [] st n I L P = mm_E d 282 745 [l0, l1, l2, l3, (.inl z), l5, l6] [] ((.inl z) :: st) n I L P) ∧
  (∀ (lv : List mm_V) (st : List mm_V), mm_E d 282 745 lv [] st n I L P = mm_E d 282 746 lv [] (.inl 2 :: st) n I L P) ∧
  (∀ (lv : List mm_V) (st : List mm_V) a b, mm_E d 282 746 lv [] (.inl b :: .inl a :: st) n I L P = mm_E d 282 747 lv [] (.inl (mm_add a b) :: st) n I L P) ∧
  (∀ (lv : List mm_V) (st : List mm_V) i, (0 ≤ i ∧ i < I 1000006 5000) → mm_E d 282 747 lv [] (.inl i :: .inr (.inr (some 1000006)) :: st) n I L P = mm_E d 282 748 lv [] (.inl (I 1000006 i.toNat) :: st) n I L P) ∧
  (∀ (lv : List mm_V) (st : List mm_V) a, mm_E d 282 748 lv [] (.inl a :: st) n I L P = mm_E d 282 749 lv [] (.inr (.inl a) :: st) n I L P) ∧
  (∀ (lv : List mm_V) (st : List mm_V), mm_E d 282 749 lv [] st n I L P = mm_E d 282 751 lv [] (.inl 32 :: st) n I L P) ∧
  (∀ (lv : List mm_V) (st : List mm_V) a b, mm_E d 282 751 lv [] (.inl b :: .inr (.inl a) :: st) n I L P = mm_E d 282 752 lv [] (.inr (.inl (mm_lshl a b)) :: st) n I L P) ∧
  (∀ (st : List mm_V) z (l1 : mm_V) (l2 : mm_V) (l3 : mm_V) (l4 : mm_V) (l5 : mm_V) (l6 : mm_V), mm_E d 282 752 [(.inr (.inr z)), l1, l2, l3, l4, l5, l6] [] st n I L P = mm_E d 282 753 [(.inr (.inr z)), l1, l2, l3, l4, l5, l6] [] ((.inr (.inr z)) :: st) n I L P) ∧
  (∀ (st : List mm_V) z (l0 : mm_V) (l1 : mm_V) (l2 : mm_V) (l3 : mm_V) (l5 : mm_V) (l6 : mm_V), mm_E d 282 753 [l0, l1, l2, l3, (.inl z), l5, l6] [] st n I L P = mm_E d 282 755 [l0, l1, l2, l3, (.inl z), l5, l6] [] ((.inl z) :: st) n I L P) ∧
  (∀ (lv : List mm_V) (st : List mm_V), mm_E d 282 755 lv [] st n I L P = mm_E d 282 756 lv [] (.inl 3 :: st) n I L P) ∧
  (∀ (lv : List mm_V) (st : List mm_V) a b, mm_E d 282 756 lv [] (.inl b :: .inl a :: st) n I L P = mm_E d 282 757 lv [] (.inl (mm_add a b) :: st) n I L P) ∧
  (∀ (lv : List mm_V) (st : List mm_V) i, (0 ≤ i ∧ i < I 1000006 5000) → mm_E d 282 757 lv [] (.inl i :: .inr (.inr (some 1000006)) :: st) n I L P = mm_E d 282 758 lv [] (.inl (I 1000006 i.toNat) :: st) n I L P) ∧
  (∀ (lv : List mm_V) (st : List mm_V) a, mm_E d 282 758 lv [] (.inl a :: st) n I L P = mm_E d 282 759 lv [] (.inr (.inl a) :: st) n I L P) ∧
  (∀ (lv : List mm_V) (st : List mm_V), mm_E d 282 759 lv [] st n I L P = mm_E d 282 762 lv [] (.inr (.inl 4294967295) :: st) n I L P) ∧
  (∀ (lv : List mm_V) (st : List mm_V) a b, mm_E d 282 762 lv [] (.inr (.inl b) :: .inr (.inl a) :: st) n I L P = mm_E d 282 763 lv [] (.inr (.inl (mm_landl a b)) :: st) n I L P) ∧
  (∀ (lv : List mm_V) (st : List mm_V) a b, mm_E d 282 763 lv [] (.inr (.inl b) :: .inr (.inl a) :: st) n I L P = mm_E d 282 764 lv [] (.inr (.inl (mm_lorl a b)) :: st) n I L P) ∧
  (∀ (lv : List mm_V) a x0 x1 w0, (mm_ok n a 12) → mm_E d 282 764 lv [] (.inr (.inl x1) :: .inl x0 :: .inr (.inr (some a)) :: [.inl w0]) n I L P = mm_kr d 282 767 lv [] [.inl w0] n (mm_rn d 219 [.inr (.inr (some a)), .inl x0, .inr (.inl x1)] n I L P)) ∧
  (∀ (lv : List mm_V) (st : List mm_V) a b, mm_E d 282 767 lv [] (.inl b :: .inl a :: st) n I L P = if a = b then mm_E d 282 1494 lv [] st n I L P else mm_E d 282 770 lv [] st n I L P) ∧
  (∀ (lv : List mm_V) (st : List mm_V), mm_E d 282 770 lv [] st n I L P = mm_E d 282 771 lv [] (.inl 0 :: st) n I L P) ∧
  (∀ (lv : List mm_V) z, (0 ≤ z ∧ z < 2) → mm_E d 282 771 lv [] [.inl z] n I L P = some (some (.inl z), n, I, L, P)) :=
  ⟨fun _ _ _ _ _ _ _ _ => mq_al (i := 1) rfl rfl,
   fun _ _ _ _ _ _ _ _ => mq_al (i := 0) rfl rfl,
   fun _ _ _ _ _ _ _ _ => mq_il (i := 4) rfl rfl,
   fun _ _ => mq_push rfl,
   fun _ _ _ _ => mq_bi rfl,
   fun _ _ _ h0 => mq_xald rfl h0,
   fun _ _ _ _ _ _ _ _ => mq_al (i := 0) rfl rfl,
   fun _ _ _ _ _ _ _ _ => mq_il (i := 4) rfl rfl,
   fun _ _ => mq_push rfl,
   fun _ _ _ _ => mq_bi rfl,
   fun _ _ _ h0 => mq_xald rfl h0,
   fun _ _ _ => mq_i2l rfl,
   fun _ _ => mq_push rfl,
   fun _ _ _ _ => mq_sl rfl,
   fun _ _ _ _ _ _ _ _ => mq_al (i := 0) rfl rfl,
   fun _ _ _ _ _ _ _ _ => mq_il (i := 4) rfl rfl,
   fun _ _ => mq_push rfl,
   fun _ _ _ _ => mq_bi rfl,
   fun _ _ _ h0 => mq_xald rfl h0,
   fun _ _ _ => mq_i2l rfl,
   fun _ _ => mq_push rfl,
   fun _ _ _ _ => mq_bl rfl,
   fun _ _ _ _ => mq_bl rfl,
   fun _ _ _ _ h0 => mq_cVr (na := 2) rfl rfl (Nat.le_of_ble_eq_true rfl) (Nat.le_of_ble_eq_true rfl) h0,
   fun _ _ _ _ _ _ _ _ => mq_al (i := 2) rfl rfl,
   fun _ _ _ _ _ _ _ _ => mq_al (i := 0) rfl rfl,
   fun _ _ _ _ _ _ _ _ => mq_il (i := 4) rfl rfl,
   fun _ _ => mq_push rfl,
   fun _ _ _ _ => mq_bi rfl,
   fun _ _ _ h0 => mq_xald rfl h0,
   fun _ _ _ _ _ _ _ _ => mq_al (i := 0) rfl rfl,
   fun _ _ _ _ _ _ _ _ => mq_il (i := 4) rfl rfl,
   fun _ _ => mq_push rfl,
   fun _ _ _ _ => mq_bi rfl,
   fun _ _ _ h0 => mq_xald rfl h0,
   fun _ _ _ => mq_i2l rfl,
   fun _ _ => mq_push rfl,
   fun _ _ _ _ => mq_sl rfl,
   fun _ _ _ _ _ _ _ _ => mq_al (i := 0) rfl rfl,
   fun _ _ _ _ _ _ _ _ => mq_il (i := 4) rfl rfl,
   fun _ _ => mq_push rfl,
   fun _ _ _ _ => mq_bi rfl,
   fun _ _ _ h0 => mq_xald rfl h0,
   fun _ _ _ => mq_i2l rfl,
   fun _ _ => mq_push rfl,
   fun _ _ _ _ => mq_bl rfl,
   fun _ _ _ _ => mq_bl rfl,
   fun _ _ _ _ _ h0 => mq_cVr (na := 2) rfl rfl (Nat.le_of_ble_eq_true rfl) (Nat.le_of_ble_eq_true rfl) h0,
   fun _ _ _ _ => mq_ic_eq rfl,
   fun _ _ => mq_push rfl,
   fun _ _ h0 => mq_rz rfl h0⟩
set_option maxRecDepth 20000 in
set_option maxHeartbeats 8000000 in
theorem kL_law_17 (d n : Nat) (I L : mm_I) (P : mm_P) :
  (∀ (st : List mm_V) z (l0 : mm_V) (l2 : mm_V) (l3 : mm_V) (l4 : mm_V) (l5 : mm_V) (l6 : mm_V), mm_E d 282 772 [l0, (.inr (.inr z)), l2, l3, l4, l5, l6] [] st n I L P = mm_E d 282 773 [l0, (.inr (.inr z)), l2, l3, l4, l5, l6] [] ((.inr (.inr z)) :: st) n I L P) ∧
  (∀ (st : List mm_V) z (l1 : mm_V) (l2 : mm_V) (l3 : mm_V) (l4 : mm_V) (l5 : mm_V) (l6 : mm_V), mm_E d 282 773 [(.inr (.inr z)), l1, l2, l3, l4, l5, l6] [] st n I L P = mm_E d 282 774 [(.inr (.inr z)), l1, l2, l3, l4, l5, l6] [] ((.inr (.inr z)) :: st) n I L P) ∧
  (∀ (st : List mm_V) z (l0 : mm_V) (l1 : mm_V) (l2 : mm_V) (l3 : mm_V) (l5 : mm_V) (l6 : mm_V), mm_E d 282 774 [l0, l1, l2, l3, (.inl z), l5, l6] [] st n I L P = mm_E d 282 776 [l0, l1, l2, l3, (.inl z), l5, l6] [] ((.inl z) :: st) n I L P) ∧
  (∀ (lv : List mm_V) (st : List mm_V), mm_E d 282 776 lv [] st n I L P = mm_E d 282 777 lv [] (.inl 1 :: st) n I L P) ∧
  (∀ (lv : List mm_V) (st : List mm_V) a b, mm_E d 282 777 lv [] (.inl b :: .inl a :: st) n I L P = mm_E d 282 778 lv [] (.inl (mm_add a b) :: st) n I L P) ∧
  (∀ (lv : List mm_V) (st : List mm_V) i, (0 ≤ i ∧ i < I 1000006 5000) → mm_E d 282 778 lv [] (.inl i :: .inr (.inr (some 1000006)) :: st) n I L P = mm_E d 282 779 lv [] (.inl (I 1000006 i.toNat) :: st) n I L P) ∧
  (∀ (lv : List mm_V) a x0, (mm_ok n a 11) → mm_E d 282 779 lv [] (.inl x0 :: .inr (.inr (some a)) :: []) n I L P = mm_kr d 282 782 lv [] [] n (mm_rn d 112 [.inr (.inr (some a)), .inl x0] n I L P)) ∧
  (∀ (st : List mm_V) z (l0 : mm_V) (l1 : mm_V) (l3 : mm_V) (l4 : mm_V) (l5 : mm_V) (l6 : mm_V), mm_E d 282 782 [l0, l1, (.inr (.inr z)), l3, l4, l5, l6] [] st n I L P = mm_E d 282 783 [l0, l1, (.inr (.inr z)), l3, l4, l5, l6] [] ((.inr (.inr z)) :: st) n I L P) ∧
  (∀ (st : List mm_V) z (l1 : mm_V) (l2 : mm_V) (l3 : mm_V) (l4 : mm_V) (l5 : mm_V) (l6 : mm_V), mm_E d 282 783 [(.inr (.inr z)), l1, l2, l3, l4, l5, l6] [] st n I L P = mm_E d 282 784 [(.inr (.inr z)), l1, l2, l3, l4, l5, l6] [] ((.inr (.inr z)) :: st) n I L P) ∧
  (∀ (st : List mm_V) z (l0 : mm_V) (l1 : mm_V) (l2 : mm_V) (l3 : mm_V) (l5 : mm_V) (l6 : mm_V), mm_E d 282 784 [l0, l1, l2, l3, (.inl z), l5, l6] [] st n I L P = mm_E d 282 786 [l0, l1, l2, l3, (.inl z), l5, l6] [] ((.inl z) :: st) n I L P) ∧
  (∀ (lv : List mm_V) (st : List mm_V), mm_E d 282 786 lv [] st n I L P = mm_E d 282 787 lv [] (.inl 1 :: st) n I L P) ∧
  (∀ (lv : List mm_V) (st : List mm_V) a b, mm_E d 282 787 lv [] (.inl b :: .inl a :: st) n I L P = mm_E d 282 788 lv [] (.inl (mm_add a b) :: st) n I L P) ∧
  (∀ (lv : List mm_V) (st : List mm_V) i, (0 ≤ i ∧ i < I 1000006 5000) → mm_E d 282 788 lv [] (.inl i :: .inr (.inr (some 1000006)) :: st) n I L P = mm_E d 282 789 lv [] (.inl (I 1000006 i.toNat) :: st) n I L P) ∧
  (∀ (lv : List mm_V) a x0 w0, (mm_ok n a 12) → mm_E d 282 789 lv [] (.inl x0 :: .inr (.inr (some a)) :: [.inl w0]) n I L P = mm_kr d 282 792 lv [] [.inl w0] n (mm_rn d 220 [.inr (.inr (some a)), .inl x0] n I L P)) ∧
  (∀ (lv : List mm_V) (st : List mm_V) a b, mm_E d 282 792 lv [] (.inl b :: .inl a :: st) n I L P = if a = b then mm_E d 282 1494 lv [] st n I L P else mm_E d 282 795 lv [] st n I L P) ∧
  (∀ (lv : List mm_V) (st : List mm_V), mm_E d 282 795 lv [] st n I L P = mm_E d 282 796 lv [] (.inl 0 :: st) n I L P) ∧
  (∀ (lv : List mm_V) z, (0 ≤ z ∧ z < 2) → mm_E d 282 796 lv [] [.inl z] n I L P = some (some (.inl z), n, I, L, P)) :=
  ⟨fun _ _ _ _ _ _ _ _ => mq_al (i := 1) rfl rfl,
   fun _ _ _ _ _ _ _ _ => mq_al (i := 0) rfl rfl,
   fun _ _ _ _ _ _ _ _ => mq_il (i := 4) rfl rfl,
   fun _ _ => mq_push rfl,
   fun _ _ _ _ => mq_bi rfl,
   fun _ _ _ h0 => mq_xald rfl h0,
   fun _ _ _ h0 => mq_cVr (na := 1) rfl rfl (Nat.le_of_ble_eq_true rfl) (Nat.le_of_ble_eq_true rfl) h0,
   fun _ _ _ _ _ _ _ _ => mq_al (i := 2) rfl rfl,
   fun _ _ _ _ _ _ _ _ => mq_al (i := 0) rfl rfl,
   fun _ _ _ _ _ _ _ _ => mq_il (i := 4) rfl rfl,
   fun _ _ => mq_push rfl,
   fun _ _ _ _ => mq_bi rfl,
   fun _ _ _ h0 => mq_xald rfl h0,
   fun _ _ _ _ h0 => mq_cVr (na := 1) rfl rfl (Nat.le_of_ble_eq_true rfl) (Nat.le_of_ble_eq_true rfl) h0,
   fun _ _ _ _ => mq_ic_eq rfl,
   fun _ _ => mq_push rfl,
   fun _ _ h0 => mq_rz rfl h0⟩
set_option maxRecDepth 20000 in
set_option maxHeartbeats 8000000 in
theorem kL_law_18 (d n : Nat) (I L : mm_I) (P : mm_P) :
  (∀ (st : List mm_V) z (l0 : mm_V) (l2 : mm_V) (l3 : mm_V) (l4 : mm_V) (l5 : mm_V) (l6 : mm_V), mm_E d 282 797 [l0, (.inr (.inr z)), l2, l3, l4, l5, l6] [] st n I L P = mm_E d 282 798 [l0, (.inr (.inr z)), l2, l3, l4, l5, l6] [] ((.inr (.inr z)) :: st) n I L P) ∧
  (∀ (lv : List mm_V) a, (mm_ok n a 11) → mm_E d 282 798 lv [] (.inr (.inr (some a)) :: []) n I L P = mm_kr d 282 801 lv [] [] n (mm_rn d 113 [.inr (.inr (some a))] n I L P)) ∧
  (∀ (st : List mm_V) z (l0 : mm_V) (l1 : mm_V) (l3 : mm_V) (l4 : mm_V) (l5 : mm_V) (l6 : mm_V), mm_E d 282 801 [l0, l1, (.inr (.inr z)), l3, l4, l5, l6] [] st n I L P = mm_E d 282 802 [l0, l1, (.inr (.inr z)), l3, l4, l5, l6] [] ((.inr (.inr z)) :: st) n I L P) ∧
  (∀ (lv : List mm_V) a w0, (mm_ok n a 12) → mm_E d 282 802 lv [] (.inr (.inr (some a)) :: [.inl w0]) n I L P = mm_kr d 282 805 lv [] [.inl w0] n (mm_rn d 221 [.inr (.inr (some a))] n I L P)) ∧
  (∀ (lv : List mm_V) (st : List mm_V) a b, mm_E d 282 805 lv [] (.inl b :: .inl a :: st) n I L P = if a = b then mm_E d 282 1494 lv [] st n I L P else mm_E d 282 808 lv [] st n I L P) ∧
  (∀ (lv : List mm_V) (st : List mm_V), mm_E d 282 808 lv [] st n I L P = mm_E d 282 809 lv [] (.inl 0 :: st) n I L P) ∧
  (∀ (lv : List mm_V) z, (0 ≤ z ∧ z < 2) → mm_E d 282 809 lv [] [.inl z] n I L P = some (some (.inl z), n, I, L, P)) :=
  ⟨fun _ _ _ _ _ _ _ _ => mq_al (i := 1) rfl rfl,
   fun _ _ h0 => mq_cVr (na := 0) rfl rfl (Nat.le_of_ble_eq_true rfl) (Nat.le_of_ble_eq_true rfl) h0,
   fun _ _ _ _ _ _ _ _ => mq_al (i := 2) rfl rfl,
   fun _ _ _ h0 => mq_cVr (na := 0) rfl rfl (Nat.le_of_ble_eq_true rfl) (Nat.le_of_ble_eq_true rfl) h0,
   fun _ _ _ _ => mq_ic_eq rfl,
   fun _ _ => mq_push rfl,
   fun _ _ h0 => mq_rz rfl h0⟩
set_option maxRecDepth 20000 in
set_option maxHeartbeats 8000000 in
theorem kL_law_19 (d n : Nat) (I L : mm_I) (P : mm_P) :
  (∀ (st : List mm_V) z (l0 : mm_V) (l2 : mm_V) (l3 : mm_V) (l4 : mm_V) (l5 : mm_V) (l6 : mm_V), mm_E d 282 810 [l0, (.inr (.inr z)), l2, l3, l4, l5, l6] [] st n I L P = mm_E d 282 811 [l0, (.inr (.inr z)), l2, l3, l4, l5, l6] [] ((.inr (.inr z)) :: st) n I L P) ∧
  (∀ (st : List mm_V) z (l1 : mm_V) (l2 : mm_V) (l3 : mm_V) (l4 : mm_V) (l5 : mm_V) (l6 : mm_V), mm_E d 282 811 [(.inr (.inr z)), l1, l2, l3, l4, l5, l6] [] st n I L P = mm_E d 282 812 [(.inr (.inr z)), l1, l2, l3, l4, l5, l6] [] ((.inr (.inr z)) :: st) n I L P) ∧
  (∀ (st : List mm_V) z (l0 : mm_V) (l1 : mm_V) (l2 : mm_V) (l3 : mm_V) (l5 : mm_V) (l6 : mm_V), mm_E d 282 812 [l0, l1, l2, l3, (.inl z), l5, l6] [] st n I L P = mm_E d 282 814 [l0, l1, l2, l3, (.inl z), l5, l6] [] ((.inl z) :: st) n I L P) ∧
  (∀ (lv : List mm_V) (st : List mm_V), mm_E d 282 814 lv [] st n I L P = mm_E d 282 815 lv [] (.inl 1 :: st) n I L P) ∧
  (∀ (lv : List mm_V) (st : List mm_V) a b, mm_E d 282 815 lv [] (.inl b :: .inl a :: st) n I L P = mm_E d 282 816 lv [] (.inl (mm_add a b) :: st) n I L P) ∧
  (∀ (lv : List mm_V) (st : List mm_V) i, (0 ≤ i ∧ i < I 1000006 5000) → mm_E d 282 816 lv [] (.inl i :: .inr (.inr (some 1000006)) :: st) n I L P = mm_E d 282 817 lv [] (.inl (I 1000006 i.toNat) :: st) n I L P) ∧
  (∀ (st : List mm_V) z (l1 : mm_V) (l2 : mm_V) (l3 : mm_V) (l4 : mm_V) (l5 : mm_V) (l6 : mm_V), mm_E d 282 817 [(.inr (.inr z)), l1, l2, l3, l4, l5, l6] [] st n I L P = mm_E d 282 818 [(.inr (.inr z)), l1, l2, l3, l4, l5, l6] [] ((.inr (.inr z)) :: st) n I L P) ∧
  (∀ (st : List mm_V) z (l0 : mm_V) (l1 : mm_V) (l2 : mm_V) (l3 : mm_V) (l5 : mm_V) (l6 : mm_V), mm_E d 282 818 [l0, l1, l2, l3, (.inl z), l5, l6] [] st n I L P = mm_E d 282 820 [l0, l1, l2, l3, (.inl z), l5, l6] [] ((.inl z) :: st) n I L P) ∧
  (∀ (lv : List mm_V) (st : List mm_V), mm_E d 282 820 lv [] st n I L P = mm_E d 282 821 lv [] (.inl 2 :: st) n I L P) ∧
  (∀ (lv : List mm_V) (st : List mm_V) a b, mm_E d 282 821 lv [] (.inl b :: .inl a :: st) n I L P = mm_E d 282 822 lv [] (.inl (mm_add a b) :: st) n I L P) ∧
  (∀ (lv : List mm_V) (st : List mm_V) i, (0 ≤ i ∧ i < I 1000006 5000) → mm_E d 282 822 lv [] (.inl i :: .inr (.inr (some 1000006)) :: st) n I L P = mm_E d 282 823 lv [] (.inl (I 1000006 i.toNat) :: st) n I L P) ∧
  (∀ (lv : List mm_V) a x0 x1, (mm_ok n a 11) → mm_E d 282 823 lv [] (.inl x1 :: .inl x0 :: .inr (.inr (some a)) :: []) n I L P = mm_kr d 282 826 lv [] [] n (mm_rn d 114 [.inr (.inr (some a)), .inl x0, .inl x1] n I L P)) ∧
  (∀ (st : List mm_V) z (l0 : mm_V) (l1 : mm_V) (l3 : mm_V) (l4 : mm_V) (l5 : mm_V) (l6 : mm_V), mm_E d 282 826 [l0, l1, (.inr (.inr z)), l3, l4, l5, l6] [] st n I L P = mm_E d 282 827 [l0, l1, (.inr (.inr z)), l3, l4, l5, l6] [] ((.inr (.inr z)) :: st) n I L P) ∧
  (∀ (st : List mm_V) z (l1 : mm_V) (l2 : mm_V) (l3 : mm_V) (l4 : mm_V) (l5 : mm_V) (l6 : mm_V), mm_E d 282 827 [(.inr (.inr z)), l1, l2, l3, l4, l5, l6] [] st n I L P = mm_E d 282 828 [(.inr (.inr z)), l1, l2, l3, l4, l5, l6] [] ((.inr (.inr z)) :: st) n I L P) ∧
  (∀ (st : List mm_V) z (l0 : mm_V) (l1 : mm_V) (l2 : mm_V) (l3 : mm_V) (l5 : mm_V) (l6 : mm_V), mm_E d 282 828 [l0, l1, l2, l3, (.inl z), l5, l6] [] st n I L P = mm_E d 282 830 [l0, l1, l2, l3, (.inl z), l5, l6] [] ((.inl z) :: st) n I L P) ∧
  (∀ (lv : List mm_V) (st : List mm_V), mm_E d 282 830 lv [] st n I L P = mm_E d 282 831 lv [] (.inl 1 :: st) n I L P) ∧
  (∀ (lv : List mm_V) (st : List mm_V) a b, mm_E d 282 831 lv [] (.inl b :: .inl a :: st) n I L P = mm_E d 282 832 lv [] (.inl (mm_add a b) :: st) n I L P) ∧
  (∀ (lv : List mm_V) (st : List mm_V) i, (0 ≤ i ∧ i < I 1000006 5000) → mm_E d 282 832 lv [] (.inl i :: .inr (.inr (some 1000006)) :: st) n I L P = mm_E d 282 833 lv [] (.inl (I 1000006 i.toNat) :: st) n I L P) ∧
  (∀ (st : List mm_V) z (l1 : mm_V) (l2 : mm_V) (l3 : mm_V) (l4 : mm_V) (l5 : mm_V) (l6 : mm_V), mm_E d 282 833 [(.inr (.inr z)), l1, l2, l3, l4, l5, l6] [] st n I L P = mm_E d 282 834 [(.inr (.inr z)), l1, l2, l3, l4, l5, l6] [] ((.inr (.inr z)) :: st) n I L P) ∧
  (∀ (st : List mm_V) z (l0 : mm_V) (l1 : mm_V) (l2 : mm_V) (l3 : mm_V) (l5 : mm_V) (l6 : mm_V), mm_E d 282 834 [l0, l1, l2, l3, (.inl z), l5, l6] [] st n I L P = mm_E d 282 836 [l0, l1, l2, l3, (.inl z), l5, l6] [] ((.inl z) :: st) n I L P) ∧
  (∀ (lv : List mm_V) (st : List mm_V), mm_E d 282 836 lv [] st n I L P = mm_E d 282 837 lv [] (.inl 2 :: st) n I L P) ∧
  (∀ (lv : List mm_V) (st : List mm_V) a b, mm_E d 282 837 lv [] (.inl b :: .inl a :: st) n I L P = mm_E d 282 838 lv [] (.inl (mm_add a b) :: st) n I L P) ∧
  (∀ (lv : List mm_V) (st : List mm_V) i, (0 ≤ i ∧ i < I 1000006 5000) → mm_E d 282 838 lv [] (.inl i :: .inr (.inr (some 1000006)) :: st) n I L P = mm_E d 282 839 lv [] (.inl (I 1000006 i.toNat) :: st) n I L P) ∧
  (∀ (lv : List mm_V) a x0 x1 w0, (mm_ok n a 12) → mm_E d 282 839 lv [] (.inl x1 :: .inl x0 :: .inr (.inr (some a)) :: [.inl w0]) n I L P = mm_kr d 282 842 lv [] [.inl w0] n (mm_rn d 222 [.inr (.inr (some a)), .inl x0, .inl x1] n I L P)) ∧
  (∀ (lv : List mm_V) (st : List mm_V) a b, mm_E d 282 842 lv [] (.inl b :: .inl a :: st) n I L P = if a = b then mm_E d 282 1494 lv [] st n I L P else mm_E d 282 845 lv [] st n I L P) ∧
  (∀ (lv : List mm_V) (st : List mm_V), mm_E d 282 845 lv [] st n I L P = mm_E d 282 846 lv [] (.inl 0 :: st) n I L P) ∧
  (∀ (lv : List mm_V) z, (0 ≤ z ∧ z < 2) → mm_E d 282 846 lv [] [.inl z] n I L P = some (some (.inl z), n, I, L, P)) :=
  ⟨fun _ _ _ _ _ _ _ _ => mq_al (i := 1) rfl rfl,
   fun _ _ _ _ _ _ _ _ => mq_al (i := 0) rfl rfl,
   fun _ _ _ _ _ _ _ _ => mq_il (i := 4) rfl rfl,
   fun _ _ => mq_push rfl,
   fun _ _ _ _ => mq_bi rfl,
   fun _ _ _ h0 => mq_xald rfl h0,
   fun _ _ _ _ _ _ _ _ => mq_al (i := 0) rfl rfl,
   fun _ _ _ _ _ _ _ _ => mq_il (i := 4) rfl rfl,
   fun _ _ => mq_push rfl,
   fun _ _ _ _ => mq_bi rfl,
   fun _ _ _ h0 => mq_xald rfl h0,
   fun _ _ _ _ h0 => mq_cVr (na := 2) rfl rfl (Nat.le_of_ble_eq_true rfl) (Nat.le_of_ble_eq_true rfl) h0,
   fun _ _ _ _ _ _ _ _ => mq_al (i := 2) rfl rfl,
   fun _ _ _ _ _ _ _ _ => mq_al (i := 0) rfl rfl,
   fun _ _ _ _ _ _ _ _ => mq_il (i := 4) rfl rfl,
   fun _ _ => mq_push rfl,
   fun _ _ _ _ => mq_bi rfl,
   fun _ _ _ h0 => mq_xald rfl h0,
   fun _ _ _ _ _ _ _ _ => mq_al (i := 0) rfl rfl,
   fun _ _ _ _ _ _ _ _ => mq_il (i := 4) rfl rfl,
   fun _ _ => mq_push rfl,
   fun _ _ _ _ => mq_bi rfl,
   fun _ _ _ h0 => mq_xald rfl h0,
   fun _ _ _ _ _ h0 => mq_cVr (na := 2) rfl rfl (Nat.le_of_ble_eq_true rfl) (Nat.le_of_ble_eq_true rfl) h0,
   fun _ _ _ _ => mq_ic_eq rfl,
   fun _ _ => mq_push rfl,
   fun _ _ h0 => mq_rz rfl h0⟩
set_option maxRecDepth 20000 in
set_option maxHeartbeats 8000000 in
theorem kL_law_20 (d n : Nat) (I L : mm_I) (P : mm_P) :
  (∀ (st : List mm_V) z (l0 : mm_V) (l2 : mm_V) (l3 : mm_V) (l4 : mm_V) (l5 : mm_V) (l6 : mm_V), mm_E d 282 847 [l0, (.inr (.inr z)), l2, l3, l4, l5, l6] [] st n I L P = mm_E d 282 848 [l0, (.inr (.inr z)), l2, l3, l4, l5, l6] [] ((.inr (.inr z)) :: st) n I L P) ∧
  (∀ (st : List mm_V) z (l1 : mm_V) (l2 : mm_V) (l3 : mm_V) (l4 : mm_V) (l5 : mm_V) (l6 : mm_V), mm_E d 282 848 [(.inr (.inr z)), l1, l2, l3, l4, l5, l6] [] st n I L P = mm_E d 282 849 [(.inr (.inr z)), l1, l2, l3, l4, l5, l6] [] ((.inr (.inr z)) :: st) n I L P) ∧
  (∀ (st : List mm_V) z (l0 : mm_V) (l1 : mm_V) (l2 : mm_V) (l3 : mm_V) (l5 : mm_V) (l6 : mm_V), mm_E d 282 849 [l0, l1, l2, l3, (.inl z), l5, l6] [] st n I L P = mm_E d 282 851 [l0, l1, l2, l3, (.inl z), l5, l6] [] ((.inl z) :: st) n I L P) ∧
  (∀ (lv : List mm_V) (st : List mm_V), mm_E d 282 851 lv [] st n I L P = mm_E d 282 852 lv [] (.inl 1 :: st) n I L P) ∧
  (∀ (lv : List mm_V) (st : List mm_V) a b, mm_E d 282 852 lv [] (.inl b :: .inl a :: st) n I L P = mm_E d 282 853 lv [] (.inl (mm_add a b) :: st) n I L P) ∧
  (∀ (lv : List mm_V) (st : List mm_V) i, (0 ≤ i ∧ i < I 1000006 5000) → mm_E d 282 853 lv [] (.inl i :: .inr (.inr (some 1000006)) :: st) n I L P = mm_E d 282 854 lv [] (.inl (I 1000006 i.toNat) :: st) n I L P) ∧
  (∀ (lv : List mm_V) a x0, (mm_ok n a 11) → mm_E d 282 854 lv [] (.inl x0 :: .inr (.inr (some a)) :: []) n I L P = mm_kr d 282 857 lv [] [] n (mm_rn d 116 [.inr (.inr (some a)), .inl x0] n I L P)) ∧
  (∀ (st : List mm_V) z (l0 : mm_V) (l1 : mm_V) (l3 : mm_V) (l4 : mm_V) (l5 : mm_V) (l6 : mm_V), mm_E d 282 857 [l0, l1, (.inr (.inr z)), l3, l4, l5, l6] [] st n I L P = mm_E d 282 858 [l0, l1, (.inr (.inr z)), l3, l4, l5, l6] [] ((.inr (.inr z)) :: st) n I L P) ∧
  (∀ (st : List mm_V) z (l1 : mm_V) (l2 : mm_V) (l3 : mm_V) (l4 : mm_V) (l5 : mm_V) (l6 : mm_V), mm_E d 282 858 [(.inr (.inr z)), l1, l2, l3, l4, l5, l6] [] st n I L P = mm_E d 282 859 [(.inr (.inr z)), l1, l2, l3, l4, l5, l6] [] ((.inr (.inr z)) :: st) n I L P) ∧
  (∀ (st : List mm_V) z (l0 : mm_V) (l1 : mm_V) (l2 : mm_V) (l3 : mm_V) (l5 : mm_V) (l6 : mm_V), mm_E d 282 859 [l0, l1, l2, l3, (.inl z), l5, l6] [] st n I L P = mm_E d 282 861 [l0, l1, l2, l3, (.inl z), l5, l6] [] ((.inl z) :: st) n I L P) ∧
  (∀ (lv : List mm_V) (st : List mm_V), mm_E d 282 861 lv [] st n I L P = mm_E d 282 862 lv [] (.inl 1 :: st) n I L P) ∧
  (∀ (lv : List mm_V) (st : List mm_V) a b, mm_E d 282 862 lv [] (.inl b :: .inl a :: st) n I L P = mm_E d 282 863 lv [] (.inl (mm_add a b) :: st) n I L P) ∧
  (∀ (lv : List mm_V) (st : List mm_V) i, (0 ≤ i ∧ i < I 1000006 5000) → mm_E d 282 863 lv [] (.inl i :: .inr (.inr (some 1000006)) :: st) n I L P = mm_E d 282 864 lv [] (.inl (I 1000006 i.toNat) :: st) n I L P) ∧
  (∀ (lv : List mm_V) a x0 w0, (mm_ok n a 12) → mm_E d 282 864 lv [] (.inl x0 :: .inr (.inr (some a)) :: [.inl w0]) n I L P = mm_kr d 282 867 lv [] [.inl w0] n (mm_rn d 227 [.inr (.inr (some a)), .inl x0] n I L P)) ∧
  (∀ (lv : List mm_V) (st : List mm_V) a b, mm_E d 282 867 lv [] (.inl b :: .inl a :: st) n I L P = if a = b then mm_E d 282 1494 lv [] st n I L P else mm_E d 282 870 lv [] st n I L P) ∧
  (∀ (lv : List mm_V) (st : List mm_V), mm_E d 282 870 lv [] st n I L P = mm_E d 282 871 lv [] (.inl 0 :: st) n I L P) ∧
  (∀ (lv : List mm_V) z, (0 ≤ z ∧ z < 2) → mm_E d 282 871 lv [] [.inl z] n I L P = some (some (.inl z), n, I, L, P)) :=
  ⟨fun _ _ _ _ _ _ _ _ => mq_al (i := 1) rfl rfl,
   fun _ _ _ _ _ _ _ _ => mq_al (i := 0) rfl rfl,
   fun _ _ _ _ _ _ _ _ => mq_il (i := 4) rfl rfl,
   fun _ _ => mq_push rfl,
   fun _ _ _ _ => mq_bi rfl,
   fun _ _ _ h0 => mq_xald rfl h0,
   fun _ _ _ h0 => mq_cVr (na := 1) rfl rfl (Nat.le_of_ble_eq_true rfl) (Nat.le_of_ble_eq_true rfl) h0,
   fun _ _ _ _ _ _ _ _ => mq_al (i := 2) rfl rfl,
   fun _ _ _ _ _ _ _ _ => mq_al (i := 0) rfl rfl,
   fun _ _ _ _ _ _ _ _ => mq_il (i := 4) rfl rfl,
   fun _ _ => mq_push rfl,
   fun _ _ _ _ => mq_bi rfl,
   fun _ _ _ h0 => mq_xald rfl h0,
   fun _ _ _ _ h0 => mq_cVr (na := 1) rfl rfl (Nat.le_of_ble_eq_true rfl) (Nat.le_of_ble_eq_true rfl) h0,
   fun _ _ _ _ => mq_ic_eq rfl,
   fun _ _ => mq_push rfl,
   fun _ _ h0 => mq_rz rfl h0⟩
set_option maxRecDepth 20000 in
set_option maxHeartbeats 8000000 in
theorem kL_law_21 (d n : Nat) (I L : mm_I) (P : mm_P) :
  (∀ (st : List mm_V) z (l0 : mm_V) (l2 : mm_V) (l3 : mm_V) (l4 : mm_V) (l5 : mm_V) (l6 : mm_V), mm_E d 282 872 [l0, (.inr (.inr z)), l2, l3, l4, l5, l6] [] st n I L P = mm_E d 282 873 [l0, (.inr (.inr z)), l2, l3, l4, l5, l6] [] ((.inr (.inr z)) :: st) n I L P) ∧
  (∀ (st : List mm_V) z (l1 : mm_V) (l2 : mm_V) (l3 : mm_V) (l4 : mm_V) (l5 : mm_V) (l6 : mm_V), mm_E d 282 873 [(.inr (.inr z)), l1, l2, l3, l4, l5, l6] [] st n I L P = mm_E d 282 874 [(.inr (.inr z)), l1, l2, l3, l4, l5, l6] [] ((.inr (.inr z)) :: st) n I L P) ∧
  (∀ (st : List mm_V) z (l0 : mm_V) (l1 : mm_V) (l2 : mm_V) (l3 : mm_V) (l5 : mm_V) (l6 : mm_V), mm_E d 282 874 [l0, l1, l2, l3, (.inl z), l5, l6] [] st n I L P = mm_E d 282 876 [l0, l1, l2, l3, (.inl z), l5, l6] [] ((.inl z) :: st) n I L P) ∧
  (∀ (lv : List mm_V) (st : List mm_V), mm_E d 282 876 lv [] st n I L P = mm_E d 282 877 lv [] (.inl 1 :: st) n I L P) ∧
  (∀ (lv : List mm_V) (st : List mm_V) a b, mm_E d 282 877 lv [] (.inl b :: .inl a :: st) n I L P = mm_E d 282 878 lv [] (.inl (mm_add a b) :: st) n I L P) ∧
  (∀ (lv : List mm_V) (st : List mm_V) i, (0 ≤ i ∧ i < I 1000006 5000) → mm_E d 282 878 lv [] (.inl i :: .inr (.inr (some 1000006)) :: st) n I L P = mm_E d 282 879 lv [] (.inl (I 1000006 i.toNat) :: st) n I L P) ∧
  (∀ (st : List mm_V) z (l1 : mm_V) (l2 : mm_V) (l3 : mm_V) (l4 : mm_V) (l5 : mm_V) (l6 : mm_V), mm_E d 282 879 [(.inr (.inr z)), l1, l2, l3, l4, l5, l6] [] st n I L P = mm_E d 282 880 [(.inr (.inr z)), l1, l2, l3, l4, l5, l6] [] ((.inr (.inr z)) :: st) n I L P) ∧
  (∀ (st : List mm_V) z (l0 : mm_V) (l1 : mm_V) (l2 : mm_V) (l3 : mm_V) (l5 : mm_V) (l6 : mm_V), mm_E d 282 880 [l0, l1, l2, l3, (.inl z), l5, l6] [] st n I L P = mm_E d 282 882 [l0, l1, l2, l3, (.inl z), l5, l6] [] ((.inl z) :: st) n I L P) ∧
  (∀ (lv : List mm_V) (st : List mm_V), mm_E d 282 882 lv [] st n I L P = mm_E d 282 883 lv [] (.inl 2 :: st) n I L P) ∧
  (∀ (lv : List mm_V) (st : List mm_V) a b, mm_E d 282 883 lv [] (.inl b :: .inl a :: st) n I L P = mm_E d 282 884 lv [] (.inl (mm_add a b) :: st) n I L P) ∧
  (∀ (lv : List mm_V) (st : List mm_V) i, (0 ≤ i ∧ i < I 1000006 5000) → mm_E d 282 884 lv [] (.inl i :: .inr (.inr (some 1000006)) :: st) n I L P = mm_E d 282 885 lv [] (.inl (I 1000006 i.toNat) :: st) n I L P) ∧
  (∀ (lv : List mm_V) a x0 x1, (mm_ok n a 11) → mm_E d 282 885 lv [] (.inl x1 :: .inl x0 :: .inr (.inr (some a)) :: []) n I L P = mm_kr d 282 888 lv [] [] n (mm_rn d 117 [.inr (.inr (some a)), .inl x0, .inl x1] n I L P)) ∧
  (∀ (st : List mm_V) z (l0 : mm_V) (l1 : mm_V) (l3 : mm_V) (l4 : mm_V) (l5 : mm_V) (l6 : mm_V), mm_E d 282 888 [l0, l1, (.inr (.inr z)), l3, l4, l5, l6] [] st n I L P = mm_E d 282 889 [l0, l1, (.inr (.inr z)), l3, l4, l5, l6] [] ((.inr (.inr z)) :: st) n I L P) ∧
  (∀ (st : List mm_V) z (l1 : mm_V) (l2 : mm_V) (l3 : mm_V) (l4 : mm_V) (l5 : mm_V) (l6 : mm_V), mm_E d 282 889 [(.inr (.inr z)), l1, l2, l3, l4, l5, l6] [] st n I L P = mm_E d 282 890 [(.inr (.inr z)), l1, l2, l3, l4, l5, l6] [] ((.inr (.inr z)) :: st) n I L P) ∧
  (∀ (st : List mm_V) z (l0 : mm_V) (l1 : mm_V) (l2 : mm_V) (l3 : mm_V) (l5 : mm_V) (l6 : mm_V), mm_E d 282 890 [l0, l1, l2, l3, (.inl z), l5, l6] [] st n I L P = mm_E d 282 892 [l0, l1, l2, l3, (.inl z), l5, l6] [] ((.inl z) :: st) n I L P) ∧
  (∀ (lv : List mm_V) (st : List mm_V), mm_E d 282 892 lv [] st n I L P = mm_E d 282 893 lv [] (.inl 1 :: st) n I L P) ∧
  (∀ (lv : List mm_V) (st : List mm_V) a b, mm_E d 282 893 lv [] (.inl b :: .inl a :: st) n I L P = mm_E d 282 894 lv [] (.inl (mm_add a b) :: st) n I L P) ∧
  (∀ (lv : List mm_V) (st : List mm_V) i, (0 ≤ i ∧ i < I 1000006 5000) → mm_E d 282 894 lv [] (.inl i :: .inr (.inr (some 1000006)) :: st) n I L P = mm_E d 282 895 lv [] (.inl (I 1000006 i.toNat) :: st) n I L P) ∧
  (∀ (st : List mm_V) z (l1 : mm_V) (l2 : mm_V) (l3 : mm_V) (l4 : mm_V) (l5 : mm_V) (l6 : mm_V), mm_E d 282 895 [(.inr (.inr z)), l1, l2, l3, l4, l5, l6] [] st n I L P = mm_E d 282 896 [(.inr (.inr z)), l1, l2, l3, l4, l5, l6] [] ((.inr (.inr z)) :: st) n I L P) ∧
  (∀ (st : List mm_V) z (l0 : mm_V) (l1 : mm_V) (l2 : mm_V) (l3 : mm_V) (l5 : mm_V) (l6 : mm_V), mm_E d 282 896 [l0, l1, l2, l3, (.inl z), l5, l6] [] st n I L P = mm_E d 282 898 [l0, l1, l2, l3, (.inl z), l5, l6] [] ((.inl z) :: st) n I L P) ∧
  (∀ (lv : List mm_V) (st : List mm_V), mm_E d 282 898 lv [] st n I L P = mm_E d 282 899 lv [] (.inl 2 :: st) n I L P) ∧
  (∀ (lv : List mm_V) (st : List mm_V) a b, mm_E d 282 899 lv [] (.inl b :: .inl a :: st) n I L P = mm_E d 282 900 lv [] (.inl (mm_add a b) :: st) n I L P) ∧
  (∀ (lv : List mm_V) (st : List mm_V) i, (0 ≤ i ∧ i < I 1000006 5000) → mm_E d 282 900 lv [] (.inl i :: .inr (.inr (some 1000006)) :: st) n I L P = mm_E d 282 901 lv [] (.inl (I 1000006 i.toNat) :: st) n I L P) ∧
  (∀ (lv : List mm_V) a x0 x1 w0, (mm_ok n a 12) → mm_E d 282 901 lv [] (.inl x1 :: .inl x0 :: .inr (.inr (some a)) :: [.inl w0]) n I L P = mm_kr d 282 904 lv [] [.inl w0] n (mm_rn d 228 [.inr (.inr (some a)), .inl x0, .inl x1] n I L P)) ∧
  (∀ (lv : List mm_V) (st : List mm_V) a b, mm_E d 282 904 lv [] (.inl b :: .inl a :: st) n I L P = if a = b then mm_E d 282 1494 lv [] st n I L P else mm_E d 282 907 lv [] st n I L P) ∧
  (∀ (lv : List mm_V) (st : List mm_V), mm_E d 282 907 lv [] st n I L P = mm_E d 282 908 lv [] (.inl 0 :: st) n I L P) ∧
  (∀ (lv : List mm_V) z, (0 ≤ z ∧ z < 2) → mm_E d 282 908 lv [] [.inl z] n I L P = some (some (.inl z), n, I, L, P)) :=
  ⟨fun _ _ _ _ _ _ _ _ => mq_al (i := 1) rfl rfl,
   fun _ _ _ _ _ _ _ _ => mq_al (i := 0) rfl rfl,
   fun _ _ _ _ _ _ _ _ => mq_il (i := 4) rfl rfl,
   fun _ _ => mq_push rfl,
   fun _ _ _ _ => mq_bi rfl,
   fun _ _ _ h0 => mq_xald rfl h0,
   fun _ _ _ _ _ _ _ _ => mq_al (i := 0) rfl rfl,
   fun _ _ _ _ _ _ _ _ => mq_il (i := 4) rfl rfl,
   fun _ _ => mq_push rfl,
   fun _ _ _ _ => mq_bi rfl,
   fun _ _ _ h0 => mq_xald rfl h0,
   fun _ _ _ _ h0 => mq_cVr (na := 2) rfl rfl (Nat.le_of_ble_eq_true rfl) (Nat.le_of_ble_eq_true rfl) h0,
   fun _ _ _ _ _ _ _ _ => mq_al (i := 2) rfl rfl,
   fun _ _ _ _ _ _ _ _ => mq_al (i := 0) rfl rfl,
   fun _ _ _ _ _ _ _ _ => mq_il (i := 4) rfl rfl,
   fun _ _ => mq_push rfl,
   fun _ _ _ _ => mq_bi rfl,
   fun _ _ _ h0 => mq_xald rfl h0,
   fun _ _ _ _ _ _ _ _ => mq_al (i := 0) rfl rfl,
   fun _ _ _ _ _ _ _ _ => mq_il (i := 4) rfl rfl,
   fun _ _ => mq_push rfl,
   fun _ _ _ _ => mq_bi rfl,
   fun _ _ _ h0 => mq_xald rfl h0,
   fun _ _ _ _ _ h0 => mq_cVr (na := 2) rfl rfl (Nat.le_of_ble_eq_true rfl) (Nat.le_of_ble_eq_true rfl) h0,
   fun _ _ _ _ => mq_ic_eq rfl,
   fun _ _ => mq_push rfl,
   fun _ _ h0 => mq_rz rfl h0⟩
set_option maxRecDepth 20000 in
set_option maxHeartbeats 8000000 in
theorem kL_law_22 (d n : Nat) (I L : mm_I) (P : mm_P) :
  (∀ (st : List mm_V) z (l0 : mm_V) (l2 : mm_V) (l3 : mm_V) (l4 : mm_V) (l5 : mm_V) (l6 : mm_V), mm_E d 282 909 [l0, (.inr (.inr z)), l2, l3, l4, l5, l6] [] st n I L P = mm_E d 282 910 [l0, (.inr (.inr z)), l2, l3, l4, l5, l6] [] ((.inr (.inr z)) :: st) n I L P) ∧
  (∀ (st : List mm_V) z (l1 : mm_V) (l2 : mm_V) (l3 : mm_V) (l4 : mm_V) (l5 : mm_V) (l6 : mm_V), mm_E d 282 910 [(.inr (.inr z)), l1, l2, l3, l4, l5, l6] [] st n I L P = mm_E d 282 911 [(.inr (.inr z)), l1, l2, l3, l4, l5, l6] [] ((.inr (.inr z)) :: st) n I L P) ∧
  (∀ (st : List mm_V) z (l0 : mm_V) (l1 : mm_V) (l2 : mm_V) (l3 : mm_V) (l5 : mm_V) (l6 : mm_V), mm_E d 282 911 [l0, l1, l2, l3, (.inl z), l5, l6] [] st n I L P = mm_E d 282 913 [l0, l1, l2, l3, (.inl z), l5, l6] [] ((.inl z) :: st) n I L P) ∧
  (∀ (lv : List mm_V) (st : List mm_V), mm_E d 282 913 lv [] st n I L P = mm_E d 282 914 lv [] (.inl 1 :: st) n I L P) ∧
  (∀ (lv : List mm_V) (st : List mm_V) a b, mm_E d 282 914 lv [] (.inl b :: .inl a :: st) n I L P = mm_E d 282 915 lv [] (.inl (mm_add a b) :: st) n I L P) ∧
  (∀ (lv : List mm_V) (st : List mm_V) i, (0 ≤ i ∧ i < I 1000006 5000) → mm_E d 282 915 lv [] (.inl i :: .inr (.inr (some 1000006)) :: st) n I L P = mm_E d 282 916 lv [] (.inl (I 1000006 i.toNat) :: st) n I L P) ∧
  (∀ (lv : List mm_V) a x0, (mm_ok n a 11) → mm_E d 282 916 lv [] (.inl x0 :: .inr (.inr (some a)) :: []) n I L P = mm_kr d 282 919 lv [] [] n (mm_rn d 118 [.inr (.inr (some a)), .inl x0] n I L P)) ∧
  (∀ (st : List mm_V) z (l0 : mm_V) (l1 : mm_V) (l3 : mm_V) (l4 : mm_V) (l5 : mm_V) (l6 : mm_V), mm_E d 282 919 [l0, l1, (.inr (.inr z)), l3, l4, l5, l6] [] st n I L P = mm_E d 282 920 [l0, l1, (.inr (.inr z)), l3, l4, l5, l6] [] ((.inr (.inr z)) :: st) n I L P) ∧
  (∀ (st : List mm_V) z (l1 : mm_V) (l2 : mm_V) (l3 : mm_V) (l4 : mm_V) (l5 : mm_V) (l6 : mm_V), mm_E d 282 920 [(.inr (.inr z)), l1, l2, l3, l4, l5, l6] [] st n I L P = mm_E d 282 921 [(.inr (.inr z)), l1, l2, l3, l4, l5, l6] [] ((.inr (.inr z)) :: st) n I L P) ∧
  (∀ (st : List mm_V) z (l0 : mm_V) (l1 : mm_V) (l2 : mm_V) (l3 : mm_V) (l5 : mm_V) (l6 : mm_V), mm_E d 282 921 [l0, l1, l2, l3, (.inl z), l5, l6] [] st n I L P = mm_E d 282 923 [l0, l1, l2, l3, (.inl z), l5, l6] [] ((.inl z) :: st) n I L P) ∧
  (∀ (lv : List mm_V) (st : List mm_V), mm_E d 282 923 lv [] st n I L P = mm_E d 282 924 lv [] (.inl 1 :: st) n I L P) ∧
  (∀ (lv : List mm_V) (st : List mm_V) a b, mm_E d 282 924 lv [] (.inl b :: .inl a :: st) n I L P = mm_E d 282 925 lv [] (.inl (mm_add a b) :: st) n I L P) ∧
  (∀ (lv : List mm_V) (st : List mm_V) i, (0 ≤ i ∧ i < I 1000006 5000) → mm_E d 282 925 lv [] (.inl i :: .inr (.inr (some 1000006)) :: st) n I L P = mm_E d 282 926 lv [] (.inl (I 1000006 i.toNat) :: st) n I L P) ∧
  (∀ (lv : List mm_V) a x0 w0, (mm_ok n a 12) → mm_E d 282 926 lv [] (.inl x0 :: .inr (.inr (some a)) :: [.inl w0]) n I L P = mm_kr d 282 929 lv [] [.inl w0] n (mm_rn d 229 [.inr (.inr (some a)), .inl x0] n I L P)) ∧
  (∀ (lv : List mm_V) (st : List mm_V) a b, mm_E d 282 929 lv [] (.inl b :: .inl a :: st) n I L P = if a = b then mm_E d 282 1494 lv [] st n I L P else mm_E d 282 932 lv [] st n I L P) ∧
  (∀ (lv : List mm_V) (st : List mm_V), mm_E d 282 932 lv [] st n I L P = mm_E d 282 933 lv [] (.inl 0 :: st) n I L P) ∧
  (∀ (lv : List mm_V) z, (0 ≤ z ∧ z < 2) → mm_E d 282 933 lv [] [.inl z] n I L P = some (some (.inl z), n, I, L, P)) :=
  ⟨fun _ _ _ _ _ _ _ _ => mq_al (i := 1) rfl rfl,
   fun _ _ _ _ _ _ _ _ => mq_al (i := 0) rfl rfl,
   fun _ _ _ _ _ _ _ _ => mq_il (i := 4) rfl rfl,
   fun _ _ => mq_push rfl,
   fun _ _ _ _ => mq_bi rfl,
   fun _ _ _ h0 => mq_xald rfl h0,
   fun _ _ _ h0 => mq_cVr (na := 1) rfl rfl (Nat.le_of_ble_eq_true rfl) (Nat.le_of_ble_eq_true rfl) h0,
   fun _ _ _ _ _ _ _ _ => mq_al (i := 2) rfl rfl,
   fun _ _ _ _ _ _ _ _ => mq_al (i := 0) rfl rfl,
   fun _ _ _ _ _ _ _ _ => mq_il (i := 4) rfl rfl,
   fun _ _ => mq_push rfl,
   fun _ _ _ _ => mq_bi rfl,
   fun _ _ _ h0 => mq_xald rfl h0,
   fun _ _ _ _ h0 => mq_cVr (na := 1) rfl rfl (Nat.le_of_ble_eq_true rfl) (Nat.le_of_ble_eq_true rfl) h0,
   fun _ _ _ _ => mq_ic_eq rfl,
   fun _ _ => mq_push rfl,
   fun _ _ h0 => mq_rz rfl h0⟩
set_option maxRecDepth 20000 in
set_option maxHeartbeats 8000000 in
theorem kL_law_23 (d n : Nat) (I L : mm_I) (P : mm_P) :
  (∀ (st : List mm_V) z (l0 : mm_V) (l2 : mm_V) (l3 : mm_V) (l4 : mm_V) (l5 : mm_V) (l6 : mm_V), mm_E d 282 934 [l0, (.inr (.inr z)), l2, l3, l4, l5, l6] [] st n I L P = mm_E d 282 935 [l0, (.inr (.inr z)), l2, l3, l4, l5, l6] [] ((.inr (.inr z)) :: st) n I L P) ∧
  (∀ (st : List mm_V) z (l1 : mm_V) (l2 : mm_V) (l3 : mm_V) (l4 : mm_V) (l5 : mm_V) (l6 : mm_V), mm_E d 282 935 [(.inr (.inr z)), l1, l2, l3, l4, l5, l6] [] st n I L P = mm_E d 282 936 [(.inr (.inr z)), l1, l2, l3, l4, l5, l6] [] ((.inr (.inr z)) :: st) n I L P) ∧
  (∀ (st : List mm_V) z (l0 : mm_V) (l1 : mm_V) (l2 : mm_V) (l3 : mm_V) (l5 : mm_V) (l6 : mm_V), mm_E d 282 936 [l0, l1, l2, l3, (.inl z), l5, l6] [] st n I L P = mm_E d 282 938 [l0, l1, l2, l3, (.inl z), l5, l6] [] ((.inl z) :: st) n I L P) ∧
  (∀ (lv : List mm_V) (st : List mm_V), mm_E d 282 938 lv [] st n I L P = mm_E d 282 939 lv [] (.inl 1 :: st) n I L P) ∧
  (∀ (lv : List mm_V) (st : List mm_V) a b, mm_E d 282 939 lv [] (.inl b :: .inl a :: st) n I L P = mm_E d 282 940 lv [] (.inl (mm_add a b) :: st) n I L P) ∧
  (∀ (lv : List mm_V) (st : List mm_V) i, (0 ≤ i ∧ i < I 1000006 5000) → mm_E d 282 940 lv [] (.inl i :: .inr (.inr (some 1000006)) :: st) n I L P = mm_E d 282 941 lv [] (.inl (I 1000006 i.toNat) :: st) n I L P) ∧
  (∀ (st : List mm_V) z (l1 : mm_V) (l2 : mm_V) (l3 : mm_V) (l4 : mm_V) (l5 : mm_V) (l6 : mm_V), mm_E d 282 941 [(.inr (.inr z)), l1, l2, l3, l4, l5, l6] [] st n I L P = mm_E d 282 942 [(.inr (.inr z)), l1, l2, l3, l4, l5, l6] [] ((.inr (.inr z)) :: st) n I L P) ∧
  (∀ (st : List mm_V) z (l0 : mm_V) (l1 : mm_V) (l2 : mm_V) (l3 : mm_V) (l5 : mm_V) (l6 : mm_V), mm_E d 282 942 [l0, l1, l2, l3, (.inl z), l5, l6] [] st n I L P = mm_E d 282 944 [l0, l1, l2, l3, (.inl z), l5, l6] [] ((.inl z) :: st) n I L P) ∧
  (∀ (lv : List mm_V) (st : List mm_V), mm_E d 282 944 lv [] st n I L P = mm_E d 282 945 lv [] (.inl 2 :: st) n I L P) ∧
  (∀ (lv : List mm_V) (st : List mm_V) a b, mm_E d 282 945 lv [] (.inl b :: .inl a :: st) n I L P = mm_E d 282 946 lv [] (.inl (mm_add a b) :: st) n I L P) ∧
  (∀ (lv : List mm_V) (st : List mm_V) i, (0 ≤ i ∧ i < I 1000006 5000) → mm_E d 282 946 lv [] (.inl i :: .inr (.inr (some 1000006)) :: st) n I L P = mm_E d 282 947 lv [] (.inl (I 1000006 i.toNat) :: st) n I L P) ∧
  (∀ (lv : List mm_V) a x0 x1, (mm_ok n a 11) → mm_E d 282 947 lv [] (.inl x1 :: .inl x0 :: .inr (.inr (some a)) :: []) n I L P = mm_kr d 282 950 lv [] [] n (mm_rn d 119 [.inr (.inr (some a)), .inl x0, .inl x1] n I L P)) ∧
  (∀ (st : List mm_V) z (l0 : mm_V) (l1 : mm_V) (l3 : mm_V) (l4 : mm_V) (l5 : mm_V) (l6 : mm_V), mm_E d 282 950 [l0, l1, (.inr (.inr z)), l3, l4, l5, l6] [] st n I L P = mm_E d 282 951 [l0, l1, (.inr (.inr z)), l3, l4, l5, l6] [] ((.inr (.inr z)) :: st) n I L P) ∧
  (∀ (st : List mm_V) z (l1 : mm_V) (l2 : mm_V) (l3 : mm_V) (l4 : mm_V) (l5 : mm_V) (l6 : mm_V), mm_E d 282 951 [(.inr (.inr z)), l1, l2, l3, l4, l5, l6] [] st n I L P = mm_E d 282 952 [(.inr (.inr z)), l1, l2, l3, l4, l5, l6] [] ((.inr (.inr z)) :: st) n I L P) ∧
  (∀ (st : List mm_V) z (l0 : mm_V) (l1 : mm_V) (l2 : mm_V) (l3 : mm_V) (l5 : mm_V) (l6 : mm_V), mm_E d 282 952 [l0, l1, l2, l3, (.inl z), l5, l6] [] st n I L P = mm_E d 282 954 [l0, l1, l2, l3, (.inl z), l5, l6] [] ((.inl z) :: st) n I L P) ∧
  (∀ (lv : List mm_V) (st : List mm_V), mm_E d 282 954 lv [] st n I L P = mm_E d 282 955 lv [] (.inl 1 :: st) n I L P) ∧
  (∀ (lv : List mm_V) (st : List mm_V) a b, mm_E d 282 955 lv [] (.inl b :: .inl a :: st) n I L P = mm_E d 282 956 lv [] (.inl (mm_add a b) :: st) n I L P) ∧
  (∀ (lv : List mm_V) (st : List mm_V) i, (0 ≤ i ∧ i < I 1000006 5000) → mm_E d 282 956 lv [] (.inl i :: .inr (.inr (some 1000006)) :: st) n I L P = mm_E d 282 957 lv [] (.inl (I 1000006 i.toNat) :: st) n I L P) ∧
  (∀ (st : List mm_V) z (l1 : mm_V) (l2 : mm_V) (l3 : mm_V) (l4 : mm_V) (l5 : mm_V) (l6 : mm_V), mm_E d 282 957 [(.inr (.inr z)), l1, l2, l3, l4, l5, l6] [] st n I L P = mm_E d 282 958 [(.inr (.inr z)), l1, l2, l3, l4, l5, l6] [] ((.inr (.inr z)) :: st) n I L P) ∧
  (∀ (st : List mm_V) z (l0 : mm_V) (l1 : mm_V) (l2 : mm_V) (l3 : mm_V) (l5 : mm_V) (l6 : mm_V), mm_E d 282 958 [l0, l1, l2, l3, (.inl z), l5, l6] [] st n I L P = mm_E d 282 960 [l0, l1, l2, l3, (.inl z), l5, l6] [] ((.inl z) :: st) n I L P) ∧
  (∀ (lv : List mm_V) (st : List mm_V), mm_E d 282 960 lv [] st n I L P = mm_E d 282 961 lv [] (.inl 2 :: st) n I L P) ∧
  (∀ (lv : List mm_V) (st : List mm_V) a b, mm_E d 282 961 lv [] (.inl b :: .inl a :: st) n I L P = mm_E d 282 962 lv [] (.inl (mm_add a b) :: st) n I L P) ∧
  (∀ (lv : List mm_V) (st : List mm_V) i, (0 ≤ i ∧ i < I 1000006 5000) → mm_E d 282 962 lv [] (.inl i :: .inr (.inr (some 1000006)) :: st) n I L P = mm_E d 282 963 lv [] (.inl (I 1000006 i.toNat) :: st) n I L P) ∧
  (∀ (lv : List mm_V) a x0 x1 w0, (mm_ok n a 12) → mm_E d 282 963 lv [] (.inl x1 :: .inl x0 :: .inr (.inr (some a)) :: [.inl w0]) n I L P = mm_kr d 282 966 lv [] [.inl w0] n (mm_rn d 230 [.inr (.inr (some a)), .inl x0, .inl x1] n I L P)) ∧
  (∀ (lv : List mm_V) (st : List mm_V) a b, mm_E d 282 966 lv [] (.inl b :: .inl a :: st) n I L P = if a = b then mm_E d 282 1494 lv [] st n I L P else mm_E d 282 969 lv [] st n I L P) ∧
  (∀ (lv : List mm_V) (st : List mm_V), mm_E d 282 969 lv [] st n I L P = mm_E d 282 970 lv [] (.inl 0 :: st) n I L P) ∧
  (∀ (lv : List mm_V) z, (0 ≤ z ∧ z < 2) → mm_E d 282 970 lv [] [.inl z] n I L P = some (some (.inl z), n, I, L, P)) :=
  ⟨fun _ _ _ _ _ _ _ _ => mq_al (i := 1) rfl rfl,
   fun _ _ _ _ _ _ _ _ => mq_al (i := 0) rfl rfl,
   fun _ _ _ _ _ _ _ _ => mq_il (i := 4) rfl rfl,
   fun _ _ => mq_push rfl,
   fun _ _ _ _ => mq_bi rfl,
   fun _ _ _ h0 => mq_xald rfl h0,
   fun _ _ _ _ _ _ _ _ => mq_al (i := 0) rfl rfl,
   fun _ _ _ _ _ _ _ _ => mq_il (i := 4) rfl rfl,
   fun _ _ => mq_push rfl,
   fun _ _ _ _ => mq_bi rfl,
   fun _ _ _ h0 => mq_xald rfl h0,
   fun _ _ _ _ h0 => mq_cVr (na := 2) rfl rfl (Nat.le_of_ble_eq_true rfl) (Nat.le_of_ble_eq_true rfl) h0,
   fun _ _ _ _ _ _ _ _ => mq_al (i := 2) rfl rfl,
   fun _ _ _ _ _ _ _ _ => mq_al (i := 0) rfl rfl,
   fun _ _ _ _ _ _ _ _ => mq_il (i := 4) rfl rfl,
   fun _ _ => mq_push rfl,
   fun _ _ _ _ => mq_bi rfl,
   fun _ _ _ h0 => mq_xald rfl h0,
   fun _ _ _ _ _ _ _ _ => mq_al (i := 0) rfl rfl,
   fun _ _ _ _ _ _ _ _ => mq_il (i := 4) rfl rfl,
   fun _ _ => mq_push rfl,
   fun _ _ _ _ => mq_bi rfl,
   fun _ _ _ h0 => mq_xald rfl h0,
   fun _ _ _ _ _ h0 => mq_cVr (na := 2) rfl rfl (Nat.le_of_ble_eq_true rfl) (Nat.le_of_ble_eq_true rfl) h0,
   fun _ _ _ _ => mq_ic_eq rfl,
   fun _ _ => mq_push rfl,
   fun _ _ h0 => mq_rz rfl h0⟩
set_option maxRecDepth 20000 in
set_option maxHeartbeats 8000000 in
theorem kL_law_24 (d n : Nat) (I L : mm_I) (P : mm_P) :
  (∀ (st : List mm_V) z (l0 : mm_V) (l2 : mm_V) (l3 : mm_V) (l4 : mm_V) (l5 : mm_V) (l6 : mm_V), mm_E d 282 971 [l0, (.inr (.inr z)), l2, l3, l4, l5, l6] [] st n I L P = mm_E d 282 972 [l0, (.inr (.inr z)), l2, l3, l4, l5, l6] [] ((.inr (.inr z)) :: st) n I L P) ∧
  (∀ (lv : List mm_V) a, (mm_ok n a 11) → mm_E d 282 972 lv [] (.inr (.inr (some a)) :: []) n I L P = mm_kr d 282 975 lv [] [] n (mm_rn d 120 [.inr (.inr (some a))] n I L P)) ∧
  (∀ (st : List mm_V) z (l0 : mm_V) (l1 : mm_V) (l3 : mm_V) (l4 : mm_V) (l5 : mm_V) (l6 : mm_V), mm_E d 282 975 [l0, l1, (.inr (.inr z)), l3, l4, l5, l6] [] st n I L P = mm_E d 282 976 [l0, l1, (.inr (.inr z)), l3, l4, l5, l6] [] ((.inr (.inr z)) :: st) n I L P) ∧
  (∀ (lv : List mm_V) a w0, (mm_ok n a 12) → mm_E d 282 976 lv [] (.inr (.inr (some a)) :: [.inl w0]) n I L P = mm_kr d 282 979 lv [] [.inl w0] n (mm_rn d 231 [.inr (.inr (some a))] n I L P)) ∧
  (∀ (lv : List mm_V) (st : List mm_V) a b, mm_E d 282 979 lv [] (.inl b :: .inl a :: st) n I L P = if a = b then mm_E d 282 1494 lv [] st n I L P else mm_E d 282 982 lv [] st n I L P) ∧
  (∀ (lv : List mm_V) (st : List mm_V), mm_E d 282 982 lv [] st n I L P = mm_E d 282 983 lv [] (.inl 0 :: st) n I L P) ∧
  (∀ (lv : List mm_V) z, (0 ≤ z ∧ z < 2) → mm_E d 282 983 lv [] [.inl z] n I L P = some (some (.inl z), n, I, L, P)) :=
  ⟨fun _ _ _ _ _ _ _ _ => mq_al (i := 1) rfl rfl,
   fun _ _ h0 => mq_cVr (na := 0) rfl rfl (Nat.le_of_ble_eq_true rfl) (Nat.le_of_ble_eq_true rfl) h0,
   fun _ _ _ _ _ _ _ _ => mq_al (i := 2) rfl rfl,
   fun _ _ _ h0 => mq_cVr (na := 0) rfl rfl (Nat.le_of_ble_eq_true rfl) (Nat.le_of_ble_eq_true rfl) h0,
   fun _ _ _ _ => mq_ic_eq rfl,
   fun _ _ => mq_push rfl,
   fun _ _ h0 => mq_rz rfl h0⟩
set_option maxRecDepth 20000 in
set_option maxHeartbeats 8000000 in
theorem kL_law_25 (d n : Nat) (I L : mm_I) (P : mm_P) :
  (∀ (st : List mm_V) z (l0 : mm_V) (l2 : mm_V) (l3 : mm_V) (l4 : mm_V) (l5 : mm_V) (l6 : mm_V), mm_E d 282 984 [l0, (.inr (.inr z)), l2, l3, l4, l5, l6] [] st n I L P = mm_E d 282 985 [l0, (.inr (.inr z)), l2, l3, l4, l5, l6] [] ((.inr (.inr z)) :: st) n I L P) ∧
  (∀ (st : List mm_V) z (l1 : mm_V) (l2 : mm_V) (l3 : mm_V) (l4 : mm_V) (l5 : mm_V) (l6 : mm_V), mm_E d 282 985 [(.inr (.inr z)), l1, l2, l3, l4, l5, l6] [] st n I L P = mm_E d 282 986 [(.inr (.inr z)), l1, l2, l3, l4, l5, l6] [] ((.inr (.inr z)) :: st) n I L P) ∧
  (∀ (st : List mm_V) z (l0 : mm_V) (l1 : mm_V) (l2 : mm_V) (l3 : mm_V) (l5 : mm_V) (l6 : mm_V), mm_E d 282 986 [l0, l1, l2, l3, (.inl z), l5, l6] [] st n I L P = mm_E d 282 988 [l0, l1, l2, l3, (.inl z), l5, l6] [] ((.inl z) :: st) n I L P) ∧
  (∀ (lv : List mm_V) (st : List mm_V), mm_E d 282 988 lv [] st n I L P = mm_E d 282 989 lv [] (.inl 1 :: st) n I L P) ∧
  (∀ (lv : List mm_V) (st : List mm_V) a b, mm_E d 282 989 lv [] (.inl b :: .inl a :: st) n I L P = mm_E d 282 990 lv [] (.inl (mm_add a b) :: st) n I L P) ∧
  (∀ (lv : List mm_V) (st : List mm_V) i, (0 ≤ i ∧ i < I 1000006 5000) → mm_E d 282 990 lv [] (.inl i :: .inr (.inr (some 1000006)) :: st) n I L P = mm_E d 282 991 lv [] (.inl (I 1000006 i.toNat) :: st) n I L P) ∧
  (∀ (st : List mm_V) z (l1 : mm_V) (l2 : mm_V) (l3 : mm_V) (l4 : mm_V) (l5 : mm_V) (l6 : mm_V), mm_E d 282 991 [(.inr (.inr z)), l1, l2, l3, l4, l5, l6] [] st n I L P = mm_E d 282 992 [(.inr (.inr z)), l1, l2, l3, l4, l5, l6] [] ((.inr (.inr z)) :: st) n I L P) ∧
  (∀ (st : List mm_V) z (l0 : mm_V) (l1 : mm_V) (l2 : mm_V) (l3 : mm_V) (l5 : mm_V) (l6 : mm_V), mm_E d 282 992 [l0, l1, l2, l3, (.inl z), l5, l6] [] st n I L P = mm_E d 282 994 [l0, l1, l2, l3, (.inl z), l5, l6] [] ((.inl z) :: st) n I L P) ∧
  (∀ (lv : List mm_V) (st : List mm_V), mm_E d 282 994 lv [] st n I L P = mm_E d 282 995 lv [] (.inl 2 :: st) n I L P) ∧
  (∀ (lv : List mm_V) (st : List mm_V) a b, mm_E d 282 995 lv [] (.inl b :: .inl a :: st) n I L P = mm_E d 282 996 lv [] (.inl (mm_add a b) :: st) n I L P) ∧
  (∀ (lv : List mm_V) (st : List mm_V) i, (0 ≤ i ∧ i < I 1000006 5000) → mm_E d 282 996 lv [] (.inl i :: .inr (.inr (some 1000006)) :: st) n I L P = mm_E d 282 997 lv [] (.inl (I 1000006 i.toNat) :: st) n I L P) ∧
  (∀ (lv : List mm_V) a x0 x1, (mm_ok n a 11) → mm_E d 282 997 lv [] (.inl x1 :: .inl x0 :: .inr (.inr (some a)) :: []) n I L P = mm_kr d 282 1000 lv [] [] n (mm_rn d 121 [.inr (.inr (some a)), .inl x0, .inl x1] n I L P)) ∧
  (∀ (st : List mm_V) z (l0 : mm_V) (l1 : mm_V) (l3 : mm_V) (l4 : mm_V) (l5 : mm_V) (l6 : mm_V), mm_E d 282 1000 [l0, l1, (.inr (.inr z)), l3, l4, l5, l6] [] st n I L P = mm_E d 282 1001 [l0, l1, (.inr (.inr z)), l3, l4, l5, l6] [] ((.inr (.inr z)) :: st) n I L P) ∧
  (∀ (st : List mm_V) z (l1 : mm_V) (l2 : mm_V) (l3 : mm_V) (l4 : mm_V) (l5 : mm_V) (l6 : mm_V), mm_E d 282 1001 [(.inr (.inr z)), l1, l2, l3, l4, l5, l6] [] st n I L P = mm_E d 282 1002 [(.inr (.inr z)), l1, l2, l3, l4, l5, l6] [] ((.inr (.inr z)) :: st) n I L P) ∧
  (∀ (st : List mm_V) z (l0 : mm_V) (l1 : mm_V) (l2 : mm_V) (l3 : mm_V) (l5 : mm_V) (l6 : mm_V), mm_E d 282 1002 [l0, l1, l2, l3, (.inl z), l5, l6] [] st n I L P = mm_E d 282 1004 [l0, l1, l2, l3, (.inl z), l5, l6] [] ((.inl z) :: st) n I L P) ∧
  (∀ (lv : List mm_V) (st : List mm_V), mm_E d 282 1004 lv [] st n I L P = mm_E d 282 1005 lv [] (.inl 1 :: st) n I L P) ∧
  (∀ (lv : List mm_V) (st : List mm_V) a b, mm_E d 282 1005 lv [] (.inl b :: .inl a :: st) n I L P = mm_E d 282 1006 lv [] (.inl (mm_add a b) :: st) n I L P) ∧
  (∀ (lv : List mm_V) (st : List mm_V) i, (0 ≤ i ∧ i < I 1000006 5000) → mm_E d 282 1006 lv [] (.inl i :: .inr (.inr (some 1000006)) :: st) n I L P = mm_E d 282 1007 lv [] (.inl (I 1000006 i.toNat) :: st) n I L P) ∧
  (∀ (st : List mm_V) z (l1 : mm_V) (l2 : mm_V) (l3 : mm_V) (l4 : mm_V) (l5 : mm_V) (l6 : mm_V), mm_E d 282 1007 [(.inr (.inr z)), l1, l2, l3, l4, l5, l6] [] st n I L P = mm_E d 282 1008 [(.inr (.inr z)), l1, l2, l3, l4, l5, l6] [] ((.inr (.inr z)) :: st) n I L P) ∧
  (∀ (st : List mm_V) z (l0 : mm_V) (l1 : mm_V) (l2 : mm_V) (l3 : mm_V) (l5 : mm_V) (l6 : mm_V), mm_E d 282 1008 [l0, l1, l2, l3, (.inl z), l5, l6] [] st n I L P = mm_E d 282 1010 [l0, l1, l2, l3, (.inl z), l5, l6] [] ((.inl z) :: st) n I L P) ∧
  (∀ (lv : List mm_V) (st : List mm_V), mm_E d 282 1010 lv [] st n I L P = mm_E d 282 1011 lv [] (.inl 2 :: st) n I L P) ∧
  (∀ (lv : List mm_V) (st : List mm_V) a b, mm_E d 282 1011 lv [] (.inl b :: .inl a :: st) n I L P = mm_E d 282 1012 lv [] (.inl (mm_add a b) :: st) n I L P) ∧
  (∀ (lv : List mm_V) (st : List mm_V) i, (0 ≤ i ∧ i < I 1000006 5000) → mm_E d 282 1012 lv [] (.inl i :: .inr (.inr (some 1000006)) :: st) n I L P = mm_E d 282 1013 lv [] (.inl (I 1000006 i.toNat) :: st) n I L P) ∧
  (∀ (lv : List mm_V) a x0 x1 w0, (mm_ok n a 12) → mm_E d 282 1013 lv [] (.inl x1 :: .inl x0 :: .inr (.inr (some a)) :: [.inl w0]) n I L P = mm_kr d 282 1016 lv [] [.inl w0] n (mm_rn d 234 [.inr (.inr (some a)), .inl x0, .inl x1] n I L P)) ∧
  (∀ (lv : List mm_V) (st : List mm_V) a b, mm_E d 282 1016 lv [] (.inl b :: .inl a :: st) n I L P = if a = b then mm_E d 282 1494 lv [] st n I L P else mm_E d 282 1019 lv [] st n I L P) ∧
  (∀ (lv : List mm_V) (st : List mm_V), mm_E d 282 1019 lv [] st n I L P = mm_E d 282 1020 lv [] (.inl 0 :: st) n I L P) ∧
  (∀ (lv : List mm_V) z, (0 ≤ z ∧ z < 2) → mm_E d 282 1020 lv [] [.inl z] n I L P = some (some (.inl z), n, I, L, P)) :=
  ⟨fun _ _ _ _ _ _ _ _ => mq_al (i := 1) rfl rfl,
   fun _ _ _ _ _ _ _ _ => mq_al (i := 0) rfl rfl,
   fun _ _ _ _ _ _ _ _ => mq_il (i := 4) rfl rfl,
   fun _ _ => mq_push rfl,
   fun _ _ _ _ => mq_bi rfl,
   fun _ _ _ h0 => mq_xald rfl h0,
   fun _ _ _ _ _ _ _ _ => mq_al (i := 0) rfl rfl,
   fun _ _ _ _ _ _ _ _ => mq_il (i := 4) rfl rfl,
   fun _ _ => mq_push rfl,
   fun _ _ _ _ => mq_bi rfl,
   fun _ _ _ h0 => mq_xald rfl h0,
   fun _ _ _ _ h0 => mq_cVr (na := 2) rfl rfl (Nat.le_of_ble_eq_true rfl) (Nat.le_of_ble_eq_true rfl) h0,
   fun _ _ _ _ _ _ _ _ => mq_al (i := 2) rfl rfl,
   fun _ _ _ _ _ _ _ _ => mq_al (i := 0) rfl rfl,
   fun _ _ _ _ _ _ _ _ => mq_il (i := 4) rfl rfl,
   fun _ _ => mq_push rfl,
   fun _ _ _ _ => mq_bi rfl,
   fun _ _ _ h0 => mq_xald rfl h0,
   fun _ _ _ _ _ _ _ _ => mq_al (i := 0) rfl rfl,
   fun _ _ _ _ _ _ _ _ => mq_il (i := 4) rfl rfl,
   fun _ _ => mq_push rfl,
   fun _ _ _ _ => mq_bi rfl,
   fun _ _ _ h0 => mq_xald rfl h0,
   fun _ _ _ _ _ h0 => mq_cVr (na := 2) rfl rfl (Nat.le_of_ble_eq_true rfl) (Nat.le_of_ble_eq_true rfl) h0,
   fun _ _ _ _ => mq_ic_eq rfl,
   fun _ _ => mq_push rfl,
   fun _ _ h0 => mq_rz rfl h0⟩
set_option maxRecDepth 20000 in
set_option maxHeartbeats 8000000 in
theorem kL_law_26 (d n : Nat) (I L : mm_I) (P : mm_P) :
  (∀ (st : List mm_V) z (l0 : mm_V) (l2 : mm_V) (l3 : mm_V) (l4 : mm_V) (l5 : mm_V) (l6 : mm_V), mm_E d 282 1021 [l0, (.inr (.inr z)), l2, l3, l4, l5, l6] [] st n I L P = mm_E d 282 1022 [l0, (.inr (.inr z)), l2, l3, l4, l5, l6] [] ((.inr (.inr z)) :: st) n I L P) ∧
  (∀ (st : List mm_V) z (l1 : mm_V) (l2 : mm_V) (l3 : mm_V) (l4 : mm_V) (l5 : mm_V) (l6 : mm_V), mm_E d 282 1022 [(.inr (.inr z)), l1, l2, l3, l4, l5, l6] [] st n I L P = mm_E d 282 1023 [(.inr (.inr z)), l1, l2, l3, l4, l5, l6] [] ((.inr (.inr z)) :: st) n I L P) ∧
  (∀ (st : List mm_V) z (l0 : mm_V) (l1 : mm_V) (l2 : mm_V) (l3 : mm_V) (l5 : mm_V) (l6 : mm_V), mm_E d 282 1023 [l0, l1, l2, l3, (.inl z), l5, l6] [] st n I L P = mm_E d 282 1025 [l0, l1, l2, l3, (.inl z), l5, l6] [] ((.inl z) :: st) n I L P) ∧
  (∀ (lv : List mm_V) (st : List mm_V), mm_E d 282 1025 lv [] st n I L P = mm_E d 282 1026 lv [] (.inl 1 :: st) n I L P) ∧
  (∀ (lv : List mm_V) (st : List mm_V) a b, mm_E d 282 1026 lv [] (.inl b :: .inl a :: st) n I L P = mm_E d 282 1027 lv [] (.inl (mm_add a b) :: st) n I L P) ∧
  (∀ (lv : List mm_V) (st : List mm_V) i, (0 ≤ i ∧ i < I 1000006 5000) → mm_E d 282 1027 lv [] (.inl i :: .inr (.inr (some 1000006)) :: st) n I L P = mm_E d 282 1028 lv [] (.inl (I 1000006 i.toNat) :: st) n I L P) ∧
  (∀ (st : List mm_V) z (l1 : mm_V) (l2 : mm_V) (l3 : mm_V) (l4 : mm_V) (l5 : mm_V) (l6 : mm_V), mm_E d 282 1028 [(.inr (.inr z)), l1, l2, l3, l4, l5, l6] [] st n I L P = mm_E d 282 1029 [(.inr (.inr z)), l1, l2, l3, l4, l5, l6] [] ((.inr (.inr z)) :: st) n I L P) ∧
  (∀ (st : List mm_V) z (l0 : mm_V) (l1 : mm_V) (l2 : mm_V) (l3 : mm_V) (l5 : mm_V) (l6 : mm_V), mm_E d 282 1029 [l0, l1, l2, l3, (.inl z), l5, l6] [] st n I L P = mm_E d 282 1031 [l0, l1, l2, l3, (.inl z), l5, l6] [] ((.inl z) :: st) n I L P) ∧
  (∀ (lv : List mm_V) (st : List mm_V), mm_E d 282 1031 lv [] st n I L P = mm_E d 282 1032 lv [] (.inl 2 :: st) n I L P) ∧
  (∀ (lv : List mm_V) (st : List mm_V) a b, mm_E d 282 1032 lv [] (.inl b :: .inl a :: st) n I L P = mm_E d 282 1033 lv [] (.inl (mm_add a b) :: st) n I L P) ∧
  (∀ (lv : List mm_V) (st : List mm_V) i, (0 ≤ i ∧ i < I 1000006 5000) → mm_E d 282 1033 lv [] (.inl i :: .inr (.inr (some 1000006)) :: st) n I L P = mm_E d 282 1034 lv [] (.inl (I 1000006 i.toNat) :: st) n I L P) ∧
  (∀ (lv : List mm_V) a x0 x1, (mm_ok n a 11) → mm_E d 282 1034 lv [] (.inl x1 :: .inl x0 :: .inr (.inr (some a)) :: []) n I L P = mm_kr d 282 1037 lv [] [] n (mm_rn d 124 [.inr (.inr (some a)), .inl x0, .inl x1] n I L P)) ∧
  (∀ (st : List mm_V) z (l0 : mm_V) (l1 : mm_V) (l3 : mm_V) (l4 : mm_V) (l5 : mm_V) (l6 : mm_V), mm_E d 282 1037 [l0, l1, (.inr (.inr z)), l3, l4, l5, l6] [] st n I L P = mm_E d 282 1038 [l0, l1, (.inr (.inr z)), l3, l4, l5, l6] [] ((.inr (.inr z)) :: st) n I L P) ∧
  (∀ (st : List mm_V) z (l1 : mm_V) (l2 : mm_V) (l3 : mm_V) (l4 : mm_V) (l5 : mm_V) (l6 : mm_V), mm_E d 282 1038 [(.inr (.inr z)), l1, l2, l3, l4, l5, l6] [] st n I L P = mm_E d 282 1039 [(.inr (.inr z)), l1, l2, l3, l4, l5, l6] [] ((.inr (.inr z)) :: st) n I L P) ∧
  (∀ (st : List mm_V) z (l0 : mm_V) (l1 : mm_V) (l2 : mm_V) (l3 : mm_V) (l5 : mm_V) (l6 : mm_V), mm_E d 282 1039 [l0, l1, l2, l3, (.inl z), l5, l6] [] st n I L P = mm_E d 282 1041 [l0, l1, l2, l3, (.inl z), l5, l6] [] ((.inl z) :: st) n I L P) ∧
  (∀ (lv : List mm_V) (st : List mm_V), mm_E d 282 1041 lv [] st n I L P = mm_E d 282 1042 lv [] (.inl 1 :: st) n I L P) ∧
  (∀ (lv : List mm_V) (st : List mm_V) a b, mm_E d 282 1042 lv [] (.inl b :: .inl a :: st) n I L P = mm_E d 282 1043 lv [] (.inl (mm_add a b) :: st) n I L P) ∧
  (∀ (lv : List mm_V) (st : List mm_V) i, (0 ≤ i ∧ i < I 1000006 5000) → mm_E d 282 1043 lv [] (.inl i :: .inr (.inr (some 1000006)) :: st) n I L P = mm_E d 282 1044 lv [] (.inl (I 1000006 i.toNat) :: st) n I L P) ∧
  (∀ (st : List mm_V) z (l1 : mm_V) (l2 : mm_V) (l3 : mm_V) (l4 : mm_V) (l5 : mm_V) (l6 : mm_V), mm_E d 282 1044 [(.inr (.inr z)), l1, l2, l3, l4, l5, l6] [] st n I L P = mm_E d 282 1045 [(.inr (.inr z)), l1, l2, l3, l4, l5, l6] [] ((.inr (.inr z)) :: st) n I L P) ∧
  (∀ (st : List mm_V) z (l0 : mm_V) (l1 : mm_V) (l2 : mm_V) (l3 : mm_V) (l5 : mm_V) (l6 : mm_V), mm_E d 282 1045 [l0, l1, l2, l3, (.inl z), l5, l6] [] st n I L P = mm_E d 282 1047 [l0, l1, l2, l3, (.inl z), l5, l6] [] ((.inl z) :: st) n I L P) ∧
  (∀ (lv : List mm_V) (st : List mm_V), mm_E d 282 1047 lv [] st n I L P = mm_E d 282 1048 lv [] (.inl 2 :: st) n I L P) ∧
  (∀ (lv : List mm_V) (st : List mm_V) a b, mm_E d 282 1048 lv [] (.inl b :: .inl a :: st) n I L P = mm_E d 282 1049 lv [] (.inl (mm_add a b) :: st) n I L P) ∧
  (∀ (lv : List mm_V) (st : List mm_V) i, (0 ≤ i ∧ i < I 1000006 5000) → mm_E d 282 1049 lv [] (.inl i :: .inr (.inr (some 1000006)) :: st) n I L P = mm_E d 282 1050 lv [] (.inl (I 1000006 i.toNat) :: st) n I L P) ∧
  (∀ (lv : List mm_V) a x0 x1 w0, (mm_ok n a 12) → mm_E d 282 1050 lv [] (.inl x1 :: .inl x0 :: .inr (.inr (some a)) :: [.inl w0]) n I L P = mm_kr d 282 1053 lv [] [.inl w0] n (mm_rn d 237 [.inr (.inr (some a)), .inl x0, .inl x1] n I L P)) ∧
  (∀ (lv : List mm_V) (st : List mm_V) a b, mm_E d 282 1053 lv [] (.inl b :: .inl a :: st) n I L P = if a = b then mm_E d 282 1494 lv [] st n I L P else mm_E d 282 1056 lv [] st n I L P) ∧
  (∀ (lv : List mm_V) (st : List mm_V), mm_E d 282 1056 lv [] st n I L P = mm_E d 282 1057 lv [] (.inl 0 :: st) n I L P) ∧
  (∀ (lv : List mm_V) z, (0 ≤ z ∧ z < 2) → mm_E d 282 1057 lv [] [.inl z] n I L P = some (some (.inl z), n, I, L, P)) :=
  ⟨fun _ _ _ _ _ _ _ _ => mq_al (i := 1) rfl rfl,
   fun _ _ _ _ _ _ _ _ => mq_al (i := 0) rfl rfl,
   fun _ _ _ _ _ _ _ _ => mq_il (i := 4) rfl rfl,
   fun _ _ => mq_push rfl,
   fun _ _ _ _ => mq_bi rfl,
   fun _ _ _ h0 => mq_xald rfl h0,
   fun _ _ _ _ _ _ _ _ => mq_al (i := 0) rfl rfl,
   fun _ _ _ _ _ _ _ _ => mq_il (i := 4) rfl rfl,
   fun _ _ => mq_push rfl,
   fun _ _ _ _ => mq_bi rfl,
   fun _ _ _ h0 => mq_xald rfl h0,
   fun _ _ _ _ h0 => mq_cVr (na := 2) rfl rfl (Nat.le_of_ble_eq_true rfl) (Nat.le_of_ble_eq_true rfl) h0,
   fun _ _ _ _ _ _ _ _ => mq_al (i := 2) rfl rfl,
   fun _ _ _ _ _ _ _ _ => mq_al (i := 0) rfl rfl,
   fun _ _ _ _ _ _ _ _ => mq_il (i := 4) rfl rfl,
   fun _ _ => mq_push rfl,
   fun _ _ _ _ => mq_bi rfl,
   fun _ _ _ h0 => mq_xald rfl h0,
   fun _ _ _ _ _ _ _ _ => mq_al (i := 0) rfl rfl,
   fun _ _ _ _ _ _ _ _ => mq_il (i := 4) rfl rfl,
   fun _ _ => mq_push rfl,
   fun _ _ _ _ => mq_bi rfl,
   fun _ _ _ h0 => mq_xald rfl h0,
   fun _ _ _ _ _ h0 => mq_cVr (na := 2) rfl rfl (Nat.le_of_ble_eq_true rfl) (Nat.le_of_ble_eq_true rfl) h0,
   fun _ _ _ _ => mq_ic_eq rfl,
   fun _ _ => mq_push rfl,
   fun _ _ h0 => mq_rz rfl h0⟩
set_option maxRecDepth 20000 in
set_option maxHeartbeats 8000000 in
theorem kL_law_27 (d n : Nat) (I L : mm_I) (P : mm_P) :
  (∀ (st : List mm_V) z (l0 : mm_V) (l2 : mm_V) (l3 : mm_V) (l4 : mm_V) (l5 : mm_V) (l6 : mm_V), mm_E d 282 1058 [l0, (.inr (.inr z)), l2, l3, l4, l5, l6] [] st n I L P = mm_E d 282 1059 [l0, (.inr (.inr z)), l2, l3, l4, l5, l6] [] ((.inr (.inr z)) :: st) n I L P) ∧
  (∀ (lv : List mm_V) a, (mm_ok n a 11) → mm_E d 282 1059 lv [] (.inr (.inr (some a)) :: []) n I L P = mm_kr d 282 1062 lv [] [] n (mm_rn d 125 [.inr (.inr (some a))] n I L P)) ∧
  (∀ (st : List mm_V) z (l0 : mm_V) (l1 : mm_V) (l3 : mm_V) (l4 : mm_V) (l5 : mm_V) (l6 : mm_V), mm_E d 282 1062 [l0, l1, (.inr (.inr z)), l3, l4, l5, l6] [] st n I L P = mm_E d 282 1063 [l0, l1, (.inr (.inr z)), l3, l4, l5, l6] [] ((.inr (.inr z)) :: st) n I L P) ∧
  (∀ (lv : List mm_V) a w0, (mm_ok n a 12) → mm_E d 282 1063 lv [] (.inr (.inr (some a)) :: [.inl w0]) n I L P = mm_kr d 282 1066 lv [] [.inl w0] n (mm_rn d 238 [.inr (.inr (some a))] n I L P)) ∧
  (∀ (lv : List mm_V) (st : List mm_V) a b, mm_E d 282 1066 lv [] (.inl b :: .inl a :: st) n I L P = if a = b then mm_E d 282 1494 lv [] st n I L P else mm_E d 282 1069 lv [] st n I L P) ∧
  (∀ (lv : List mm_V) (st : List mm_V), mm_E d 282 1069 lv [] st n I L P = mm_E d 282 1070 lv [] (.inl 0 :: st) n I L P) ∧
  (∀ (lv : List mm_V) z, (0 ≤ z ∧ z < 2) → mm_E d 282 1070 lv [] [.inl z] n I L P = some (some (.inl z), n, I, L, P)) :=
  ⟨fun _ _ _ _ _ _ _ _ => mq_al (i := 1) rfl rfl,
   fun _ _ h0 => mq_cVr (na := 0) rfl rfl (Nat.le_of_ble_eq_true rfl) (Nat.le_of_ble_eq_true rfl) h0,
   fun _ _ _ _ _ _ _ _ => mq_al (i := 2) rfl rfl,
   fun _ _ _ h0 => mq_cVr (na := 0) rfl rfl (Nat.le_of_ble_eq_true rfl) (Nat.le_of_ble_eq_true rfl) h0,
   fun _ _ _ _ => mq_ic_eq rfl,
   fun _ _ => mq_push rfl,
   fun _ _ h0 => mq_rz rfl h0⟩
set_option maxRecDepth 20000 in
set_option maxHeartbeats 8000000 in
theorem kL_law_28 (d n : Nat) (I L : mm_I) (P : mm_P) :
  (∀ (st : List mm_V) z (l0 : mm_V) (l2 : mm_V) (l3 : mm_V) (l4 : mm_V) (l5 : mm_V) (l6 : mm_V), mm_E d 282 1071 [l0, (.inr (.inr z)), l2, l3, l4, l5, l6] [] st n I L P = mm_E d 282 1072 [l0, (.inr (.inr z)), l2, l3, l4, l5, l6] [] ((.inr (.inr z)) :: st) n I L P) ∧
  (∀ (st : List mm_V) z (l1 : mm_V) (l2 : mm_V) (l3 : mm_V) (l4 : mm_V) (l5 : mm_V) (l6 : mm_V), mm_E d 282 1072 [(.inr (.inr z)), l1, l2, l3, l4, l5, l6] [] st n I L P = mm_E d 282 1073 [(.inr (.inr z)), l1, l2, l3, l4, l5, l6] [] ((.inr (.inr z)) :: st) n I L P) ∧
  (∀ (st : List mm_V) z (l0 : mm_V) (l1 : mm_V) (l2 : mm_V) (l3 : mm_V) (l5 : mm_V) (l6 : mm_V), mm_E d 282 1073 [l0, l1, l2, l3, (.inl z), l5, l6] [] st n I L P = mm_E d 282 1075 [l0, l1, l2, l3, (.inl z), l5, l6] [] ((.inl z) :: st) n I L P) ∧
  (∀ (lv : List mm_V) (st : List mm_V), mm_E d 282 1075 lv [] st n I L P = mm_E d 282 1076 lv [] (.inl 1 :: st) n I L P) ∧
  (∀ (lv : List mm_V) (st : List mm_V) a b, mm_E d 282 1076 lv [] (.inl b :: .inl a :: st) n I L P = mm_E d 282 1077 lv [] (.inl (mm_add a b) :: st) n I L P) ∧
  (∀ (lv : List mm_V) (st : List mm_V) i, (0 ≤ i ∧ i < I 1000006 5000) → mm_E d 282 1077 lv [] (.inl i :: .inr (.inr (some 1000006)) :: st) n I L P = mm_E d 282 1078 lv [] (.inl (I 1000006 i.toNat) :: st) n I L P) ∧
  (∀ (st : List mm_V) z (l1 : mm_V) (l2 : mm_V) (l3 : mm_V) (l4 : mm_V) (l5 : mm_V) (l6 : mm_V), mm_E d 282 1078 [(.inr (.inr z)), l1, l2, l3, l4, l5, l6] [] st n I L P = mm_E d 282 1079 [(.inr (.inr z)), l1, l2, l3, l4, l5, l6] [] ((.inr (.inr z)) :: st) n I L P) ∧
  (∀ (st : List mm_V) z (l0 : mm_V) (l1 : mm_V) (l2 : mm_V) (l3 : mm_V) (l5 : mm_V) (l6 : mm_V), mm_E d 282 1079 [l0, l1, l2, l3, (.inl z), l5, l6] [] st n I L P = mm_E d 282 1081 [l0, l1, l2, l3, (.inl z), l5, l6] [] ((.inl z) :: st) n I L P) ∧
  (∀ (lv : List mm_V) (st : List mm_V), mm_E d 282 1081 lv [] st n I L P = mm_E d 282 1082 lv [] (.inl 2 :: st) n I L P) ∧
  (∀ (lv : List mm_V) (st : List mm_V) a b, mm_E d 282 1082 lv [] (.inl b :: .inl a :: st) n I L P = mm_E d 282 1083 lv [] (.inl (mm_add a b) :: st) n I L P) ∧
  (∀ (lv : List mm_V) (st : List mm_V) i, (0 ≤ i ∧ i < I 1000006 5000) → mm_E d 282 1083 lv [] (.inl i :: .inr (.inr (some 1000006)) :: st) n I L P = mm_E d 282 1084 lv [] (.inl (I 1000006 i.toNat) :: st) n I L P) ∧
  (∀ (st : List mm_V) z (l1 : mm_V) (l2 : mm_V) (l3 : mm_V) (l4 : mm_V) (l5 : mm_V) (l6 : mm_V), mm_E d 282 1084 [(.inr (.inr z)), l1, l2, l3, l4, l5, l6] [] st n I L P = mm_E d 282 1085 [(.inr (.inr z)), l1, l2, l3, l4, l5, l6] [] ((.inr (.inr z)) :: st) n I L P) ∧
  (∀ (st : List mm_V) z (l0 : mm_V) (l1 : mm_V) (l2 : mm_V) (l3 : mm_V) (l5 : mm_V) (l6 : mm_V), mm_E d 282 1085 [l0, l1, l2, l3, (.inl z), l5, l6] [] st n I L P = mm_E d 282 1087 [l0, l1, l2, l3, (.inl z), l5, l6] [] ((.inl z) :: st) n I L P) ∧
  (∀ (lv : List mm_V) (st : List mm_V), mm_E d 282 1087 lv [] st n I L P = mm_E d 282 1088 lv [] (.inl 3 :: st) n I L P) ∧
  (∀ (lv : List mm_V) (st : List mm_V) a b, mm_E d 282 1088 lv [] (.inl b :: .inl a :: st) n I L P = mm_E d 282 1089 lv [] (.inl (mm_add a b) :: st) n I L P) ∧
  (∀ (lv : List mm_V) (st : List mm_V) i, (0 ≤ i ∧ i < I 1000006 5000) → mm_E d 282 1089 lv [] (.inl i :: .inr (.inr (some 1000006)) :: st) n I L P = mm_E d 282 1090 lv [] (.inl (I 1000006 i.toNat) :: st) n I L P) ∧
  (∀ (st : List mm_V) z (l1 : mm_V) (l2 : mm_V) (l3 : mm_V) (l4 : mm_V) (l5 : mm_V) (l6 : mm_V), mm_E d 282 1090 [(.inr (.inr z)), l1, l2, l3, l4, l5, l6] [] st n I L P = mm_E d 282 1091 [(.inr (.inr z)), l1, l2, l3, l4, l5, l6] [] ((.inr (.inr z)) :: st) n I L P) ∧
  (∀ (st : List mm_V) z (l0 : mm_V) (l1 : mm_V) (l2 : mm_V) (l3 : mm_V) (l5 : mm_V) (l6 : mm_V), mm_E d 282 1091 [l0, l1, l2, l3, (.inl z), l5, l6] [] st n I L P = mm_E d 282 1093 [l0, l1, l2, l3, (.inl z), l5, l6] [] ((.inl z) :: st) n I L P) ∧
  (∀ (lv : List mm_V) (st : List mm_V), mm_E d 282 1093 lv [] st n I L P = mm_E d 282 1094 lv [] (.inl 4 :: st) n I L P) ∧
  (∀ (lv : List mm_V) (st : List mm_V) a b, mm_E d 282 1094 lv [] (.inl b :: .inl a :: st) n I L P = mm_E d 282 1095 lv [] (.inl (mm_add a b) :: st) n I L P) ∧
  (∀ (lv : List mm_V) (st : List mm_V) i, (0 ≤ i ∧ i < I 1000006 5000) → mm_E d 282 1095 lv [] (.inl i :: .inr (.inr (some 1000006)) :: st) n I L P = mm_E d 282 1096 lv [] (.inl (I 1000006 i.toNat) :: st) n I L P) ∧
  (∀ (lv : List mm_V) (st : List mm_V) a, mm_E d 282 1096 lv [] (.inl a :: st) n I L P = if a = 0 then mm_E d 282 1103 lv [] st n I L P else mm_E d 282 1099 lv [] st n I L P) ∧
  (∀ (lv : List mm_V) (st : List mm_V), mm_E d 282 1099 lv [] st n I L P = mm_E d 282 1100 lv [] (.inl 1 :: st) n I L P) ∧
  (∀ (lv : List mm_V) (st : List mm_V), mm_E d 282 1100 lv [] st n I L P = mm_E d 282 1104 lv [] st n I L P) ∧
  (∀ (lv : List mm_V) (st : List mm_V), mm_E d 282 1103 lv [] st n I L P = mm_E d 282 1104 lv [] (.inl 0 :: st) n I L P) ∧
  (∀ (lv : List mm_V) a x0 x1 x2 x3, (mm_ok n a 11) → mm_E d 282 1104 lv [] (.inl x3 :: .inl x2 :: .inl x1 :: .inl x0 :: .inr (.inr (some a)) :: []) n I L P = mm_kr d 282 1107 lv [] [] n (mm_rn d 126 [.inr (.inr (some a)), .inl x0, .inl x1, .inl x2, .inl x3] n I L P)) ∧
  (∀ (st : List mm_V) z (l0 : mm_V) (l1 : mm_V) (l3 : mm_V) (l4 : mm_V) (l5 : mm_V) (l6 : mm_V), mm_E d 282 1107 [l0, l1, (.inr (.inr z)), l3, l4, l5, l6] [] st n I L P = mm_E d 282 1108 [l0, l1, (.inr (.inr z)), l3, l4, l5, l6] [] ((.inr (.inr z)) :: st) n I L P) ∧
  (∀ (st : List mm_V) z (l1 : mm_V) (l2 : mm_V) (l3 : mm_V) (l4 : mm_V) (l5 : mm_V) (l6 : mm_V), mm_E d 282 1108 [(.inr (.inr z)), l1, l2, l3, l4, l5, l6] [] st n I L P = mm_E d 282 1109 [(.inr (.inr z)), l1, l2, l3, l4, l5, l6] [] ((.inr (.inr z)) :: st) n I L P) ∧
  (∀ (st : List mm_V) z (l0 : mm_V) (l1 : mm_V) (l2 : mm_V) (l3 : mm_V) (l5 : mm_V) (l6 : mm_V), mm_E d 282 1109 [l0, l1, l2, l3, (.inl z), l5, l6] [] st n I L P = mm_E d 282 1111 [l0, l1, l2, l3, (.inl z), l5, l6] [] ((.inl z) :: st) n I L P) ∧
  (∀ (lv : List mm_V) (st : List mm_V), mm_E d 282 1111 lv [] st n I L P = mm_E d 282 1112 lv [] (.inl 1 :: st) n I L P) ∧
  (∀ (lv : List mm_V) (st : List mm_V) a b, mm_E d 282 1112 lv [] (.inl b :: .inl a :: st) n I L P = mm_E d 282 1113 lv [] (.inl (mm_add a b) :: st) n I L P) ∧
  (∀ (lv : List mm_V) (st : List mm_V) i, (0 ≤ i ∧ i < I 1000006 5000) → mm_E d 282 1113 lv [] (.inl i :: .inr (.inr (some 1000006)) :: st) n I L P = mm_E d 282 1114 lv [] (.inl (I 1000006 i.toNat) :: st) n I L P) ∧
  (∀ (st : List mm_V) z (l1 : mm_V) (l2 : mm_V) (l3 : mm_V) (l4 : mm_V) (l5 : mm_V) (l6 : mm_V), mm_E d 282 1114 [(.inr (.inr z)), l1, l2, l3, l4, l5, l6] [] st n I L P = mm_E d 282 1115 [(.inr (.inr z)), l1, l2, l3, l4, l5, l6] [] ((.inr (.inr z)) :: st) n I L P) ∧
  (∀ (st : List mm_V) z (l0 : mm_V) (l1 : mm_V) (l2 : mm_V) (l3 : mm_V) (l5 : mm_V) (l6 : mm_V), mm_E d 282 1115 [l0, l1, l2, l3, (.inl z), l5, l6] [] st n I L P = mm_E d 282 1117 [l0, l1, l2, l3, (.inl z), l5, l6] [] ((.inl z) :: st) n I L P) ∧
  (∀ (lv : List mm_V) (st : List mm_V), mm_E d 282 1117 lv [] st n I L P = mm_E d 282 1118 lv [] (.inl 2 :: st) n I L P) ∧
  (∀ (lv : List mm_V) (st : List mm_V) a b, mm_E d 282 1118 lv [] (.inl b :: .inl a :: st) n I L P = mm_E d 282 1119 lv [] (.inl (mm_add a b) :: st) n I L P) ∧
  (∀ (lv : List mm_V) (st : List mm_V) i, (0 ≤ i ∧ i < I 1000006 5000) → mm_E d 282 1119 lv [] (.inl i :: .inr (.inr (some 1000006)) :: st) n I L P = mm_E d 282 1120 lv [] (.inl (I 1000006 i.toNat) :: st) n I L P) ∧
  (∀ (st : List mm_V) z (l1 : mm_V) (l2 : mm_V) (l3 : mm_V) (l4 : mm_V) (l5 : mm_V) (l6 : mm_V), mm_E d 282 1120 [(.inr (.inr z)), l1, l2, l3, l4, l5, l6] [] st n I L P = mm_E d 282 1121 [(.inr (.inr z)), l1, l2, l3, l4, l5, l6] [] ((.inr (.inr z)) :: st) n I L P) ∧
  (∀ (st : List mm_V) z (l0 : mm_V) (l1 : mm_V) (l2 : mm_V) (l3 : mm_V) (l5 : mm_V) (l6 : mm_V), mm_E d 282 1121 [l0, l1, l2, l3, (.inl z), l5, l6] [] st n I L P = mm_E d 282 1123 [l0, l1, l2, l3, (.inl z), l5, l6] [] ((.inl z) :: st) n I L P) ∧
  (∀ (lv : List mm_V) (st : List mm_V), mm_E d 282 1123 lv [] st n I L P = mm_E d 282 1124 lv [] (.inl 3 :: st) n I L P) ∧
  (∀ (lv : List mm_V) (st : List mm_V) a b, mm_E d 282 1124 lv [] (.inl b :: .inl a :: st) n I L P = mm_E d 282 1125 lv [] (.inl (mm_add a b) :: st) n I L P) ∧
  (∀ (lv : List mm_V) (st : List mm_V) i, (0 ≤ i ∧ i < I 1000006 5000) → mm_E d 282 1125 lv [] (.inl i :: .inr (.inr (some 1000006)) :: st) n I L P = mm_E d 282 1126 lv [] (.inl (I 1000006 i.toNat) :: st) n I L P) ∧
  (∀ (st : List mm_V) z (l1 : mm_V) (l2 : mm_V) (l3 : mm_V) (l4 : mm_V) (l5 : mm_V) (l6 : mm_V), mm_E d 282 1126 [(.inr (.inr z)), l1, l2, l3, l4, l5, l6] [] st n I L P = mm_E d 282 1127 [(.inr (.inr z)), l1, l2, l3, l4, l5, l6] [] ((.inr (.inr z)) :: st) n I L P) ∧
  (∀ (st : List mm_V) z (l0 : mm_V) (l1 : mm_V) (l2 : mm_V) (l3 : mm_V) (l5 : mm_V) (l6 : mm_V), mm_E d 282 1127 [l0, l1, l2, l3, (.inl z), l5, l6] [] st n I L P = mm_E d 282 1129 [l0, l1, l2, l3, (.inl z), l5, l6] [] ((.inl z) :: st) n I L P) ∧
  (∀ (lv : List mm_V) (st : List mm_V), mm_E d 282 1129 lv [] st n I L P = mm_E d 282 1130 lv [] (.inl 4 :: st) n I L P) ∧
  (∀ (lv : List mm_V) (st : List mm_V) a b, mm_E d 282 1130 lv [] (.inl b :: .inl a :: st) n I L P = mm_E d 282 1131 lv [] (.inl (mm_add a b) :: st) n I L P) ∧
  (∀ (lv : List mm_V) (st : List mm_V) i, (0 ≤ i ∧ i < I 1000006 5000) → mm_E d 282 1131 lv [] (.inl i :: .inr (.inr (some 1000006)) :: st) n I L P = mm_E d 282 1132 lv [] (.inl (I 1000006 i.toNat) :: st) n I L P) ∧
  (∀ (lv : List mm_V) (st : List mm_V) a, mm_E d 282 1132 lv [] (.inl a :: st) n I L P = if a = 0 then mm_E d 282 1139 lv [] st n I L P else mm_E d 282 1135 lv [] st n I L P) ∧
  (∀ (lv : List mm_V) (st : List mm_V), mm_E d 282 1135 lv [] st n I L P = mm_E d 282 1136 lv [] (.inl 1 :: st) n I L P) ∧
  (∀ (lv : List mm_V) (st : List mm_V), mm_E d 282 1136 lv [] st n I L P = mm_E d 282 1140 lv [] st n I L P) ∧
  (∀ (lv : List mm_V) (st : List mm_V), mm_E d 282 1139 lv [] st n I L P = mm_E d 282 1140 lv [] (.inl 0 :: st) n I L P) ∧
  (∀ (lv : List mm_V) a x0 x1 x2 x3 w0, (mm_ok n a 12) → mm_E d 282 1140 lv [] (.inl x3 :: .inl x2 :: .inl x1 :: .inl x0 :: .inr (.inr (some a)) :: [.inl w0]) n I L P = mm_kr d 282 1143 lv [] [.inl w0] n (mm_rn d 239 [.inr (.inr (some a)), .inl x0, .inl x1, .inl x2, .inl x3] n I L P)) ∧
  (∀ (lv : List mm_V) (st : List mm_V) a b, mm_E d 282 1143 lv [] (.inl b :: .inl a :: st) n I L P = if a = b then mm_E d 282 1494 lv [] st n I L P else mm_E d 282 1146 lv [] st n I L P) ∧
  (∀ (lv : List mm_V) (st : List mm_V), mm_E d 282 1146 lv [] st n I L P = mm_E d 282 1147 lv [] (.inl 0 :: st) n I L P) ∧
  (∀ (lv : List mm_V) z, (0 ≤ z ∧ z < 2) → mm_E d 282 1147 lv [] [.inl z] n I L P = some (some (.inl z), n, I, L, P)) :=
  ⟨fun _ _ _ _ _ _ _ _ => mq_al (i := 1) rfl rfl,
   fun _ _ _ _ _ _ _ _ => mq_al (i := 0) rfl rfl,
   fun _ _ _ _ _ _ _ _ => mq_il (i := 4) rfl rfl,
   fun _ _ => mq_push rfl,
   fun _ _ _ _ => mq_bi rfl,
   fun _ _ _ h0 => mq_xald rfl h0,
   fun _ _ _ _ _ _ _ _ => mq_al (i := 0) rfl rfl,
   fun _ _ _ _ _ _ _ _ => mq_il (i := 4) rfl rfl,
   fun _ _ => mq_push rfl,
   fun _ _ _ _ => mq_bi rfl,
   fun _ _ _ h0 => mq_xald rfl h0,
   fun _ _ _ _ _ _ _ _ => mq_al (i := 0) rfl rfl,
   fun _ _ _ _ _ _ _ _ => mq_il (i := 4) rfl rfl,
   fun _ _ => mq_push rfl,
   fun _ _ _ _ => mq_bi rfl,
   fun _ _ _ h0 => mq_xald rfl h0,
   fun _ _ _ _ _ _ _ _ => mq_al (i := 0) rfl rfl,
   fun _ _ _ _ _ _ _ _ => mq_il (i := 4) rfl rfl,
   fun _ _ => mq_push rfl,
   fun _ _ _ _ => mq_bi rfl,
   fun _ _ _ h0 => mq_xald rfl h0,
   fun _ _ _ => mq_if_eq rfl,
   fun _ _ => mq_push rfl,
   fun _ _ => mq_go rfl,
   fun _ _ => mq_push rfl,
   fun _ _ _ _ _ _ h0 => mq_cVr (na := 4) rfl rfl (Nat.le_of_ble_eq_true rfl) (Nat.le_of_ble_eq_true rfl) h0,
   fun _ _ _ _ _ _ _ _ => mq_al (i := 2) rfl rfl,
   fun _ _ _ _ _ _ _ _ => mq_al (i := 0) rfl rfl,
   fun _ _ _ _ _ _ _ _ => mq_il (i := 4) rfl rfl,
   fun _ _ => mq_push rfl,
   fun _ _ _ _ => mq_bi rfl,
   fun _ _ _ h0 => mq_xald rfl h0,
   fun _ _ _ _ _ _ _ _ => mq_al (i := 0) rfl rfl,
   fun _ _ _ _ _ _ _ _ => mq_il (i := 4) rfl rfl,
   fun _ _ => mq_push rfl,
   fun _ _ _ _ => mq_bi rfl,
   fun _ _ _ h0 => mq_xald rfl h0,
   fun _ _ _ _ _ _ _ _ => mq_al (i := 0) rfl rfl,
   fun _ _ _ _ _ _ _ _ => mq_il (i := 4) rfl rfl,
   fun _ _ => mq_push rfl,
   fun _ _ _ _ => mq_bi rfl,
   fun _ _ _ h0 => mq_xald rfl h0,
   fun _ _ _ _ _ _ _ _ => mq_al (i := 0) rfl rfl,
   fun _ _ _ _ _ _ _ _ => mq_il (i := 4) rfl rfl,
   fun _ _ => mq_push rfl,
   fun _ _ _ _ => mq_bi rfl,
   fun _ _ _ h0 => mq_xald rfl h0,
   fun _ _ _ => mq_if_eq rfl,
   fun _ _ => mq_push rfl,
   fun _ _ => mq_go rfl,
   fun _ _ => mq_push rfl,
   fun _ _ _ _ _ _ _ h0 => mq_cVr (na := 4) rfl rfl (Nat.le_of_ble_eq_true rfl) (Nat.le_of_ble_eq_true rfl) h0,
   fun _ _ _ _ => mq_ic_eq rfl,
   fun _ _ => mq_push rfl,
   fun _ _ h0 => mq_rz rfl h0⟩
set_option maxRecDepth 20000 in
set_option maxHeartbeats 8000000 in
theorem kL_law_29 (d n : Nat) (I L : mm_I) (P : mm_P) :
  (∀ (st : List mm_V) z (l0 : mm_V) (l2 : mm_V) (l3 : mm_V) (l4 : mm_V) (l5 : mm_V) (l6 : mm_V), mm_E d 282 1148 [l0, (.inr (.inr z)), l2, l3, l4, l5, l6] [] st n I L P = mm_E d 282 1149 [l0, (.inr (.inr z)), l2, l3, l4, l5, l6] [] ((.inr (.inr z)) :: st) n I L P) ∧
  (∀ (st : List mm_V) z (l1 : mm_V) (l2 : mm_V) (l3 : mm_V) (l4 : mm_V) (l5 : mm_V) (l6 : mm_V), mm_E d 282 1149 [(.inr (.inr z)), l1, l2, l3, l4, l5, l6] [] st n I L P = mm_E d 282 1150 [(.inr (.inr z)), l1, l2, l3, l4, l5, l6] [] ((.inr (.inr z)) :: st) n I L P) ∧
  (∀ (st : List mm_V) z (l0 : mm_V) (l1 : mm_V) (l2 : mm_V) (l3 : mm_V) (l5 : mm_V) (l6 : mm_V), mm_E d 282 1150 [l0, l1, l2, l3, (.inl z), l5, l6] [] st n I L P = mm_E d 282 1152 [l0, l1, l2, l3, (.inl z), l5, l6] [] ((.inl z) :: st) n I L P) ∧
  (∀ (lv : List mm_V) (st : List mm_V), mm_E d 282 1152 lv [] st n I L P = mm_E d 282 1153 lv [] (.inl 1 :: st) n I L P) ∧
  (∀ (lv : List mm_V) (st : List mm_V) a b, mm_E d 282 1153 lv [] (.inl b :: .inl a :: st) n I L P = mm_E d 282 1154 lv [] (.inl (mm_add a b) :: st) n I L P) ∧
  (∀ (lv : List mm_V) (st : List mm_V) i, (0 ≤ i ∧ i < I 1000006 5000) → mm_E d 282 1154 lv [] (.inl i :: .inr (.inr (some 1000006)) :: st) n I L P = mm_E d 282 1155 lv [] (.inl (I 1000006 i.toNat) :: st) n I L P) ∧
  (∀ (lv : List mm_V) a x0, (mm_ok n a 11) → mm_E d 282 1155 lv [] (.inl x0 :: .inr (.inr (some a)) :: []) n I L P = mm_kr d 282 1158 lv [] [] n (mm_rn d 127 [.inr (.inr (some a)), .inl x0] n I L P)) ∧
  (∀ (st : List mm_V) z (l0 : mm_V) (l1 : mm_V) (l3 : mm_V) (l4 : mm_V) (l5 : mm_V) (l6 : mm_V), mm_E d 282 1158 [l0, l1, (.inr (.inr z)), l3, l4, l5, l6] [] st n I L P = mm_E d 282 1159 [l0, l1, (.inr (.inr z)), l3, l4, l5, l6] [] ((.inr (.inr z)) :: st) n I L P) ∧
  (∀ (st : List mm_V) z (l1 : mm_V) (l2 : mm_V) (l3 : mm_V) (l4 : mm_V) (l5 : mm_V) (l6 : mm_V), mm_E d 282 1159 [(.inr (.inr z)), l1, l2, l3, l4, l5, l6] [] st n I L P = mm_E d 282 1160 [(.inr (.inr z)), l1, l2, l3, l4, l5, l6] [] ((.inr (.inr z)) :: st) n I L P) ∧
  (∀ (st : List mm_V) z (l0 : mm_V) (l1 : mm_V) (l2 : mm_V) (l3 : mm_V) (l5 : mm_V) (l6 : mm_V), mm_E d 282 1160 [l0, l1, l2, l3, (.inl z), l5, l6] [] st n I L P = mm_E d 282 1162 [l0, l1, l2, l3, (.inl z), l5, l6] [] ((.inl z) :: st) n I L P) ∧
  (∀ (lv : List mm_V) (st : List mm_V), mm_E d 282 1162 lv [] st n I L P = mm_E d 282 1163 lv [] (.inl 1 :: st) n I L P) ∧
  (∀ (lv : List mm_V) (st : List mm_V) a b, mm_E d 282 1163 lv [] (.inl b :: .inl a :: st) n I L P = mm_E d 282 1164 lv [] (.inl (mm_add a b) :: st) n I L P) ∧
  (∀ (lv : List mm_V) (st : List mm_V) i, (0 ≤ i ∧ i < I 1000006 5000) → mm_E d 282 1164 lv [] (.inl i :: .inr (.inr (some 1000006)) :: st) n I L P = mm_E d 282 1165 lv [] (.inl (I 1000006 i.toNat) :: st) n I L P) ∧
  (∀ (lv : List mm_V) a x0 w0, (mm_ok n a 12) → mm_E d 282 1165 lv [] (.inl x0 :: .inr (.inr (some a)) :: [.inl w0]) n I L P = mm_kr d 282 1168 lv [] [.inl w0] n (mm_rn d 243 [.inr (.inr (some a)), .inl x0] n I L P)) ∧
  (∀ (lv : List mm_V) (st : List mm_V) a b, mm_E d 282 1168 lv [] (.inl b :: .inl a :: st) n I L P = if a = b then mm_E d 282 1494 lv [] st n I L P else mm_E d 282 1171 lv [] st n I L P) ∧
  (∀ (lv : List mm_V) (st : List mm_V), mm_E d 282 1171 lv [] st n I L P = mm_E d 282 1172 lv [] (.inl 0 :: st) n I L P) ∧
  (∀ (lv : List mm_V) z, (0 ≤ z ∧ z < 2) → mm_E d 282 1172 lv [] [.inl z] n I L P = some (some (.inl z), n, I, L, P)) :=
  ⟨fun _ _ _ _ _ _ _ _ => mq_al (i := 1) rfl rfl,
   fun _ _ _ _ _ _ _ _ => mq_al (i := 0) rfl rfl,
   fun _ _ _ _ _ _ _ _ => mq_il (i := 4) rfl rfl,
   fun _ _ => mq_push rfl,
   fun _ _ _ _ => mq_bi rfl,
   fun _ _ _ h0 => mq_xald rfl h0,
   fun _ _ _ h0 => mq_cVr (na := 1) rfl rfl (Nat.le_of_ble_eq_true rfl) (Nat.le_of_ble_eq_true rfl) h0,
   fun _ _ _ _ _ _ _ _ => mq_al (i := 2) rfl rfl,
   fun _ _ _ _ _ _ _ _ => mq_al (i := 0) rfl rfl,
   fun _ _ _ _ _ _ _ _ => mq_il (i := 4) rfl rfl,
   fun _ _ => mq_push rfl,
   fun _ _ _ _ => mq_bi rfl,
   fun _ _ _ h0 => mq_xald rfl h0,
   fun _ _ _ _ h0 => mq_cVr (na := 1) rfl rfl (Nat.le_of_ble_eq_true rfl) (Nat.le_of_ble_eq_true rfl) h0,
   fun _ _ _ _ => mq_ic_eq rfl,
   fun _ _ => mq_push rfl,
   fun _ _ h0 => mq_rz rfl h0⟩
set_option maxRecDepth 20000 in
set_option maxHeartbeats 8000000 in
theorem kL_law_30 (d n : Nat) (I L : mm_I) (P : mm_P) :
  (∀ (st : List mm_V) z (l0 : mm_V) (l2 : mm_V) (l3 : mm_V) (l4 : mm_V) (l5 : mm_V) (l6 : mm_V), mm_E d 282 1173 [l0, (.inr (.inr z)), l2, l3, l4, l5, l6] [] st n I L P = mm_E d 282 1174 [l0, (.inr (.inr z)), l2, l3, l4, l5, l6] [] ((.inr (.inr z)) :: st) n I L P) ∧
  (∀ (st : List mm_V) z (l1 : mm_V) (l2 : mm_V) (l3 : mm_V) (l4 : mm_V) (l5 : mm_V) (l6 : mm_V), mm_E d 282 1174 [(.inr (.inr z)), l1, l2, l3, l4, l5, l6] [] st n I L P = mm_E d 282 1175 [(.inr (.inr z)), l1, l2, l3, l4, l5, l6] [] ((.inr (.inr z)) :: st) n I L P) ∧
  (∀ (st : List mm_V) z (l0 : mm_V) (l1 : mm_V) (l2 : mm_V) (l3 : mm_V) (l5 : mm_V) (l6 : mm_V), mm_E d 282 1175 [l0, l1, l2, l3, (.inl z), l5, l6] [] st n I L P = mm_E d 282 1177 [l0, l1, l2, l3, (.inl z), l5, l6] [] ((.inl z) :: st) n I L P) ∧
  (∀ (lv : List mm_V) (st : List mm_V), mm_E d 282 1177 lv [] st n I L P = mm_E d 282 1178 lv [] (.inl 1 :: st) n I L P) ∧
  (∀ (lv : List mm_V) (st : List mm_V) a b, mm_E d 282 1178 lv [] (.inl b :: .inl a :: st) n I L P = mm_E d 282 1179 lv [] (.inl (mm_add a b) :: st) n I L P) ∧
  (∀ (lv : List mm_V) (st : List mm_V) i, (0 ≤ i ∧ i < I 1000006 5000) → mm_E d 282 1179 lv [] (.inl i :: .inr (.inr (some 1000006)) :: st) n I L P = mm_E d 282 1180 lv [] (.inl (I 1000006 i.toNat) :: st) n I L P) ∧
  (∀ (lv : List mm_V) a x0, (mm_ok n a 11) → mm_E d 282 1180 lv [] (.inl x0 :: .inr (.inr (some a)) :: []) n I L P = mm_kr d 282 1183 lv [] [] n (mm_rn d 128 [.inr (.inr (some a)), .inl x0] n I L P)) ∧
  (∀ (st : List mm_V) z (l0 : mm_V) (l1 : mm_V) (l3 : mm_V) (l4 : mm_V) (l5 : mm_V) (l6 : mm_V), mm_E d 282 1183 [l0, l1, (.inr (.inr z)), l3, l4, l5, l6] [] st n I L P = mm_E d 282 1184 [l0, l1, (.inr (.inr z)), l3, l4, l5, l6] [] ((.inr (.inr z)) :: st) n I L P) ∧
  (∀ (st : List mm_V) z (l1 : mm_V) (l2 : mm_V) (l3 : mm_V) (l4 : mm_V) (l5 : mm_V) (l6 : mm_V), mm_E d 282 1184 [(.inr (.inr z)), l1, l2, l3, l4, l5, l6] [] st n I L P = mm_E d 282 1185 [(.inr (.inr z)), l1, l2, l3, l4, l5, l6] [] ((.inr (.inr z)) :: st) n I L P) ∧
  (∀ (st : List mm_V) z (l0 : mm_V) (l1 : mm_V) (l2 : mm_V) (l3 : mm_V) (l5 : mm_V) (l6 : mm_V), mm_E d 282 1185 [l0, l1, l2, l3, (.inl z), l5, l6] [] st n I L P = mm_E d 282 1187 [l0, l1, l2, l3, (.inl z), l5, l6] [] ((.inl z) :: st) n I L P) ∧
  (∀ (lv : List mm_V) (st : List mm_V), mm_E d 282 1187 lv [] st n I L P = mm_E d 282 1188 lv [] (.inl 1 :: st) n I L P) ∧
  (∀ (lv : List mm_V) (st : List mm_V) a b, mm_E d 282 1188 lv [] (.inl b :: .inl a :: st) n I L P = mm_E d 282 1189 lv [] (.inl (mm_add a b) :: st) n I L P) ∧
  (∀ (lv : List mm_V) (st : List mm_V) i, (0 ≤ i ∧ i < I 1000006 5000) → mm_E d 282 1189 lv [] (.inl i :: .inr (.inr (some 1000006)) :: st) n I L P = mm_E d 282 1190 lv [] (.inl (I 1000006 i.toNat) :: st) n I L P) ∧
  (∀ (lv : List mm_V) a x0 w0, (mm_ok n a 12) → mm_E d 282 1190 lv [] (.inl x0 :: .inr (.inr (some a)) :: [.inl w0]) n I L P = mm_kr d 282 1193 lv [] [.inl w0] n (mm_rn d 244 [.inr (.inr (some a)), .inl x0] n I L P)) ∧
  (∀ (lv : List mm_V) (st : List mm_V) a b, mm_E d 282 1193 lv [] (.inl b :: .inl a :: st) n I L P = if a = b then mm_E d 282 1494 lv [] st n I L P else mm_E d 282 1196 lv [] st n I L P) ∧
  (∀ (lv : List mm_V) (st : List mm_V), mm_E d 282 1196 lv [] st n I L P = mm_E d 282 1197 lv [] (.inl 0 :: st) n I L P) ∧
  (∀ (lv : List mm_V) z, (0 ≤ z ∧ z < 2) → mm_E d 282 1197 lv [] [.inl z] n I L P = some (some (.inl z), n, I, L, P)) :=
  ⟨fun _ _ _ _ _ _ _ _ => mq_al (i := 1) rfl rfl,
   fun _ _ _ _ _ _ _ _ => mq_al (i := 0) rfl rfl,
   fun _ _ _ _ _ _ _ _ => mq_il (i := 4) rfl rfl,
   fun _ _ => mq_push rfl,
   fun _ _ _ _ => mq_bi rfl,
   fun _ _ _ h0 => mq_xald rfl h0,
   fun _ _ _ h0 => mq_cVr (na := 1) rfl rfl (Nat.le_of_ble_eq_true rfl) (Nat.le_of_ble_eq_true rfl) h0,
   fun _ _ _ _ _ _ _ _ => mq_al (i := 2) rfl rfl,
   fun _ _ _ _ _ _ _ _ => mq_al (i := 0) rfl rfl,
   fun _ _ _ _ _ _ _ _ => mq_il (i := 4) rfl rfl,
   fun _ _ => mq_push rfl,
   fun _ _ _ _ => mq_bi rfl,
   fun _ _ _ h0 => mq_xald rfl h0,
   fun _ _ _ _ h0 => mq_cVr (na := 1) rfl rfl (Nat.le_of_ble_eq_true rfl) (Nat.le_of_ble_eq_true rfl) h0,
   fun _ _ _ _ => mq_ic_eq rfl,
   fun _ _ => mq_push rfl,
   fun _ _ h0 => mq_rz rfl h0⟩
set_option maxRecDepth 20000 in
set_option maxHeartbeats 8000000 in
theorem kL_law_31 (d n : Nat) (I L : mm_I) (P : mm_P) :
  (∀ (st : List mm_V) z (l0 : mm_V) (l2 : mm_V) (l3 : mm_V) (l4 : mm_V) (l5 : mm_V) (l6 : mm_V), mm_E d 282 1198 [l0, (.inr (.inr z)), l2, l3, l4, l5, l6] [] st n I L P = mm_E d 282 1199 [l0, (.inr (.inr z)), l2, l3, l4, l5, l6] [] ((.inr (.inr z)) :: st) n I L P) ∧
  (∀ (st : List mm_V) z (l1 : mm_V) (l2 : mm_V) (l3 : mm_V) (l4 : mm_V) (l5 : mm_V) (l6 : mm_V), mm_E d 282 1199 [(.inr (.inr z)), l1, l2, l3, l4, l5, l6] [] st n I L P = mm_E d 282 1200 [(.inr (.inr z)), l1, l2, l3, l4, l5, l6] [] ((.inr (.inr z)) :: st) n I L P) ∧
  (∀ (st : List mm_V) z (l0 : mm_V) (l1 : mm_V) (l2 : mm_V) (l3 : mm_V) (l5 : mm_V) (l6 : mm_V), mm_E d 282 1200 [l0, l1, l2, l3, (.inl z), l5, l6] [] st n I L P = mm_E d 282 1202 [l0, l1, l2, l3, (.inl z), l5, l6] [] ((.inl z) :: st) n I L P) ∧
  (∀ (lv : List mm_V) (st : List mm_V), mm_E d 282 1202 lv [] st n I L P = mm_E d 282 1203 lv [] (.inl 1 :: st) n I L P) ∧
  (∀ (lv : List mm_V) (st : List mm_V) a b, mm_E d 282 1203 lv [] (.inl b :: .inl a :: st) n I L P = mm_E d 282 1204 lv [] (.inl (mm_add a b) :: st) n I L P) ∧
  (∀ (lv : List mm_V) (st : List mm_V) i, (0 ≤ i ∧ i < I 1000006 5000) → mm_E d 282 1204 lv [] (.inl i :: .inr (.inr (some 1000006)) :: st) n I L P = mm_E d 282 1205 lv [] (.inl (I 1000006 i.toNat) :: st) n I L P) ∧
  (∀ (st : List mm_V) z (l1 : mm_V) (l2 : mm_V) (l3 : mm_V) (l4 : mm_V) (l5 : mm_V) (l6 : mm_V), mm_E d 282 1205 [(.inr (.inr z)), l1, l2, l3, l4, l5, l6] [] st n I L P = mm_E d 282 1206 [(.inr (.inr z)), l1, l2, l3, l4, l5, l6] [] ((.inr (.inr z)) :: st) n I L P) ∧
  (∀ (st : List mm_V) z (l0 : mm_V) (l1 : mm_V) (l2 : mm_V) (l3 : mm_V) (l5 : mm_V) (l6 : mm_V), mm_E d 282 1206 [l0, l1, l2, l3, (.inl z), l5, l6] [] st n I L P = mm_E d 282 1208 [l0, l1, l2, l3, (.inl z), l5, l6] [] ((.inl z) :: st) n I L P) ∧
  (∀ (lv : List mm_V) (st : List mm_V), mm_E d 282 1208 lv [] st n I L P = mm_E d 282 1209 lv [] (.inl 2 :: st) n I L P) ∧
  (∀ (lv : List mm_V) (st : List mm_V) a b, mm_E d 282 1209 lv [] (.inl b :: .inl a :: st) n I L P = mm_E d 282 1210 lv [] (.inl (mm_add a b) :: st) n I L P) ∧
  (∀ (lv : List mm_V) (st : List mm_V) i, (0 ≤ i ∧ i < I 1000006 5000) → mm_E d 282 1210 lv [] (.inl i :: .inr (.inr (some 1000006)) :: st) n I L P = mm_E d 282 1211 lv [] (.inl (I 1000006 i.toNat) :: st) n I L P) ∧
  (∀ (st : List mm_V) z (l1 : mm_V) (l2 : mm_V) (l3 : mm_V) (l4 : mm_V) (l5 : mm_V) (l6 : mm_V), mm_E d 282 1211 [(.inr (.inr z)), l1, l2, l3, l4, l5, l6] [] st n I L P = mm_E d 282 1212 [(.inr (.inr z)), l1, l2, l3, l4, l5, l6] [] ((.inr (.inr z)) :: st) n I L P) ∧
  (∀ (st : List mm_V) z (l0 : mm_V) (l1 : mm_V) (l2 : mm_V) (l3 : mm_V) (l5 : mm_V) (l6 : mm_V), mm_E d 282 1212 [l0, l1, l2, l3, (.inl z), l5, l6] [] st n I L P = mm_E d 282 1214 [l0, l1, l2, l3, (.inl z), l5, l6] [] ((.inl z) :: st) n I L P) ∧
  (∀ (lv : List mm_V) (st : List mm_V), mm_E d 282 1214 lv [] st n I L P = mm_E d 282 1215 lv [] (.inl 3 :: st) n I L P) ∧
  (∀ (lv : List mm_V) (st : List mm_V) a b, mm_E d 282 1215 lv [] (.inl b :: .inl a :: st) n I L P = mm_E d 282 1216 lv [] (.inl (mm_add a b) :: st) n I L P) ∧
  (∀ (lv : List mm_V) (st : List mm_V) i, (0 ≤ i ∧ i < I 1000006 5000) → mm_E d 282 1216 lv [] (.inl i :: .inr (.inr (some 1000006)) :: st) n I L P = mm_E d 282 1217 lv [] (.inl (I 1000006 i.toNat) :: st) n I L P) ∧
  (∀ (st : List mm_V) z (l1 : mm_V) (l2 : mm_V) (l3 : mm_V) (l4 : mm_V) (l5 : mm_V) (l6 : mm_V), mm_E d 282 1217 [(.inr (.inr z)), l1, l2, l3, l4, l5, l6] [] st n I L P = mm_E d 282 1218 [(.inr (.inr z)), l1, l2, l3, l4, l5, l6] [] ((.inr (.inr z)) :: st) n I L P) ∧
  (∀ (st : List mm_V) z (l0 : mm_V) (l1 : mm_V) (l2 : mm_V) (l3 : mm_V) (l5 : mm_V) (l6 : mm_V), mm_E d 282 1218 [l0, l1, l2, l3, (.inl z), l5, l6] [] st n I L P = mm_E d 282 1220 [l0, l1, l2, l3, (.inl z), l5, l6] [] ((.inl z) :: st) n I L P) ∧
  (∀ (lv : List mm_V) (st : List mm_V), mm_E d 282 1220 lv [] st n I L P = mm_E d 282 1221 lv [] (.inl 4 :: st) n I L P) ∧
  (∀ (lv : List mm_V) (st : List mm_V) a b, mm_E d 282 1221 lv [] (.inl b :: .inl a :: st) n I L P = mm_E d 282 1222 lv [] (.inl (mm_add a b) :: st) n I L P) ∧
  (∀ (lv : List mm_V) (st : List mm_V) i, (0 ≤ i ∧ i < I 1000006 5000) → mm_E d 282 1222 lv [] (.inl i :: .inr (.inr (some 1000006)) :: st) n I L P = mm_E d 282 1223 lv [] (.inl (I 1000006 i.toNat) :: st) n I L P) ∧
  (∀ (st : List mm_V) z (l1 : mm_V) (l2 : mm_V) (l3 : mm_V) (l4 : mm_V) (l5 : mm_V) (l6 : mm_V), mm_E d 282 1223 [(.inr (.inr z)), l1, l2, l3, l4, l5, l6] [] st n I L P = mm_E d 282 1224 [(.inr (.inr z)), l1, l2, l3, l4, l5, l6] [] ((.inr (.inr z)) :: st) n I L P) ∧
  (∀ (st : List mm_V) z (l0 : mm_V) (l1 : mm_V) (l2 : mm_V) (l3 : mm_V) (l5 : mm_V) (l6 : mm_V), mm_E d 282 1224 [l0, l1, l2, l3, (.inl z), l5, l6] [] st n I L P = mm_E d 282 1226 [l0, l1, l2, l3, (.inl z), l5, l6] [] ((.inl z) :: st) n I L P) ∧
  (∀ (lv : List mm_V) (st : List mm_V), mm_E d 282 1226 lv [] st n I L P = mm_E d 282 1227 lv [] (.inl 5 :: st) n I L P) ∧
  (∀ (lv : List mm_V) (st : List mm_V) a b, mm_E d 282 1227 lv [] (.inl b :: .inl a :: st) n I L P = mm_E d 282 1228 lv [] (.inl (mm_add a b) :: st) n I L P) ∧
  (∀ (lv : List mm_V) (st : List mm_V) i, (0 ≤ i ∧ i < I 1000006 5000) → mm_E d 282 1228 lv [] (.inl i :: .inr (.inr (some 1000006)) :: st) n I L P = mm_E d 282 1229 lv [] (.inl (I 1000006 i.toNat) :: st) n I L P) ∧
  (∀ (lv : List mm_V) a x0 x1 x2 x3 x4, (mm_ok n a 11) → mm_E d 282 1229 lv [] (.inl x4 :: .inl x3 :: .inl x2 :: .inl x1 :: .inl x0 :: .inr (.inr (some a)) :: []) n I L P = mm_kr d 282 1232 lv [] [] n (mm_rn d 129 [.inr (.inr (some a)), .inl x0, .inl x1, .inl x2, .inl x3, .inl x4] n I L P)) ∧
  (∀ (st : List mm_V) z (l0 : mm_V) (l1 : mm_V) (l3 : mm_V) (l4 : mm_V) (l5 : mm_V) (l6 : mm_V), mm_E d 282 1232 [l0, l1, (.inr (.inr z)), l3, l4, l5, l6] [] st n I L P = mm_E d 282 1233 [l0, l1, (.inr (.inr z)), l3, l4, l5, l6] [] ((.inr (.inr z)) :: st) n I L P) ∧
  (∀ (st : List mm_V) z (l1 : mm_V) (l2 : mm_V) (l3 : mm_V) (l4 : mm_V) (l5 : mm_V) (l6 : mm_V), mm_E d 282 1233 [(.inr (.inr z)), l1, l2, l3, l4, l5, l6] [] st n I L P = mm_E d 282 1234 [(.inr (.inr z)), l1, l2, l3, l4, l5, l6] [] ((.inr (.inr z)) :: st) n I L P) ∧
  (∀ (st : List mm_V) z (l0 : mm_V) (l1 : mm_V) (l2 : mm_V) (l3 : mm_V) (l5 : mm_V) (l6 : mm_V), mm_E d 282 1234 [l0, l1, l2, l3, (.inl z), l5, l6] [] st n I L P = mm_E d 282 1236 [l0, l1, l2, l3, (.inl z), l5, l6] [] ((.inl z) :: st) n I L P) ∧
  (∀ (lv : List mm_V) (st : List mm_V), mm_E d 282 1236 lv [] st n I L P = mm_E d 282 1237 lv [] (.inl 1 :: st) n I L P) ∧
  (∀ (lv : List mm_V) (st : List mm_V) a b, mm_E d 282 1237 lv [] (.inl b :: .inl a :: st) n I L P = mm_E d 282 1238 lv [] (.inl (mm_add a b) :: st) n I L P) ∧
  (∀ (lv : List mm_V) (st : List mm_V) i, (0 ≤ i ∧ i < I 1000006 5000) → mm_E d 282 1238 lv [] (.inl i :: .inr (.inr (some 1000006)) :: st) n I L P = mm_E d 282 1239 lv [] (.inl (I 1000006 i.toNat) :: st) n I L P) ∧
  (∀ (st : List mm_V) z (l1 : mm_V) (l2 : mm_V) (l3 : mm_V) (l4 : mm_V) (l5 : mm_V) (l6 : mm_V), mm_E d 282 1239 [(.inr (.inr z)), l1, l2, l3, l4, l5, l6] [] st n I L P = mm_E d 282 1240 [(.inr (.inr z)), l1, l2, l3, l4, l5, l6] [] ((.inr (.inr z)) :: st) n I L P) ∧
  (∀ (st : List mm_V) z (l0 : mm_V) (l1 : mm_V) (l2 : mm_V) (l3 : mm_V) (l5 : mm_V) (l6 : mm_V), mm_E d 282 1240 [l0, l1, l2, l3, (.inl z), l5, l6] [] st n I L P = mm_E d 282 1242 [l0, l1, l2, l3, (.inl z), l5, l6] [] ((.inl z) :: st) n I L P) ∧
  (∀ (lv : List mm_V) (st : List mm_V), mm_E d 282 1242 lv [] st n I L P = mm_E d 282 1243 lv [] (.inl 2 :: st) n I L P) ∧
  (∀ (lv : List mm_V) (st : List mm_V) a b, mm_E d 282 1243 lv [] (.inl b :: .inl a :: st) n I L P = mm_E d 282 1244 lv [] (.inl (mm_add a b) :: st) n I L P) ∧
  (∀ (lv : List mm_V) (st : List mm_V) i, (0 ≤ i ∧ i < I 1000006 5000) → mm_E d 282 1244 lv [] (.inl i :: .inr (.inr (some 1000006)) :: st) n I L P = mm_E d 282 1245 lv [] (.inl (I 1000006 i.toNat) :: st) n I L P) ∧
  (∀ (st : List mm_V) z (l1 : mm_V) (l2 : mm_V) (l3 : mm_V) (l4 : mm_V) (l5 : mm_V) (l6 : mm_V), mm_E d 282 1245 [(.inr (.inr z)), l1, l2, l3, l4, l5, l6] [] st n I L P = mm_E d 282 1246 [(.inr (.inr z)), l1, l2, l3, l4, l5, l6] [] ((.inr (.inr z)) :: st) n I L P) ∧
  (∀ (st : List mm_V) z (l0 : mm_V) (l1 : mm_V) (l2 : mm_V) (l3 : mm_V) (l5 : mm_V) (l6 : mm_V), mm_E d 282 1246 [l0, l1, l2, l3, (.inl z), l5, l6] [] st n I L P = mm_E d 282 1248 [l0, l1, l2, l3, (.inl z), l5, l6] [] ((.inl z) :: st) n I L P) ∧
  (∀ (lv : List mm_V) (st : List mm_V), mm_E d 282 1248 lv [] st n I L P = mm_E d 282 1249 lv [] (.inl 3 :: st) n I L P) ∧
  (∀ (lv : List mm_V) (st : List mm_V) a b, mm_E d 282 1249 lv [] (.inl b :: .inl a :: st) n I L P = mm_E d 282 1250 lv [] (.inl (mm_add a b) :: st) n I L P) ∧
  (∀ (lv : List mm_V) (st : List mm_V) i, (0 ≤ i ∧ i < I 1000006 5000) → mm_E d 282 1250 lv [] (.inl i :: .inr (.inr (some 1000006)) :: st) n I L P = mm_E d 282 1251 lv [] (.inl (I 1000006 i.toNat) :: st) n I L P) ∧
  (∀ (st : List mm_V) z (l1 : mm_V) (l2 : mm_V) (l3 : mm_V) (l4 : mm_V) (l5 : mm_V) (l6 : mm_V), mm_E d 282 1251 [(.inr (.inr z)), l1, l2, l3, l4, l5, l6] [] st n I L P = mm_E d 282 1252 [(.inr (.inr z)), l1, l2, l3, l4, l5, l6] [] ((.inr (.inr z)) :: st) n I L P) ∧
  (∀ (st : List mm_V) z (l0 : mm_V) (l1 : mm_V) (l2 : mm_V) (l3 : mm_V) (l5 : mm_V) (l6 : mm_V), mm_E d 282 1252 [l0, l1, l2, l3, (.inl z), l5, l6] [] st n I L P = mm_E d 282 1254 [l0, l1, l2, l3, (.inl z), l5, l6] [] ((.inl z) :: st) n I L P) ∧
  (∀ (lv : List mm_V) (st : List mm_V), mm_E d 282 1254 lv [] st n I L P = mm_E d 282 1255 lv [] (.inl 4 :: st) n I L P) ∧
  (∀ (lv : List mm_V) (st : List mm_V) a b, mm_E d 282 1255 lv [] (.inl b :: .inl a :: st) n I L P = mm_E d 282 1256 lv [] (.inl (mm_add a b) :: st) n I L P) ∧
  (∀ (lv : List mm_V) (st : List mm_V) i, (0 ≤ i ∧ i < I 1000006 5000) → mm_E d 282 1256 lv [] (.inl i :: .inr (.inr (some 1000006)) :: st) n I L P = mm_E d 282 1257 lv [] (.inl (I 1000006 i.toNat) :: st) n I L P) ∧
  (∀ (st : List mm_V) z (l1 : mm_V) (l2 : mm_V) (l3 : mm_V) (l4 : mm_V) (l5 : mm_V) (l6 : mm_V), mm_E d 282 1257 [(.inr (.inr z)), l1, l2, l3, l4, l5, l6] [] st n I L P = mm_E d 282 1258 [(.inr (.inr z)), l1, l2, l3, l4, l5, l6] [] ((.inr (.inr z)) :: st) n I L P) ∧
  (∀ (st : List mm_V) z (l0 : mm_V) (l1 : mm_V) (l2 : mm_V) (l3 : mm_V) (l5 : mm_V) (l6 : mm_V), mm_E d 282 1258 [l0, l1, l2, l3, (.inl z), l5, l6] [] st n I L P = mm_E d 282 1260 [l0, l1, l2, l3, (.inl z), l5, l6] [] ((.inl z) :: st) n I L P) ∧
  (∀ (lv : List mm_V) (st : List mm_V), mm_E d 282 1260 lv [] st n I L P = mm_E d 282 1261 lv [] (.inl 5 :: st) n I L P) ∧
  (∀ (lv : List mm_V) (st : List mm_V) a b, mm_E d 282 1261 lv [] (.inl b :: .inl a :: st) n I L P = mm_E d 282 1262 lv [] (.inl (mm_add a b) :: st) n I L P) ∧
  (∀ (lv : List mm_V) (st : List mm_V) i, (0 ≤ i ∧ i < I 1000006 5000) → mm_E d 282 1262 lv [] (.inl i :: .inr (.inr (some 1000006)) :: st) n I L P = mm_E d 282 1263 lv [] (.inl (I 1000006 i.toNat) :: st) n I L P) ∧
  (∀ (lv : List mm_V) a x0 x1 x2 x3 x4 w0, (mm_ok n a 12) → mm_E d 282 1263 lv [] (.inl x4 :: .inl x3 :: .inl x2 :: .inl x1 :: .inl x0 :: .inr (.inr (some a)) :: [.inl w0]) n I L P = mm_kr d 282 1266 lv [] [.inl w0] n (mm_rn d 248 [.inr (.inr (some a)), .inl x0, .inl x1, .inl x2, .inl x3, .inl x4] n I L P)) ∧
  (∀ (lv : List mm_V) (st : List mm_V) a b, mm_E d 282 1266 lv [] (.inl b :: .inl a :: st) n I L P = if a = b then mm_E d 282 1494 lv [] st n I L P else mm_E d 282 1269 lv [] st n I L P) ∧
  (∀ (lv : List mm_V) (st : List mm_V), mm_E d 282 1269 lv [] st n I L P = mm_E d 282 1270 lv [] (.inl 0 :: st) n I L P) ∧
  (∀ (lv : List mm_V) z, (0 ≤ z ∧ z < 2) → mm_E d 282 1270 lv [] [.inl z] n I L P = some (some (.inl z), n, I, L, P)) :=
  ⟨fun _ _ _ _ _ _ _ _ => mq_al (i := 1) rfl rfl,
   fun _ _ _ _ _ _ _ _ => mq_al (i := 0) rfl rfl,
   fun _ _ _ _ _ _ _ _ => mq_il (i := 4) rfl rfl,
   fun _ _ => mq_push rfl,
   fun _ _ _ _ => mq_bi rfl,
   fun _ _ _ h0 => mq_xald rfl h0,
   fun _ _ _ _ _ _ _ _ => mq_al (i := 0) rfl rfl,
   fun _ _ _ _ _ _ _ _ => mq_il (i := 4) rfl rfl,
   fun _ _ => mq_push rfl,
   fun _ _ _ _ => mq_bi rfl,
   fun _ _ _ h0 => mq_xald rfl h0,
   fun _ _ _ _ _ _ _ _ => mq_al (i := 0) rfl rfl,
   fun _ _ _ _ _ _ _ _ => mq_il (i := 4) rfl rfl,
   fun _ _ => mq_push rfl,
   fun _ _ _ _ => mq_bi rfl,
   fun _ _ _ h0 => mq_xald rfl h0,
   fun _ _ _ _ _ _ _ _ => mq_al (i := 0) rfl rfl,
   fun _ _ _ _ _ _ _ _ => mq_il (i := 4) rfl rfl,
   fun _ _ => mq_push rfl,
   fun _ _ _ _ => mq_bi rfl,
   fun _ _ _ h0 => mq_xald rfl h0,
   fun _ _ _ _ _ _ _ _ => mq_al (i := 0) rfl rfl,
   fun _ _ _ _ _ _ _ _ => mq_il (i := 4) rfl rfl,
   fun _ _ => mq_push rfl,
   fun _ _ _ _ => mq_bi rfl,
   fun _ _ _ h0 => mq_xald rfl h0,
   fun _ _ _ _ _ _ _ h0 => mq_cVr (na := 5) rfl rfl (Nat.le_of_ble_eq_true rfl) (Nat.le_of_ble_eq_true rfl) h0,
   fun _ _ _ _ _ _ _ _ => mq_al (i := 2) rfl rfl,
   fun _ _ _ _ _ _ _ _ => mq_al (i := 0) rfl rfl,
   fun _ _ _ _ _ _ _ _ => mq_il (i := 4) rfl rfl,
   fun _ _ => mq_push rfl,
   fun _ _ _ _ => mq_bi rfl,
   fun _ _ _ h0 => mq_xald rfl h0,
   fun _ _ _ _ _ _ _ _ => mq_al (i := 0) rfl rfl,
   fun _ _ _ _ _ _ _ _ => mq_il (i := 4) rfl rfl,
   fun _ _ => mq_push rfl,
   fun _ _ _ _ => mq_bi rfl,
   fun _ _ _ h0 => mq_xald rfl h0,
   fun _ _ _ _ _ _ _ _ => mq_al (i := 0) rfl rfl,
   fun _ _ _ _ _ _ _ _ => mq_il (i := 4) rfl rfl,
   fun _ _ => mq_push rfl,
   fun _ _ _ _ => mq_bi rfl,
   fun _ _ _ h0 => mq_xald rfl h0,
   fun _ _ _ _ _ _ _ _ => mq_al (i := 0) rfl rfl,
   fun _ _ _ _ _ _ _ _ => mq_il (i := 4) rfl rfl,
   fun _ _ => mq_push rfl,
   fun _ _ _ _ => mq_bi rfl,
   fun _ _ _ h0 => mq_xald rfl h0,
   fun _ _ _ _ _ _ _ _ => mq_al (i := 0) rfl rfl,
   fun _ _ _ _ _ _ _ _ => mq_il (i := 4) rfl rfl,
   fun _ _ => mq_push rfl,
   fun _ _ _ _ => mq_bi rfl,
   fun _ _ _ h0 => mq_xald rfl h0,
   fun _ _ _ _ _ _ _ _ h0 => mq_cVr (na := 5) rfl rfl (Nat.le_of_ble_eq_true rfl) (Nat.le_of_ble_eq_true rfl) h0,
   fun _ _ _ _ => mq_ic_eq rfl,
   fun _ _ => mq_push rfl,
   fun _ _ h0 => mq_rz rfl h0⟩
set_option maxRecDepth 20000 in
set_option maxHeartbeats 8000000 in
theorem kL_law_32 (d n : Nat) (I L : mm_I) (P : mm_P) :
  (∀ (st : List mm_V) z (l0 : mm_V) (l2 : mm_V) (l3 : mm_V) (l4 : mm_V) (l5 : mm_V) (l6 : mm_V), mm_E d 282 1271 [l0, (.inr (.inr z)), l2, l3, l4, l5, l6] [] st n I L P = mm_E d 282 1272 [l0, (.inr (.inr z)), l2, l3, l4, l5, l6] [] ((.inr (.inr z)) :: st) n I L P) ∧
  (∀ (st : List mm_V) z (l1 : mm_V) (l2 : mm_V) (l3 : mm_V) (l4 : mm_V) (l5 : mm_V) (l6 : mm_V), mm_E d 282 1272 [(.inr (.inr z)), l1, l2, l3, l4, l5, l6] [] st n I L P = mm_E d 282 1273 [(.inr (.inr z)), l1, l2, l3, l4, l5, l6] [] ((.inr (.inr z)) :: st) n I L P) ∧
  (∀ (st : List mm_V) z (l0 : mm_V) (l1 : mm_V) (l2 : mm_V) (l3 : mm_V) (l5 : mm_V) (l6 : mm_V), mm_E d 282 1273 [l0, l1, l2, l3, (.inl z), l5, l6] [] st n I L P = mm_E d 282 1275 [l0, l1, l2, l3, (.inl z), l5, l6] [] ((.inl z) :: st) n I L P) ∧
  (∀ (lv : List mm_V) (st : List mm_V), mm_E d 282 1275 lv [] st n I L P = mm_E d 282 1276 lv [] (.inl 1 :: st) n I L P) ∧
  (∀ (lv : List mm_V) (st : List mm_V) a b, mm_E d 282 1276 lv [] (.inl b :: .inl a :: st) n I L P = mm_E d 282 1277 lv [] (.inl (mm_add a b) :: st) n I L P) ∧
  (∀ (lv : List mm_V) (st : List mm_V) i, (0 ≤ i ∧ i < I 1000006 5000) → mm_E d 282 1277 lv [] (.inl i :: .inr (.inr (some 1000006)) :: st) n I L P = mm_E d 282 1278 lv [] (.inl (I 1000006 i.toNat) :: st) n I L P) ∧
  (∀ (st : List mm_V) z (l1 : mm_V) (l2 : mm_V) (l3 : mm_V) (l4 : mm_V) (l5 : mm_V) (l6 : mm_V), mm_E d 282 1278 [(.inr (.inr z)), l1, l2, l3, l4, l5, l6] [] st n I L P = mm_E d 282 1279 [(.inr (.inr z)), l1, l2, l3, l4, l5, l6] [] ((.inr (.inr z)) :: st) n I L P) ∧
  (∀ (st : List mm_V) z (l0 : mm_V) (l1 : mm_V) (l2 : mm_V) (l3 : mm_V) (l5 : mm_V) (l6 : mm_V), mm_E d 282 1279 [l0, l1, l2, l3, (.inl z), l5, l6] [] st n I L P = mm_E d 282 1281 [l0, l1, l2, l3, (.inl z), l5, l6] [] ((.inl z) :: st) n I L P) ∧
  (∀ (lv : List mm_V) (st : List mm_V), mm_E d 282 1281 lv [] st n I L P = mm_E d 282 1282 lv [] (.inl 2 :: st) n I L P) ∧
  (∀ (lv : List mm_V) (st : List mm_V) a b, mm_E d 282 1282 lv [] (.inl b :: .inl a :: st) n I L P = mm_E d 282 1283 lv [] (.inl (mm_add a b) :: st) n I L P) ∧
  (∀ (lv : List mm_V) (st : List mm_V) i, (0 ≤ i ∧ i < I 1000006 5000) → mm_E d 282 1283 lv [] (.inl i :: .inr (.inr (some 1000006)) :: st) n I L P = mm_E d 282 1284 lv [] (.inl (I 1000006 i.toNat) :: st) n I L P) ∧
  (∀ (st : List mm_V) z (l1 : mm_V) (l2 : mm_V) (l3 : mm_V) (l4 : mm_V) (l5 : mm_V) (l6 : mm_V), mm_E d 282 1284 [(.inr (.inr z)), l1, l2, l3, l4, l5, l6] [] st n I L P = mm_E d 282 1285 [(.inr (.inr z)), l1, l2, l3, l4, l5, l6] [] ((.inr (.inr z)) :: st) n I L P) ∧
  (∀ (st : List mm_V) z (l0 : mm_V) (l1 : mm_V) (l2 : mm_V) (l3 : mm_V) (l5 : mm_V) (l6 : mm_V), mm_E d 282 1285 [l0, l1, l2, l3, (.inl z), l5, l6] [] st n I L P = mm_E d 282 1287 [l0, l1, l2, l3, (.inl z), l5, l6] [] ((.inl z) :: st) n I L P) ∧
  (∀ (lv : List mm_V) (st : List mm_V), mm_E d 282 1287 lv [] st n I L P = mm_E d 282 1288 lv [] (.inl 3 :: st) n I L P) ∧
  (∀ (lv : List mm_V) (st : List mm_V) a b, mm_E d 282 1288 lv [] (.inl b :: .inl a :: st) n I L P = mm_E d 282 1289 lv [] (.inl (mm_add a b) :: st) n I L P) ∧
  (∀ (lv : List mm_V) (st : List mm_V) i, (0 ≤ i ∧ i < I 1000006 5000) → mm_E d 282 1289 lv [] (.inl i :: .inr (.inr (some 1000006)) :: st) n I L P = mm_E d 282 1290 lv [] (.inl (I 1000006 i.toNat) :: st) n I L P) ∧
  (∀ (lv : List mm_V) a x0 x1 x2, (mm_ok n a 11) → mm_E d 282 1290 lv [] (.inl x2 :: .inl x1 :: .inl x0 :: .inr (.inr (some a)) :: []) n I L P = mm_kr d 282 1293 lv [] [] n (mm_rn d 133 [.inr (.inr (some a)), .inl x0, .inl x1, .inl x2] n I L P)) ∧
  (∀ (st : List mm_V) z (l0 : mm_V) (l1 : mm_V) (l3 : mm_V) (l4 : mm_V) (l5 : mm_V) (l6 : mm_V), mm_E d 282 1293 [l0, l1, (.inr (.inr z)), l3, l4, l5, l6] [] st n I L P = mm_E d 282 1294 [l0, l1, (.inr (.inr z)), l3, l4, l5, l6] [] ((.inr (.inr z)) :: st) n I L P) ∧
  (∀ (st : List mm_V) z (l1 : mm_V) (l2 : mm_V) (l3 : mm_V) (l4 : mm_V) (l5 : mm_V) (l6 : mm_V), mm_E d 282 1294 [(.inr (.inr z)), l1, l2, l3, l4, l5, l6] [] st n I L P = mm_E d 282 1295 [(.inr (.inr z)), l1, l2, l3, l4, l5, l6] [] ((.inr (.inr z)) :: st) n I L P) ∧
  (∀ (st : List mm_V) z (l0 : mm_V) (l1 : mm_V) (l2 : mm_V) (l3 : mm_V) (l5 : mm_V) (l6 : mm_V), mm_E d 282 1295 [l0, l1, l2, l3, (.inl z), l5, l6] [] st n I L P = mm_E d 282 1297 [l0, l1, l2, l3, (.inl z), l5, l6] [] ((.inl z) :: st) n I L P) ∧
  (∀ (lv : List mm_V) (st : List mm_V), mm_E d 282 1297 lv [] st n I L P = mm_E d 282 1298 lv [] (.inl 1 :: st) n I L P) ∧
  (∀ (lv : List mm_V) (st : List mm_V) a b, mm_E d 282 1298 lv [] (.inl b :: .inl a :: st) n I L P = mm_E d 282 1299 lv [] (.inl (mm_add a b) :: st) n I L P) ∧
  (∀ (lv : List mm_V) (st : List mm_V) i, (0 ≤ i ∧ i < I 1000006 5000) → mm_E d 282 1299 lv [] (.inl i :: .inr (.inr (some 1000006)) :: st) n I L P = mm_E d 282 1300 lv [] (.inl (I 1000006 i.toNat) :: st) n I L P) ∧
  (∀ (st : List mm_V) z (l1 : mm_V) (l2 : mm_V) (l3 : mm_V) (l4 : mm_V) (l5 : mm_V) (l6 : mm_V), mm_E d 282 1300 [(.inr (.inr z)), l1, l2, l3, l4, l5, l6] [] st n I L P = mm_E d 282 1301 [(.inr (.inr z)), l1, l2, l3, l4, l5, l6] [] ((.inr (.inr z)) :: st) n I L P) ∧
  (∀ (st : List mm_V) z (l0 : mm_V) (l1 : mm_V) (l2 : mm_V) (l3 : mm_V) (l5 : mm_V) (l6 : mm_V), mm_E d 282 1301 [l0, l1, l2, l3, (.inl z), l5, l6] [] st n I L P = mm_E d 282 1303 [l0, l1, l2, l3, (.inl z), l5, l6] [] ((.inl z) :: st) n I L P) ∧
  (∀ (lv : List mm_V) (st : List mm_V), mm_E d 282 1303 lv [] st n I L P = mm_E d 282 1304 lv [] (.inl 2 :: st) n I L P) ∧
  (∀ (lv : List mm_V) (st : List mm_V) a b, mm_E d 282 1304 lv [] (.inl b :: .inl a :: st) n I L P = mm_E d 282 1305 lv [] (.inl (mm_add a b) :: st) n I L P) ∧
  (∀ (lv : List mm_V) (st : List mm_V) i, (0 ≤ i ∧ i < I 1000006 5000) → mm_E d 282 1305 lv [] (.inl i :: .inr (.inr (some 1000006)) :: st) n I L P = mm_E d 282 1306 lv [] (.inl (I 1000006 i.toNat) :: st) n I L P) ∧
  (∀ (st : List mm_V) z (l1 : mm_V) (l2 : mm_V) (l3 : mm_V) (l4 : mm_V) (l5 : mm_V) (l6 : mm_V), mm_E d 282 1306 [(.inr (.inr z)), l1, l2, l3, l4, l5, l6] [] st n I L P = mm_E d 282 1307 [(.inr (.inr z)), l1, l2, l3, l4, l5, l6] [] ((.inr (.inr z)) :: st) n I L P) ∧
  (∀ (st : List mm_V) z (l0 : mm_V) (l1 : mm_V) (l2 : mm_V) (l3 : mm_V) (l5 : mm_V) (l6 : mm_V), mm_E d 282 1307 [l0, l1, l2, l3, (.inl z), l5, l6] [] st n I L P = mm_E d 282 1309 [l0, l1, l2, l3, (.inl z), l5, l6] [] ((.inl z) :: st) n I L P) ∧
  (∀ (lv : List mm_V) (st : List mm_V), mm_E d 282 1309 lv [] st n I L P = mm_E d 282 1310 lv [] (.inl 3 :: st) n I L P) ∧
  (∀ (lv : List mm_V) (st : List mm_V) a b, mm_E d 282 1310 lv [] (.inl b :: .inl a :: st) n I L P = mm_E d 282 1311 lv [] (.inl (mm_add a b) :: st) n I L P) ∧
  (∀ (lv : List mm_V) (st : List mm_V) i, (0 ≤ i ∧ i < I 1000006 5000) → mm_E d 282 1311 lv [] (.inl i :: .inr (.inr (some 1000006)) :: st) n I L P = mm_E d 282 1312 lv [] (.inl (I 1000006 i.toNat) :: st) n I L P) ∧
  (∀ (lv : List mm_V) a x0 x1 x2 w0, (mm_ok n a 12) → mm_E d 282 1312 lv [] (.inl x2 :: .inl x1 :: .inl x0 :: .inr (.inr (some a)) :: [.inl w0]) n I L P = mm_kr d 282 1315 lv [] [.inl w0] n (mm_rn d 250 [.inr (.inr (some a)), .inl x0, .inl x1, .inl x2] n I L P)) ∧
  (∀ (lv : List mm_V) (st : List mm_V) a b, mm_E d 282 1315 lv [] (.inl b :: .inl a :: st) n I L P = if a = b then mm_E d 282 1494 lv [] st n I L P else mm_E d 282 1318 lv [] st n I L P) ∧
  (∀ (lv : List mm_V) (st : List mm_V), mm_E d 282 1318 lv [] st n I L P = mm_E d 282 1319 lv [] (.inl 0 :: st) n I L P) ∧
  (∀ (lv : List mm_V) z, (0 ≤ z ∧ z < 2) → mm_E d 282 1319 lv [] [.inl z] n I L P = some (some (.inl z), n, I, L, P)) :=
  ⟨fun _ _ _ _ _ _ _ _ => mq_al (i := 1) rfl rfl,
   fun _ _ _ _ _ _ _ _ => mq_al (i := 0) rfl rfl,
   fun _ _ _ _ _ _ _ _ => mq_il (i := 4) rfl rfl,
   fun _ _ => mq_push rfl,
   fun _ _ _ _ => mq_bi rfl,
   fun _ _ _ h0 => mq_xald rfl h0,
   fun _ _ _ _ _ _ _ _ => mq_al (i := 0) rfl rfl,
   fun _ _ _ _ _ _ _ _ => mq_il (i := 4) rfl rfl,
   fun _ _ => mq_push rfl,
   fun _ _ _ _ => mq_bi rfl,
   fun _ _ _ h0 => mq_xald rfl h0,
   fun _ _ _ _ _ _ _ _ => mq_al (i := 0) rfl rfl,
   fun _ _ _ _ _ _ _ _ => mq_il (i := 4) rfl rfl,
   fun _ _ => mq_push rfl,
   fun _ _ _ _ => mq_bi rfl,
   fun _ _ _ h0 => mq_xald rfl h0,
   fun _ _ _ _ _ h0 => mq_cVr (na := 3) rfl rfl (Nat.le_of_ble_eq_true rfl) (Nat.le_of_ble_eq_true rfl) h0,
   fun _ _ _ _ _ _ _ _ => mq_al (i := 2) rfl rfl,
   fun _ _ _ _ _ _ _ _ => mq_al (i := 0) rfl rfl,
   fun _ _ _ _ _ _ _ _ => mq_il (i := 4) rfl rfl,
   fun _ _ => mq_push rfl,
   fun _ _ _ _ => mq_bi rfl,
   fun _ _ _ h0 => mq_xald rfl h0,
   fun _ _ _ _ _ _ _ _ => mq_al (i := 0) rfl rfl,
   fun _ _ _ _ _ _ _ _ => mq_il (i := 4) rfl rfl,
   fun _ _ => mq_push rfl,
   fun _ _ _ _ => mq_bi rfl,
   fun _ _ _ h0 => mq_xald rfl h0,
   fun _ _ _ _ _ _ _ _ => mq_al (i := 0) rfl rfl,
   fun _ _ _ _ _ _ _ _ => mq_il (i := 4) rfl rfl,
   fun _ _ => mq_push rfl,
   fun _ _ _ _ => mq_bi rfl,
   fun _ _ _ h0 => mq_xald rfl h0,
   fun _ _ _ _ _ _ h0 => mq_cVr (na := 3) rfl rfl (Nat.le_of_ble_eq_true rfl) (Nat.le_of_ble_eq_true rfl) h0,
   fun _ _ _ _ => mq_ic_eq rfl,
   fun _ _ => mq_push rfl,
   fun _ _ h0 => mq_rz rfl h0⟩
set_option maxRecDepth 20000 in
set_option maxHeartbeats 8000000 in
theorem kL_law_33 (d n : Nat) (I L : mm_I) (P : mm_P) :
  (∀ (st : List mm_V) z (l0 : mm_V) (l2 : mm_V) (l3 : mm_V) (l4 : mm_V) (l5 : mm_V) (l6 : mm_V), mm_E d 282 1320 [l0, (.inr (.inr z)), l2, l3, l4, l5, l6] [] st n I L P = mm_E d 282 1321 [l0, (.inr (.inr z)), l2, l3, l4, l5, l6] [] ((.inr (.inr z)) :: st) n I L P) ∧
  (∀ (st : List mm_V) z (l1 : mm_V) (l2 : mm_V) (l3 : mm_V) (l4 : mm_V) (l5 : mm_V) (l6 : mm_V), mm_E d 282 1321 [(.inr (.inr z)), l1, l2, l3, l4, l5, l6] [] st n I L P = mm_E d 282 1322 [(.inr (.inr z)), l1, l2, l3, l4, l5, l6] [] ((.inr (.inr z)) :: st) n I L P) ∧
  (∀ (st : List mm_V) z (l0 : mm_V) (l1 : mm_V) (l2 : mm_V) (l3 : mm_V) (l5 : mm_V) (l6 : mm_V), mm_E d 282 1322 [l0, l1, l2, l3, (.inl z), l5, l6] [] st n I L P = mm_E d 282 1324 [l0, l1, l2, l3, (.inl z), l5, l6] [] ((.inl z) :: st) n I L P) ∧
  (∀ (lv : List mm_V) (st : List mm_V), mm_E d 282 1324 lv [] st n I L P = mm_E d 282 1325 lv [] (.inl 1 :: st) n I L P) ∧
  (∀ (lv : List mm_V) (st : List mm_V) a b, mm_E d 282 1325 lv [] (.inl b :: .inl a :: st) n I L P = mm_E d 282 1326 lv [] (.inl (mm_add a b) :: st) n I L P) ∧
  (∀ (lv : List mm_V) (st : List mm_V) i, (0 ≤ i ∧ i < I 1000006 5000) → mm_E d 282 1326 lv [] (.inl i :: .inr (.inr (some 1000006)) :: st) n I L P = mm_E d 282 1327 lv [] (.inl (I 1000006 i.toNat) :: st) n I L P) ∧
  (∀ (st : List mm_V) z (l1 : mm_V) (l2 : mm_V) (l3 : mm_V) (l4 : mm_V) (l5 : mm_V) (l6 : mm_V), mm_E d 282 1327 [(.inr (.inr z)), l1, l2, l3, l4, l5, l6] [] st n I L P = mm_E d 282 1328 [(.inr (.inr z)), l1, l2, l3, l4, l5, l6] [] ((.inr (.inr z)) :: st) n I L P) ∧
  (∀ (st : List mm_V) z (l0 : mm_V) (l1 : mm_V) (l2 : mm_V) (l3 : mm_V) (l5 : mm_V) (l6 : mm_V), mm_E d 282 1328 [l0, l1, l2, l3, (.inl z), l5, l6] [] st n I L P = mm_E d 282 1330 [l0, l1, l2, l3, (.inl z), l5, l6] [] ((.inl z) :: st) n I L P) ∧
  (∀ (lv : List mm_V) (st : List mm_V), mm_E d 282 1330 lv [] st n I L P = mm_E d 282 1331 lv [] (.inl 2 :: st) n I L P) ∧
  (∀ (lv : List mm_V) (st : List mm_V) a b, mm_E d 282 1331 lv [] (.inl b :: .inl a :: st) n I L P = mm_E d 282 1332 lv [] (.inl (mm_add a b) :: st) n I L P) ∧
  (∀ (lv : List mm_V) (st : List mm_V) i, (0 ≤ i ∧ i < I 1000006 5000) → mm_E d 282 1332 lv [] (.inl i :: .inr (.inr (some 1000006)) :: st) n I L P = mm_E d 282 1333 lv [] (.inl (I 1000006 i.toNat) :: st) n I L P) ∧
  (∀ (st : List mm_V) z (l1 : mm_V) (l2 : mm_V) (l3 : mm_V) (l4 : mm_V) (l5 : mm_V) (l6 : mm_V), mm_E d 282 1333 [(.inr (.inr z)), l1, l2, l3, l4, l5, l6] [] st n I L P = mm_E d 282 1334 [(.inr (.inr z)), l1, l2, l3, l4, l5, l6] [] ((.inr (.inr z)) :: st) n I L P) ∧
  (∀ (st : List mm_V) z (l0 : mm_V) (l1 : mm_V) (l2 : mm_V) (l3 : mm_V) (l5 : mm_V) (l6 : mm_V), mm_E d 282 1334 [l0, l1, l2, l3, (.inl z), l5, l6] [] st n I L P = mm_E d 282 1336 [l0, l1, l2, l3, (.inl z), l5, l6] [] ((.inl z) :: st) n I L P) ∧
  (∀ (lv : List mm_V) (st : List mm_V), mm_E d 282 1336 lv [] st n I L P = mm_E d 282 1337 lv [] (.inl 3 :: st) n I L P) ∧
  (∀ (lv : List mm_V) (st : List mm_V) a b, mm_E d 282 1337 lv [] (.inl b :: .inl a :: st) n I L P = mm_E d 282 1338 lv [] (.inl (mm_add a b) :: st) n I L P) ∧
  (∀ (lv : List mm_V) (st : List mm_V) i, (0 ≤ i ∧ i < I 1000006 5000) → mm_E d 282 1338 lv [] (.inl i :: .inr (.inr (some 1000006)) :: st) n I L P = mm_E d 282 1339 lv [] (.inl (I 1000006 i.toNat) :: st) n I L P) ∧
  (∀ (st : List mm_V) z (l1 : mm_V) (l2 : mm_V) (l3 : mm_V) (l4 : mm_V) (l5 : mm_V) (l6 : mm_V), mm_E d 282 1339 [(.inr (.inr z)), l1, l2, l3, l4, l5, l6] [] st n I L P = mm_E d 282 1340 [(.inr (.inr z)), l1, l2, l3, l4, l5, l6] [] ((.inr (.inr z)) :: st) n I L P) ∧
  (∀ (st : List mm_V) z (l0 : mm_V) (l1 : mm_V) (l2 : mm_V) (l3 : mm_V) (l5 : mm_V) (l6 : mm_V), mm_E d 282 1340 [l0, l1, l2, l3, (.inl z), l5, l6] [] st n I L P = mm_E d 282 1342 [l0, l1, l2, l3, (.inl z), l5, l6] [] ((.inl z) :: st) n I L P) ∧
  (∀ (lv : List mm_V) (st : List mm_V), mm_E d 282 1342 lv [] st n I L P = mm_E d 282 1343 lv [] (.inl 4 :: st) n I L P) ∧
  (∀ (lv : List mm_V) (st : List mm_V) a b, mm_E d 282 1343 lv [] (.inl b :: .inl a :: st) n I L P = mm_E d 282 1344 lv [] (.inl (mm_add a b) :: st) n I L P) ∧
  (∀ (lv : List mm_V) (st : List mm_V) i, (0 ≤ i ∧ i < I 1000006 5000) → mm_E d 282 1344 lv [] (.inl i :: .inr (.inr (some 1000006)) :: st) n I L P = mm_E d 282 1345 lv [] (.inl (I 1000006 i.toNat) :: st) n I L P) ∧
  (∀ (lv : List mm_V) a x0 x1 x2 x3, (mm_ok n a 11) → mm_E d 282 1345 lv [] (.inl x3 :: .inl x2 :: .inl x1 :: .inl x0 :: .inr (.inr (some a)) :: []) n I L P = mm_kr d 282 1348 lv [] [] n (mm_rn d 135 [.inr (.inr (some a)), .inl x0, .inl x1, .inl x2, .inl x3] n I L P)) ∧
  (∀ (st : List mm_V) z (l0 : mm_V) (l1 : mm_V) (l3 : mm_V) (l4 : mm_V) (l5 : mm_V) (l6 : mm_V), mm_E d 282 1348 [l0, l1, (.inr (.inr z)), l3, l4, l5, l6] [] st n I L P = mm_E d 282 1349 [l0, l1, (.inr (.inr z)), l3, l4, l5, l6] [] ((.inr (.inr z)) :: st) n I L P) ∧
  (∀ (st : List mm_V) z (l1 : mm_V) (l2 : mm_V) (l3 : mm_V) (l4 : mm_V) (l5 : mm_V) (l6 : mm_V), mm_E d 282 1349 [(.inr (.inr z)), l1, l2, l3, l4, l5, l6] [] st n I L P = mm_E d 282 1350 [(.inr (.inr z)), l1, l2, l3, l4, l5, l6] [] ((.inr (.inr z)) :: st) n I L P) ∧
  (∀ (st : List mm_V) z (l0 : mm_V) (l1 : mm_V) (l2 : mm_V) (l3 : mm_V) (l5 : mm_V) (l6 : mm_V), mm_E d 282 1350 [l0, l1, l2, l3, (.inl z), l5, l6] [] st n I L P = mm_E d 282 1352 [l0, l1, l2, l3, (.inl z), l5, l6] [] ((.inl z) :: st) n I L P) ∧
  (∀ (lv : List mm_V) (st : List mm_V), mm_E d 282 1352 lv [] st n I L P = mm_E d 282 1353 lv [] (.inl 1 :: st) n I L P) ∧
  (∀ (lv : List mm_V) (st : List mm_V) a b, mm_E d 282 1353 lv [] (.inl b :: .inl a :: st) n I L P = mm_E d 282 1354 lv [] (.inl (mm_add a b) :: st) n I L P) ∧
  (∀ (lv : List mm_V) (st : List mm_V) i, (0 ≤ i ∧ i < I 1000006 5000) → mm_E d 282 1354 lv [] (.inl i :: .inr (.inr (some 1000006)) :: st) n I L P = mm_E d 282 1355 lv [] (.inl (I 1000006 i.toNat) :: st) n I L P) ∧
  (∀ (st : List mm_V) z (l1 : mm_V) (l2 : mm_V) (l3 : mm_V) (l4 : mm_V) (l5 : mm_V) (l6 : mm_V), mm_E d 282 1355 [(.inr (.inr z)), l1, l2, l3, l4, l5, l6] [] st n I L P = mm_E d 282 1356 [(.inr (.inr z)), l1, l2, l3, l4, l5, l6] [] ((.inr (.inr z)) :: st) n I L P) ∧
  (∀ (st : List mm_V) z (l0 : mm_V) (l1 : mm_V) (l2 : mm_V) (l3 : mm_V) (l5 : mm_V) (l6 : mm_V), mm_E d 282 1356 [l0, l1, l2, l3, (.inl z), l5, l6] [] st n I L P = mm_E d 282 1358 [l0, l1, l2, l3, (.inl z), l5, l6] [] ((.inl z) :: st) n I L P) ∧
  (∀ (lv : List mm_V) (st : List mm_V), mm_E d 282 1358 lv [] st n I L P = mm_E d 282 1359 lv [] (.inl 2 :: st) n I L P) ∧
  (∀ (lv : List mm_V) (st : List mm_V) a b, mm_E d 282 1359 lv [] (.inl b :: .inl a :: st) n I L P = mm_E d 282 1360 lv [] (.inl (mm_add a b) :: st) n I L P) ∧
  (∀ (lv : List mm_V) (st : List mm_V) i, (0 ≤ i ∧ i < I 1000006 5000) → mm_E d 282 1360 lv [] (.inl i :: .inr (.inr (some 1000006)) :: st) n I L P = mm_E d 282 1361 lv [] (.inl (I 1000006 i.toNat) :: st) n I L P) ∧
  (∀ (st : List mm_V) z (l1 : mm_V) (l2 : mm_V) (l3 : mm_V) (l4 : mm_V) (l5 : mm_V) (l6 : mm_V), mm_E d 282 1361 [(.inr (.inr z)), l1, l2, l3, l4, l5, l6] [] st n I L P = mm_E d 282 1362 [(.inr (.inr z)), l1, l2, l3, l4, l5, l6] [] ((.inr (.inr z)) :: st) n I L P) ∧
  (∀ (st : List mm_V) z (l0 : mm_V) (l1 : mm_V) (l2 : mm_V) (l3 : mm_V) (l5 : mm_V) (l6 : mm_V), mm_E d 282 1362 [l0, l1, l2, l3, (.inl z), l5, l6] [] st n I L P = mm_E d 282 1364 [l0, l1, l2, l3, (.inl z), l5, l6] [] ((.inl z) :: st) n I L P) ∧
  (∀ (lv : List mm_V) (st : List mm_V), mm_E d 282 1364 lv [] st n I L P = mm_E d 282 1365 lv [] (.inl 3 :: st) n I L P) ∧
  (∀ (lv : List mm_V) (st : List mm_V) a b, mm_E d 282 1365 lv [] (.inl b :: .inl a :: st) n I L P = mm_E d 282 1366 lv [] (.inl (mm_add a b) :: st) n I L P) ∧
  (∀ (lv : List mm_V) (st : List mm_V) i, (0 ≤ i ∧ i < I 1000006 5000) → mm_E d 282 1366 lv [] (.inl i :: .inr (.inr (some 1000006)) :: st) n I L P = mm_E d 282 1367 lv [] (.inl (I 1000006 i.toNat) :: st) n I L P) ∧
  (∀ (st : List mm_V) z (l1 : mm_V) (l2 : mm_V) (l3 : mm_V) (l4 : mm_V) (l5 : mm_V) (l6 : mm_V), mm_E d 282 1367 [(.inr (.inr z)), l1, l2, l3, l4, l5, l6] [] st n I L P = mm_E d 282 1368 [(.inr (.inr z)), l1, l2, l3, l4, l5, l6] [] ((.inr (.inr z)) :: st) n I L P) ∧
  (∀ (st : List mm_V) z (l0 : mm_V) (l1 : mm_V) (l2 : mm_V) (l3 : mm_V) (l5 : mm_V) (l6 : mm_V), mm_E d 282 1368 [l0, l1, l2, l3, (.inl z), l5, l6] [] st n I L P = mm_E d 282 1370 [l0, l1, l2, l3, (.inl z), l5, l6] [] ((.inl z) :: st) n I L P) ∧
  (∀ (lv : List mm_V) (st : List mm_V), mm_E d 282 1370 lv [] st n I L P = mm_E d 282 1371 lv [] (.inl 4 :: st) n I L P) ∧
  (∀ (lv : List mm_V) (st : List mm_V) a b, mm_E d 282 1371 lv [] (.inl b :: .inl a :: st) n I L P = mm_E d 282 1372 lv [] (.inl (mm_add a b) :: st) n I L P) ∧
  (∀ (lv : List mm_V) (st : List mm_V) i, (0 ≤ i ∧ i < I 1000006 5000) → mm_E d 282 1372 lv [] (.inl i :: .inr (.inr (some 1000006)) :: st) n I L P = mm_E d 282 1373 lv [] (.inl (I 1000006 i.toNat) :: st) n I L P) ∧
  (∀ (lv : List mm_V) a x0 x1 x2 x3 w0, (mm_ok n a 12) → mm_E d 282 1373 lv [] (.inl x3 :: .inl x2 :: .inl x1 :: .inl x0 :: .inr (.inr (some a)) :: [.inl w0]) n I L P = mm_kr d 282 1376 lv [] [.inl w0] n (mm_rn d 252 [.inr (.inr (some a)), .inl x0, .inl x1, .inl x2, .inl x3] n I L P)) ∧
  (∀ (lv : List mm_V) (st : List mm_V) a b, mm_E d 282 1376 lv [] (.inl b :: .inl a :: st) n I L P = if a = b then mm_E d 282 1494 lv [] st n I L P else mm_E d 282 1379 lv [] st n I L P) ∧
  (∀ (lv : List mm_V) (st : List mm_V), mm_E d 282 1379 lv [] st n I L P = mm_E d 282 1380 lv [] (.inl 0 :: st) n I L P) ∧
  (∀ (lv : List mm_V) z, (0 ≤ z ∧ z < 2) → mm_E d 282 1380 lv [] [.inl z] n I L P = some (some (.inl z), n, I, L, P)) :=
  ⟨fun _ _ _ _ _ _ _ _ => mq_al (i := 1) rfl rfl,
   fun _ _ _ _ _ _ _ _ => mq_al (i := 0) rfl rfl,
   fun _ _ _ _ _ _ _ _ => mq_il (i := 4) rfl rfl,
   fun _ _ => mq_push rfl,
   fun _ _ _ _ => mq_bi rfl,
   fun _ _ _ h0 => mq_xald rfl h0,
   fun _ _ _ _ _ _ _ _ => mq_al (i := 0) rfl rfl,
   fun _ _ _ _ _ _ _ _ => mq_il (i := 4) rfl rfl,
   fun _ _ => mq_push rfl,
   fun _ _ _ _ => mq_bi rfl,
   fun _ _ _ h0 => mq_xald rfl h0,
   fun _ _ _ _ _ _ _ _ => mq_al (i := 0) rfl rfl,
   fun _ _ _ _ _ _ _ _ => mq_il (i := 4) rfl rfl,
   fun _ _ => mq_push rfl,
   fun _ _ _ _ => mq_bi rfl,
   fun _ _ _ h0 => mq_xald rfl h0,
   fun _ _ _ _ _ _ _ _ => mq_al (i := 0) rfl rfl,
   fun _ _ _ _ _ _ _ _ => mq_il (i := 4) rfl rfl,
   fun _ _ => mq_push rfl,
   fun _ _ _ _ => mq_bi rfl,
   fun _ _ _ h0 => mq_xald rfl h0,
   fun _ _ _ _ _ _ h0 => mq_cVr (na := 4) rfl rfl (Nat.le_of_ble_eq_true rfl) (Nat.le_of_ble_eq_true rfl) h0,
   fun _ _ _ _ _ _ _ _ => mq_al (i := 2) rfl rfl,
   fun _ _ _ _ _ _ _ _ => mq_al (i := 0) rfl rfl,
   fun _ _ _ _ _ _ _ _ => mq_il (i := 4) rfl rfl,
   fun _ _ => mq_push rfl,
   fun _ _ _ _ => mq_bi rfl,
   fun _ _ _ h0 => mq_xald rfl h0,
   fun _ _ _ _ _ _ _ _ => mq_al (i := 0) rfl rfl,
   fun _ _ _ _ _ _ _ _ => mq_il (i := 4) rfl rfl,
   fun _ _ => mq_push rfl,
   fun _ _ _ _ => mq_bi rfl,
   fun _ _ _ h0 => mq_xald rfl h0,
   fun _ _ _ _ _ _ _ _ => mq_al (i := 0) rfl rfl,
   fun _ _ _ _ _ _ _ _ => mq_il (i := 4) rfl rfl,
   fun _ _ => mq_push rfl,
   fun _ _ _ _ => mq_bi rfl,
   fun _ _ _ h0 => mq_xald rfl h0,
   fun _ _ _ _ _ _ _ _ => mq_al (i := 0) rfl rfl,
   fun _ _ _ _ _ _ _ _ => mq_il (i := 4) rfl rfl,
   fun _ _ => mq_push rfl,
   fun _ _ _ _ => mq_bi rfl,
   fun _ _ _ h0 => mq_xald rfl h0,
   fun _ _ _ _ _ _ _ h0 => mq_cVr (na := 4) rfl rfl (Nat.le_of_ble_eq_true rfl) (Nat.le_of_ble_eq_true rfl) h0,
   fun _ _ _ _ => mq_ic_eq rfl,
   fun _ _ => mq_push rfl,
   fun _ _ h0 => mq_rz rfl h0⟩
set_option maxRecDepth 20000 in
set_option maxHeartbeats 8000000 in
theorem kL_law_34 (d n : Nat) (I L : mm_I) (P : mm_P) :
  (∀ (st : List mm_V) z (l0 : mm_V) (l2 : mm_V) (l3 : mm_V) (l4 : mm_V) (l5 : mm_V) (l6 : mm_V), mm_E d 282 1381 [l0, (.inr (.inr z)), l2, l3, l4, l5, l6] [] st n I L P = mm_E d 282 1382 [l0, (.inr (.inr z)), l2, l3, l4, l5, l6] [] ((.inr (.inr z)) :: st) n I L P) ∧
  (∀ (st : List mm_V) z (l1 : mm_V) (l2 : mm_V) (l3 : mm_V) (l4 : mm_V) (l5 : mm_V) (l6 : mm_V), mm_E d 282 1382 [(.inr (.inr z)), l1, l2, l3, l4, l5, l6] [] st n I L P = mm_E d 282 1383 [(.inr (.inr z)), l1, l2, l3, l4, l5, l6] [] ((.inr (.inr z)) :: st) n I L P) ∧
  (∀ (st : List mm_V) z (l0 : mm_V) (l1 : mm_V) (l2 : mm_V) (l3 : mm_V) (l5 : mm_V) (l6 : mm_V), mm_E d 282 1383 [l0, l1, l2, l3, (.inl z), l5, l6] [] st n I L P = mm_E d 282 1385 [l0, l1, l2, l3, (.inl z), l5, l6] [] ((.inl z) :: st) n I L P) ∧
  (∀ (lv : List mm_V) (st : List mm_V), mm_E d 282 1385 lv [] st n I L P = mm_E d 282 1386 lv [] (.inl 1 :: st) n I L P) ∧
  (∀ (lv : List mm_V) (st : List mm_V) a b, mm_E d 282 1386 lv [] (.inl b :: .inl a :: st) n I L P = mm_E d 282 1387 lv [] (.inl (mm_add a b) :: st) n I L P) ∧
  (∀ (lv : List mm_V) (st : List mm_V) i, (0 ≤ i ∧ i < I 1000006 5000) → mm_E d 282 1387 lv [] (.inl i :: .inr (.inr (some 1000006)) :: st) n I L P = mm_E d 282 1388 lv [] (.inl (I 1000006 i.toNat) :: st) n I L P) ∧
  (∀ (st : List mm_V) z (l1 : mm_V) (l2 : mm_V) (l3 : mm_V) (l4 : mm_V) (l5 : mm_V) (l6 : mm_V), mm_E d 282 1388 [(.inr (.inr z)), l1, l2, l3, l4, l5, l6] [] st n I L P = mm_E d 282 1389 [(.inr (.inr z)), l1, l2, l3, l4, l5, l6] [] ((.inr (.inr z)) :: st) n I L P) ∧
  (∀ (st : List mm_V) z (l0 : mm_V) (l1 : mm_V) (l2 : mm_V) (l3 : mm_V) (l5 : mm_V) (l6 : mm_V), mm_E d 282 1389 [l0, l1, l2, l3, (.inl z), l5, l6] [] st n I L P = mm_E d 282 1391 [l0, l1, l2, l3, (.inl z), l5, l6] [] ((.inl z) :: st) n I L P) ∧
  (∀ (lv : List mm_V) (st : List mm_V), mm_E d 282 1391 lv [] st n I L P = mm_E d 282 1392 lv [] (.inl 2 :: st) n I L P) ∧
  (∀ (lv : List mm_V) (st : List mm_V) a b, mm_E d 282 1392 lv [] (.inl b :: .inl a :: st) n I L P = mm_E d 282 1393 lv [] (.inl (mm_add a b) :: st) n I L P) ∧
  (∀ (lv : List mm_V) (st : List mm_V) i, (0 ≤ i ∧ i < I 1000006 5000) → mm_E d 282 1393 lv [] (.inl i :: .inr (.inr (some 1000006)) :: st) n I L P = mm_E d 282 1394 lv [] (.inl (I 1000006 i.toNat) :: st) n I L P) ∧
  (∀ (lv : List mm_V) a x0 x1, (mm_ok n a 11) → mm_E d 282 1394 lv [] (.inl x1 :: .inl x0 :: .inr (.inr (some a)) :: []) n I L P = mm_kr d 282 1397 lv [] [] n (mm_rn d 137 [.inr (.inr (some a)), .inl x0, .inl x1] n I L P)) ∧
  (∀ (st : List mm_V) z (l0 : mm_V) (l1 : mm_V) (l3 : mm_V) (l4 : mm_V) (l5 : mm_V) (l6 : mm_V), mm_E d 282 1397 [l0, l1, (.inr (.inr z)), l3, l4, l5, l6] [] st n I L P = mm_E d 282 1398 [l0, l1, (.inr (.inr z)), l3, l4, l5, l6] [] ((.inr (.inr z)) :: st) n I L P) ∧
  (∀ (st : List mm_V) z (l1 : mm_V) (l2 : mm_V) (l3 : mm_V) (l4 : mm_V) (l5 : mm_V) (l6 : mm_V), mm_E d 282 1398 [(.inr (.inr z)), l1, l2, l3, l4, l5, l6] [] st n I L P = mm_E d 282 1399 [(.inr (.inr z)), l1, l2, l3, l4, l5, l6] [] ((.inr (.inr z)) :: st) n I L P) ∧
  (∀ (st : List mm_V) z (l0 : mm_V) (l1 : mm_V) (l2 : mm_V) (l3 : mm_V) (l5 : mm_V) (l6 : mm_V), mm_E d 282 1399 [l0, l1, l2, l3, (.inl z), l5, l6] [] st n I L P = mm_E d 282 1401 [l0, l1, l2, l3, (.inl z), l5, l6] [] ((.inl z) :: st) n I L P) ∧
  (∀ (lv : List mm_V) (st : List mm_V), mm_E d 282 1401 lv [] st n I L P = mm_E d 282 1402 lv [] (.inl 1 :: st) n I L P) ∧
  (∀ (lv : List mm_V) (st : List mm_V) a b, mm_E d 282 1402 lv [] (.inl b :: .inl a :: st) n I L P = mm_E d 282 1403 lv [] (.inl (mm_add a b) :: st) n I L P) ∧
  (∀ (lv : List mm_V) (st : List mm_V) i, (0 ≤ i ∧ i < I 1000006 5000) → mm_E d 282 1403 lv [] (.inl i :: .inr (.inr (some 1000006)) :: st) n I L P = mm_E d 282 1404 lv [] (.inl (I 1000006 i.toNat) :: st) n I L P) ∧
  (∀ (st : List mm_V) z (l1 : mm_V) (l2 : mm_V) (l3 : mm_V) (l4 : mm_V) (l5 : mm_V) (l6 : mm_V), mm_E d 282 1404 [(.inr (.inr z)), l1, l2, l3, l4, l5, l6] [] st n I L P = mm_E d 282 1405 [(.inr (.inr z)), l1, l2, l3, l4, l5, l6] [] ((.inr (.inr z)) :: st) n I L P) ∧
  (∀ (st : List mm_V) z (l0 : mm_V) (l1 : mm_V) (l2 : mm_V) (l3 : mm_V) (l5 : mm_V) (l6 : mm_V), mm_E d 282 1405 [l0, l1, l2, l3, (.inl z), l5, l6] [] st n I L P = mm_E d 282 1407 [l0, l1, l2, l3, (.inl z), l5, l6] [] ((.inl z) :: st) n I L P) ∧
  (∀ (lv : List mm_V) (st : List mm_V), mm_E d 282 1407 lv [] st n I L P = mm_E d 282 1408 lv [] (.inl 2 :: st) n I L P) ∧
  (∀ (lv : List mm_V) (st : List mm_V) a b, mm_E d 282 1408 lv [] (.inl b :: .inl a :: st) n I L P = mm_E d 282 1409 lv [] (.inl (mm_add a b) :: st) n I L P) ∧
  (∀ (lv : List mm_V) (st : List mm_V) i, (0 ≤ i ∧ i < I 1000006 5000) → mm_E d 282 1409 lv [] (.inl i :: .inr (.inr (some 1000006)) :: st) n I L P = mm_E d 282 1410 lv [] (.inl (I 1000006 i.toNat) :: st) n I L P) ∧
  (∀ (lv : List mm_V) a x0 x1 w0, (mm_ok n a 12) → mm_E d 282 1410 lv [] (.inl x1 :: .inl x0 :: .inr (.inr (some a)) :: [.inl w0]) n I L P = mm_kr d 282 1413 lv [] [.inl w0] n (mm_rn d 253 [.inr (.inr (some a)), .inl x0, .inl x1] n I L P)) ∧
  (∀ (lv : List mm_V) (st : List mm_V) a b, mm_E d 282 1413 lv [] (.inl b :: .inl a :: st) n I L P = if a = b then mm_E d 282 1494 lv [] st n I L P else mm_E d 282 1416 lv [] st n I L P) ∧
  (∀ (lv : List mm_V) (st : List mm_V), mm_E d 282 1416 lv [] st n I L P = mm_E d 282 1417 lv [] (.inl 0 :: st) n I L P) ∧
  (∀ (lv : List mm_V) z, (0 ≤ z ∧ z < 2) → mm_E d 282 1417 lv [] [.inl z] n I L P = some (some (.inl z), n, I, L, P)) :=
  ⟨fun _ _ _ _ _ _ _ _ => mq_al (i := 1) rfl rfl,
   fun _ _ _ _ _ _ _ _ => mq_al (i := 0) rfl rfl,
   fun _ _ _ _ _ _ _ _ => mq_il (i := 4) rfl rfl,
   fun _ _ => mq_push rfl,
   fun _ _ _ _ => mq_bi rfl,
   fun _ _ _ h0 => mq_xald rfl h0,
   fun _ _ _ _ _ _ _ _ => mq_al (i := 0) rfl rfl,
   fun _ _ _ _ _ _ _ _ => mq_il (i := 4) rfl rfl,
   fun _ _ => mq_push rfl,
   fun _ _ _ _ => mq_bi rfl,
   fun _ _ _ h0 => mq_xald rfl h0,
   fun _ _ _ _ h0 => mq_cVr (na := 2) rfl rfl (Nat.le_of_ble_eq_true rfl) (Nat.le_of_ble_eq_true rfl) h0,
   fun _ _ _ _ _ _ _ _ => mq_al (i := 2) rfl rfl,
   fun _ _ _ _ _ _ _ _ => mq_al (i := 0) rfl rfl,
   fun _ _ _ _ _ _ _ _ => mq_il (i := 4) rfl rfl,
   fun _ _ => mq_push rfl,
   fun _ _ _ _ => mq_bi rfl,
   fun _ _ _ h0 => mq_xald rfl h0,
   fun _ _ _ _ _ _ _ _ => mq_al (i := 0) rfl rfl,
   fun _ _ _ _ _ _ _ _ => mq_il (i := 4) rfl rfl,
   fun _ _ => mq_push rfl,
   fun _ _ _ _ => mq_bi rfl,
   fun _ _ _ h0 => mq_xald rfl h0,
   fun _ _ _ _ _ h0 => mq_cVr (na := 2) rfl rfl (Nat.le_of_ble_eq_true rfl) (Nat.le_of_ble_eq_true rfl) h0,
   fun _ _ _ _ => mq_ic_eq rfl,
   fun _ _ => mq_push rfl,
   fun _ _ h0 => mq_rz rfl h0⟩
set_option maxRecDepth 20000 in
set_option maxHeartbeats 8000000 in
theorem kL_law_35 (d n : Nat) (I L : mm_I) (P : mm_P) :
  (∀ (st : List mm_V) z (l0 : mm_V) (l2 : mm_V) (l3 : mm_V) (l4 : mm_V) (l5 : mm_V) (l6 : mm_V), mm_E d 282 1418 [l0, (.inr (.inr z)), l2, l3, l4, l5, l6] [] st n I L P = mm_E d 282 1419 [l0, (.inr (.inr z)), l2, l3, l4, l5, l6] [] ((.inr (.inr z)) :: st) n I L P) ∧
  (∀ (st : List mm_V) z (l1 : mm_V) (l2 : mm_V) (l3 : mm_V) (l4 : mm_V) (l5 : mm_V) (l6 : mm_V), mm_E d 282 1419 [(.inr (.inr z)), l1, l2, l3, l4, l5, l6] [] st n I L P = mm_E d 282 1420 [(.inr (.inr z)), l1, l2, l3, l4, l5, l6] [] ((.inr (.inr z)) :: st) n I L P) ∧
  (∀ (st : List mm_V) z (l0 : mm_V) (l1 : mm_V) (l2 : mm_V) (l3 : mm_V) (l5 : mm_V) (l6 : mm_V), mm_E d 282 1420 [l0, l1, l2, l3, (.inl z), l5, l6] [] st n I L P = mm_E d 282 1422 [l0, l1, l2, l3, (.inl z), l5, l6] [] ((.inl z) :: st) n I L P) ∧
  (∀ (lv : List mm_V) (st : List mm_V), mm_E d 282 1422 lv [] st n I L P = mm_E d 282 1423 lv [] (.inl 1 :: st) n I L P) ∧
  (∀ (lv : List mm_V) (st : List mm_V) a b, mm_E d 282 1423 lv [] (.inl b :: .inl a :: st) n I L P = mm_E d 282 1424 lv [] (.inl (mm_add a b) :: st) n I L P) ∧
  (∀ (lv : List mm_V) (st : List mm_V) i, (0 ≤ i ∧ i < I 1000006 5000) → mm_E d 282 1424 lv [] (.inl i :: .inr (.inr (some 1000006)) :: st) n I L P = mm_E d 282 1425 lv [] (.inl (I 1000006 i.toNat) :: st) n I L P) ∧
  (∀ (lv : List mm_V) a x0, (mm_ok n a 11) → mm_E d 282 1425 lv [] (.inl x0 :: .inr (.inr (some a)) :: []) n I L P = mm_kr d 282 1428 lv [] [] n (mm_rn d 138 [.inr (.inr (some a)), .inl x0] n I L P)) ∧
  (∀ (st : List mm_V) z (l0 : mm_V) (l1 : mm_V) (l3 : mm_V) (l4 : mm_V) (l5 : mm_V) (l6 : mm_V), mm_E d 282 1428 [l0, l1, (.inr (.inr z)), l3, l4, l5, l6] [] st n I L P = mm_E d 282 1429 [l0, l1, (.inr (.inr z)), l3, l4, l5, l6] [] ((.inr (.inr z)) :: st) n I L P) ∧
  (∀ (st : List mm_V) z (l1 : mm_V) (l2 : mm_V) (l3 : mm_V) (l4 : mm_V) (l5 : mm_V) (l6 : mm_V), mm_E d 282 1429 [(.inr (.inr z)), l1, l2, l3, l4, l5, l6] [] st n I L P = mm_E d 282 1430 [(.inr (.inr z)), l1, l2, l3, l4, l5, l6] [] ((.inr (.inr z)) :: st) n I L P) ∧
  (∀ (st : List mm_V) z (l0 : mm_V) (l1 : mm_V) (l2 : mm_V) (l3 : mm_V) (l5 : mm_V) (l6 : mm_V), mm_E d 282 1430 [l0, l1, l2, l3, (.inl z), l5, l6] [] st n I L P = mm_E d 282 1432 [l0, l1, l2, l3, (.inl z), l5, l6] [] ((.inl z) :: st) n I L P) ∧
  (∀ (lv : List mm_V) (st : List mm_V), mm_E d 282 1432 lv [] st n I L P = mm_E d 282 1433 lv [] (.inl 1 :: st) n I L P) ∧
  (∀ (lv : List mm_V) (st : List mm_V) a b, mm_E d 282 1433 lv [] (.inl b :: .inl a :: st) n I L P = mm_E d 282 1434 lv [] (.inl (mm_add a b) :: st) n I L P) ∧
  (∀ (lv : List mm_V) (st : List mm_V) i, (0 ≤ i ∧ i < I 1000006 5000) → mm_E d 282 1434 lv [] (.inl i :: .inr (.inr (some 1000006)) :: st) n I L P = mm_E d 282 1435 lv [] (.inl (I 1000006 i.toNat) :: st) n I L P) ∧
  (∀ (lv : List mm_V) a x0 w0, (mm_ok n a 12) → mm_E d 282 1435 lv [] (.inl x0 :: .inr (.inr (some a)) :: [.inl w0]) n I L P = mm_kr d 282 1438 lv [] [.inl w0] n (mm_rn d 259 [.inr (.inr (some a)), .inl x0] n I L P)) ∧
  (∀ (lv : List mm_V) (st : List mm_V) a b, mm_E d 282 1438 lv [] (.inl b :: .inl a :: st) n I L P = if a = b then mm_E d 282 1494 lv [] st n I L P else mm_E d 282 1441 lv [] st n I L P) ∧
  (∀ (lv : List mm_V) (st : List mm_V), mm_E d 282 1441 lv [] st n I L P = mm_E d 282 1442 lv [] (.inl 0 :: st) n I L P) ∧
  (∀ (lv : List mm_V) z, (0 ≤ z ∧ z < 2) → mm_E d 282 1442 lv [] [.inl z] n I L P = some (some (.inl z), n, I, L, P)) :=
  ⟨fun _ _ _ _ _ _ _ _ => mq_al (i := 1) rfl rfl,
   fun _ _ _ _ _ _ _ _ => mq_al (i := 0) rfl rfl,
   fun _ _ _ _ _ _ _ _ => mq_il (i := 4) rfl rfl,
   fun _ _ => mq_push rfl,
   fun _ _ _ _ => mq_bi rfl,
   fun _ _ _ h0 => mq_xald rfl h0,
   fun _ _ _ h0 => mq_cVr (na := 1) rfl rfl (Nat.le_of_ble_eq_true rfl) (Nat.le_of_ble_eq_true rfl) h0,
   fun _ _ _ _ _ _ _ _ => mq_al (i := 2) rfl rfl,
   fun _ _ _ _ _ _ _ _ => mq_al (i := 0) rfl rfl,
   fun _ _ _ _ _ _ _ _ => mq_il (i := 4) rfl rfl,
   fun _ _ => mq_push rfl,
   fun _ _ _ _ => mq_bi rfl,
   fun _ _ _ h0 => mq_xald rfl h0,
   fun _ _ _ _ h0 => mq_cVr (na := 1) rfl rfl (Nat.le_of_ble_eq_true rfl) (Nat.le_of_ble_eq_true rfl) h0,
   fun _ _ _ _ => mq_ic_eq rfl,
   fun _ _ => mq_push rfl,
   fun _ _ h0 => mq_rz rfl h0⟩
set_option maxRecDepth 20000 in
set_option maxHeartbeats 8000000 in
theorem kL_law_36 (d n : Nat) (I L : mm_I) (P : mm_P) :
  (∀ (st : List mm_V) z (l0 : mm_V) (l2 : mm_V) (l3 : mm_V) (l4 : mm_V) (l5 : mm_V) (l6 : mm_V), mm_E d 282 1443 [l0, (.inr (.inr z)), l2, l3, l4, l5, l6] [] st n I L P = mm_E d 282 1444 [l0, (.inr (.inr z)), l2, l3, l4, l5, l6] [] ((.inr (.inr z)) :: st) n I L P) ∧
  (∀ (lv : List mm_V) a, (mm_ok n a 11) → mm_E d 282 1444 lv [] (.inr (.inr (some a)) :: []) n I L P = mm_kr d 282 1447 lv [] [] n (mm_rn d 142 [.inr (.inr (some a))] n I L P)) ∧
  (∀ (st : List mm_V) z (l0 : mm_V) (l1 : mm_V) (l3 : mm_V) (l4 : mm_V) (l5 : mm_V) (l6 : mm_V), mm_E d 282 1447 [l0, l1, (.inr (.inr z)), l3, l4, l5, l6] [] st n I L P = mm_E d 282 1448 [l0, l1, (.inr (.inr z)), l3, l4, l5, l6] [] ((.inr (.inr z)) :: st) n I L P) ∧
  (∀ (lv : List mm_V) a w0, (mm_ok n a 12) → mm_E d 282 1448 lv [] (.inr (.inr (some a)) :: [.inl w0]) n I L P = mm_kr d 282 1451 lv [] [.inl w0] n (mm_rn d 260 [.inr (.inr (some a))] n I L P)) ∧
  (∀ (lv : List mm_V) (st : List mm_V) a b, mm_E d 282 1451 lv [] (.inl b :: .inl a :: st) n I L P = if a = b then mm_E d 282 1494 lv [] st n I L P else mm_E d 282 1454 lv [] st n I L P) ∧
  (∀ (lv : List mm_V) (st : List mm_V), mm_E d 282 1454 lv [] st n I L P = mm_E d 282 1455 lv [] (.inl 0 :: st) n I L P) ∧
  (∀ (lv : List mm_V) z, (0 ≤ z ∧ z < 2) → mm_E d 282 1455 lv [] [.inl z] n I L P = some (some (.inl z), n, I, L, P)) :=
  ⟨fun _ _ _ _ _ _ _ _ => mq_al (i := 1) rfl rfl,
   fun _ _ h0 => mq_cVr (na := 0) rfl rfl (Nat.le_of_ble_eq_true rfl) (Nat.le_of_ble_eq_true rfl) h0,
   fun _ _ _ _ _ _ _ _ => mq_al (i := 2) rfl rfl,
   fun _ _ _ h0 => mq_cVr (na := 0) rfl rfl (Nat.le_of_ble_eq_true rfl) (Nat.le_of_ble_eq_true rfl) h0,
   fun _ _ _ _ => mq_ic_eq rfl,
   fun _ _ => mq_push rfl,
   fun _ _ h0 => mq_rz rfl h0⟩
set_option maxRecDepth 20000 in
set_option maxHeartbeats 8000000 in
theorem kL_law_37 (d n : Nat) (I L : mm_I) (P : mm_P) :
  (∀ (st : List mm_V) z (l0 : mm_V) (l2 : mm_V) (l3 : mm_V) (l4 : mm_V) (l5 : mm_V) (l6 : mm_V), mm_E d 282 1456 [l0, (.inr (.inr z)), l2, l3, l4, l5, l6] [] st n I L P = mm_E d 282 1457 [l0, (.inr (.inr z)), l2, l3, l4, l5, l6] [] ((.inr (.inr z)) :: st) n I L P) ∧
  (∀ (lv : List mm_V) a, (mm_ok n a 11) → mm_E d 282 1457 lv [] (.inr (.inr (some a)) :: []) n I L P = mm_kr d 282 1460 lv [] [] n (mm_rn d 143 [.inr (.inr (some a))] n I L P)) ∧
  (∀ (st : List mm_V) z (l0 : mm_V) (l1 : mm_V) (l3 : mm_V) (l4 : mm_V) (l5 : mm_V) (l6 : mm_V), mm_E d 282 1460 [l0, l1, (.inr (.inr z)), l3, l4, l5, l6] [] st n I L P = mm_E d 282 1461 [l0, l1, (.inr (.inr z)), l3, l4, l5, l6] [] ((.inr (.inr z)) :: st) n I L P) ∧
  (∀ (lv : List mm_V) a w0, (mm_ok n a 12) → mm_E d 282 1461 lv [] (.inr (.inr (some a)) :: [.inl w0]) n I L P = mm_kr d 282 1464 lv [] [.inl w0] n (mm_rn d 261 [.inr (.inr (some a))] n I L P)) ∧
  (∀ (lv : List mm_V) (st : List mm_V) a b, mm_E d 282 1464 lv [] (.inl b :: .inl a :: st) n I L P = if a = b then mm_E d 282 1494 lv [] st n I L P else mm_E d 282 1467 lv [] st n I L P) ∧
  (∀ (lv : List mm_V) (st : List mm_V), mm_E d 282 1467 lv [] st n I L P = mm_E d 282 1468 lv [] (.inl 0 :: st) n I L P) ∧
  (∀ (lv : List mm_V) z, (0 ≤ z ∧ z < 2) → mm_E d 282 1468 lv [] [.inl z] n I L P = some (some (.inl z), n, I, L, P)) :=
  ⟨fun _ _ _ _ _ _ _ _ => mq_al (i := 1) rfl rfl,
   fun _ _ h0 => mq_cVr (na := 0) rfl rfl (Nat.le_of_ble_eq_true rfl) (Nat.le_of_ble_eq_true rfl) h0,
   fun _ _ _ _ _ _ _ _ => mq_al (i := 2) rfl rfl,
   fun _ _ _ h0 => mq_cVr (na := 0) rfl rfl (Nat.le_of_ble_eq_true rfl) (Nat.le_of_ble_eq_true rfl) h0,
   fun _ _ _ _ => mq_ic_eq rfl,
   fun _ _ => mq_push rfl,
   fun _ _ h0 => mq_rz rfl h0⟩
set_option maxRecDepth 20000 in
set_option maxHeartbeats 8000000 in
theorem kL_law_38 (d n : Nat) (I L : mm_I) (P : mm_P) :
  (∀ (st : List mm_V) z (l0 : mm_V) (l2 : mm_V) (l3 : mm_V) (l4 : mm_V) (l5 : mm_V) (l6 : mm_V), mm_E d 282 1469 [l0, (.inr (.inr z)), l2, l3, l4, l5, l6] [] st n I L P = mm_E d 282 1470 [l0, (.inr (.inr z)), l2, l3, l4, l5, l6] [] ((.inr (.inr z)) :: st) n I L P) ∧
  (∀ (st : List mm_V) z (l1 : mm_V) (l2 : mm_V) (l3 : mm_V) (l4 : mm_V) (l5 : mm_V) (l6 : mm_V), mm_E d 282 1470 [(.inr (.inr z)), l1, l2, l3, l4, l5, l6] [] st n I L P = mm_E d 282 1471 [(.inr (.inr z)), l1, l2, l3, l4, l5, l6] [] ((.inr (.inr z)) :: st) n I L P) ∧
  (∀ (st : List mm_V) z (l0 : mm_V) (l1 : mm_V) (l2 : mm_V) (l3 : mm_V) (l5 : mm_V) (l6 : mm_V), mm_E d 282 1471 [l0, l1, l2, l3, (.inl z), l5, l6] [] st n I L P = mm_E d 282 1473 [l0, l1, l2, l3, (.inl z), l5, l6] [] ((.inl z) :: st) n I L P) ∧
  (∀ (lv : List mm_V) (st : List mm_V), mm_E d 282 1473 lv [] st n I L P = mm_E d 282 1474 lv [] (.inl 1 :: st) n I L P) ∧
  (∀ (lv : List mm_V) (st : List mm_V) a b, mm_E d 282 1474 lv [] (.inl b :: .inl a :: st) n I L P = mm_E d 282 1475 lv [] (.inl (mm_add a b) :: st) n I L P) ∧
  (∀ (lv : List mm_V) (st : List mm_V) i, (0 ≤ i ∧ i < I 1000006 5000) → mm_E d 282 1475 lv [] (.inl i :: .inr (.inr (some 1000006)) :: st) n I L P = mm_E d 282 1476 lv [] (.inl (I 1000006 i.toNat) :: st) n I L P) ∧
  (∀ (lv : List mm_V) a x0, (mm_ok n a 11) → mm_E d 282 1476 lv [] (.inl x0 :: .inr (.inr (some a)) :: []) n I L P = mm_kr d 282 1479 lv [] [] n (mm_rn d 144 [.inr (.inr (some a)), .inl x0] n I L P)) ∧
  (∀ (st : List mm_V) z (l0 : mm_V) (l1 : mm_V) (l3 : mm_V) (l4 : mm_V) (l5 : mm_V) (l6 : mm_V), mm_E d 282 1479 [l0, l1, (.inr (.inr z)), l3, l4, l5, l6] [] st n I L P = mm_E d 282 1480 [l0, l1, (.inr (.inr z)), l3, l4, l5, l6] [] ((.inr (.inr z)) :: st) n I L P) ∧
  (∀ (st : List mm_V) z (l1 : mm_V) (l2 : mm_V) (l3 : mm_V) (l4 : mm_V) (l5 : mm_V) (l6 : mm_V), mm_E d 282 1480 [(.inr (.inr z)), l1, l2, l3, l4, l5, l6] [] st n I L P = mm_E d 282 1481 [(.inr (.inr z)), l1, l2, l3, l4, l5, l6] [] ((.inr (.inr z)) :: st) n I L P) ∧
  (∀ (st : List mm_V) z (l0 : mm_V) (l1 : mm_V) (l2 : mm_V) (l3 : mm_V) (l5 : mm_V) (l6 : mm_V), mm_E d 282 1481 [l0, l1, l2, l3, (.inl z), l5, l6] [] st n I L P = mm_E d 282 1483 [l0, l1, l2, l3, (.inl z), l5, l6] [] ((.inl z) :: st) n I L P) ∧
  (∀ (lv : List mm_V) (st : List mm_V), mm_E d 282 1483 lv [] st n I L P = mm_E d 282 1484 lv [] (.inl 1 :: st) n I L P) ∧
  (∀ (lv : List mm_V) (st : List mm_V) a b, mm_E d 282 1484 lv [] (.inl b :: .inl a :: st) n I L P = mm_E d 282 1485 lv [] (.inl (mm_add a b) :: st) n I L P) ∧
  (∀ (lv : List mm_V) (st : List mm_V) i, (0 ≤ i ∧ i < I 1000006 5000) → mm_E d 282 1485 lv [] (.inl i :: .inr (.inr (some 1000006)) :: st) n I L P = mm_E d 282 1486 lv [] (.inl (I 1000006 i.toNat) :: st) n I L P) ∧
  (∀ (lv : List mm_V) a x0 w0, (mm_ok n a 12) → mm_E d 282 1486 lv [] (.inl x0 :: .inr (.inr (some a)) :: [.inl w0]) n I L P = mm_kr d 282 1489 lv [] [.inl w0] n (mm_rn d 262 [.inr (.inr (some a)), .inl x0] n I L P)) ∧
  (∀ (lv : List mm_V) (st : List mm_V) a b, mm_E d 282 1489 lv [] (.inl b :: .inl a :: st) n I L P = if a = b then mm_E d 282 1494 lv [] st n I L P else mm_E d 282 1492 lv [] st n I L P) ∧
  (∀ (lv : List mm_V) (st : List mm_V), mm_E d 282 1492 lv [] st n I L P = mm_E d 282 1493 lv [] (.inl 0 :: st) n I L P) ∧
  (∀ (lv : List mm_V) z, (0 ≤ z ∧ z < 2) → mm_E d 282 1493 lv [] [.inl z] n I L P = some (some (.inl z), n, I, L, P)) :=
  ⟨fun _ _ _ _ _ _ _ _ => mq_al (i := 1) rfl rfl,
   fun _ _ _ _ _ _ _ _ => mq_al (i := 0) rfl rfl,
   fun _ _ _ _ _ _ _ _ => mq_il (i := 4) rfl rfl,
   fun _ _ => mq_push rfl,
   fun _ _ _ _ => mq_bi rfl,
   fun _ _ _ h0 => mq_xald rfl h0,
   fun _ _ _ h0 => mq_cVr (na := 1) rfl rfl (Nat.le_of_ble_eq_true rfl) (Nat.le_of_ble_eq_true rfl) h0,
   fun _ _ _ _ _ _ _ _ => mq_al (i := 2) rfl rfl,
   fun _ _ _ _ _ _ _ _ => mq_al (i := 0) rfl rfl,
   fun _ _ _ _ _ _ _ _ => mq_il (i := 4) rfl rfl,
   fun _ _ => mq_push rfl,
   fun _ _ _ _ => mq_bi rfl,
   fun _ _ _ h0 => mq_xald rfl h0,
   fun _ _ _ _ h0 => mq_cVr (na := 1) rfl rfl (Nat.le_of_ble_eq_true rfl) (Nat.le_of_ble_eq_true rfl) h0,
   fun _ _ _ _ => mq_ic_eq rfl,
   fun _ _ => mq_push rfl,
   fun _ _ h0 => mq_rz rfl h0⟩
set_option maxRecDepth 20000 in
set_option maxHeartbeats 8000000 in
theorem kL_law_e (d n : Nat) (I L : mm_I) (P : mm_P) :
  (∀ (st : List mm_V) z (l0 : mm_V) (l1 : mm_V) (l2 : mm_V) (l3 : mm_V) (l5 : mm_V) (l6 : mm_V), mm_E d 282 1494 [l0, l1, l2, l3, (.inl z), l5, l6] [] st n I L P = mm_E d 282 1497 [l0, l1, l2, l3, (.inl (mm_add z 6)), l5, l6] [] st n I L P) ∧
  (∀ (lv : List mm_V) (st : List mm_V), mm_E d 282 1497 lv [] st n I L P = mm_E d 282 23 lv [] st n I L P) ∧
  (∀ (lv : List mm_V) (st : List mm_V), mm_E d 282 1500 lv [] st n I L P = mm_E d 282 1501 lv [] (.inl 1 :: st) n I L P) ∧
  (∀ (lv : List mm_V) z, (0 ≤ z ∧ z < 2) → mm_E d 282 1501 lv [] [.inl z] n I L P = some (some (.inl z), n, I, L, P)) :=
  ⟨fun _ _ _ _ _ _ _ _ => mq_iinc (i := 4) rfl rfl rfl rfl,
   fun _ _ => mq_go rfl,
   fun _ _ => mq_push rfl,
   fun _ _ h0 => mq_rz rfl h0⟩
theorem hL_law_23 (d n : Nat) (I L : mm_I) (P : mm_P) : ∀ (st : List mm_V) z (l0 : mm_V) (l1 : mm_V) (l2 : mm_V) (l3 : mm_V) (l5 : mm_V) (l6 : mm_V), mm_E d 282 23 [l0, l1, l2, l3, (.inl z), l5, l6] [] st n I L P = mm_E d 282 25 [l0, l1, l2, l3, (.inl z), l5, l6] [] ((.inl z) :: st) n I L P := fun _ _ _ _ _ _ _ _ => mq_il (i := 4) rfl rfl
theorem eL_law (d n : Nat) (I L : mm_I) (P : mm_P) (x0 : Option Nat) : mm_rn (d + 1) 282 [.inr (.inr x0)] n I L P = mm_E d 282 0 [.inr (.inr x0), mm_junk, mm_junk, mm_junk, mm_junk, mm_junk, mm_junk] [] [] n I L P := rfl
