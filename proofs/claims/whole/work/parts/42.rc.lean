/-! step rules of each method, printed by program -/
set_option maxRecDepth 20000 in
set_option maxHeartbeats 8000000 in
theorem kX11_init (d n : Nat) (I L : mm_I) (P : mm_P) :
  (∀ (st : List mm_V) z (l1 : mm_V), mm_E d 83 0 [(.inr (.inr z)), l1] [] st n I L P = mm_E d 83 1 [(.inr (.inr z)), l1] [] ((.inr (.inr z)) :: st) n I L P) ∧
  (∀ (lv : List mm_V) a, (a < n) → mm_E d 83 1 lv [] (.inr (.inr (some a)) :: []) n I L P = mm_E d 83 4 lv [] [] n I L P) ∧
  (∀ (st : List mm_V) z (l1 : mm_V), mm_E d 83 4 [(.inr (.inr z)), l1] [] st n I L P = mm_E d 83 5 [(.inr (.inr z)), l1] [] ((.inr (.inr z)) :: st) n I L P) ∧
  (∀ (lv : List mm_V) (st : List mm_V), (n < mm_NC ∧ (mm_ty n).1 = 8) → mm_E d 83 5 lv [] st n I L P = mm_E d 83 8 lv [] (.inr (.inr (some n)) :: st) (n + 1) (mm_zi I n) (mm_zi L n) (mm_zp P n)) ∧
  (∀ (lv : List mm_V) (st : List mm_V) a, mm_E d 83 8 lv [] ((.inr (.inr a)) :: st) n I L P = mm_E d 83 9 lv [] ((.inr (.inr a)) :: (.inr (.inr a)) :: st) n I L P) ∧
  (∀ (lv : List mm_V) a w0 w1, (a < n) → mm_E d 83 9 lv [] (.inr (.inr (some a)) :: [.inr (.inr w0), .inr (.inr w1)]) n I L P = mm_kv d 83 12 lv [] [.inr (.inr w0), .inr (.inr w1)] n (mm_rn d 57 [.inr (.inr (some a))] n I L P)) ∧
  (∀ (lv : List mm_V) (st : List mm_V) a z, (mm_ok n a 11) → mm_E d 83 12 lv [] (.inr (.inr z) :: .inr (.inr (some a)) :: st) n I L P = mm_E d 83 15 lv [] st n I L (mm_up P a 0 z)) ∧
  (∀ (st : List mm_V) z (l1 : mm_V), mm_E d 83 15 [(.inr (.inr z)), l1] [] st n I L P = mm_E d 83 16 [(.inr (.inr z)), l1] [] ((.inr (.inr z)) :: st) n I L P) ∧
  (∀ (lv : List mm_V) (st : List mm_V), (n < mm_NC ∧ (mm_ty n).1 = 10) → mm_E d 83 16 lv [] st n I L P = mm_E d 83 19 lv [] (.inr (.inr (some n)) :: st) (n + 1) (mm_zi I n) (mm_zi L n) (mm_zp P n)) ∧
  (∀ (lv : List mm_V) (st : List mm_V) a, mm_E d 83 19 lv [] ((.inr (.inr a)) :: st) n I L P = mm_E d 83 20 lv [] ((.inr (.inr a)) :: (.inr (.inr a)) :: st) n I L P) ∧
  (∀ (lv : List mm_V) a w0 w1, (a < n) → mm_E d 83 20 lv [] (.inr (.inr (some a)) :: [.inr (.inr w0), .inr (.inr w1)]) n I L P = mm_kv d 83 23 lv [] [.inr (.inr w0), .inr (.inr w1)] n (mm_rn d 71 [.inr (.inr (some a))] n I L P)) ∧
  (∀ (lv : List mm_V) (st : List mm_V) a z, (mm_ok n a 11) → mm_E d 83 23 lv [] (.inr (.inr z) :: .inr (.inr (some a)) :: st) n I L P = mm_E d 83 26 lv [] st n I L (mm_up P a 1 z)) ∧
  (∀ (st : List mm_V) z (l1 : mm_V), mm_E d 83 26 [(.inr (.inr z)), l1] [] st n I L P = mm_E d 83 27 [(.inr (.inr z)), l1] [] ((.inr (.inr z)) :: st) n I L P) ∧
  (∀ (lv : List mm_V) (st : List mm_V), (n < mm_NC ∧ (mm_ty n).1 = 9) → mm_E d 83 27 lv [] st n I L P = mm_E d 83 30 lv [] (.inr (.inr (some n)) :: st) (n + 1) (mm_zi I n) (mm_zi L n) (mm_zp P n)) ∧
  (∀ (lv : List mm_V) (st : List mm_V) a, mm_E d 83 30 lv [] ((.inr (.inr a)) :: st) n I L P = mm_E d 83 31 lv [] ((.inr (.inr a)) :: (.inr (.inr a)) :: st) n I L P) ∧
  (∀ (lv : List mm_V) a w0 w1, (a < n) → mm_E d 83 31 lv [] (.inr (.inr (some a)) :: [.inr (.inr w0), .inr (.inr w1)]) n I L P = mm_kv d 83 34 lv [] [.inr (.inr w0), .inr (.inr w1)] n (mm_rn d 62 [.inr (.inr (some a))] n I L P)) ∧
  (∀ (lv : List mm_V) (st : List mm_V) a z, (mm_ok n a 11) → mm_E d 83 34 lv [] (.inr (.inr z) :: .inr (.inr (some a)) :: st) n I L P = mm_E d 83 37 lv [] st n I L (mm_up P a 2 z)) ∧
  (∀ (st : List mm_V) z (l1 : mm_V), mm_E d 83 37 [(.inr (.inr z)), l1] [] st n I L P = mm_E d 83 38 [(.inr (.inr z)), l1] [] ((.inr (.inr z)) :: st) n I L P) ∧
  (∀ (lv : List mm_V) (st : List mm_V), (n < mm_NC ∧ (mm_ty n).1 = 9) → mm_E d 83 38 lv [] st n I L P = mm_E d 83 41 lv [] (.inr (.inr (some n)) :: st) (n + 1) (mm_zi I n) (mm_zi L n) (mm_zp P n)) ∧
  (∀ (lv : List mm_V) (st : List mm_V) a, mm_E d 83 41 lv [] ((.inr (.inr a)) :: st) n I L P = mm_E d 83 42 lv [] ((.inr (.inr a)) :: (.inr (.inr a)) :: st) n I L P) ∧
  (∀ (lv : List mm_V) a w0 w1, (a < n) → mm_E d 83 42 lv [] (.inr (.inr (some a)) :: [.inr (.inr w0), .inr (.inr w1)]) n I L P = mm_kv d 83 45 lv [] [.inr (.inr w0), .inr (.inr w1)] n (mm_rn d 62 [.inr (.inr (some a))] n I L P)) ∧
  (∀ (lv : List mm_V) (st : List mm_V) a z, (mm_ok n a 11) → mm_E d 83 45 lv [] (.inr (.inr z) :: .inr (.inr (some a)) :: st) n I L P = mm_E d 83 48 lv [] st n I L (mm_up P a 3 z)) ∧
  (∀ (st : List mm_V) z (l1 : mm_V), mm_E d 83 48 [(.inr (.inr z)), l1] [] st n I L P = mm_E d 83 49 [(.inr (.inr z)), l1] [] ((.inr (.inr z)) :: st) n I L P) ∧
  (∀ (lv : List mm_V) (st : List mm_V), mm_E d 83 49 lv [] st n I L P = mm_E d 83 50 lv [] (.inl 5 :: st) n I L P) ∧
  (∀ (lv : List mm_V) (st : List mm_V) z, (n < mm_NC ∧ mm_ty n = (24, z.toNat) ∧ 0 ≤ z) → mm_E d 83 50 lv [] (.inl z :: st) n I L P = mm_E d 83 53 lv [] (.inr (.inr (some n)) :: st) (n + 1) (mm_zi I n) (mm_zi L n) (mm_zp P n)) ∧
  (∀ (lv : List mm_V) (st : List mm_V) a z, (mm_ok n a 11) → mm_E d 83 53 lv [] (.inr (.inr z) :: .inr (.inr (some a)) :: st) n I L P = mm_E d 83 56 lv [] st n I L (mm_up P a 4 z)) ∧
  (∀ (lv : List mm_V) (st : List mm_V), mm_E d 83 56 lv [] st n I L P = mm_E d 83 57 lv [] (.inl 0 :: st) n I L P) ∧
  (∀ (st : List mm_V) z (l0 : mm_V) (l1 : mm_V), mm_E d 83 57 [l0, l1] [] ((.inl z) :: st) n I L P = mm_E d 83 58 [l0, (.inl z)] [] st n I L P) ∧
  (∀ (st : List mm_V) z (l1 : mm_V), mm_E d 83 59 [(.inr (.inr z)), l1] [] st n I L P = mm_E d 83 60 [(.inr (.inr z)), l1] [] ((.inr (.inr z)) :: st) n I L P) ∧
  (∀ (lv : List mm_V) (st : List mm_V) a, (mm_ok n a 11) → mm_E d 83 60 lv [] (.inr (.inr (some a)) :: st) n I L P = mm_E d 83 63 lv [] (.inr (.inr (P a 4)) :: st) n I L P) ∧
  (∀ (lv : List mm_V) (st : List mm_V) a, (mm_ok n a 24) → mm_E d 83 63 lv [] (.inr (.inr (some a)) :: st) n I L P = mm_E d 83 64 lv [] (.inl ((mm_ty a).2 : Int) :: st) n I L P) ∧
  (∀ (lv : List mm_V) (st : List mm_V) a b, mm_E d 83 64 lv [] (.inl b :: .inl a :: st) n I L P = if b ≤ a then mm_E d 83 86 lv [] st n I L P else mm_E d 83 67 lv [] st n I L P) ∧
  (∀ (st : List mm_V) z (l1 : mm_V), mm_E d 83 67 [(.inr (.inr z)), l1] [] st n I L P = mm_E d 83 68 [(.inr (.inr z)), l1] [] ((.inr (.inr z)) :: st) n I L P) ∧
  (∀ (lv : List mm_V) (st : List mm_V) a, (mm_ok n a 11) → mm_E d 83 68 lv [] (.inr (.inr (some a)) :: st) n I L P = mm_E d 83 71 lv [] (.inr (.inr (P a 4)) :: st) n I L P) ∧
  (∀ (st : List mm_V) z (l0 : mm_V), mm_E d 83 71 [l0, (.inl z)] [] st n I L P = mm_E d 83 72 [l0, (.inl z)] [] ((.inl z) :: st) n I L P) ∧
  (∀ (lv : List mm_V) (st : List mm_V), (n < mm_NC ∧ (mm_ty n).1 = 3) → mm_E d 83 72 lv [] st n I L P = mm_E d 83 75 lv [] (.inr (.inr (some n)) :: st) (n + 1) (mm_zi I n) (mm_zi L n) (mm_zp P n)) ∧
  (∀ (lv : List mm_V) (st : List mm_V) a, mm_E d 83 75 lv [] ((.inr (.inr a)) :: st) n I L P = mm_E d 83 76 lv [] ((.inr (.inr a)) :: (.inr (.inr a)) :: st) n I L P) ∧
  (∀ (lv : List mm_V) a w0 w1 w2, (a < n) → mm_E d 83 76 lv [] (.inr (.inr (some a)) :: [.inr (.inr w0), .inl w1, .inr (.inr w2)]) n I L P = mm_kv d 83 79 lv [] [.inr (.inr w0), .inl w1, .inr (.inr w2)] n (mm_rn d 21 [.inr (.inr (some a))] n I L P)) ∧
  (∀ (lv : List mm_V) (st : List mm_V) a i v, (mm_ix n a 24 i) → (mm_ok n v 3) → mm_E d 83 79 lv [] (.inr (.inr (some v)) :: .inl i :: .inr (.inr (some a)) :: st) n I L P = mm_E d 83 80 lv [] st n I L (mm_up P a i.toNat (some v))) ∧
  (∀ (st : List mm_V) z (l0 : mm_V), mm_E d 83 80 [l0, (.inl z)] [] st n I L P = mm_E d 83 83 [l0, (.inl (mm_add z 1))] [] st n I L P) ∧
  (∀ (lv : List mm_V) (st : List mm_V), mm_E d 83 83 lv [] st n I L P = mm_E d 83 58 lv [] st n I L P) ∧
  (∀ (st : List mm_V) z (l1 : mm_V), mm_E d 83 86 [(.inr (.inr z)), l1] [] st n I L P = mm_E d 83 87 [(.inr (.inr z)), l1] [] ((.inr (.inr z)) :: st) n I L P) ∧
  (∀ (lv : List mm_V) (st : List mm_V), mm_E d 83 87 lv [] st n I L P = mm_E d 83 88 lv [] (.inl 0 :: st) n I L P) ∧
  (∀ (lv : List mm_V) (st : List mm_V) a z, (mm_ok n a 11) → mm_E d 83 88 lv [] (.inl z :: .inr (.inr (some a)) :: st) n I L P = mm_E d 83 91 lv [] st n (mm_ui I a 5 z) L P) ∧
  (∀ (st : List mm_V) z (l1 : mm_V), mm_E d 83 91 [(.inr (.inr z)), l1] [] st n I L P = mm_E d 83 92 [(.inr (.inr z)), l1] [] ((.inr (.inr z)) :: st) n I L P) ∧
  (∀ (lv : List mm_V) (st : List mm_V), mm_E d 83 92 lv [] st n I L P = mm_E d 83 93 lv [] (.inl (-1) :: st) n I L P) ∧
  (∀ (lv : List mm_V) (st : List mm_V) a z, (mm_ok n a 11) → mm_E d 83 93 lv [] (.inl z :: .inr (.inr (some a)) :: st) n I L P = mm_E d 83 96 lv [] st n (mm_ui I a 6 z) L P) ∧
  (∀ (st : List mm_V) z (l1 : mm_V), mm_E d 83 96 [(.inr (.inr z)), l1] [] st n I L P = mm_E d 83 97 [(.inr (.inr z)), l1] [] ((.inr (.inr z)) :: st) n I L P) ∧
  (∀ (lv : List mm_V) (st : List mm_V), mm_E d 83 97 lv [] st n I L P = mm_E d 83 98 lv [] (.inl 2 :: st) n I L P) ∧
  (∀ (lv : List mm_V) (st : List mm_V) a z, (mm_ok n a 11) → mm_E d 83 98 lv [] (.inl z :: .inr (.inr (some a)) :: st) n I L P = mm_E d 83 101 lv [] st n (mm_ui I a 7 z) L P) ∧
  (∀ (st : List mm_V) z (l1 : mm_V), mm_E d 83 101 [(.inr (.inr z)), l1] [] st n I L P = mm_E d 83 102 [(.inr (.inr z)), l1] [] ((.inr (.inr z)) :: st) n I L P) ∧
  (∀ (lv : List mm_V) (st : List mm_V), (n < mm_NC ∧ (mm_ty n).1 = 5) → mm_E d 83 102 lv [] st n I L P = mm_E d 83 105 lv [] (.inr (.inr (some n)) :: st) (n + 1) (mm_zi I n) (mm_zi L n) (mm_zp P n)) ∧
  (∀ (lv : List mm_V) (st : List mm_V) a, mm_E d 83 105 lv [] ((.inr (.inr a)) :: st) n I L P = mm_E d 83 106 lv [] ((.inr (.inr a)) :: (.inr (.inr a)) :: st) n I L P) ∧
  (∀ (lv : List mm_V) a w0 w1, (a < n) → mm_E d 83 106 lv [] (.inr (.inr (some a)) :: [.inr (.inr w0), .inr (.inr w1)]) n I L P = mm_kv d 83 109 lv [] [.inr (.inr w0), .inr (.inr w1)] n (mm_rn d 39 [.inr (.inr (some a))] n I L P)) ∧
  (∀ (lv : List mm_V) (st : List mm_V) a z, (mm_ok n a 11) → mm_E d 83 109 lv [] (.inr (.inr z) :: .inr (.inr (some a)) :: st) n I L P = mm_E d 83 112 lv [] st n I L (mm_up P a 8 z)) ∧
  (∀ (st : List mm_V) z (l1 : mm_V), mm_E d 83 112 [(.inr (.inr z)), l1] [] st n I L P = mm_E d 83 113 [(.inr (.inr z)), l1] [] ((.inr (.inr z)) :: st) n I L P) ∧
  (∀ (lv : List mm_V) (st : List mm_V), (n < mm_NC ∧ (mm_ty n).1 = 1) → mm_E d 83 113 lv [] st n I L P = mm_E d 83 116 lv [] (.inr (.inr (some n)) :: st) (n + 1) (mm_zi I n) (mm_zi L n) (mm_zp P n)) ∧
  (∀ (lv : List mm_V) (st : List mm_V) a, mm_E d 83 116 lv [] ((.inr (.inr a)) :: st) n I L P = mm_E d 83 117 lv [] ((.inr (.inr a)) :: (.inr (.inr a)) :: st) n I L P) ∧
  (∀ (lv : List mm_V) a w0 w1, (a < n) → mm_E d 83 117 lv [] (.inr (.inr (some a)) :: [.inr (.inr w0), .inr (.inr w1)]) n I L P = mm_kv d 83 120 lv [] [.inr (.inr w0), .inr (.inr w1)] n (mm_rn d 7 [.inr (.inr (some a))] n I L P)) ∧
  (∀ (lv : List mm_V) (st : List mm_V) a z, (mm_ok n a 11) → mm_E d 83 120 lv [] (.inr (.inr z) :: .inr (.inr (some a)) :: st) n I L P = mm_E d 83 123 lv [] st n I L (mm_up P a 9 z)) ∧
  (∀ (st : List mm_V) z (l1 : mm_V), mm_E d 83 123 [(.inr (.inr z)), l1] [] st n I L P = mm_E d 83 124 [(.inr (.inr z)), l1] [] ((.inr (.inr z)) :: st) n I L P) ∧
  (∀ (lv : List mm_V) (st : List mm_V), (n < mm_NC ∧ (mm_ty n).1 = 6) → mm_E d 83 124 lv [] st n I L P = mm_E d 83 127 lv [] (.inr (.inr (some n)) :: st) (n + 1) (mm_zi I n) (mm_zi L n) (mm_zp P n)) ∧
  (∀ (lv : List mm_V) (st : List mm_V) a, mm_E d 83 127 lv [] ((.inr (.inr a)) :: st) n I L P = mm_E d 83 128 lv [] ((.inr (.inr a)) :: (.inr (.inr a)) :: st) n I L P) ∧
  (∀ (lv : List mm_V) a w0 w1, (a < n) → mm_E d 83 128 lv [] (.inr (.inr (some a)) :: [.inr (.inr w0), .inr (.inr w1)]) n I L P = mm_kv d 83 131 lv [] [.inr (.inr w0), .inr (.inr w1)] n (mm_rn d 50 [.inr (.inr (some a))] n I L P)) ∧
  (∀ (lv : List mm_V) (st : List mm_V) a z, (mm_ok n a 11) → mm_E d 83 131 lv [] (.inr (.inr z) :: .inr (.inr (some a)) :: st) n I L P = mm_E d 83 134 lv [] st n I L (mm_up P a 10 z)) ∧
  (∀ (st : List mm_V) z (l1 : mm_V), mm_E d 83 134 [(.inr (.inr z)), l1] [] st n I L P = mm_E d 83 135 [(.inr (.inr z)), l1] [] ((.inr (.inr z)) :: st) n I L P) ∧
  (∀ (lv : List mm_V) (st : List mm_V), (n < mm_NC ∧ (mm_ty n).1 = 5) → mm_E d 83 135 lv [] st n I L P = mm_E d 83 138 lv [] (.inr (.inr (some n)) :: st) (n + 1) (mm_zi I n) (mm_zi L n) (mm_zp P n)) ∧
  (∀ (lv : List mm_V) (st : List mm_V) a, mm_E d 83 138 lv [] ((.inr (.inr a)) :: st) n I L P = mm_E d 83 139 lv [] ((.inr (.inr a)) :: (.inr (.inr a)) :: st) n I L P) ∧
  (∀ (lv : List mm_V) a w0 w1, (a < n) → mm_E d 83 139 lv [] (.inr (.inr (some a)) :: [.inr (.inr w0), .inr (.inr w1)]) n I L P = mm_kv d 83 142 lv [] [.inr (.inr w0), .inr (.inr w1)] n (mm_rn d 39 [.inr (.inr (some a))] n I L P)) ∧
  (∀ (lv : List mm_V) (st : List mm_V) a z, (mm_ok n a 11) → mm_E d 83 142 lv [] (.inr (.inr z) :: .inr (.inr (some a)) :: st) n I L P = mm_E d 83 145 lv [] st n I L (mm_up P a 11 z)) ∧
  (∀ (st : List mm_V) z (l1 : mm_V), mm_E d 83 145 [(.inr (.inr z)), l1] [] st n I L P = mm_E d 83 146 [(.inr (.inr z)), l1] [] ((.inr (.inr z)) :: st) n I L P) ∧
  (∀ (lv : List mm_V) (st : List mm_V), (n < mm_NC ∧ (mm_ty n).1 = 1) → mm_E d 83 146 lv [] st n I L P = mm_E d 83 149 lv [] (.inr (.inr (some n)) :: st) (n + 1) (mm_zi I n) (mm_zi L n) (mm_zp P n)) ∧
  (∀ (lv : List mm_V) (st : List mm_V) a, mm_E d 83 149 lv [] ((.inr (.inr a)) :: st) n I L P = mm_E d 83 150 lv [] ((.inr (.inr a)) :: (.inr (.inr a)) :: st) n I L P) ∧
  (∀ (lv : List mm_V) a w0 w1, (a < n) → mm_E d 83 150 lv [] (.inr (.inr (some a)) :: [.inr (.inr w0), .inr (.inr w1)]) n I L P = mm_kv d 83 153 lv [] [.inr (.inr w0), .inr (.inr w1)] n (mm_rn d 7 [.inr (.inr (some a))] n I L P)) ∧
  (∀ (lv : List mm_V) (st : List mm_V) a z, (mm_ok n a 11) → mm_E d 83 153 lv [] (.inr (.inr z) :: .inr (.inr (some a)) :: st) n I L P = mm_E d 83 156 lv [] st n I L (mm_up P a 12 z)) ∧
  (∀ (st : List mm_V) z (l1 : mm_V), mm_E d 83 156 [(.inr (.inr z)), l1] [] st n I L P = mm_E d 83 157 [(.inr (.inr z)), l1] [] ((.inr (.inr z)) :: st) n I L P) ∧
  (∀ (lv : List mm_V) (st : List mm_V), mm_E d 83 157 lv [] st n I L P = mm_E d 83 158 lv [] (.inl 0 :: st) n I L P) ∧
  (∀ (lv : List mm_V) (st : List mm_V) a z, (mm_ok n a 11) → (z = 0 ∨ z = 1) → mm_E d 83 158 lv [] (.inl z :: .inr (.inr (some a)) :: st) n I L P = mm_E d 83 161 lv [] st n (mm_ui I a 13 z) L P) ∧
  (∀ (st : List mm_V) z (l1 : mm_V), mm_E d 83 161 [(.inr (.inr z)), l1] [] st n I L P = mm_E d 83 162 [(.inr (.inr z)), l1] [] ((.inr (.inr z)) :: st) n I L P) ∧
  (∀ (lv : List mm_V) (st : List mm_V), (n < mm_NC ∧ (mm_ty n).1 = 2) → mm_E d 83 162 lv [] st n I L P = mm_E d 83 165 lv [] (.inr (.inr (some n)) :: st) (n + 1) (mm_zi I n) (mm_zi L n) (mm_zp P n)) ∧
  (∀ (lv : List mm_V) (st : List mm_V) a, mm_E d 83 165 lv [] ((.inr (.inr a)) :: st) n I L P = mm_E d 83 166 lv [] ((.inr (.inr a)) :: (.inr (.inr a)) :: st) n I L P) ∧
  (∀ (lv : List mm_V) a w0 w1, (a < n) → mm_E d 83 166 lv [] (.inr (.inr (some a)) :: [.inr (.inr w0), .inr (.inr w1)]) n I L P = mm_kv d 83 169 lv [] [.inr (.inr w0), .inr (.inr w1)] n (mm_rn d 11 [.inr (.inr (some a))] n I L P)) ∧
  (∀ (lv : List mm_V) (st : List mm_V) a z, (mm_ok n a 11) → mm_E d 83 169 lv [] (.inr (.inr z) :: .inr (.inr (some a)) :: st) n I L P = mm_E d 83 172 lv [] st n I L (mm_up P a 14 z)) ∧
  (∀ (st : List mm_V) z (l1 : mm_V), mm_E d 83 172 [(.inr (.inr z)), l1] [] st n I L P = mm_E d 83 173 [(.inr (.inr z)), l1] [] ((.inr (.inr z)) :: st) n I L P) ∧
  (∀ (lv : List mm_V) (st : List mm_V), (n < mm_NC ∧ (mm_ty n).1 = 0) → mm_E d 83 173 lv [] st n I L P = mm_E d 83 176 lv [] (.inr (.inr (some n)) :: st) (n + 1) (mm_zi I n) (mm_zi L n) (mm_zp P n)) ∧
  (∀ (lv : List mm_V) (st : List mm_V) a, mm_E d 83 176 lv [] ((.inr (.inr a)) :: st) n I L P = mm_E d 83 177 lv [] ((.inr (.inr a)) :: (.inr (.inr a)) :: st) n I L P) ∧
  (∀ (lv : List mm_V) a w0 w1, (a < n) → mm_E d 83 177 lv [] (.inr (.inr (some a)) :: [.inr (.inr w0), .inr (.inr w1)]) n I L P = mm_kv d 83 180 lv [] [.inr (.inr w0), .inr (.inr w1)] n (mm_rn d 0 [.inr (.inr (some a))] n I L P)) ∧
  (∀ (lv : List mm_V) (st : List mm_V) a z, (mm_ok n a 11) → mm_E d 83 180 lv [] (.inr (.inr z) :: .inr (.inr (some a)) :: st) n I L P = mm_E d 83 183 lv [] st n I L (mm_up P a 15 z)) ∧
  (∀ (st : List mm_V) z (l1 : mm_V), mm_E d 83 183 [(.inr (.inr z)), l1] [] st n I L P = mm_E d 83 184 [(.inr (.inr z)), l1] [] ((.inr (.inr z)) :: st) n I L P) ∧
  (∀ (lv : List mm_V) (st : List mm_V), (n < mm_NC ∧ (mm_ty n).1 = 7) → mm_E d 83 184 lv [] st n I L P = mm_E d 83 187 lv [] (.inr (.inr (some n)) :: st) (n + 1) (mm_zi I n) (mm_zi L n) (mm_zp P n)) ∧
  (∀ (lv : List mm_V) (st : List mm_V) a, mm_E d 83 187 lv [] ((.inr (.inr a)) :: st) n I L P = mm_E d 83 188 lv [] ((.inr (.inr a)) :: (.inr (.inr a)) :: st) n I L P) ∧
  (∀ (lv : List mm_V) a w0 w1, (a < n) → mm_E d 83 188 lv [] (.inr (.inr (some a)) :: [.inr (.inr w0), .inr (.inr w1)]) n I L P = mm_kv d 83 191 lv [] [.inr (.inr w0), .inr (.inr w1)] n (mm_rn d 53 [.inr (.inr (some a))] n I L P)) ∧
  (∀ (lv : List mm_V) (st : List mm_V) a z, (mm_ok n a 11) → mm_E d 83 191 lv [] (.inr (.inr z) :: .inr (.inr (some a)) :: st) n I L P = mm_E d 83 194 lv [] st n I L (mm_up P a 16 z)) ∧
  (∀ (st : List mm_V) z (l1 : mm_V), mm_E d 83 194 [(.inr (.inr z)), l1] [] st n I L P = mm_E d 83 195 [(.inr (.inr z)), l1] [] ((.inr (.inr z)) :: st) n I L P) ∧
  (∀ (lv : List mm_V) (st : List mm_V), mm_E d 83 195 lv [] st n I L P = mm_E d 83 196 lv [] (.inl 5 :: st) n I L P) ∧
  (∀ (lv : List mm_V) (st : List mm_V) z, (n < mm_NC ∧ mm_ty n = (20, z.toNat) ∧ 0 ≤ z) → mm_E d 83 196 lv [] (.inl z :: st) n I L P = mm_E d 83 198 lv [] (.inr (.inr (some n)) :: st) (n + 1) (mm_zi I n) (mm_zi L n) (mm_zp P n)) ∧
  (∀ (lv : List mm_V) (st : List mm_V) a z, (mm_ok n a 11) → mm_E d 83 198 lv [] (.inr (.inr z) :: .inr (.inr (some a)) :: st) n I L P = mm_E d 83 201 lv [] st n I L (mm_up P a 17 z)) ∧
  (∀ (lv : List mm_V), mm_E d 83 201 lv [] [] n I L P = some (none, n, I, L, P)) :=
  ⟨fun _ _ _ => mq_al (i := 0) rfl rfl,
   fun _ _ h0 => mq_oi rfl h0 (Nat.le_of_ble_eq_true rfl),
   fun _ _ _ => mq_al (i := 0) rfl rfl,
   fun _ _ h0 => mq_new rfl h0,
   fun _ _ _ => mq_dup rfl rfl,
   fun _ _ _ _ h0 => mq_cI (na := 0) rfl rfl (Nat.le_of_ble_eq_true rfl) (Nat.le_of_ble_eq_true rfl) h0,
   fun _ _ _ _ h0 => mq_putR rfl h0,
   fun _ _ _ => mq_al (i := 0) rfl rfl,
   fun _ _ h0 => mq_new rfl h0,
   fun _ _ _ => mq_dup rfl rfl,
   fun _ _ _ _ h0 => mq_cI (na := 0) rfl rfl (Nat.le_of_ble_eq_true rfl) (Nat.le_of_ble_eq_true rfl) h0,
   fun _ _ _ _ h0 => mq_putR rfl h0,
   fun _ _ _ => mq_al (i := 0) rfl rfl,
   fun _ _ h0 => mq_new rfl h0,
   fun _ _ _ => mq_dup rfl rfl,
   fun _ _ _ _ h0 => mq_cI (na := 0) rfl rfl (Nat.le_of_ble_eq_true rfl) (Nat.le_of_ble_eq_true rfl) h0,
   fun _ _ _ _ h0 => mq_putR rfl h0,
   fun _ _ _ => mq_al (i := 0) rfl rfl,
   fun _ _ h0 => mq_new rfl h0,
   fun _ _ _ => mq_dup rfl rfl,
   fun _ _ _ _ h0 => mq_cI (na := 0) rfl rfl (Nat.le_of_ble_eq_true rfl) (Nat.le_of_ble_eq_true rfl) h0,
   fun _ _ _ _ h0 => mq_putR rfl h0,
   fun _ _ _ => mq_al (i := 0) rfl rfl,
   fun _ _ => mq_push rfl,
   fun _ _ _ h0 => mq_newa rfl h0,
   fun _ _ _ _ h0 => mq_putR rfl h0,
   fun _ _ => mq_push rfl,
   fun _ _ _ _ => mq_is (i := 1) rfl rfl rfl,
   fun _ _ _ => mq_al (i := 0) rfl rfl,
   fun _ _ _ h0 => mq_getR rfl h0,
   fun _ _ _ h0 => mq_alen rfl h0,
   fun _ _ _ _ => mq_ic_ge rfl,
   fun _ _ _ => mq_al (i := 0) rfl rfl,
   fun _ _ _ h0 => mq_getR rfl h0,
   fun _ _ _ => mq_il (i := 1) rfl rfl,
   fun _ _ h0 => mq_new rfl h0,
   fun _ _ _ => mq_dup rfl rfl,
   fun _ _ _ _ _ h0 => mq_cI (na := 0) rfl rfl (Nat.le_of_ble_eq_true rfl) (Nat.le_of_ble_eq_true rfl) h0,
   fun _ _ _ _ _ h0 h1 => mq_aast rfl h0 h1,
   fun _ _ _ => mq_iinc (i := 1) rfl rfl rfl rfl,
   fun _ _ => mq_go rfl,
   fun _ _ _ => mq_al (i := 0) rfl rfl,
   fun _ _ => mq_push rfl,
   fun _ _ _ _ h0 => mq_putI rfl h0,
   fun _ _ _ => mq_al (i := 0) rfl rfl,
   fun _ _ => mq_push rfl,
   fun _ _ _ _ h0 => mq_putI rfl h0,
   fun _ _ _ => mq_al (i := 0) rfl rfl,
   fun _ _ => mq_push rfl,
   fun _ _ _ _ h0 => mq_putI rfl h0,
   fun _ _ _ => mq_al (i := 0) rfl rfl,
   fun _ _ h0 => mq_new rfl h0,
   fun _ _ _ => mq_dup rfl rfl,
   fun _ _ _ _ h0 => mq_cI (na := 0) rfl rfl (Nat.le_of_ble_eq_true rfl) (Nat.le_of_ble_eq_true rfl) h0,
   fun _ _ _ _ h0 => mq_putR rfl h0,
   fun _ _ _ => mq_al (i := 0) rfl rfl,
   fun _ _ h0 => mq_new rfl h0,
   fun _ _ _ => mq_dup rfl rfl,
   fun _ _ _ _ h0 => mq_cI (na := 0) rfl rfl (Nat.le_of_ble_eq_true rfl) (Nat.le_of_ble_eq_true rfl) h0,
   fun _ _ _ _ h0 => mq_putR rfl h0,
   fun _ _ _ => mq_al (i := 0) rfl rfl,
   fun _ _ h0 => mq_new rfl h0,
   fun _ _ _ => mq_dup rfl rfl,
   fun _ _ _ _ h0 => mq_cI (na := 0) rfl rfl (Nat.le_of_ble_eq_true rfl) (Nat.le_of_ble_eq_true rfl) h0,
   fun _ _ _ _ h0 => mq_putR rfl h0,
   fun _ _ _ => mq_al (i := 0) rfl rfl,
   fun _ _ h0 => mq_new rfl h0,
   fun _ _ _ => mq_dup rfl rfl,
   fun _ _ _ _ h0 => mq_cI (na := 0) rfl rfl (Nat.le_of_ble_eq_true rfl) (Nat.le_of_ble_eq_true rfl) h0,
   fun _ _ _ _ h0 => mq_putR rfl h0,
   fun _ _ _ => mq_al (i := 0) rfl rfl,
   fun _ _ h0 => mq_new rfl h0,
   fun _ _ _ => mq_dup rfl rfl,
   fun _ _ _ _ h0 => mq_cI (na := 0) rfl rfl (Nat.le_of_ble_eq_true rfl) (Nat.le_of_ble_eq_true rfl) h0,
   fun _ _ _ _ h0 => mq_putR rfl h0,
   fun _ _ _ => mq_al (i := 0) rfl rfl,
   fun _ _ => mq_push rfl,
   fun _ _ _ _ h0 h1 => mq_putZ rfl h0 h1,
   fun _ _ _ => mq_al (i := 0) rfl rfl,
   fun _ _ h0 => mq_new rfl h0,
   fun _ _ _ => mq_dup rfl rfl,
   fun _ _ _ _ h0 => mq_cI (na := 0) rfl rfl (Nat.le_of_ble_eq_true rfl) (Nat.le_of_ble_eq_true rfl) h0,
   fun _ _ _ _ h0 => mq_putR rfl h0,
   fun _ _ _ => mq_al (i := 0) rfl rfl,
   fun _ _ h0 => mq_new rfl h0,
   fun _ _ _ => mq_dup rfl rfl,
   fun _ _ _ _ h0 => mq_cI (na := 0) rfl rfl (Nat.le_of_ble_eq_true rfl) (Nat.le_of_ble_eq_true rfl) h0,
   fun _ _ _ _ h0 => mq_putR rfl h0,
   fun _ _ _ => mq_al (i := 0) rfl rfl,
   fun _ _ h0 => mq_new rfl h0,
   fun _ _ _ => mq_dup rfl rfl,
   fun _ _ _ _ h0 => mq_cI (na := 0) rfl rfl (Nat.le_of_ble_eq_true rfl) (Nat.le_of_ble_eq_true rfl) h0,
   fun _ _ _ _ h0 => mq_putR rfl h0,
   fun _ _ _ => mq_al (i := 0) rfl rfl,
   fun _ _ => mq_push rfl,
   fun _ _ _ h0 => mq_newa rfl h0,
   fun _ _ _ _ h0 => mq_putR rfl h0,
   fun _ => mq_rv rfl⟩
theorem hX11_init_58 (d n : Nat) (I L : mm_I) (P : mm_P) : ∀ (st : List mm_V) z (l0 : mm_V), mm_E d 83 58 [l0, (.inl z)] [] st n I L P = mm_E d 83 59 [l0, (.inl z)] [] ((.inl z) :: st) n I L P := fun _ _ _ => mq_il (i := 1) rfl rfl
theorem eX11_init (d n : Nat) (I L : mm_I) (P : mm_P) (x0 : Option Nat) : mm_rn (d + 1) 83 [.inr (.inr x0)] n I L P = mm_E d 83 0 [.inr (.inr x0), mm_junk] [] [] n I L P := rfl

set_option maxRecDepth 20000 in
set_option maxHeartbeats 8000000 in
theorem kX11_feed (d n : Nat) (I L : mm_I) (P : mm_P) :
  (∀ (st : List mm_V) z (l0 : mm_V) (l2 : mm_V) (l3 : mm_V) (l4 : mm_V) (l5 : mm_V) (l6 : mm_V), mm_E d 84 0 [l0, (.inl z), l2, l3, l4, l5, l6] [] st n I L P = mm_E d 84 1 [l0, (.inl z), l2, l3, l4, l5, l6] [] ((.inl z) :: st) n I L P) ∧
  (∀ (lv : List mm_V) x0, mm_E d 84 1 lv [] (.inl x0 :: []) n I L P = mm_kr d 84 4 lv [] [] n (mm_rn d 85 [.inl x0] n I L P)) ∧
  (∀ (st : List mm_V) z (l0 : mm_V) (l1 : mm_V) (l3 : mm_V) (l4 : mm_V) (l5 : mm_V) (l6 : mm_V), mm_E d 84 4 [l0, l1, (.inl z), l3, l4, l5, l6] [] st n I L P = mm_E d 84 5 [l0, l1, (.inl z), l3, l4, l5, l6] [] ((.inl z) :: st) n I L P) ∧
  (∀ (lv : List mm_V) x0 w0, mm_E d 84 5 lv [] (.inl x0 :: [.inl w0]) n I L P = mm_kr d 84 8 lv [] [.inl w0] n (mm_rn d 85 [.inl x0] n I L P)) ∧
  (∀ (lv : List mm_V) (st : List mm_V) a b, mm_E d 84 8 lv [] (.inl b :: .inl a :: st) n I L P = mm_E d 84 9 lv [] (.inl (mm_add a b) :: st) n I L P) ∧
  (∀ (st : List mm_V) z (l0 : mm_V) (l1 : mm_V) (l2 : mm_V) (l4 : mm_V) (l5 : mm_V) (l6 : mm_V), mm_E d 84 9 [l0, l1, l2, (.inl z), l4, l5, l6] [] st n I L P = mm_E d 84 10 [l0, l1, l2, (.inl z), l4, l5, l6] [] ((.inl z) :: st) n I L P) ∧
  (∀ (lv : List mm_V) x0 w0, mm_E d 84 10 lv [] (.inl x0 :: [.inl w0]) n I L P = mm_kr d 84 13 lv [] [.inl w0] n (mm_rn d 85 [.inl x0] n I L P)) ∧
  (∀ (lv : List mm_V) (st : List mm_V) a b, mm_E d 84 13 lv [] (.inl b :: .inl a :: st) n I L P = mm_E d 84 14 lv [] (.inl (mm_add a b) :: st) n I L P) ∧
  (∀ (st : List mm_V) z (l0 : mm_V) (l1 : mm_V) (l2 : mm_V) (l3 : mm_V) (l5 : mm_V) (l6 : mm_V), mm_E d 84 14 [l0, l1, l2, l3, (.inl z), l5, l6] [] st n I L P = mm_E d 84 16 [l0, l1, l2, l3, (.inl z), l5, l6] [] ((.inl z) :: st) n I L P) ∧
  (∀ (lv : List mm_V) x0 w0, mm_E d 84 16 lv [] (.inl x0 :: [.inl w0]) n I L P = mm_kr d 84 19 lv [] [.inl w0] n (mm_rn d 85 [.inl x0] n I L P)) ∧
  (∀ (lv : List mm_V) (st : List mm_V) a b, mm_E d 84 19 lv [] (.inl b :: .inl a :: st) n I L P = mm_E d 84 20 lv [] (.inl (mm_add a b) :: st) n I L P) ∧
  (∀ (st : List mm_V) z (l0 : mm_V) (l1 : mm_V) (l2 : mm_V) (l3 : mm_V) (l4 : mm_V) (l6 : mm_V), mm_E d 84 20 [l0, l1, l2, l3, l4, (.inl z), l6] [] st n I L P = mm_E d 84 22 [l0, l1, l2, l3, l4, (.inl z), l6] [] ((.inl z) :: st) n I L P) ∧
  (∀ (lv : List mm_V) x0 w0, mm_E d 84 22 lv [] (.inl x0 :: [.inl w0]) n I L P = mm_kr d 84 25 lv [] [.inl w0] n (mm_rn d 85 [.inl x0] n I L P)) ∧
  (∀ (lv : List mm_V) (st : List mm_V) a b, mm_E d 84 25 lv [] (.inl b :: .inl a :: st) n I L P = mm_E d 84 26 lv [] (.inl (mm_add a b) :: st) n I L P) ∧
  (∀ (st : List mm_V) z (l0 : mm_V) (l1 : mm_V) (l2 : mm_V) (l3 : mm_V) (l4 : mm_V) (l5 : mm_V) (l6 : mm_V), mm_E d 84 26 [l0, l1, l2, l3, l4, l5, l6] [] ((.inl z) :: st) n I L P = mm_E d 84 28 [l0, l1, l2, l3, l4, l5, (.inl z)] [] st n I L P) ∧
  (∀ (st : List mm_V) z (l1 : mm_V) (l2 : mm_V) (l3 : mm_V) (l4 : mm_V) (l5 : mm_V) (l6 : mm_V), mm_E d 84 28 [(.inr (.inr z)), l1, l2, l3, l4, l5, l6] [] st n I L P = mm_E d 84 29 [(.inr (.inr z)), l1, l2, l3, l4, l5, l6] [] ((.inr (.inr z)) :: st) n I L P) ∧
  (∀ (lv : List mm_V) (st : List mm_V) a, (mm_ok n a 11) → mm_E d 84 29 lv [] (.inr (.inr (some a)) :: st) n I L P = mm_E d 84 32 lv [] (.inr (.inr (P a 0)) :: st) n I L P) ∧
  (∀ (lv : List mm_V) (st : List mm_V) a, (mm_ok n a 8) → mm_E d 84 32 lv [] (.inr (.inr (some a)) :: st) n I L P = mm_E d 84 35 lv [] (.inl (I a 1) :: st) n I L P) ∧
  (∀ (st : List mm_V) z (l0 : mm_V) (l1 : mm_V) (l2 : mm_V) (l3 : mm_V) (l4 : mm_V) (l5 : mm_V), mm_E d 84 35 [l0, l1, l2, l3, l4, l5, (.inl z)] [] st n I L P = mm_E d 84 37 [l0, l1, l2, l3, l4, l5, (.inl z)] [] ((.inl z) :: st) n I L P) ∧
  (∀ (lv : List mm_V) (st : List mm_V) a b, mm_E d 84 37 lv [] (.inl b :: .inl a :: st) n I L P = mm_E d 84 38 lv [] (.inl (mm_add a b) :: st) n I L P) ∧
  (∀ (lv : List mm_V) (st : List mm_V), mm_E d 84 38 lv [] st n I L P = mm_E d 84 41 lv [] (.inl 240 :: st) n I L P) ∧
  (∀ (lv : List mm_V) (st : List mm_V) a b, mm_E d 84 41 lv [] (.inl b :: .inl a :: st) n I L P = if a ≤ b then mm_E d 84 46 lv [] st n I L P else mm_E d 84 44 lv [] st n I L P) ∧
  (∀ (lv : List mm_V) (st : List mm_V), mm_E d 84 44 lv [] st n I L P = mm_E d 84 45 lv [] (.inl (-1) :: st) n I L P) ∧
  (∀ (lv : List mm_V) z, mm_E d 84 45 lv [] [.inl z] n I L P = some (some (.inl z), n, I, L, P)) ∧
  (∀ (st : List mm_V) z (l1 : mm_V) (l2 : mm_V) (l3 : mm_V) (l4 : mm_V) (l5 : mm_V) (l6 : mm_V), mm_E d 84 46 [(.inr (.inr z)), l1, l2, l3, l4, l5, l6] [] st n I L P = mm_E d 84 47 [(.inr (.inr z)), l1, l2, l3, l4, l5, l6] [] ((.inr (.inr z)) :: st) n I L P) ∧
  (∀ (lv : List mm_V) (st : List mm_V) a, (mm_ok n a 11) → mm_E d 84 47 lv [] (.inr (.inr (some a)) :: st) n I L P = mm_E d 84 50 lv [] (.inr (.inr (P a 0)) :: st) n I L P) ∧
  (∀ (st : List mm_V) z (l0 : mm_V) (l2 : mm_V) (l3 : mm_V) (l4 : mm_V) (l5 : mm_V) (l6 : mm_V), mm_E d 84 50 [l0, (.inl z), l2, l3, l4, l5, l6] [] st n I L P = mm_E d 84 51 [l0, (.inl z), l2, l3, l4, l5, l6] [] ((.inl z) :: st) n I L P) ∧
  (∀ (lv : List mm_V) a x0, (mm_ok n a 8) → mm_E d 84 51 lv [] (.inl x0 :: .inr (.inr (some a)) :: []) n I L P = mm_kv d 84 54 lv [] [] n (mm_rn d 58 [.inr (.inr (some a)), .inl x0] n I L P)) ∧
  (∀ (st : List mm_V) z (l1 : mm_V) (l2 : mm_V) (l3 : mm_V) (l4 : mm_V) (l5 : mm_V) (l6 : mm_V), mm_E d 84 54 [(.inr (.inr z)), l1, l2, l3, l4, l5, l6] [] st n I L P = mm_E d 84 55 [(.inr (.inr z)), l1, l2, l3, l4, l5, l6] [] ((.inr (.inr z)) :: st) n I L P) ∧
  (∀ (lv : List mm_V) (st : List mm_V) a, (mm_ok n a 11) → mm_E d 84 55 lv [] (.inr (.inr (some a)) :: st) n I L P = mm_E d 84 58 lv [] (.inr (.inr (P a 0)) :: st) n I L P) ∧
  (∀ (st : List mm_V) z (l0 : mm_V) (l1 : mm_V) (l3 : mm_V) (l4 : mm_V) (l5 : mm_V) (l6 : mm_V), mm_E d 84 58 [l0, l1, (.inl z), l3, l4, l5, l6] [] st n I L P = mm_E d 84 59 [l0, l1, (.inl z), l3, l4, l5, l6] [] ((.inl z) :: st) n I L P) ∧
  (∀ (lv : List mm_V) a x0, (mm_ok n a 8) → mm_E d 84 59 lv [] (.inl x0 :: .inr (.inr (some a)) :: []) n I L P = mm_kv d 84 62 lv [] [] n (mm_rn d 58 [.inr (.inr (some a)), .inl x0] n I L P)) ∧
  (∀ (st : List mm_V) z (l1 : mm_V) (l2 : mm_V) (l3 : mm_V) (l4 : mm_V) (l5 : mm_V) (l6 : mm_V), mm_E d 84 62 [(.inr (.inr z)), l1, l2, l3, l4, l5, l6] [] st n I L P = mm_E d 84 63 [(.inr (.inr z)), l1, l2, l3, l4, l5, l6] [] ((.inr (.inr z)) :: st) n I L P) ∧
  (∀ (lv : List mm_V) (st : List mm_V) a, (mm_ok n a 11) → mm_E d 84 63 lv [] (.inr (.inr (some a)) :: st) n I L P = mm_E d 84 66 lv [] (.inr (.inr (P a 0)) :: st) n I L P) ∧
  (∀ (st : List mm_V) z (l0 : mm_V) (l1 : mm_V) (l2 : mm_V) (l4 : mm_V) (l5 : mm_V) (l6 : mm_V), mm_E d 84 66 [l0, l1, l2, (.inl z), l4, l5, l6] [] st n I L P = mm_E d 84 67 [l0, l1, l2, (.inl z), l4, l5, l6] [] ((.inl z) :: st) n I L P) ∧
  (∀ (lv : List mm_V) a x0, (mm_ok n a 8) → mm_E d 84 67 lv [] (.inl x0 :: .inr (.inr (some a)) :: []) n I L P = mm_kv d 84 70 lv [] [] n (mm_rn d 58 [.inr (.inr (some a)), .inl x0] n I L P)) ∧
  (∀ (st : List mm_V) z (l1 : mm_V) (l2 : mm_V) (l3 : mm_V) (l4 : mm_V) (l5 : mm_V) (l6 : mm_V), mm_E d 84 70 [(.inr (.inr z)), l1, l2, l3, l4, l5, l6] [] st n I L P = mm_E d 84 71 [(.inr (.inr z)), l1, l2, l3, l4, l5, l6] [] ((.inr (.inr z)) :: st) n I L P) ∧
  (∀ (lv : List mm_V) (st : List mm_V) a, (mm_ok n a 11) → mm_E d 84 71 lv [] (.inr (.inr (some a)) :: st) n I L P = mm_E d 84 74 lv [] (.inr (.inr (P a 0)) :: st) n I L P) ∧
  (∀ (st : List mm_V) z (l0 : mm_V) (l1 : mm_V) (l2 : mm_V) (l3 : mm_V) (l5 : mm_V) (l6 : mm_V), mm_E d 84 74 [l0, l1, l2, l3, (.inl z), l5, l6] [] st n I L P = mm_E d 84 76 [l0, l1, l2, l3, (.inl z), l5, l6] [] ((.inl z) :: st) n I L P) ∧
  (∀ (lv : List mm_V) a x0, (mm_ok n a 8) → mm_E d 84 76 lv [] (.inl x0 :: .inr (.inr (some a)) :: []) n I L P = mm_kv d 84 79 lv [] [] n (mm_rn d 58 [.inr (.inr (some a)), .inl x0] n I L P)) ∧
  (∀ (st : List mm_V) z (l1 : mm_V) (l2 : mm_V) (l3 : mm_V) (l4 : mm_V) (l5 : mm_V) (l6 : mm_V), mm_E d 84 79 [(.inr (.inr z)), l1, l2, l3, l4, l5, l6] [] st n I L P = mm_E d 84 80 [(.inr (.inr z)), l1, l2, l3, l4, l5, l6] [] ((.inr (.inr z)) :: st) n I L P) ∧
  (∀ (lv : List mm_V) (st : List mm_V) a, (mm_ok n a 11) → mm_E d 84 80 lv [] (.inr (.inr (some a)) :: st) n I L P = mm_E d 84 83 lv [] (.inr (.inr (P a 0)) :: st) n I L P) ∧
  (∀ (st : List mm_V) z (l0 : mm_V) (l1 : mm_V) (l2 : mm_V) (l3 : mm_V) (l4 : mm_V) (l6 : mm_V), mm_E d 84 83 [l0, l1, l2, l3, l4, (.inl z), l6] [] st n I L P = mm_E d 84 85 [l0, l1, l2, l3, l4, (.inl z), l6] [] ((.inl z) :: st) n I L P) ∧
  (∀ (lv : List mm_V) a x0, (mm_ok n a 8) → mm_E d 84 85 lv [] (.inl x0 :: .inr (.inr (some a)) :: []) n I L P = mm_kv d 84 88 lv [] [] n (mm_rn d 58 [.inr (.inr (some a)), .inl x0] n I L P)) ∧
  (∀ (st : List mm_V) z (l1 : mm_V) (l2 : mm_V) (l3 : mm_V) (l4 : mm_V) (l5 : mm_V) (l6 : mm_V), mm_E d 84 88 [(.inr (.inr z)), l1, l2, l3, l4, l5, l6] [] st n I L P = mm_E d 84 89 [(.inr (.inr z)), l1, l2, l3, l4, l5, l6] [] ((.inr (.inr z)) :: st) n I L P) ∧
  (∀ (lv : List mm_V) (st : List mm_V) a, (mm_ok n a 11) → mm_E d 84 89 lv [] (.inr (.inr (some a)) :: st) n I L P = mm_E d 84 92 lv [] (.inr (.inr (P a 0)) :: st) n I L P) ∧
  (∀ (lv : List mm_V) (st : List mm_V) a, (mm_ok n a 8) → mm_E d 84 92 lv [] (.inr (.inr (some a)) :: st) n I L P = mm_E d 84 95 lv [] (.inl (I a 1) :: st) n I L P) ∧
  (∀ (lv : List mm_V) z, mm_E d 84 95 lv [] [.inl z] n I L P = some (some (.inl z), n, I, L, P)) :=
  ⟨fun _ _ _ _ _ _ _ _ => mq_il (i := 1) rfl rfl,
   fun _ _ => mq_cSr (na := 1) rfl (Nat.le_of_ble_eq_true rfl) (Nat.le_of_ble_eq_true rfl),
   fun _ _ _ _ _ _ _ _ => mq_il (i := 2) rfl rfl,
   fun _ _ _ => mq_cSr (na := 1) rfl (Nat.le_of_ble_eq_true rfl) (Nat.le_of_ble_eq_true rfl),
   fun _ _ _ _ => mq_bi rfl,
   fun _ _ _ _ _ _ _ _ => mq_il (i := 3) rfl rfl,
   fun _ _ _ => mq_cSr (na := 1) rfl (Nat.le_of_ble_eq_true rfl) (Nat.le_of_ble_eq_true rfl),
   fun _ _ _ _ => mq_bi rfl,
   fun _ _ _ _ _ _ _ _ => mq_il (i := 4) rfl rfl,
   fun _ _ _ => mq_cSr (na := 1) rfl (Nat.le_of_ble_eq_true rfl) (Nat.le_of_ble_eq_true rfl),
   fun _ _ _ _ => mq_bi rfl,
   fun _ _ _ _ _ _ _ _ => mq_il (i := 5) rfl rfl,
   fun _ _ _ => mq_cSr (na := 1) rfl (Nat.le_of_ble_eq_true rfl) (Nat.le_of_ble_eq_true rfl),
   fun _ _ _ _ => mq_bi rfl,
   fun _ _ _ _ _ _ _ _ _ => mq_is (i := 6) rfl rfl rfl,
   fun _ _ _ _ _ _ _ _ => mq_al (i := 0) rfl rfl,
   fun _ _ _ h0 => mq_getR rfl h0,
   fun _ _ _ h0 => mq_getI rfl h0,
   fun _ _ _ _ _ _ _ _ => mq_il (i := 6) rfl rfl,
   fun _ _ _ _ => mq_bi rfl,
   fun _ _ => mq_push rfl,
   fun _ _ _ _ => mq_ic_le rfl,
   fun _ _ => mq_push rfl,
   fun _ _ => mq_ri rfl,
   fun _ _ _ _ _ _ _ _ => mq_al (i := 0) rfl rfl,
   fun _ _ _ h0 => mq_getR rfl h0,
   fun _ _ _ _ _ _ _ _ => mq_il (i := 1) rfl rfl,
   fun _ _ _ h0 => mq_cVv (na := 1) rfl rfl (Nat.le_of_ble_eq_true rfl) (Nat.le_of_ble_eq_true rfl) h0,
   fun _ _ _ _ _ _ _ _ => mq_al (i := 0) rfl rfl,
   fun _ _ _ h0 => mq_getR rfl h0,
   fun _ _ _ _ _ _ _ _ => mq_il (i := 2) rfl rfl,
   fun _ _ _ h0 => mq_cVv (na := 1) rfl rfl (Nat.le_of_ble_eq_true rfl) (Nat.le_of_ble_eq_true rfl) h0,
   fun _ _ _ _ _ _ _ _ => mq_al (i := 0) rfl rfl,
   fun _ _ _ h0 => mq_getR rfl h0,
   fun _ _ _ _ _ _ _ _ => mq_il (i := 3) rfl rfl,
   fun _ _ _ h0 => mq_cVv (na := 1) rfl rfl (Nat.le_of_ble_eq_true rfl) (Nat.le_of_ble_eq_true rfl) h0,
   fun _ _ _ _ _ _ _ _ => mq_al (i := 0) rfl rfl,
   fun _ _ _ h0 => mq_getR rfl h0,
   fun _ _ _ _ _ _ _ _ => mq_il (i := 4) rfl rfl,
   fun _ _ _ h0 => mq_cVv (na := 1) rfl rfl (Nat.le_of_ble_eq_true rfl) (Nat.le_of_ble_eq_true rfl) h0,
   fun _ _ _ _ _ _ _ _ => mq_al (i := 0) rfl rfl,
   fun _ _ _ h0 => mq_getR rfl h0,
   fun _ _ _ _ _ _ _ _ => mq_il (i := 5) rfl rfl,
   fun _ _ _ h0 => mq_cVv (na := 1) rfl rfl (Nat.le_of_ble_eq_true rfl) (Nat.le_of_ble_eq_true rfl) h0,
   fun _ _ _ _ _ _ _ _ => mq_al (i := 0) rfl rfl,
   fun _ _ _ h0 => mq_getR rfl h0,
   fun _ _ _ h0 => mq_getI rfl h0,
   fun _ _ => mq_ri rfl⟩
theorem eX11_feed (d n : Nat) (I L : mm_I) (P : mm_P) (x0 : Option Nat) (x1 : Int) (x2 : Int) (x3 : Int) (x4 : Int) (x5 : Int) : mm_rn (d + 1) 84 [.inr (.inr x0), .inl x1, .inl x2, .inl x3, .inl x4, .inl x5] n I L P = mm_E d 84 0 [.inr (.inr x0), .inl x1, .inl x2, .inl x3, .inl x4, .inl x5, mm_junk] [] [] n I L P := rfl

set_option maxRecDepth 20000 in
set_option maxHeartbeats 8000000 in
theorem kX11_bytesIn (d n : Nat) (I L : mm_I) (P : mm_P) :
  (∀ (lv : List mm_V) (st : List mm_V), mm_E d 85 0 lv [] st n I L P = mm_E d 85 1 lv [] (.inl 0 :: st) n I L P) ∧
  (∀ (st : List mm_V) z (l0 : mm_V) (l1 : mm_V) (l2 : mm_V), mm_E d 85 1 [l0, l1, l2] [] ((.inl z) :: st) n I L P = mm_E d 85 2 [l0, (.inl z), l2] [] st n I L P) ∧
  (∀ (lv : List mm_V) (st : List mm_V), mm_E d 85 2 lv [] st n I L P = mm_E d 85 4 lv [] (.inl 24 :: st) n I L P) ∧
  (∀ (st : List mm_V) z (l0 : mm_V) (l1 : mm_V) (l2 : mm_V), mm_E d 85 4 [l0, l1, l2] [] ((.inl z) :: st) n I L P = mm_E d 85 5 [l0, l1, (.inl z)] [] st n I L P) ∧
  (∀ (lv : List mm_V) (st : List mm_V) a, mm_E d 85 6 lv [] (.inl a :: st) n I L P = if a < 0 then mm_E d 85 28 lv [] st n I L P else mm_E d 85 9 lv [] st n I L P) ∧
  (∀ (st : List mm_V) z (l1 : mm_V) (l2 : mm_V), mm_E d 85 9 [(.inl z), l1, l2] [] st n I L P = mm_E d 85 10 [(.inl z), l1, l2] [] ((.inl z) :: st) n I L P) ∧
  (∀ (st : List mm_V) z (l0 : mm_V) (l1 : mm_V), mm_E d 85 10 [l0, l1, (.inl z)] [] st n I L P = mm_E d 85 11 [l0, l1, (.inl z)] [] ((.inl z) :: st) n I L P) ∧
  (∀ (lv : List mm_V) (st : List mm_V) a b, mm_E d 85 11 lv [] (.inl b :: .inl a :: st) n I L P = mm_E d 85 12 lv [] (.inl (mm_ushr a b) :: st) n I L P) ∧
  (∀ (lv : List mm_V) (st : List mm_V), mm_E d 85 12 lv [] st n I L P = mm_E d 85 15 lv [] (.inl 255 :: st) n I L P) ∧
  (∀ (lv : List mm_V) (st : List mm_V) a b, mm_E d 85 15 lv [] (.inl b :: .inl a :: st) n I L P = mm_E d 85 16 lv [] (.inl (mm_and a b) :: st) n I L P) ∧
  (∀ (lv : List mm_V) (st : List mm_V) a, mm_E d 85 16 lv [] (.inl a :: st) n I L P = if a = 0 then mm_E d 85 22 lv [] st n I L P else mm_E d 85 19 lv [] st n I L P) ∧
  (∀ (st : List mm_V) z (l0 : mm_V) (l2 : mm_V), mm_E d 85 19 [l0, (.inl z), l2] [] st n I L P = mm_E d 85 22 [l0, (.inl (mm_add z 1)), l2] [] st n I L P) ∧
  (∀ (st : List mm_V) z (l0 : mm_V) (l1 : mm_V), mm_E d 85 22 [l0, l1, (.inl z)] [] st n I L P = mm_E d 85 25 [l0, l1, (.inl (mm_add z (-8)))] [] st n I L P) ∧
  (∀ (lv : List mm_V) (st : List mm_V), mm_E d 85 25 lv [] st n I L P = mm_E d 85 5 lv [] st n I L P) ∧
  (∀ (st : List mm_V) z (l0 : mm_V) (l2 : mm_V), mm_E d 85 28 [l0, (.inl z), l2] [] st n I L P = mm_E d 85 29 [l0, (.inl z), l2] [] ((.inl z) :: st) n I L P) ∧
  (∀ (lv : List mm_V) z, mm_E d 85 29 lv [] [.inl z] n I L P = some (some (.inl z), n, I, L, P)) :=
  ⟨fun _ _ => mq_push rfl,
   fun _ _ _ _ _ => mq_is (i := 1) rfl rfl rfl,
   fun _ _ => mq_push rfl,
   fun _ _ _ _ _ => mq_is (i := 2) rfl rfl rfl,
   fun _ _ _ => mq_if_lt rfl,
   fun _ _ _ _ => mq_il (i := 0) rfl rfl,
   fun _ _ _ _ => mq_il (i := 2) rfl rfl,
   fun _ _ _ _ => mq_bi rfl,
   fun _ _ => mq_push rfl,
   fun _ _ _ _ => mq_bi rfl,
   fun _ _ _ => mq_if_eq rfl,
   fun _ _ _ _ => mq_iinc (i := 1) rfl rfl rfl rfl,
   fun _ _ _ _ => mq_iinc (i := 2) rfl rfl rfl rfl,
   fun _ _ => mq_go rfl,
   fun _ _ _ _ => mq_il (i := 1) rfl rfl,
   fun _ _ => mq_ri rfl⟩
theorem hX11_bytesIn_5 (d n : Nat) (I L : mm_I) (P : mm_P) : ∀ (st : List mm_V) z (l0 : mm_V) (l1 : mm_V), mm_E d 85 5 [l0, l1, (.inl z)] [] st n I L P = mm_E d 85 6 [l0, l1, (.inl z)] [] ((.inl z) :: st) n I L P := fun _ _ _ _ => mq_il (i := 2) rfl rfl
theorem eX11_bytesIn (d n : Nat) (I L : mm_I) (P : mm_P) (x0 : Int) : mm_rn (d + 1) 85 [.inl x0] n I L P = mm_E d 85 0 [.inl x0, mm_junk, mm_junk] [] [] n I L P := rfl

set_option maxRecDepth 20000 in
set_option maxHeartbeats 8000000 in
theorem kX11_end (d n : Nat) (I L : mm_I) (P : mm_P) :
  (∀ (st : List mm_V) z (l0 : mm_V), mm_E d 86 0 [l0, (.inl z)] [] st n I L P = mm_E d 86 1 [l0, (.inl z)] [] ((.inl z) :: st) n I L P) ∧
  (∀ (lv : List mm_V) (st : List mm_V) a, mm_E d 86 1 lv [] (.inl a :: st) n I L P = if a < 0 then mm_E d 86 15 lv [] st n I L P else mm_E d 86 4 lv [] st n I L P) ∧
  (∀ (st : List mm_V) z (l0 : mm_V), mm_E d 86 4 [l0, (.inl z)] [] st n I L P = mm_E d 86 5 [l0, (.inl z)] [] ((.inl z) :: st) n I L P) ∧
  (∀ (st : List mm_V) z (l1 : mm_V), mm_E d 86 5 [(.inr (.inr z)), l1] [] st n I L P = mm_E d 86 6 [(.inr (.inr z)), l1] [] ((.inr (.inr z)) :: st) n I L P) ∧
  (∀ (lv : List mm_V) (st : List mm_V) a, (mm_ok n a 11) → mm_E d 86 6 lv [] (.inr (.inr (some a)) :: st) n I L P = mm_E d 86 9 lv [] (.inr (.inr (P a 0)) :: st) n I L P) ∧
  (∀ (lv : List mm_V) (st : List mm_V) a, (mm_ok n a 8) → mm_E d 86 9 lv [] (.inr (.inr (some a)) :: st) n I L P = mm_E d 86 12 lv [] (.inl (I a 1) :: st) n I L P) ∧
  (∀ (lv : List mm_V) (st : List mm_V) a b, mm_E d 86 12 lv [] (.inl b :: .inl a :: st) n I L P = if a ≤ b then mm_E d 86 17 lv [] st n I L P else mm_E d 86 15 lv [] st n I L P) ∧
  (∀ (lv : List mm_V) (st : List mm_V), mm_E d 86 15 lv [] st n I L P = mm_E d 86 16 lv [] (.inl 0 :: st) n I L P) ∧
  (∀ (lv : List mm_V) z, (0 ≤ z ∧ z < 2) → mm_E d 86 16 lv [] [.inl z] n I L P = some (some (.inl z), n, I, L, P)) ∧
  (∀ (st : List mm_V) z (l1 : mm_V), mm_E d 86 17 [(.inr (.inr z)), l1] [] st n I L P = mm_E d 86 18 [(.inr (.inr z)), l1] [] ((.inr (.inr z)) :: st) n I L P) ∧
  (∀ (lv : List mm_V) (st : List mm_V) a, (mm_ok n a 11) → mm_E d 86 18 lv [] (.inr (.inr (some a)) :: st) n I L P = mm_E d 86 21 lv [] (.inr (.inr (P a 0)) :: st) n I L P) ∧
  (∀ (st : List mm_V) z (l0 : mm_V), mm_E d 86 21 [l0, (.inl z)] [] st n I L P = mm_E d 86 22 [l0, (.inl z)] [] ((.inl z) :: st) n I L P) ∧
  (∀ (lv : List mm_V) (st : List mm_V) a z, (mm_ok n a 8) → mm_E d 86 22 lv [] (.inl z :: .inr (.inr (some a)) :: st) n I L P = mm_E d 86 25 lv [] st n (mm_ui I a 1 z) L P) ∧
  (∀ (lv : List mm_V) (st : List mm_V), mm_E d 86 25 lv [] st n I L P = mm_E d 86 26 lv [] (.inl 1 :: st) n I L P) ∧
  (∀ (lv : List mm_V) z, (0 ≤ z ∧ z < 2) → mm_E d 86 26 lv [] [.inl z] n I L P = some (some (.inl z), n, I, L, P)) :=
  ⟨fun _ _ _ => mq_il (i := 1) rfl rfl,
   fun _ _ _ => mq_if_lt rfl,
   fun _ _ _ => mq_il (i := 1) rfl rfl,
   fun _ _ _ => mq_al (i := 0) rfl rfl,
   fun _ _ _ h0 => mq_getR rfl h0,
   fun _ _ _ h0 => mq_getI rfl h0,
   fun _ _ _ _ => mq_ic_le rfl,
   fun _ _ => mq_push rfl,
   fun _ _ h0 => mq_rz rfl h0,
   fun _ _ _ => mq_al (i := 0) rfl rfl,
   fun _ _ _ h0 => mq_getR rfl h0,
   fun _ _ _ => mq_il (i := 1) rfl rfl,
   fun _ _ _ _ h0 => mq_putI rfl h0,
   fun _ _ => mq_push rfl,
   fun _ _ h0 => mq_rz rfl h0⟩
theorem eX11_end (d n : Nat) (I L : mm_I) (P : mm_P) (x0 : Option Nat) (x1 : Int) : mm_rn (d + 1) 86 [.inr (.inr x0), .inl x1] n I L P = mm_E d 86 0 [.inr (.inr x0), .inl x1] [] [] n I L P := rfl

set_option maxRecDepth 20000 in
set_option maxHeartbeats 8000000 in
theorem kX11_fault (d n : Nat) (I L : mm_I) (P : mm_P) :
  (∀ (st : List mm_V) z (l0 : mm_V) (l2 : mm_V), mm_E d 87 0 [l0, (.inl z), l2] [] st n I L P = mm_E d 87 1 [l0, (.inl z), l2] [] ((.inl z) :: st) n I L P) ∧
  (∀ (lv : List mm_V) (st : List mm_V) a, mm_E d 87 1 lv [] (.inl a :: st) n I L P = if a = 0 then mm_E d 87 12 lv [] st n I L P else mm_E d 87 4 lv [] st n I L P) ∧
  (∀ (st : List mm_V) z (l0 : mm_V) (l2 : mm_V), mm_E d 87 4 [l0, (.inl z), l2] [] st n I L P = mm_E d 87 5 [l0, (.inl z), l2] [] ((.inl z) :: st) n I L P) ∧
  (∀ (lv : List mm_V) (st : List mm_V), mm_E d 87 5 lv [] st n I L P = mm_E d 87 6 lv [] (.inl 1 :: st) n I L P) ∧
  (∀ (lv : List mm_V) (st : List mm_V) a b, mm_E d 87 6 lv [] (.inl b :: .inl a :: st) n I L P = if a = b then mm_E d 87 12 lv [] st n I L P else mm_E d 87 9 lv [] st n I L P) ∧
  (∀ (lv : List mm_V) (st : List mm_V), mm_E d 87 9 lv [] st n I L P = mm_E d 87 11 lv [] (.inl (-2) :: st) n I L P) ∧
  (∀ (lv : List mm_V) z, mm_E d 87 11 lv [] [.inl z] n I L P = some (some (.inl z), n, I, L, P)) ∧
  (∀ (st : List mm_V) z (l0 : mm_V) (l2 : mm_V), mm_E d 87 12 [l0, (.inl z), l2] [] st n I L P = mm_E d 87 13 [l0, (.inl z), l2] [] ((.inl z) :: st) n I L P) ∧
  (∀ (lv : List mm_V) (st : List mm_V) a, mm_E d 87 13 lv [] (.inl a :: st) n I L P = if a = 0 then mm_E d 87 16 lv [] st n I L P else mm_E d 87 34 lv [] st n I L P) ∧
  (∀ (st : List mm_V) z (l1 : mm_V) (l2 : mm_V), mm_E d 87 16 [(.inr (.inr z)), l1, l2] [] st n I L P = mm_E d 87 17 [(.inr (.inr z)), l1, l2] [] ((.inr (.inr z)) :: st) n I L P) ∧
  (∀ (lv : List mm_V) (st : List mm_V) a, (mm_ok n a 11) → mm_E d 87 17 lv [] (.inr (.inr (some a)) :: st) n I L P = mm_E d 87 20 lv [] (.inr (.inr (P a 1)) :: st) n I L P) ∧
  (∀ (st : List mm_V) z (l1 : mm_V) (l2 : mm_V), mm_E d 87 20 [(.inr (.inr z)), l1, l2] [] st n I L P = mm_E d 87 21 [(.inr (.inr z)), l1, l2] [] ((.inr (.inr z)) :: st) n I L P) ∧
  (∀ (lv : List mm_V) (st : List mm_V) a, (mm_ok n a 11) → mm_E d 87 21 lv [] (.inr (.inr (some a)) :: st) n I L P = mm_E d 87 24 lv [] (.inr (.inr (P a 0)) :: st) n I L P) ∧
  (∀ (st : List mm_V) z (l1 : mm_V) (l2 : mm_V), mm_E d 87 24 [(.inr (.inr z)), l1, l2] [] st n I L P = mm_E d 87 25 [(.inr (.inr z)), l1, l2] [] ((.inr (.inr z)) :: st) n I L P) ∧
  (∀ (lv : List mm_V) (st : List mm_V) a, (mm_ok n a 11) → mm_E d 87 25 lv [] (.inr (.inr (some a)) :: st) n I L P = mm_E d 87 28 lv [] (.inr (.inr (P a 3)) :: st) n I L P) ∧
  (∀ (lv : List mm_V) a x0 x1, (mm_ok n a 10) → mm_E d 87 28 lv [] (.inr (.inr x1) :: .inr (.inr x0) :: .inr (.inr (some a)) :: []) n I L P = mm_kr d 87 31 lv [] [] n (mm_rn d 72 [.inr (.inr (some a)), .inr (.inr x0), .inr (.inr x1)] n I L P)) ∧
  (∀ (lv : List mm_V) (st : List mm_V), mm_E d 87 31 lv [] st n I L P = mm_E d 87 45 lv [] st n I L P) ∧
  (∀ (st : List mm_V) z (l1 : mm_V) (l2 : mm_V), mm_E d 87 34 [(.inr (.inr z)), l1, l2] [] st n I L P = mm_E d 87 35 [(.inr (.inr z)), l1, l2] [] ((.inr (.inr z)) :: st) n I L P) ∧
  (∀ (lv : List mm_V) (st : List mm_V) a, (mm_ok n a 11) → mm_E d 87 35 lv [] (.inr (.inr (some a)) :: st) n I L P = mm_E d 87 38 lv [] (.inr (.inr (P a 0)) :: st) n I L P) ∧
  (∀ (st : List mm_V) z (l1 : mm_V) (l2 : mm_V), mm_E d 87 38 [(.inr (.inr z)), l1, l2] [] st n I L P = mm_E d 87 39 [(.inr (.inr z)), l1, l2] [] ((.inr (.inr z)) :: st) n I L P) ∧
  (∀ (lv : List mm_V) a w0, (mm_ok n a 11) → mm_E d 87 39 lv [] (.inr (.inr (some a)) :: [.inr (.inr w0)]) n I L P = mm_kr d 87 42 lv [] [.inr (.inr w0)] n (mm_rn d 289 [.inr (.inr (some a))] n I L P)) ∧
  (∀ (lv : List mm_V) x0 x1, mm_E d 87 42 lv [] (.inr (.inr x1) :: .inr (.inr x0) :: []) n I L P = mm_kr d 87 45 lv [] [] n (mm_rn d 28 [.inr (.inr x0), .inr (.inr x1)] n I L P)) ∧
  (∀ (st : List mm_V) z (l0 : mm_V) (l1 : mm_V) (l2 : mm_V), mm_E d 87 45 [l0, l1, l2] [] ((.inl z) :: st) n I L P = mm_E d 87 46 [l0, l1, (.inl z)] [] st n I L P) ∧
  (∀ (st : List mm_V) z (l0 : mm_V) (l1 : mm_V), mm_E d 87 46 [l0, l1, (.inl z)] [] st n I L P = mm_E d 87 47 [l0, l1, (.inl z)] [] ((.inl z) :: st) n I L P) ∧
  (∀ (lv : List mm_V) (st : List mm_V) a, mm_E d 87 47 lv [] (.inl a :: st) n I L P = if a = 0 then mm_E d 87 54 lv [] st n I L P else mm_E d 87 50 lv [] st n I L P) ∧
  (∀ (lv : List mm_V) (st : List mm_V), mm_E d 87 50 lv [] st n I L P = mm_E d 87 51 lv [] (.inl (-1) :: st) n I L P) ∧
  (∀ (lv : List mm_V) (st : List mm_V), mm_E d 87 51 lv [] st n I L P = mm_E d 87 61 lv [] st n I L P) ∧
  (∀ (st : List mm_V) z (l1 : mm_V) (l2 : mm_V), mm_E d 87 54 [(.inr (.inr z)), l1, l2] [] st n I L P = mm_E d 87 55 [(.inr (.inr z)), l1, l2] [] ((.inr (.inr z)) :: st) n I L P) ∧
  (∀ (lv : List mm_V) (st : List mm_V) a, (mm_ok n a 11) → mm_E d 87 55 lv [] (.inr (.inr (some a)) :: st) n I L P = mm_E d 87 58 lv [] (.inr (.inr (P a 0)) :: st) n I L P) ∧
  (∀ (lv : List mm_V) (st : List mm_V) a, (mm_ok n a 8) → mm_E d 87 58 lv [] (.inr (.inr (some a)) :: st) n I L P = mm_E d 87 61 lv [] (.inl (I a 2) :: st) n I L P) ∧
  (∀ (lv : List mm_V) z, mm_E d 87 61 lv [] [.inl z] n I L P = some (some (.inl z), n, I, L, P)) :=
  ⟨fun _ _ _ _ => mq_il (i := 1) rfl rfl,
   fun _ _ _ => mq_if_eq rfl,
   fun _ _ _ _ => mq_il (i := 1) rfl rfl,
   fun _ _ => mq_push rfl,
   fun _ _ _ _ => mq_ic_eq rfl,
   fun _ _ => mq_push rfl,
   fun _ _ => mq_ri rfl,
   fun _ _ _ _ => mq_il (i := 1) rfl rfl,
   fun _ _ _ => mq_if_ne rfl,
   fun _ _ _ _ => mq_al (i := 0) rfl rfl,
   fun _ _ _ h0 => mq_getR rfl h0,
   fun _ _ _ _ => mq_al (i := 0) rfl rfl,
   fun _ _ _ h0 => mq_getR rfl h0,
   fun _ _ _ _ => mq_al (i := 0) rfl rfl,
   fun _ _ _ h0 => mq_getR rfl h0,
   fun _ _ _ _ h0 => mq_cVr (na := 2) rfl rfl (Nat.le_of_ble_eq_true rfl) (Nat.le_of_ble_eq_true rfl) h0,
   fun _ _ => mq_go rfl,
   fun _ _ _ _ => mq_al (i := 0) rfl rfl,
   fun _ _ _ h0 => mq_getR rfl h0,
   fun _ _ _ _ => mq_al (i := 0) rfl rfl,
   fun _ _ _ h0 => mq_cVr (na := 0) rfl rfl (Nat.le_of_ble_eq_true rfl) (Nat.le_of_ble_eq_true rfl) h0,
   fun _ _ _ => mq_cSr (na := 2) rfl (Nat.le_of_ble_eq_true rfl) (Nat.le_of_ble_eq_true rfl),
   fun _ _ _ _ _ => mq_is (i := 2) rfl rfl rfl,
   fun _ _ _ _ => mq_il (i := 2) rfl rfl,
   fun _ _ _ => mq_if_eq rfl,
   fun _ _ => mq_push rfl,
   fun _ _ => mq_go rfl,
   fun _ _ _ _ => mq_al (i := 0) rfl rfl,
   fun _ _ _ h0 => mq_getR rfl h0,
   fun _ _ _ h0 => mq_getI rfl h0,
   fun _ _ => mq_ri rfl⟩
theorem eX11_fault (d n : Nat) (I L : mm_I) (P : mm_P) (x0 : Option Nat) (x1 : Int) : mm_rn (d + 1) 87 [.inr (.inr x0), .inl x1] n I L P = mm_E d 87 0 [.inr (.inr x0), .inl x1, mm_junk] [] [] n I L P := rfl

set_option maxRecDepth 20000 in
set_option maxHeartbeats 8000000 in
theorem kX11_text (d n : Nat) (I L : mm_I) (P : mm_P) :
  (∀ (st : List mm_V) z (l0 : mm_V), mm_E d 88 0 [l0, (.inl z)] [] st n I L P = mm_E d 88 1 [l0, (.inl z)] [] ((.inl z) :: st) n I L P) ∧
  (∀ (lv : List mm_V) (st : List mm_V) a, mm_E d 88 1 lv [] (.inl a :: st) n I L P = if a = 0 then mm_E d 88 4 lv [] st n I L P else mm_E d 88 9 lv [] st n I L P) ∧
  (∀ (st : List mm_V) z (l1 : mm_V), mm_E d 88 4 [(.inr (.inr z)), l1] [] st n I L P = mm_E d 88 5 [(.inr (.inr z)), l1] [] ((.inr (.inr z)) :: st) n I L P) ∧
  (∀ (lv : List mm_V) a, (mm_ok n a 11) → mm_E d 88 5 lv [] (.inr (.inr (some a)) :: []) n I L P = mm_kr d 88 8 lv [] [] n (mm_rn d 89 [.inr (.inr (some a))] n I L P)) ∧
  (∀ (lv : List mm_V) z, mm_E d 88 8 lv [] [.inl z] n I L P = some (some (.inl z), n, I, L, P)) ∧
  (∀ (st : List mm_V) z (l0 : mm_V), mm_E d 88 9 [l0, (.inl z)] [] st n I L P = mm_E d 88 10 [l0, (.inl z)] [] ((.inl z) :: st) n I L P) ∧
  (∀ (lv : List mm_V) (st : List mm_V), mm_E d 88 10 lv [] st n I L P = mm_E d 88 11 lv [] (.inl 1 :: st) n I L P) ∧
  (∀ (lv : List mm_V) (st : List mm_V) a b, mm_E d 88 11 lv [] (.inl b :: .inl a :: st) n I L P = if a = b then mm_E d 88 14 lv [] st n I L P else mm_E d 88 21 lv [] st n I L P) ∧
  (∀ (st : List mm_V) z (l1 : mm_V), mm_E d 88 14 [(.inr (.inr z)), l1] [] st n I L P = mm_E d 88 15 [(.inr (.inr z)), l1] [] ((.inr (.inr z)) :: st) n I L P) ∧
  (∀ (lv : List mm_V) a, (mm_ok n a 11) → mm_E d 88 15 lv [] (.inr (.inr (some a)) :: []) n I L P = mm_kr d 88 18 lv [] [] n (mm_rn d 90 [.inr (.inr (some a))] n I L P)) ∧
  (∀ (lv : List mm_V) (st : List mm_V), mm_E d 88 18 lv [] st n I L P = mm_E d 88 22 lv [] st n I L P) ∧
  (∀ (lv : List mm_V) (st : List mm_V), mm_E d 88 21 lv [] st n I L P = mm_E d 88 22 lv [] (.inl (-1) :: st) n I L P) ∧
  (∀ (lv : List mm_V) z, mm_E d 88 22 lv [] [.inl z] n I L P = some (some (.inl z), n, I, L, P)) :=
  ⟨fun _ _ _ => mq_il (i := 1) rfl rfl,
   fun _ _ _ => mq_if_ne rfl,
   fun _ _ _ => mq_al (i := 0) rfl rfl,
   fun _ _ h0 => mq_cVr (na := 0) rfl rfl (Nat.le_of_ble_eq_true rfl) (Nat.le_of_ble_eq_true rfl) h0,
   fun _ _ => mq_ri rfl,
   fun _ _ _ => mq_il (i := 1) rfl rfl,
   fun _ _ => mq_push rfl,
   fun _ _ _ _ => mq_ic_ne rfl,
   fun _ _ _ => mq_al (i := 0) rfl rfl,
   fun _ _ h0 => mq_cVr (na := 0) rfl rfl (Nat.le_of_ble_eq_true rfl) (Nat.le_of_ble_eq_true rfl) h0,
   fun _ _ => mq_go rfl,
   fun _ _ => mq_push rfl,
   fun _ _ => mq_ri rfl⟩
theorem eX11_text (d n : Nat) (I L : mm_I) (P : mm_P) (x0 : Option Nat) (x1 : Int) : mm_rn (d + 1) 88 [.inr (.inr x0), .inl x1] n I L P = mm_E d 88 0 [.inr (.inr x0), .inl x1] [] [] n I L P := rfl

set_option maxRecDepth 20000 in
set_option maxHeartbeats 8000000 in
theorem kX11_takeTown (d n : Nat) (I L : mm_I) (P : mm_P) :
  (∀ (st : List mm_V) z (l1 : mm_V), mm_E d 89 0 [(.inr (.inr z)), l1] [] st n I L P = mm_E d 89 1 [(.inr (.inr z)), l1] [] ((.inr (.inr z)) :: st) n I L P) ∧
  (∀ (lv : List mm_V) (st : List mm_V) a, (mm_ok n a 11) → mm_E d 89 1 lv [] (.inr (.inr (some a)) :: st) n I L P = mm_E d 89 4 lv [] (.inr (.inr (P a 1)) :: st) n I L P) ∧
  (∀ (st : List mm_V) z (l1 : mm_V), mm_E d 89 4 [(.inr (.inr z)), l1] [] st n I L P = mm_E d 89 5 [(.inr (.inr z)), l1] [] ((.inr (.inr z)) :: st) n I L P) ∧
  (∀ (lv : List mm_V) (st : List mm_V) a, (mm_ok n a 11) → mm_E d 89 5 lv [] (.inr (.inr (some a)) :: st) n I L P = mm_E d 89 8 lv [] (.inr (.inr (P a 0)) :: st) n I L P) ∧
  (∀ (st : List mm_V) z (l1 : mm_V), mm_E d 89 8 [(.inr (.inr z)), l1] [] st n I L P = mm_E d 89 9 [(.inr (.inr z)), l1] [] ((.inr (.inr z)) :: st) n I L P) ∧
  (∀ (lv : List mm_V) (st : List mm_V) a, (mm_ok n a 11) → mm_E d 89 9 lv [] (.inr (.inr (some a)) :: st) n I L P = mm_E d 89 12 lv [] (.inr (.inr (P a 3)) :: st) n I L P) ∧
  (∀ (lv : List mm_V) a x0 x1, (mm_ok n a 10) → mm_E d 89 12 lv [] (.inr (.inr x1) :: .inr (.inr x0) :: .inr (.inr (some a)) :: []) n I L P = mm_kr d 89 15 lv [] [] n (mm_rn d 72 [.inr (.inr (some a)), .inr (.inr x0), .inr (.inr x1)] n I L P)) ∧
  (∀ (lv : List mm_V) (st : List mm_V) a, mm_E d 89 15 lv [] (.inl a :: st) n I L P = if a = 0 then mm_E d 89 18 lv [] st n I L P else mm_E d 89 20 lv [] st n I L P) ∧
  (∀ (lv : List mm_V) (st : List mm_V), mm_E d 89 18 lv [] st n I L P = mm_E d 89 19 lv [] (.inl (-1) :: st) n I L P) ∧
  (∀ (lv : List mm_V) z, mm_E d 89 19 lv [] [.inl z] n I L P = some (some (.inl z), n, I, L, P)) ∧
  (∀ (st : List mm_V) z (l1 : mm_V), mm_E d 89 20 [(.inr (.inr z)), l1] [] st n I L P = mm_E d 89 21 [(.inr (.inr z)), l1] [] ((.inr (.inr z)) :: st) n I L P) ∧
  (∀ (lv : List mm_V) (st : List mm_V) a, (mm_ok n a 11) → mm_E d 89 21 lv [] (.inr (.inr (some a)) :: st) n I L P = mm_E d 89 24 lv [] (.inr (.inr (P a 2)) :: st) n I L P) ∧
  (∀ (st : List mm_V) z (l0 : mm_V) (l1 : mm_V), mm_E d 89 24 [l0, l1] [] ((.inr (.inr z)) :: st) n I L P = mm_E d 89 25 [l0, (.inr (.inr z))] [] st n I L P) ∧
  (∀ (st : List mm_V) z (l1 : mm_V), mm_E d 89 25 [(.inr (.inr z)), l1] [] st n I L P = mm_E d 89 26 [(.inr (.inr z)), l1] [] ((.inr (.inr z)) :: st) n I L P) ∧
  (∀ (st : List mm_V) z (l1 : mm_V), mm_E d 89 26 [(.inr (.inr z)), l1] [] st n I L P = mm_E d 89 27 [(.inr (.inr z)), l1] [] ((.inr (.inr z)) :: st) n I L P) ∧
  (∀ (lv : List mm_V) (st : List mm_V) a, (mm_ok n a 11) → mm_E d 89 27 lv [] (.inr (.inr (some a)) :: st) n I L P = mm_E d 89 30 lv [] (.inr (.inr (P a 3)) :: st) n I L P) ∧
  (∀ (lv : List mm_V) (st : List mm_V) a z, (mm_ok n a 11) → mm_E d 89 30 lv [] (.inr (.inr z) :: .inr (.inr (some a)) :: st) n I L P = mm_E d 89 33 lv [] st n I L (mm_up P a 2 z)) ∧
  (∀ (st : List mm_V) z (l1 : mm_V), mm_E d 89 33 [(.inr (.inr z)), l1] [] st n I L P = mm_E d 89 34 [(.inr (.inr z)), l1] [] ((.inr (.inr z)) :: st) n I L P) ∧
  (∀ (st : List mm_V) z (l0 : mm_V), mm_E d 89 34 [l0, (.inr (.inr z))] [] st n I L P = mm_E d 89 35 [l0, (.inr (.inr z))] [] ((.inr (.inr z)) :: st) n I L P) ∧
  (∀ (lv : List mm_V) (st : List mm_V) a z, (mm_ok n a 11) → mm_E d 89 35 lv [] (.inr (.inr z) :: .inr (.inr (some a)) :: st) n I L P = mm_E d 89 38 lv [] st n I L (mm_up P a 3 z)) ∧
  (∀ (st : List mm_V) z (l1 : mm_V), mm_E d 89 38 [(.inr (.inr z)), l1] [] st n I L P = mm_E d 89 39 [(.inr (.inr z)), l1] [] ((.inr (.inr z)) :: st) n I L P) ∧
  (∀ (lv : List mm_V) (st : List mm_V) a, (mm_ok n a 11) → mm_E d 89 39 lv [] (.inr (.inr (some a)) :: st) n I L P = mm_E d 89 42 lv [] (.inr (.inr (P a 0)) :: st) n I L P) ∧
  (∀ (lv : List mm_V) (st : List mm_V), mm_E d 89 42 lv [] st n I L P = mm_E d 89 43 lv [] (.inl 0 :: st) n I L P) ∧
  (∀ (lv : List mm_V) (st : List mm_V) a z, (mm_ok n a 8) → mm_E d 89 43 lv [] (.inl z :: .inr (.inr (some a)) :: st) n I L P = mm_E d 89 46 lv [] st n (mm_ui I a 1 z) L P) ∧
  (∀ (st : List mm_V) z (l1 : mm_V), mm_E d 89 46 [(.inr (.inr z)), l1] [] st n I L P = mm_E d 89 47 [(.inr (.inr z)), l1] [] ((.inr (.inr z)) :: st) n I L P) ∧
  (∀ (lv : List mm_V) (st : List mm_V) a, (mm_ok n a 11) → mm_E d 89 47 lv [] (.inr (.inr (some a)) :: st) n I L P = mm_E d 89 50 lv [] (.inr (.inr (P a 8)) :: st) n I L P) ∧
  (∀ (st : List mm_V) z (l1 : mm_V), mm_E d 89 50 [(.inr (.inr z)), l1] [] st n I L P = mm_E d 89 51 [(.inr (.inr z)), l1] [] ((.inr (.inr z)) :: st) n I L P) ∧
  (∀ (lv : List mm_V) (st : List mm_V) a, (mm_ok n a 11) → mm_E d 89 51 lv [] (.inr (.inr (some a)) :: st) n I L P = mm_E d 89 54 lv [] (.inr (.inr (P a 2)) :: st) n I L P) ∧
  (∀ (lv : List mm_V) a x0, (mm_ok n a 5) → mm_E d 89 54 lv [] (.inr (.inr x0) :: .inr (.inr (some a)) :: []) n I L P = mm_kv d 89 57 lv [] [] n (mm_rn d 40 [.inr (.inr (some a)), .inr (.inr x0)] n I L P)) ∧
  (∀ (st : List mm_V) z (l1 : mm_V), mm_E d 89 57 [(.inr (.inr z)), l1] [] st n I L P = mm_E d 89 58 [(.inr (.inr z)), l1] [] ((.inr (.inr z)) :: st) n I L P) ∧
  (∀ (lv : List mm_V) (st : List mm_V) a, (mm_ok n a 11) → mm_E d 89 58 lv [] (.inr (.inr (some a)) :: st) n I L P = mm_E d 89 61 lv [] (.inr (.inr (P a 10)) :: st) n I L P) ∧
  (∀ (lv : List mm_V) (st : List mm_V), mm_E d 89 61 lv [] st n I L P = mm_E d 89 62 lv [] (.inl 0 :: st) n I L P) ∧
  (∀ (lv : List mm_V) (st : List mm_V) a z, (mm_ok n a 6) → mm_E d 89 62 lv [] (.inl z :: .inr (.inr (some a)) :: st) n I L P = mm_E d 89 65 lv [] st n (mm_ui I a 2 z) L P) ∧
  (∀ (st : List mm_V) z (l1 : mm_V), mm_E d 89 65 [(.inr (.inr z)), l1] [] st n I L P = mm_E d 89 66 [(.inr (.inr z)), l1] [] ((.inr (.inr z)) :: st) n I L P) ∧
  (∀ (lv : List mm_V) (st : List mm_V), mm_E d 89 66 lv [] st n I L P = mm_E d 89 67 lv [] (.inl 0 :: st) n I L P) ∧
  (∀ (lv : List mm_V) (st : List mm_V) a z, (mm_ok n a 11) → (z = 0 ∨ z = 1) → mm_E d 89 67 lv [] (.inl z :: .inr (.inr (some a)) :: st) n I L P = mm_E d 89 70 lv [] st n (mm_ui I a 13 z) L P) ∧
  (∀ (st : List mm_V) z (l1 : mm_V), mm_E d 89 70 [(.inr (.inr z)), l1] [] st n I L P = mm_E d 89 71 [(.inr (.inr z)), l1] [] ((.inr (.inr z)) :: st) n I L P) ∧
  (∀ (lv : List mm_V) (st : List mm_V) a, (mm_ok n a 11) → mm_E d 89 71 lv [] (.inr (.inr (some a)) :: st) n I L P = mm_E d 89 74 lv [] (.inr (.inr (P a 14)) :: st) n I L P) ∧
  (∀ (lv : List mm_V) (st : List mm_V), mm_E d 89 74 lv [] st n I L P = mm_E d 89 75 lv [] (.inl 0 :: st) n I L P) ∧
  (∀ (lv : List mm_V) (st : List mm_V) a z, (mm_ok n a 2) → mm_E d 89 75 lv [] (.inl z :: .inr (.inr (some a)) :: st) n I L P = mm_E d 89 78 lv [] st n (mm_ui I a 4 z) L P) ∧
  (∀ (st : List mm_V) z (l1 : mm_V), mm_E d 89 78 [(.inr (.inr z)), l1] [] st n I L P = mm_E d 89 79 [(.inr (.inr z)), l1] [] ((.inr (.inr z)) :: st) n I L P) ∧
  (∀ (lv : List mm_V) (st : List mm_V) a, (mm_ok n a 11) → mm_E d 89 79 lv [] (.inr (.inr (some a)) :: st) n I L P = mm_E d 89 82 lv [] (.inr (.inr (P a 2)) :: st) n I L P) ∧
  (∀ (lv : List mm_V) (st : List mm_V) a, (mm_ok n a 9) → mm_E d 89 82 lv [] (.inr (.inr (some a)) :: st) n I L P = mm_E d 89 85 lv [] (.inl (I a 0) :: st) n I L P) ∧
  (∀ (lv : List mm_V) z, mm_E d 89 85 lv [] [.inl z] n I L P = some (some (.inl z), n, I, L, P)) :=
  ⟨fun _ _ _ => mq_al (i := 0) rfl rfl,
   fun _ _ _ h0 => mq_getR rfl h0,
   fun _ _ _ => mq_al (i := 0) rfl rfl,
   fun _ _ _ h0 => mq_getR rfl h0,
   fun _ _ _ => mq_al (i := 0) rfl rfl,
   fun _ _ _ h0 => mq_getR rfl h0,
   fun _ _ _ _ h0 => mq_cVr (na := 2) rfl rfl (Nat.le_of_ble_eq_true rfl) (Nat.le_of_ble_eq_true rfl) h0,
   fun _ _ _ => mq_if_ne rfl,
   fun _ _ => mq_push rfl,
   fun _ _ => mq_ri rfl,
   fun _ _ _ => mq_al (i := 0) rfl rfl,
   fun _ _ _ h0 => mq_getR rfl h0,
   fun _ _ _ _ => mq_as (i := 1) rfl rfl rfl,
   fun _ _ _ => mq_al (i := 0) rfl rfl,
   fun _ _ _ => mq_al (i := 0) rfl rfl,
   fun _ _ _ h0 => mq_getR rfl h0,
   fun _ _ _ _ h0 => mq_putR rfl h0,
   fun _ _ _ => mq_al (i := 0) rfl rfl,
   fun _ _ _ => mq_al (i := 1) rfl rfl,
   fun _ _ _ _ h0 => mq_putR rfl h0,
   fun _ _ _ => mq_al (i := 0) rfl rfl,
   fun _ _ _ h0 => mq_getR rfl h0,
   fun _ _ => mq_push rfl,
   fun _ _ _ _ h0 => mq_putI rfl h0,
   fun _ _ _ => mq_al (i := 0) rfl rfl,
   fun _ _ _ h0 => mq_getR rfl h0,
   fun _ _ _ => mq_al (i := 0) rfl rfl,
   fun _ _ _ h0 => mq_getR rfl h0,
   fun _ _ _ h0 => mq_cVv (na := 1) rfl rfl (Nat.le_of_ble_eq_true rfl) (Nat.le_of_ble_eq_true rfl) h0,
   fun _ _ _ => mq_al (i := 0) rfl rfl,
   fun _ _ _ h0 => mq_getR rfl h0,
   fun _ _ => mq_push rfl,
   fun _ _ _ _ h0 => mq_putI rfl h0,
   fun _ _ _ => mq_al (i := 0) rfl rfl,
   fun _ _ => mq_push rfl,
   fun _ _ _ _ h0 h1 => mq_putZ rfl h0 h1,
   fun _ _ _ => mq_al (i := 0) rfl rfl,
   fun _ _ _ h0 => mq_getR rfl h0,
   fun _ _ => mq_push rfl,
   fun _ _ _ _ h0 => mq_putI rfl h0,
   fun _ _ _ => mq_al (i := 0) rfl rfl,
   fun _ _ _ h0 => mq_getR rfl h0,
   fun _ _ _ h0 => mq_getI rfl h0,
   fun _ _ => mq_ri rfl⟩
theorem eX11_takeTown (d n : Nat) (I L : mm_I) (P : mm_P) (x0 : Option Nat) : mm_rn (d + 1) 89 [.inr (.inr x0)] n I L P = mm_E d 89 0 [.inr (.inr x0), mm_junk] [] [] n I L P := rfl

set_option maxRecDepth 20000 in
set_option maxHeartbeats 8000000 in
theorem kX11_takeLaw (d n : Nat) (I L : mm_I) (P : mm_P) :
  (∀ (st : List mm_V) z, mm_E d 90 0 [(.inr (.inr z))] [] st n I L P = mm_E d 90 1 [(.inr (.inr z))] [] ((.inr (.inr z)) :: st) n I L P) ∧
  (∀ (lv : List mm_V) (st : List mm_V) a, (mm_ok n a 11) → mm_E d 90 1 lv [] (.inr (.inr (some a)) :: st) n I L P = mm_E d 90 4 lv [] (.inl (I a 5) :: st) n I L P) ∧
  (∀ (lv : List mm_V) (st : List mm_V), mm_E d 90 4 lv [] st n I L P = mm_E d 90 5 lv [] (.inl 4 :: st) n I L P) ∧
  (∀ (lv : List mm_V) (st : List mm_V) a b, mm_E d 90 5 lv [] (.inl b :: .inl a :: st) n I L P = if b ≤ a then mm_E d 90 22 lv [] st n I L P else mm_E d 90 8 lv [] st n I L P) ∧
  (∀ (st : List mm_V) z, mm_E d 90 8 [(.inr (.inr z))] [] st n I L P = mm_E d 90 9 [(.inr (.inr z))] [] ((.inr (.inr z)) :: st) n I L P) ∧
  (∀ (lv : List mm_V) (st : List mm_V) a, (mm_ok n a 11) → mm_E d 90 9 lv [] (.inr (.inr (some a)) :: st) n I L P = mm_E d 90 12 lv [] (.inr (.inr (P a 0)) :: st) n I L P) ∧
  (∀ (st : List mm_V) z, mm_E d 90 12 [(.inr (.inr z))] [] st n I L P = mm_E d 90 13 [(.inr (.inr z))] [] ((.inr (.inr z)) :: st) n I L P) ∧
  (∀ (lv : List mm_V) a w0, (mm_ok n a 11) → mm_E d 90 13 lv [] (.inr (.inr (some a)) :: [.inr (.inr w0)]) n I L P = mm_kr d 90 16 lv [] [.inr (.inr w0)] n (mm_rn d 289 [.inr (.inr (some a))] n I L P)) ∧
  (∀ (lv : List mm_V) x0 x1, mm_E d 90 16 lv [] (.inr (.inr x1) :: .inr (.inr x0) :: []) n I L P = mm_kr d 90 19 lv [] [] n (mm_rn d 28 [.inr (.inr x0), .inr (.inr x1)] n I L P)) ∧
  (∀ (lv : List mm_V) (st : List mm_V) a, mm_E d 90 19 lv [] (.inl a :: st) n I L P = if a = 0 then mm_E d 90 22 lv [] st n I L P else mm_E d 90 24 lv [] st n I L P) ∧
  (∀ (lv : List mm_V) (st : List mm_V), mm_E d 90 22 lv [] st n I L P = mm_E d 90 23 lv [] (.inl (-1) :: st) n I L P) ∧
  (∀ (lv : List mm_V) z, mm_E d 90 23 lv [] [.inl z] n I L P = some (some (.inl z), n, I, L, P)) ∧
  (∀ (st : List mm_V) z, mm_E d 90 24 [(.inr (.inr z))] [] st n I L P = mm_E d 90 25 [(.inr (.inr z))] [] ((.inr (.inr z)) :: st) n I L P) ∧
  (∀ (lv : List mm_V) (st : List mm_V) a, (mm_ok n a 11) → mm_E d 90 25 lv [] (.inr (.inr (some a)) :: st) n I L P = mm_E d 90 28 lv [] (.inr (.inr (P a 0)) :: st) n I L P) ∧
  (∀ (lv : List mm_V) (st : List mm_V), mm_E d 90 28 lv [] st n I L P = mm_E d 90 29 lv [] (.inl 0 :: st) n I L P) ∧
  (∀ (lv : List mm_V) (st : List mm_V) a z, (mm_ok n a 8) → mm_E d 90 29 lv [] (.inl z :: .inr (.inr (some a)) :: st) n I L P = mm_E d 90 32 lv [] st n (mm_ui I a 1 z) L P) ∧
  (∀ (st : List mm_V) z, mm_E d 90 32 [(.inr (.inr z))] [] st n I L P = mm_E d 90 33 [(.inr (.inr z))] [] ((.inr (.inr z)) :: st) n I L P) ∧
  (∀ (lv : List mm_V) (st : List mm_V) a, mm_E d 90 33 lv [] ((.inr (.inr a)) :: st) n I L P = mm_E d 90 34 lv [] ((.inr (.inr a)) :: (.inr (.inr a)) :: st) n I L P) ∧
  (∀ (lv : List mm_V) (st : List mm_V) a, (mm_ok n a 11) → mm_E d 90 34 lv [] (.inr (.inr (some a)) :: st) n I L P = mm_E d 90 37 lv [] (.inl (I a 5) :: st) n I L P) ∧
  (∀ (lv : List mm_V) (st : List mm_V), mm_E d 90 37 lv [] st n I L P = mm_E d 90 38 lv [] (.inl 1 :: st) n I L P) ∧
  (∀ (lv : List mm_V) (st : List mm_V) a b, mm_E d 90 38 lv [] (.inl b :: .inl a :: st) n I L P = mm_E d 90 39 lv [] (.inl (mm_add a b) :: st) n I L P) ∧
  (∀ (lv : List mm_V) (st : List mm_V) a z, (mm_ok n a 11) → mm_E d 90 39 lv [] (.inl z :: .inr (.inr (some a)) :: st) n I L P = mm_E d 90 42 lv [] st n (mm_ui I a 5 z) L P) ∧
  (∀ (st : List mm_V) z, mm_E d 90 42 [(.inr (.inr z))] [] st n I L P = mm_E d 90 43 [(.inr (.inr z))] [] ((.inr (.inr z)) :: st) n I L P) ∧
  (∀ (lv : List mm_V) (st : List mm_V) a, (mm_ok n a 11) → mm_E d 90 43 lv [] (.inr (.inr (some a)) :: st) n I L P = mm_E d 90 46 lv [] (.inl (I a 5) :: st) n I L P) ∧
  (∀ (lv : List mm_V) (st : List mm_V), mm_E d 90 46 lv [] st n I L P = mm_E d 90 47 lv [] (.inl 1 :: st) n I L P) ∧
  (∀ (lv : List mm_V) (st : List mm_V) a b, mm_E d 90 47 lv [] (.inl b :: .inl a :: st) n I L P = mm_E d 90 48 lv [] (.inl (mm_sub a b) :: st) n I L P) ∧
  (∀ (lv : List mm_V) z, mm_E d 90 48 lv [] [.inl z] n I L P = some (some (.inl z), n, I, L, P)) :=
  ⟨fun _ _ => mq_al (i := 0) rfl rfl,
   fun _ _ _ h0 => mq_getI rfl h0,
   fun _ _ => mq_push rfl,
   fun _ _ _ _ => mq_ic_ge rfl,
   fun _ _ => mq_al (i := 0) rfl rfl,
   fun _ _ _ h0 => mq_getR rfl h0,
   fun _ _ => mq_al (i := 0) rfl rfl,
   fun _ _ _ h0 => mq_cVr (na := 0) rfl rfl (Nat.le_of_ble_eq_true rfl) (Nat.le_of_ble_eq_true rfl) h0,
   fun _ _ _ => mq_cSr (na := 2) rfl (Nat.le_of_ble_eq_true rfl) (Nat.le_of_ble_eq_true rfl),
   fun _ _ _ => mq_if_ne rfl,
   fun _ _ => mq_push rfl,
   fun _ _ => mq_ri rfl,
   fun _ _ => mq_al (i := 0) rfl rfl,
   fun _ _ _ h0 => mq_getR rfl h0,
   fun _ _ => mq_push rfl,
   fun _ _ _ _ h0 => mq_putI rfl h0,
   fun _ _ => mq_al (i := 0) rfl rfl,
   fun _ _ _ => mq_dup rfl rfl,
   fun _ _ _ h0 => mq_getI rfl h0,
   fun _ _ => mq_push rfl,
   fun _ _ _ _ => mq_bi rfl,
   fun _ _ _ _ h0 => mq_putI rfl h0,
   fun _ _ => mq_al (i := 0) rfl rfl,
   fun _ _ _ h0 => mq_getI rfl h0,
   fun _ _ => mq_push rfl,
   fun _ _ _ _ => mq_bi rfl,
   fun _ _ => mq_ri rfl⟩
theorem eX11_takeLaw (d n : Nat) (I L : mm_I) (P : mm_P) (x0 : Option Nat) : mm_rn (d + 1) 90 [.inr (.inr x0)] n I L P = mm_E d 90 0 [.inr (.inr x0)] [] [] n I L P := rfl

set_option maxRecDepth 20000 in
set_option maxHeartbeats 8000000 in
theorem kX11_rule (d n : Nat) (I L : mm_I) (P : mm_P) :
  (∀ (st : List mm_V) z (l1 : mm_V), mm_E d 91 0 [(.inr (.inr z)), l1] [] st n I L P = mm_E d 91 1 [(.inr (.inr z)), l1] [] ((.inr (.inr z)) :: st) n I L P) ∧
  (∀ (lv : List mm_V) a, (mm_ok n a 11) → mm_E d 91 1 lv [] (.inr (.inr (some a)) :: []) n I L P = mm_kr d 91 4 lv [] [] n (mm_rn d 92 [.inr (.inr (some a))] n I L P)) ∧
  (∀ (lv : List mm_V) (st : List mm_V) a, mm_E d 91 4 lv [] (.inl a :: st) n I L P = if a = 0 then mm_E d 91 9 lv [] st n I L P else mm_E d 91 7 lv [] st n I L P) ∧
  (∀ (lv : List mm_V) (st : List mm_V), mm_E d 91 7 lv [] st n I L P = mm_E d 91 8 lv [] (.inl (-1) :: st) n I L P) ∧
  (∀ (lv : List mm_V) z, mm_E d 91 8 lv [] [.inl z] n I L P = some (some (.inl z), n, I, L, P)) ∧
  (∀ (st : List mm_V) z (l0 : mm_V), mm_E d 91 9 [l0, (.inl z)] [] st n I L P = mm_E d 91 10 [l0, (.inl z)] [] ((.inl z) :: st) n I L P) ∧
  (∀ (lv : List mm_V) (st : List mm_V) a, mm_E d 91 10 lv [] (.inl a :: st) n I L P = if a = 0 then mm_E d 91 48 lv [] st n I L P else if a = 1 then mm_E d 91 56 lv [] st n I L P else if a = 2 then mm_E d 91 64 lv [] st n I L P else if a = 3 then mm_E d 91 72 lv [] st n I L P else if a = 4 then mm_E d 91 80 lv [] st n I L P else if a = 5 then mm_E d 91 88 lv [] st n I L P else mm_E d 91 96 lv [] st n I L P) ∧
  (∀ (st : List mm_V) z (l1 : mm_V), mm_E d 91 48 [(.inr (.inr z)), l1] [] st n I L P = mm_E d 91 49 [(.inr (.inr z)), l1] [] ((.inr (.inr z)) :: st) n I L P) ∧
  (∀ (lv : List mm_V) (st : List mm_V) a, (mm_ok n a 11) → mm_E d 91 49 lv [] (.inr (.inr (some a)) :: st) n I L P = mm_E d 91 52 lv [] (.inr (.inr (P a 8)) :: st) n I L P) ∧
  (∀ (lv : List mm_V) (st : List mm_V) a, (mm_ok n a 5) → mm_E d 91 52 lv [] (.inr (.inr (some a)) :: st) n I L P = mm_E d 91 55 lv [] (.inl (I a 4) :: st) n I L P) ∧
  (∀ (lv : List mm_V) z, mm_E d 91 55 lv [] [.inl z] n I L P = some (some (.inl z), n, I, L, P)) ∧
  (∀ (st : List mm_V) z (l1 : mm_V), mm_E d 91 56 [(.inr (.inr z)), l1] [] st n I L P = mm_E d 91 57 [(.inr (.inr z)), l1] [] ((.inr (.inr z)) :: st) n I L P) ∧
  (∀ (lv : List mm_V) (st : List mm_V) a, (mm_ok n a 11) → mm_E d 91 57 lv [] (.inr (.inr (some a)) :: st) n I L P = mm_E d 91 60 lv [] (.inr (.inr (P a 2)) :: st) n I L P) ∧
  (∀ (lv : List mm_V) (st : List mm_V) a, (mm_ok n a 9) → mm_E d 91 60 lv [] (.inr (.inr (some a)) :: st) n I L P = mm_E d 91 63 lv [] (.inl (I a 2) :: st) n I L P) ∧
  (∀ (lv : List mm_V) z, mm_E d 91 63 lv [] [.inl z] n I L P = some (some (.inl z), n, I, L, P)) ∧
  (∀ (st : List mm_V) z (l1 : mm_V), mm_E d 91 64 [(.inr (.inr z)), l1] [] st n I L P = mm_E d 91 65 [(.inr (.inr z)), l1] [] ((.inr (.inr z)) :: st) n I L P) ∧
  (∀ (lv : List mm_V) (st : List mm_V) a, (mm_ok n a 11) → mm_E d 91 65 lv [] (.inr (.inr (some a)) :: st) n I L P = mm_E d 91 68 lv [] (.inr (.inr (P a 8)) :: st) n I L P) ∧
  (∀ (lv : List mm_V) (st : List mm_V) a, (mm_ok n a 5) → mm_E d 91 68 lv [] (.inr (.inr (some a)) :: st) n I L P = mm_E d 91 71 lv [] (.inl (I a 6) :: st) n I L P) ∧
  (∀ (lv : List mm_V) z, mm_E d 91 71 lv [] [.inl z] n I L P = some (some (.inl z), n, I, L, P)) ∧
  (∀ (st : List mm_V) z (l1 : mm_V), mm_E d 91 72 [(.inr (.inr z)), l1] [] st n I L P = mm_E d 91 73 [(.inr (.inr z)), l1] [] ((.inr (.inr z)) :: st) n I L P) ∧
  (∀ (lv : List mm_V) (st : List mm_V) a, (mm_ok n a 11) → mm_E d 91 73 lv [] (.inr (.inr (some a)) :: st) n I L P = mm_E d 91 76 lv [] (.inr (.inr (P a 8)) :: st) n I L P) ∧
  (∀ (lv : List mm_V) (st : List mm_V) a, (mm_ok n a 5) → mm_E d 91 76 lv [] (.inr (.inr (some a)) :: st) n I L P = mm_E d 91 79 lv [] (.inl (I a 5) :: st) n I L P) ∧
  (∀ (lv : List mm_V) z, mm_E d 91 79 lv [] [.inl z] n I L P = some (some (.inl z), n, I, L, P)) ∧
  (∀ (st : List mm_V) z (l1 : mm_V), mm_E d 91 80 [(.inr (.inr z)), l1] [] st n I L P = mm_E d 91 81 [(.inr (.inr z)), l1] [] ((.inr (.inr z)) :: st) n I L P) ∧
  (∀ (lv : List mm_V) (st : List mm_V) a, (mm_ok n a 11) → mm_E d 91 81 lv [] (.inr (.inr (some a)) :: st) n I L P = mm_E d 91 84 lv [] (.inr (.inr (P a 8)) :: st) n I L P) ∧
  (∀ (lv : List mm_V) (st : List mm_V) a, (mm_ok n a 5) → mm_E d 91 84 lv [] (.inr (.inr (some a)) :: st) n I L P = mm_E d 91 87 lv [] (.inl (I a 3) :: st) n I L P) ∧
  (∀ (lv : List mm_V) z, mm_E d 91 87 lv [] [.inl z] n I L P = some (some (.inl z), n, I, L, P)) ∧
  (∀ (st : List mm_V) z (l1 : mm_V), mm_E d 91 88 [(.inr (.inr z)), l1] [] st n I L P = mm_E d 91 89 [(.inr (.inr z)), l1] [] ((.inr (.inr z)) :: st) n I L P) ∧
  (∀ (lv : List mm_V) (st : List mm_V) a, (mm_ok n a 11) → mm_E d 91 89 lv [] (.inr (.inr (some a)) :: st) n I L P = mm_E d 91 92 lv [] (.inr (.inr (P a 8)) :: st) n I L P) ∧
  (∀ (lv : List mm_V) (st : List mm_V) a, (mm_ok n a 5) → mm_E d 91 92 lv [] (.inr (.inr (some a)) :: st) n I L P = mm_E d 91 95 lv [] (.inl (I a 7) :: st) n I L P) ∧
  (∀ (lv : List mm_V) z, mm_E d 91 95 lv [] [.inl z] n I L P = some (some (.inl z), n, I, L, P)) ∧
  (∀ (lv : List mm_V) (st : List mm_V), mm_E d 91 96 lv [] st n I L P = mm_E d 91 97 lv [] (.inl (-1) :: st) n I L P) ∧
  (∀ (lv : List mm_V) z, mm_E d 91 97 lv [] [.inl z] n I L P = some (some (.inl z), n, I, L, P)) :=
  ⟨fun _ _ _ => mq_al (i := 0) rfl rfl,
   fun _ _ h0 => mq_cVr (na := 0) rfl rfl (Nat.le_of_ble_eq_true rfl) (Nat.le_of_ble_eq_true rfl) h0,
   fun _ _ _ => mq_if_eq rfl,
   fun _ _ => mq_push rfl,
   fun _ _ => mq_ri rfl,
   fun _ _ _ => mq_il (i := 1) rfl rfl,
   fun _ _ _ => mq_sw (l := [(0, 48), (1, 56), (2, 64), (3, 72), (4, 80), (5, 88)]) (df := 96) rfl,
   fun _ _ _ => mq_al (i := 0) rfl rfl,
   fun _ _ _ h0 => mq_getR rfl h0,
   fun _ _ _ h0 => mq_getI rfl h0,
   fun _ _ => mq_ri rfl,
   fun _ _ _ => mq_al (i := 0) rfl rfl,
   fun _ _ _ h0 => mq_getR rfl h0,
   fun _ _ _ h0 => mq_getI rfl h0,
   fun _ _ => mq_ri rfl,
   fun _ _ _ => mq_al (i := 0) rfl rfl,
   fun _ _ _ h0 => mq_getR rfl h0,
   fun _ _ _ h0 => mq_getI rfl h0,
   fun _ _ => mq_ri rfl,
   fun _ _ _ => mq_al (i := 0) rfl rfl,
   fun _ _ _ h0 => mq_getR rfl h0,
   fun _ _ _ h0 => mq_getI rfl h0,
   fun _ _ => mq_ri rfl,
   fun _ _ _ => mq_al (i := 0) rfl rfl,
   fun _ _ _ h0 => mq_getR rfl h0,
   fun _ _ _ h0 => mq_getI rfl h0,
   fun _ _ => mq_ri rfl,
   fun _ _ _ => mq_al (i := 0) rfl rfl,
   fun _ _ _ h0 => mq_getR rfl h0,
   fun _ _ _ h0 => mq_getI rfl h0,
   fun _ _ => mq_ri rfl,
   fun _ _ => mq_push rfl,
   fun _ _ => mq_ri rfl⟩
theorem eX11_rule (d n : Nat) (I L : mm_I) (P : mm_P) (x0 : Option Nat) (x1 : Int) : mm_rn (d + 1) 91 [.inr (.inr x0), .inl x1] n I L P = mm_E d 91 0 [.inr (.inr x0), .inl x1] [] [] n I L P := rfl

set_option maxRecDepth 20000 in
set_option maxHeartbeats 8000000 in
theorem kX11_noTown (d n : Nat) (I L : mm_I) (P : mm_P) :
  (∀ (st : List mm_V) z, mm_E d 92 0 [(.inr (.inr z))] [] st n I L P = mm_E d 92 1 [(.inr (.inr z))] [] ((.inr (.inr z)) :: st) n I L P) ∧
  (∀ (lv : List mm_V) (st : List mm_V) a, (mm_ok n a 11) → mm_E d 92 1 lv [] (.inr (.inr (some a)) :: st) n I L P = mm_E d 92 4 lv [] (.inr (.inr (P a 2)) :: st) n I L P) ∧
  (∀ (lv : List mm_V) (st : List mm_V) a, (mm_ok n a 9) → mm_E d 92 4 lv [] (.inr (.inr (some a)) :: st) n I L P = mm_E d 92 7 lv [] (.inl (I a 0) :: st) n I L P) ∧
  (∀ (lv : List mm_V) (st : List mm_V) a, mm_E d 92 7 lv [] (.inl a :: st) n I L P = if a = 0 then mm_E d 92 10 lv [] st n I L P else mm_E d 92 14 lv [] st n I L P) ∧
  (∀ (lv : List mm_V) (st : List mm_V), mm_E d 92 10 lv [] st n I L P = mm_E d 92 11 lv [] (.inl 1 :: st) n I L P) ∧
  (∀ (lv : List mm_V) (st : List mm_V), mm_E d 92 11 lv [] st n I L P = mm_E d 92 15 lv [] st n I L P) ∧
  (∀ (lv : List mm_V) (st : List mm_V), mm_E d 92 14 lv [] st n I L P = mm_E d 92 15 lv [] (.inl 0 :: st) n I L P) ∧
  (∀ (lv : List mm_V) z, (0 ≤ z ∧ z < 2) → mm_E d 92 15 lv [] [.inl z] n I L P = some (some (.inl z), n, I, L, P)) :=
  ⟨fun _ _ => mq_al (i := 0) rfl rfl,
   fun _ _ _ h0 => mq_getR rfl h0,
   fun _ _ _ h0 => mq_getI rfl h0,
   fun _ _ _ => mq_if_ne rfl,
   fun _ _ => mq_push rfl,
   fun _ _ => mq_go rfl,
   fun _ _ => mq_push rfl,
   fun _ _ h0 => mq_rz rfl h0⟩
theorem eX11_noTown (d n : Nat) (I L : mm_I) (P : mm_P) (x0 : Option Nat) : mm_rn (d + 1) 92 [.inr (.inr x0)] n I L P = mm_E d 92 0 [.inr (.inr x0)] [] [] n I L P := rfl

set_option maxRecDepth 20000 in
set_option maxHeartbeats 8000000 in
theorem kX11_spot (d n : Nat) (I L : mm_I) (P : mm_P) :
  (∀ (st : List mm_V) z (l1 : mm_V) (l2 : mm_V), mm_E d 93 0 [(.inr (.inr z)), l1, l2] [] st n I L P = mm_E d 93 1 [(.inr (.inr z)), l1, l2] [] ((.inr (.inr z)) :: st) n I L P) ∧
  (∀ (lv : List mm_V) (st : List mm_V) a, (mm_ok n a 11) → mm_E d 93 1 lv [] (.inr (.inr (some a)) :: st) n I L P = mm_E d 93 4 lv [] (.inr (.inr (P a 2)) :: st) n I L P) ∧
  (∀ (st : List mm_V) z (l0 : mm_V) (l2 : mm_V), mm_E d 93 4 [l0, (.inl z), l2] [] st n I L P = mm_E d 93 5 [l0, (.inl z), l2] [] ((.inl z) :: st) n I L P) ∧
  (∀ (lv : List mm_V) a x0, (mm_ok n a 9) → mm_E d 93 5 lv [] (.inl x0 :: .inr (.inr (some a)) :: []) n I L P = mm_kr d 93 8 lv [] [] n (mm_rn d 63 [.inr (.inr (some a)), .inl x0] n I L P)) ∧
  (∀ (lv : List mm_V) (st : List mm_V) a, mm_E d 93 8 lv [] (.inl a :: st) n I L P = if a = 0 then mm_E d 93 20 lv [] st n I L P else mm_E d 93 11 lv [] st n I L P) ∧
  (∀ (st : List mm_V) z (l0 : mm_V) (l1 : mm_V), mm_E d 93 11 [l0, l1, (.inl z)] [] st n I L P = mm_E d 93 12 [l0, l1, (.inl z)] [] ((.inl z) :: st) n I L P) ∧
  (∀ (lv : List mm_V) (st : List mm_V) a, mm_E d 93 12 lv [] (.inl a :: st) n I L P = if a < 0 then mm_E d 93 20 lv [] st n I L P else mm_E d 93 15 lv [] st n I L P) ∧
  (∀ (st : List mm_V) z (l0 : mm_V) (l1 : mm_V), mm_E d 93 15 [l0, l1, (.inl z)] [] st n I L P = mm_E d 93 16 [l0, l1, (.inl z)] [] ((.inl z) :: st) n I L P) ∧
  (∀ (lv : List mm_V) (st : List mm_V), mm_E d 93 16 lv [] st n I L P = mm_E d 93 17 lv [] (.inl 4 :: st) n I L P) ∧
  (∀ (lv : List mm_V) (st : List mm_V) a b, mm_E d 93 17 lv [] (.inl b :: .inl a :: st) n I L P = if a ≤ b then mm_E d 93 30 lv [] st n I L P else mm_E d 93 20 lv [] st n I L P) ∧
  (∀ (lv : List mm_V), mm_E d 93 20 lv [] [] n I L P = some (some (.inr (.inr (some 66666666))), n + 1, I, L, P)) ∧
  (∀ (st : List mm_V) z (l0 : mm_V) (l1 : mm_V), mm_E d 93 30 [l0, l1, (.inl z)] [] st n I L P = mm_E d 93 31 [l0, l1, (.inl z)] [] ((.inl z) :: st) n I L P) ∧
  (∀ (lv : List mm_V) (st : List mm_V) a, mm_E d 93 31 lv [] (.inl a :: st) n I L P = if a = 0 then mm_E d 93 60 lv [] st n I L P else if a = 1 then mm_E d 93 70 lv [] st n I L P else if a = 2 then mm_E d 93 80 lv [] st n I L P else if a = 3 then mm_E d 93 106 lv [] st n I L P else mm_E d 93 116 lv [] st n I L P) ∧
  (∀ (st : List mm_V) z (l1 : mm_V) (l2 : mm_V), mm_E d 93 60 [(.inr (.inr z)), l1, l2] [] st n I L P = mm_E d 93 61 [(.inr (.inr z)), l1, l2] [] ((.inr (.inr z)) :: st) n I L P) ∧
  (∀ (lv : List mm_V) (st : List mm_V) a, (mm_ok n a 11) → mm_E d 93 61 lv [] (.inr (.inr (some a)) :: st) n I L P = mm_E d 93 64 lv [] (.inr (.inr (P a 8)) :: st) n I L P) ∧
  (∀ (lv : List mm_V) (st : List mm_V) a, (mm_ok n a 5) → mm_E d 93 64 lv [] (.inr (.inr (some a)) :: st) n I L P = mm_E d 93 67 lv [] (.inr (.inr (P a 0)) :: st) n I L P) ∧
  (∀ (st : List mm_V) z (l0 : mm_V) (l2 : mm_V), mm_E d 93 67 [l0, (.inl z), l2] [] st n I L P = mm_E d 93 68 [l0, (.inl z), l2] [] ((.inl z) :: st) n I L P) ∧
  (∀ (lv : List mm_V) (st : List mm_V) a i, (mm_ix n a 20 i) → mm_E d 93 68 lv [] (.inl i :: .inr (.inr (some a)) :: st) n I L P = mm_E d 93 69 lv [] (.inl (I a i.toNat) :: st) n I L P) ∧
  (∀ (lv : List mm_V) z, mm_E d 93 69 lv [] [.inl z] n I L P = some (some (.inl z), n, I, L, P)) ∧
  (∀ (st : List mm_V) z (l1 : mm_V) (l2 : mm_V), mm_E d 93 70 [(.inr (.inr z)), l1, l2] [] st n I L P = mm_E d 93 71 [(.inr (.inr z)), l1, l2] [] ((.inr (.inr z)) :: st) n I L P) ∧
  (∀ (lv : List mm_V) (st : List mm_V) a, (mm_ok n a 11) → mm_E d 93 71 lv [] (.inr (.inr (some a)) :: st) n I L P = mm_E d 93 74 lv [] (.inr (.inr (P a 2)) :: st) n I L P) ∧
  (∀ (lv : List mm_V) (st : List mm_V) a, (mm_ok n a 9) → mm_E d 93 74 lv [] (.inr (.inr (some a)) :: st) n I L P = mm_E d 93 77 lv [] (.inr (.inr (P a 5)) :: st) n I L P) ∧
  (∀ (st : List mm_V) z (l0 : mm_V) (l2 : mm_V), mm_E d 93 77 [l0, (.inl z), l2] [] st n I L P = mm_E d 93 78 [l0, (.inl z), l2] [] ((.inl z) :: st) n I L P) ∧
  (∀ (lv : List mm_V) (st : List mm_V) a i, (mm_ix n a 20 i) → mm_E d 93 78 lv [] (.inl i :: .inr (.inr (some a)) :: st) n I L P = mm_E d 93 79 lv [] (.inl (I a i.toNat) :: st) n I L P) ∧
  (∀ (lv : List mm_V) z, mm_E d 93 79 lv [] [.inl z] n I L P = some (some (.inl z), n, I, L, P)) ∧
  (∀ (st : List mm_V) z (l1 : mm_V) (l2 : mm_V), mm_E d 93 80 [(.inr (.inr z)), l1, l2] [] st n I L P = mm_E d 93 81 [(.inr (.inr z)), l1, l2] [] ((.inr (.inr z)) :: st) n I L P) ∧
  (∀ (lv : List mm_V) (st : List mm_V) a, (mm_ok n a 11) → mm_E d 93 81 lv [] (.inr (.inr (some a)) :: st) n I L P = mm_E d 93 84 lv [] (.inr (.inr (P a 8)) :: st) n I L P) ∧
  (∀ (lv : List mm_V) (st : List mm_V) a, (mm_ok n a 5) → mm_E d 93 84 lv [] (.inr (.inr (some a)) :: st) n I L P = mm_E d 93 87 lv [] (.inr (.inr (P a 2)) :: st) n I L P) ∧
  (∀ (st : List mm_V) z (l0 : mm_V) (l2 : mm_V), mm_E d 93 87 [l0, (.inl z), l2] [] st n I L P = mm_E d 93 88 [l0, (.inl z), l2] [] ((.inl z) :: st) n I L P) ∧
  (∀ (lv : List mm_V) (st : List mm_V) a i, (mm_ix n a 20 i) → mm_E d 93 88 lv [] (.inl i :: .inr (.inr (some a)) :: st) n I L P = mm_E d 93 89 lv [] (.inl (I a i.toNat) :: st) n I L P) ∧
  (∀ (lv : List mm_V) (st : List mm_V) a, mm_E d 93 89 lv [] (.inl a :: st) n I L P = if a ≤ 0 then mm_E d 93 104 lv [] st n I L P else mm_E d 93 92 lv [] st n I L P) ∧
  (∀ (st : List mm_V) z (l1 : mm_V) (l2 : mm_V), mm_E d 93 92 [(.inr (.inr z)), l1, l2] [] st n I L P = mm_E d 93 93 [(.inr (.inr z)), l1, l2] [] ((.inr (.inr z)) :: st) n I L P) ∧
  (∀ (lv : List mm_V) (st : List mm_V) a, (mm_ok n a 11) → mm_E d 93 93 lv [] (.inr (.inr (some a)) :: st) n I L P = mm_E d 93 96 lv [] (.inr (.inr (P a 8)) :: st) n I L P) ∧
  (∀ (lv : List mm_V) (st : List mm_V) a, (mm_ok n a 5) → mm_E d 93 96 lv [] (.inr (.inr (some a)) :: st) n I L P = mm_E d 93 99 lv [] (.inr (.inr (P a 1)) :: st) n I L P) ∧
  (∀ (st : List mm_V) z (l0 : mm_V) (l2 : mm_V), mm_E d 93 99 [l0, (.inl z), l2] [] st n I L P = mm_E d 93 100 [l0, (.inl z), l2] [] ((.inl z) :: st) n I L P) ∧
  (∀ (lv : List mm_V) (st : List mm_V) a i, (mm_ix n a 20 i) → mm_E d 93 100 lv [] (.inl i :: .inr (.inr (some a)) :: st) n I L P = mm_E d 93 101 lv [] (.inl (I a i.toNat) :: st) n I L P) ∧
  (∀ (lv : List mm_V) (st : List mm_V), mm_E d 93 101 lv [] st n I L P = mm_E d 93 105 lv [] st n I L P) ∧
  (∀ (lv : List mm_V) (st : List mm_V), mm_E d 93 104 lv [] st n I L P = mm_E d 93 105 lv [] (.inl (-1) :: st) n I L P) ∧
  (∀ (lv : List mm_V) z, mm_E d 93 105 lv [] [.inl z] n I L P = some (some (.inl z), n, I, L, P)) ∧
  (∀ (st : List mm_V) z (l1 : mm_V) (l2 : mm_V), mm_E d 93 106 [(.inr (.inr z)), l1, l2] [] st n I L P = mm_E d 93 107 [(.inr (.inr z)), l1, l2] [] ((.inr (.inr z)) :: st) n I L P) ∧
  (∀ (lv : List mm_V) (st : List mm_V) a, (mm_ok n a 11) → mm_E d 93 107 lv [] (.inr (.inr (some a)) :: st) n I L P = mm_E d 93 110 lv [] (.inr (.inr (P a 8)) :: st) n I L P) ∧
  (∀ (lv : List mm_V) (st : List mm_V) a, (mm_ok n a 5) → mm_E d 93 110 lv [] (.inr (.inr (some a)) :: st) n I L P = mm_E d 93 113 lv [] (.inr (.inr (P a 2)) :: st) n I L P) ∧
  (∀ (st : List mm_V) z (l0 : mm_V) (l2 : mm_V), mm_E d 93 113 [l0, (.inl z), l2] [] st n I L P = mm_E d 93 114 [l0, (.inl z), l2] [] ((.inl z) :: st) n I L P) ∧
  (∀ (lv : List mm_V) (st : List mm_V) a i, (mm_ix n a 20 i) → mm_E d 93 114 lv [] (.inl i :: .inr (.inr (some a)) :: st) n I L P = mm_E d 93 115 lv [] (.inl (I a i.toNat) :: st) n I L P) ∧
  (∀ (lv : List mm_V) z, mm_E d 93 115 lv [] [.inl z] n I L P = some (some (.inl z), n, I, L, P)) ∧
  (∀ (st : List mm_V) z (l1 : mm_V) (l2 : mm_V), mm_E d 93 116 [(.inr (.inr z)), l1, l2] [] st n I L P = mm_E d 93 117 [(.inr (.inr z)), l1, l2] [] ((.inr (.inr z)) :: st) n I L P) ∧
  (∀ (lv : List mm_V) (st : List mm_V) a, (mm_ok n a 11) → mm_E d 93 117 lv [] (.inr (.inr (some a)) :: st) n I L P = mm_E d 93 120 lv [] (.inr (.inr (P a 2)) :: st) n I L P) ∧
  (∀ (lv : List mm_V) (st : List mm_V) a, (mm_ok n a 9) → mm_E d 93 120 lv [] (.inr (.inr (some a)) :: st) n I L P = mm_E d 93 123 lv [] (.inr (.inr (P a 6)) :: st) n I L P) ∧
  (∀ (st : List mm_V) z (l0 : mm_V) (l2 : mm_V), mm_E d 93 123 [l0, (.inl z), l2] [] st n I L P = mm_E d 93 124 [l0, (.inl z), l2] [] ((.inl z) :: st) n I L P) ∧
  (∀ (lv : List mm_V) (st : List mm_V) a i, (mm_ix n a 20 i) → mm_E d 93 124 lv [] (.inl i :: .inr (.inr (some a)) :: st) n I L P = mm_E d 93 125 lv [] (.inl (I a i.toNat) :: st) n I L P) ∧
  (∀ (lv : List mm_V) z, mm_E d 93 125 lv [] [.inl z] n I L P = some (some (.inl z), n, I, L, P)) :=
  ⟨fun _ _ _ _ => mq_al (i := 0) rfl rfl,
   fun _ _ _ h0 => mq_getR rfl h0,
   fun _ _ _ _ => mq_il (i := 1) rfl rfl,
   fun _ _ _ h0 => mq_cVr (na := 1) rfl rfl (Nat.le_of_ble_eq_true rfl) (Nat.le_of_ble_eq_true rfl) h0,
   fun _ _ _ => mq_if_eq rfl,
   fun _ _ _ _ => mq_il (i := 2) rfl rfl,
   fun _ _ _ => mq_if_lt rfl,
   fun _ _ _ _ => mq_il (i := 2) rfl rfl,
   fun _ _ => mq_push rfl,
   fun _ _ _ _ => mq_ic_le rfl,
   fun _ => mq_thr rfl,
   fun _ _ _ _ => mq_il (i := 2) rfl rfl,
   fun _ _ _ => mq_sw (l := [(0, 60), (1, 70), (2, 80), (3, 106)]) (df := 116) rfl,
   fun _ _ _ _ => mq_al (i := 0) rfl rfl,
   fun _ _ _ h0 => mq_getR rfl h0,
   fun _ _ _ h0 => mq_getR rfl h0,
   fun _ _ _ _ => mq_il (i := 1) rfl rfl,
   fun _ _ _ _ h0 => mq_iald rfl h0,
   fun _ _ => mq_ri rfl,
   fun _ _ _ _ => mq_al (i := 0) rfl rfl,
   fun _ _ _ h0 => mq_getR rfl h0,
   fun _ _ _ h0 => mq_getR rfl h0,
   fun _ _ _ _ => mq_il (i := 1) rfl rfl,
   fun _ _ _ _ h0 => mq_iald rfl h0,
   fun _ _ => mq_ri rfl,
   fun _ _ _ _ => mq_al (i := 0) rfl rfl,
   fun _ _ _ h0 => mq_getR rfl h0,
   fun _ _ _ h0 => mq_getR rfl h0,
   fun _ _ _ _ => mq_il (i := 1) rfl rfl,
   fun _ _ _ _ h0 => mq_iald rfl h0,
   fun _ _ _ => mq_if_le rfl,
   fun _ _ _ _ => mq_al (i := 0) rfl rfl,
   fun _ _ _ h0 => mq_getR rfl h0,
   fun _ _ _ h0 => mq_getR rfl h0,
   fun _ _ _ _ => mq_il (i := 1) rfl rfl,
   fun _ _ _ _ h0 => mq_iald rfl h0,
   fun _ _ => mq_go rfl,
   fun _ _ => mq_push rfl,
   fun _ _ => mq_ri rfl,
   fun _ _ _ _ => mq_al (i := 0) rfl rfl,
   fun _ _ _ h0 => mq_getR rfl h0,
   fun _ _ _ h0 => mq_getR rfl h0,
   fun _ _ _ _ => mq_il (i := 1) rfl rfl,
   fun _ _ _ _ h0 => mq_iald rfl h0,
   fun _ _ => mq_ri rfl,
   fun _ _ _ _ => mq_al (i := 0) rfl rfl,
   fun _ _ _ h0 => mq_getR rfl h0,
   fun _ _ _ h0 => mq_getR rfl h0,
   fun _ _ _ _ => mq_il (i := 1) rfl rfl,
   fun _ _ _ _ h0 => mq_iald rfl h0,
   fun _ _ => mq_ri rfl⟩
theorem eX11_spot (d n : Nat) (I L : mm_I) (P : mm_P) (x0 : Option Nat) (x1 : Int) (x2 : Int) : mm_rn (d + 1) 93 [.inr (.inr x0), .inl x1, .inl x2] n I L P = mm_E d 93 0 [.inr (.inr x0), .inl x1, .inl x2] [] [] n I L P := rfl

set_option maxRecDepth 20000 in
set_option maxHeartbeats 8000000 in
theorem kX11_steps (d n : Nat) (I L : mm_I) (P : mm_P) :
  (∀ (st : List mm_V) z (l1 : mm_V) (l2 : mm_V), mm_E d 94 0 [(.inr (.inr z)), l1, l2] [] st n I L P = mm_E d 94 1 [(.inr (.inr z)), l1, l2] [] ((.inr (.inr z)) :: st) n I L P) ∧
  (∀ (lv : List mm_V) (st : List mm_V) a, (mm_ok n a 11) → mm_E d 94 1 lv [] (.inr (.inr (some a)) :: st) n I L P = mm_E d 94 4 lv [] (.inr (.inr (P a 2)) :: st) n I L P) ∧
  (∀ (st : List mm_V) z (l0 : mm_V) (l2 : mm_V), mm_E d 94 4 [l0, (.inl z), l2] [] st n I L P = mm_E d 94 5 [l0, (.inl z), l2] [] ((.inl z) :: st) n I L P) ∧
  (∀ (lv : List mm_V) a x0, (mm_ok n a 9) → mm_E d 94 5 lv [] (.inl x0 :: .inr (.inr (some a)) :: []) n I L P = mm_kr d 94 8 lv [] [] n (mm_rn d 63 [.inr (.inr (some a)), .inl x0] n I L P)) ∧
  (∀ (lv : List mm_V) (st : List mm_V) a, mm_E d 94 8 lv [] (.inl a :: st) n I L P = if a = 0 then mm_E d 94 34 lv [] st n I L P else mm_E d 94 11 lv [] st n I L P) ∧
  (∀ (st : List mm_V) z (l1 : mm_V) (l2 : mm_V), mm_E d 94 11 [(.inr (.inr z)), l1, l2] [] st n I L P = mm_E d 94 12 [(.inr (.inr z)), l1, l2] [] ((.inr (.inr z)) :: st) n I L P) ∧
  (∀ (lv : List mm_V) (st : List mm_V) a, (mm_ok n a 11) → mm_E d 94 12 lv [] (.inr (.inr (some a)) :: st) n I L P = mm_E d 94 15 lv [] (.inr (.inr (P a 2)) :: st) n I L P) ∧
  (∀ (st : List mm_V) z (l0 : mm_V) (l1 : mm_V), mm_E d 94 15 [l0, l1, (.inl z)] [] st n I L P = mm_E d 94 16 [l0, l1, (.inl z)] [] ((.inl z) :: st) n I L P) ∧
  (∀ (lv : List mm_V) a x0, (mm_ok n a 9) → mm_E d 94 16 lv [] (.inl x0 :: .inr (.inr (some a)) :: []) n I L P = mm_kr d 94 19 lv [] [] n (mm_rn d 63 [.inr (.inr (some a)), .inl x0] n I L P)) ∧
  (∀ (lv : List mm_V) (st : List mm_V) a, mm_E d 94 19 lv [] (.inl a :: st) n I L P = if a = 0 then mm_E d 94 34 lv [] st n I L P else mm_E d 94 22 lv [] st n I L P) ∧
  (∀ (st : List mm_V) z (l1 : mm_V) (l2 : mm_V), mm_E d 94 22 [(.inr (.inr z)), l1, l2] [] st n I L P = mm_E d 94 23 [(.inr (.inr z)), l1, l2] [] ((.inr (.inr z)) :: st) n I L P) ∧
  (∀ (lv : List mm_V) (st : List mm_V) a, (mm_ok n a 11) → mm_E d 94 23 lv [] (.inr (.inr (some a)) :: st) n I L P = mm_E d 94 26 lv [] (.inr (.inr (P a 2)) :: st) n I L P) ∧
  (∀ (st : List mm_V) z (l0 : mm_V) (l2 : mm_V), mm_E d 94 26 [l0, (.inl z), l2] [] st n I L P = mm_E d 94 27 [l0, (.inl z), l2] [] ((.inl z) :: st) n I L P) ∧
  (∀ (st : List mm_V) z (l0 : mm_V) (l1 : mm_V), mm_E d 94 27 [l0, l1, (.inl z)] [] st n I L P = mm_E d 94 28 [l0, l1, (.inl z)] [] ((.inl z) :: st) n I L P) ∧
  (∀ (lv : List mm_V) a x0 x1, (mm_ok n a 9) → mm_E d 94 28 lv [] (.inl x1 :: .inl x0 :: .inr (.inr (some a)) :: []) n I L P = mm_kr d 94 31 lv [] [] n (mm_rn d 64 [.inr (.inr (some a)), .inl x0, .inl x1] n I L P)) ∧
  (∀ (lv : List mm_V) (st : List mm_V), mm_E d 94 31 lv [] st n I L P = mm_E d 94 35 lv [] st n I L P) ∧
  (∀ (lv : List mm_V) (st : List mm_V), mm_E d 94 34 lv [] st n I L P = mm_E d 94 35 lv [] (.inl (-1) :: st) n I L P) ∧
  (∀ (lv : List mm_V) z, mm_E d 94 35 lv [] [.inl z] n I L P = some (some (.inl z), n, I, L, P)) :=
  ⟨fun _ _ _ _ => mq_al (i := 0) rfl rfl,
   fun _ _ _ h0 => mq_getR rfl h0,
   fun _ _ _ _ => mq_il (i := 1) rfl rfl,
   fun _ _ _ h0 => mq_cVr (na := 1) rfl rfl (Nat.le_of_ble_eq_true rfl) (Nat.le_of_ble_eq_true rfl) h0,
   fun _ _ _ => mq_if_eq rfl,
   fun _ _ _ _ => mq_al (i := 0) rfl rfl,
   fun _ _ _ h0 => mq_getR rfl h0,
   fun _ _ _ _ => mq_il (i := 2) rfl rfl,
   fun _ _ _ h0 => mq_cVr (na := 1) rfl rfl (Nat.le_of_ble_eq_true rfl) (Nat.le_of_ble_eq_true rfl) h0,
   fun _ _ _ => mq_if_eq rfl,
   fun _ _ _ _ => mq_al (i := 0) rfl rfl,
   fun _ _ _ h0 => mq_getR rfl h0,
   fun _ _ _ _ => mq_il (i := 1) rfl rfl,
   fun _ _ _ _ => mq_il (i := 2) rfl rfl,
   fun _ _ _ _ h0 => mq_cVr (na := 2) rfl rfl (Nat.le_of_ble_eq_true rfl) (Nat.le_of_ble_eq_true rfl) h0,
   fun _ _ => mq_go rfl,
   fun _ _ => mq_push rfl,
   fun _ _ => mq_ri rfl⟩
theorem eX11_steps (d n : Nat) (I L : mm_I) (P : mm_P) (x0 : Option Nat) (x1 : Int) (x2 : Int) : mm_rn (d + 1) 94 [.inr (.inr x0), .inl x1, .inl x2] n I L P = mm_E d 94 0 [.inr (.inr x0), .inl x1, .inl x2] [] [] n I L P := rfl

set_option maxRecDepth 20000 in
set_option maxHeartbeats 8000000 in
theorem kX11_law (d n : Nat) (I L : mm_I) (P : mm_P) :
  (∀ (st : List mm_V) z (l0 : mm_V), mm_E d 95 0 [l0, (.inl z)] [] st n I L P = mm_E d 95 1 [l0, (.inl z)] [] ((.inl z) :: st) n I L P) ∧
  (∀ (lv : List mm_V) (st : List mm_V), mm_E d 95 1 lv [] st n I L P = mm_E d 95 2 lv [] (.inl (-1) :: st) n I L P) ∧
  (∀ (lv : List mm_V) (st : List mm_V) a b, mm_E d 95 2 lv [] (.inl b :: .inl a :: st) n I L P = if a < b then mm_E d 95 13 lv [] st n I L P else mm_E d 95 5 lv [] st n I L P) ∧
  (∀ (st : List mm_V) z (l0 : mm_V), mm_E d 95 5 [l0, (.inl z)] [] st n I L P = mm_E d 95 6 [l0, (.inl z)] [] ((.inl z) :: st) n I L P) ∧
  (∀ (st : List mm_V) z (l1 : mm_V), mm_E d 95 6 [(.inr (.inr z)), l1] [] st n I L P = mm_E d 95 7 [(.inr (.inr z)), l1] [] ((.inr (.inr z)) :: st) n I L P) ∧
  (∀ (lv : List mm_V) (st : List mm_V) a, (mm_ok n a 11) → mm_E d 95 7 lv [] (.inr (.inr (some a)) :: st) n I L P = mm_E d 95 10 lv [] (.inl (I a 5) :: st) n I L P) ∧
  (∀ (lv : List mm_V) (st : List mm_V) a b, mm_E d 95 10 lv [] (.inl b :: .inl a :: st) n I L P = if a < b then mm_E d 95 15 lv [] st n I L P else mm_E d 95 13 lv [] st n I L P) ∧
  (∀ (lv : List mm_V) (st : List mm_V), mm_E d 95 13 lv [] st n I L P = mm_E d 95 14 lv [] (.inl 0 :: st) n I L P) ∧
  (∀ (lv : List mm_V) z, (0 ≤ z ∧ z < 2) → mm_E d 95 14 lv [] [.inl z] n I L P = some (some (.inl z), n, I, L, P)) ∧
  (∀ (st : List mm_V) z (l1 : mm_V), mm_E d 95 15 [(.inr (.inr z)), l1] [] st n I L P = mm_E d 95 16 [(.inr (.inr z)), l1] [] ((.inr (.inr z)) :: st) n I L P) ∧
  (∀ (st : List mm_V) z (l0 : mm_V), mm_E d 95 16 [l0, (.inl z)] [] st n I L P = mm_E d 95 17 [l0, (.inl z)] [] ((.inl z) :: st) n I L P) ∧
  (∀ (lv : List mm_V) (st : List mm_V) a z, (mm_ok n a 11) → mm_E d 95 17 lv [] (.inl z :: .inr (.inr (some a)) :: st) n I L P = mm_E d 95 20 lv [] st n (mm_ui I a 6 z) L P) ∧
  (∀ (lv : List mm_V) (st : List mm_V), mm_E d 95 20 lv [] st n I L P = mm_E d 95 21 lv [] (.inl 1 :: st) n I L P) ∧
  (∀ (lv : List mm_V) z, (0 ≤ z ∧ z < 2) → mm_E d 95 21 lv [] [.inl z] n I L P = some (some (.inl z), n, I, L, P)) :=
  ⟨fun _ _ _ => mq_il (i := 1) rfl rfl,
   fun _ _ => mq_push rfl,
   fun _ _ _ _ => mq_ic_lt rfl,
   fun _ _ _ => mq_il (i := 1) rfl rfl,
   fun _ _ _ => mq_al (i := 0) rfl rfl,
   fun _ _ _ h0 => mq_getI rfl h0,
   fun _ _ _ _ => mq_ic_lt rfl,
   fun _ _ => mq_push rfl,
   fun _ _ h0 => mq_rz rfl h0,
   fun _ _ _ => mq_al (i := 0) rfl rfl,
   fun _ _ _ => mq_il (i := 1) rfl rfl,
   fun _ _ _ _ h0 => mq_putI rfl h0,
   fun _ _ => mq_push rfl,
   fun _ _ h0 => mq_rz rfl h0⟩
theorem eX11_law (d n : Nat) (I L : mm_I) (P : mm_P) (x0 : Option Nat) (x1 : Int) : mm_rn (d + 1) 95 [.inr (.inr x0), .inl x1] n I L P = mm_E d 95 0 [.inr (.inr x0), .inl x1] [] [] n I L P := rfl

set_option maxRecDepth 20000 in
set_option maxHeartbeats 8000000 in
theorem kX11_heldLaw (d n : Nat) (I L : mm_I) (P : mm_P) :
  (∀ (st : List mm_V) z, mm_E d 96 0 [(.inr (.inr z))] [] st n I L P = mm_E d 96 1 [(.inr (.inr z))] [] ((.inr (.inr z)) :: st) n I L P) ∧
  (∀ (lv : List mm_V) (st : List mm_V) a, (mm_ok n a 11) → mm_E d 96 1 lv [] (.inr (.inr (some a)) :: st) n I L P = mm_E d 96 4 lv [] (.inl (I a 6) :: st) n I L P) ∧
  (∀ (lv : List mm_V) (st : List mm_V) a, mm_E d 96 4 lv [] (.inl a :: st) n I L P = if a < 0 then mm_E d 96 30 lv [] st n I L P else mm_E d 96 7 lv [] st n I L P) ∧
  (∀ (st : List mm_V) z, mm_E d 96 7 [(.inr (.inr z))] [] st n I L P = mm_E d 96 8 [(.inr (.inr z))] [] ((.inr (.inr z)) :: st) n I L P) ∧
  (∀ (lv : List mm_V) (st : List mm_V) a, (mm_ok n a 11) → mm_E d 96 8 lv [] (.inr (.inr (some a)) :: st) n I L P = mm_E d 96 11 lv [] (.inl (I a 6) :: st) n I L P) ∧
  (∀ (st : List mm_V) z, mm_E d 96 11 [(.inr (.inr z))] [] st n I L P = mm_E d 96 12 [(.inr (.inr z))] [] ((.inr (.inr z)) :: st) n I L P) ∧
  (∀ (lv : List mm_V) (st : List mm_V) a, (mm_ok n a 11) → mm_E d 96 12 lv [] (.inr (.inr (some a)) :: st) n I L P = mm_E d 96 15 lv [] (.inl (I a 5) :: st) n I L P) ∧
  (∀ (lv : List mm_V) (st : List mm_V) a b, mm_E d 96 15 lv [] (.inl b :: .inl a :: st) n I L P = if b ≤ a then mm_E d 96 30 lv [] st n I L P else mm_E d 96 18 lv [] st n I L P) ∧
  (∀ (st : List mm_V) z, mm_E d 96 18 [(.inr (.inr z))] [] st n I L P = mm_E d 96 19 [(.inr (.inr z))] [] ((.inr (.inr z)) :: st) n I L P) ∧
  (∀ (lv : List mm_V) (st : List mm_V) a, (mm_ok n a 11) → mm_E d 96 19 lv [] (.inr (.inr (some a)) :: st) n I L P = mm_E d 96 22 lv [] (.inr (.inr (P a 4)) :: st) n I L P) ∧
  (∀ (st : List mm_V) z, mm_E d 96 22 [(.inr (.inr z))] [] st n I L P = mm_E d 96 23 [(.inr (.inr z))] [] ((.inr (.inr z)) :: st) n I L P) ∧
  (∀ (lv : List mm_V) (st : List mm_V) a, (mm_ok n a 11) → mm_E d 96 23 lv [] (.inr (.inr (some a)) :: st) n I L P = mm_E d 96 26 lv [] (.inl (I a 6) :: st) n I L P) ∧
  (∀ (lv : List mm_V) (st : List mm_V) a i, (mm_ix n a 24 i) → mm_E d 96 26 lv [] (.inl i :: .inr (.inr (some a)) :: st) n I L P = mm_E d 96 27 lv [] (.inr (.inr (P a i.toNat)) :: st) n I L P) ∧
  (∀ (lv : List mm_V) (st : List mm_V), mm_E d 96 27 lv [] st n I L P = mm_E d 96 31 lv [] st n I L P) ∧
  (∀ (lv : List mm_V) (st : List mm_V), mm_E d 96 30 lv [] st n I L P = mm_E d 96 31 lv [] (.inr (.inr none) :: st) n I L P) ∧
  (∀ (lv : List mm_V) z, mm_E d 96 31 lv [] [.inr (.inr z)] n I L P = some (some (.inr (.inr z)), n, I, L, P)) :=
  ⟨fun _ _ => mq_al (i := 0) rfl rfl,
   fun _ _ _ h0 => mq_getI rfl h0,
   fun _ _ _ => mq_if_lt rfl,
   fun _ _ => mq_al (i := 0) rfl rfl,
   fun _ _ _ h0 => mq_getI rfl h0,
   fun _ _ => mq_al (i := 0) rfl rfl,
   fun _ _ _ h0 => mq_getI rfl h0,
   fun _ _ _ _ => mq_ic_ge rfl,
   fun _ _ => mq_al (i := 0) rfl rfl,
   fun _ _ _ h0 => mq_getR rfl h0,
   fun _ _ => mq_al (i := 0) rfl rfl,
   fun _ _ _ h0 => mq_getI rfl h0,
   fun _ _ _ _ h0 => mq_aald rfl h0,
   fun _ _ => mq_go rfl,
   fun _ _ => mq_push rfl,
   fun _ _ => mq_ra rfl⟩
theorem eX11_heldLaw (d n : Nat) (I L : mm_I) (P : mm_P) (x0 : Option Nat) : mm_rn (d + 1) 96 [.inr (.inr x0)] n I L P = mm_E d 96 0 [.inr (.inr x0)] [] [] n I L P := rfl

set_option maxRecDepth 20000 in
set_option maxHeartbeats 8000000 in
theorem kX11_danger (d n : Nat) (I L : mm_I) (P : mm_P) :
  (∀ (st : List mm_V) z (l0 : mm_V), mm_E d 97 0 [l0, (.inl z)] [] st n I L P = mm_E d 97 1 [l0, (.inl z)] [] ((.inl z) :: st) n I L P) ∧
  (∀ (lv : List mm_V) (st : List mm_V) a, mm_E d 97 1 lv [] (.inl a :: st) n I L P = if a < 0 then mm_E d 97 18 lv [] st n I L P else mm_E d 97 4 lv [] st n I L P) ∧
  (∀ (st : List mm_V) z (l0 : mm_V), mm_E d 97 4 [l0, (.inl z)] [] st n I L P = mm_E d 97 5 [l0, (.inl z)] [] ((.inl z) :: st) n I L P) ∧
  (∀ (lv : List mm_V) (st : List mm_V), mm_E d 97 5 lv [] st n I L P = mm_E d 97 7 lv [] (.inl 9 :: st) n I L P) ∧
  (∀ (lv : List mm_V) (st : List mm_V) a b, mm_E d 97 7 lv [] (.inl b :: .inl a :: st) n I L P = if b < a then mm_E d 97 18 lv [] st n I L P else mm_E d 97 10 lv [] st n I L P) ∧
  (∀ (st : List mm_V) z (l0 : mm_V), mm_E d 97 10 [l0, (.inl z)] [] st n I L P = mm_E d 97 11 [l0, (.inl z)] [] ((.inl z) :: st) n I L P) ∧
  (∀ (st : List mm_V) z (l1 : mm_V), mm_E d 97 11 [(.inr (.inr z)), l1] [] st n I L P = mm_E d 97 12 [(.inr (.inr z)), l1] [] ((.inr (.inr z)) :: st) n I L P) ∧
  (∀ (lv : List mm_V) (st : List mm_V) a, (mm_ok n a 11) → mm_E d 97 12 lv [] (.inr (.inr (some a)) :: st) n I L P = mm_E d 97 15 lv [] (.inl (I a 7) :: st) n I L P) ∧
  (∀ (lv : List mm_V) (st : List mm_V) a b, mm_E d 97 15 lv [] (.inl b :: .inl a :: st) n I L P = if a = b then mm_E d 97 18 lv [] st n I L P else mm_E d 97 20 lv [] st n I L P) ∧
  (∀ (lv : List mm_V) (st : List mm_V), mm_E d 97 18 lv [] st n I L P = mm_E d 97 19 lv [] (.inl 0 :: st) n I L P) ∧
  (∀ (lv : List mm_V) z, (0 ≤ z ∧ z < 2) → mm_E d 97 19 lv [] [.inl z] n I L P = some (some (.inl z), n, I, L, P)) ∧
  (∀ (st : List mm_V) z (l1 : mm_V), mm_E d 97 20 [(.inr (.inr z)), l1] [] st n I L P = mm_E d 97 21 [(.inr (.inr z)), l1] [] ((.inr (.inr z)) :: st) n I L P) ∧
  (∀ (st : List mm_V) z (l0 : mm_V), mm_E d 97 21 [l0, (.inl z)] [] st n I L P = mm_E d 97 22 [l0, (.inl z)] [] ((.inl z) :: st) n I L P) ∧
  (∀ (lv : List mm_V) (st : List mm_V) a z, (mm_ok n a 11) → mm_E d 97 22 lv [] (.inl z :: .inr (.inr (some a)) :: st) n I L P = mm_E d 97 25 lv [] st n (mm_ui I a 7 z) L P) ∧
  (∀ (lv : List mm_V) (st : List mm_V), mm_E d 97 25 lv [] st n I L P = mm_E d 97 26 lv [] (.inl 1 :: st) n I L P) ∧
  (∀ (lv : List mm_V) z, (0 ≤ z ∧ z < 2) → mm_E d 97 26 lv [] [.inl z] n I L P = some (some (.inl z), n, I, L, P)) :=
  ⟨fun _ _ _ => mq_il (i := 1) rfl rfl,
   fun _ _ _ => mq_if_lt rfl,
   fun _ _ _ => mq_il (i := 1) rfl rfl,
   fun _ _ => mq_push rfl,
   fun _ _ _ _ => mq_ic_gt rfl,
   fun _ _ _ => mq_il (i := 1) rfl rfl,
   fun _ _ _ => mq_al (i := 0) rfl rfl,
   fun _ _ _ h0 => mq_getI rfl h0,
   fun _ _ _ _ => mq_ic_ne rfl,
   fun _ _ => mq_push rfl,
   fun _ _ h0 => mq_rz rfl h0,
   fun _ _ _ => mq_al (i := 0) rfl rfl,
   fun _ _ _ => mq_il (i := 1) rfl rfl,
   fun _ _ _ _ h0 => mq_putI rfl h0,
   fun _ _ => mq_push rfl,
   fun _ _ h0 => mq_rz rfl h0⟩
theorem eX11_danger (d n : Nat) (I L : mm_I) (P : mm_P) (x0 : Option Nat) (x1 : Int) : mm_rn (d + 1) 97 [.inr (.inr x0), .inl x1] n I L P = mm_E d 97 0 [.inr (.inr x0), .inl x1] [] [] n I L P := rfl

set_option maxRecDepth 20000 in
set_option maxHeartbeats 8000000 in
theorem kX11_refuse (d n : Nat) (I L : mm_I) (P : mm_P) :
  (∀ (st : List mm_V) z (l0 : mm_V), mm_E d 98 0 [l0, (.inl z)] [] st n I L P = mm_E d 98 1 [l0, (.inl z)] [] ((.inl z) :: st) n I L P) ∧
  (∀ (lv : List mm_V) (st : List mm_V) a, mm_E d 98 1 lv [] (.inl a :: st) n I L P = if a < 0 then mm_E d 98 23 lv [] st n I L P else mm_E d 98 4 lv [] st n I L P) ∧
  (∀ (st : List mm_V) z (l0 : mm_V), mm_E d 98 4 [l0, (.inl z)] [] st n I L P = mm_E d 98 5 [l0, (.inl z)] [] ((.inl z) :: st) n I L P) ∧
  (∀ (st : List mm_V) z (l1 : mm_V), mm_E d 98 5 [(.inr (.inr z)), l1] [] st n I L P = mm_E d 98 6 [(.inr (.inr z)), l1] [] ((.inr (.inr z)) :: st) n I L P) ∧
  (∀ (lv : List mm_V) (st : List mm_V) a, (mm_ok n a 11) → mm_E d 98 6 lv [] (.inr (.inr (some a)) :: st) n I L P = mm_E d 98 9 lv [] (.inr (.inr (P a 17)) :: st) n I L P) ∧
  (∀ (lv : List mm_V) (st : List mm_V) a, (mm_ok n a 20) → mm_E d 98 9 lv [] (.inr (.inr (some a)) :: st) n I L P = mm_E d 98 10 lv [] (.inl ((mm_ty a).2 : Int) :: st) n I L P) ∧
  (∀ (lv : List mm_V) (st : List mm_V) a b, mm_E d 98 10 lv [] (.inl b :: .inl a :: st) n I L P = if b ≤ a then mm_E d 98 23 lv [] st n I L P else mm_E d 98 13 lv [] st n I L P) ∧
  (∀ (st : List mm_V) z (l1 : mm_V), mm_E d 98 13 [(.inr (.inr z)), l1] [] st n I L P = mm_E d 98 14 [(.inr (.inr z)), l1] [] ((.inr (.inr z)) :: st) n I L P) ∧
  (∀ (lv : List mm_V) (st : List mm_V) a, (mm_ok n a 11) → mm_E d 98 14 lv [] (.inr (.inr (some a)) :: st) n I L P = mm_E d 98 17 lv [] (.inr (.inr (P a 17)) :: st) n I L P) ∧
  (∀ (st : List mm_V) z (l0 : mm_V), mm_E d 98 17 [l0, (.inl z)] [] st n I L P = mm_E d 98 18 [l0, (.inl z)] [] ((.inl z) :: st) n I L P) ∧
  (∀ (lv : List mm_V) (st : List mm_V) a b, mm_E d 98 18 lv [] ((.inl a) :: (.inr (.inr b)) :: st) n I L P = mm_E d 98 19 lv [] ((.inl a) :: (.inr (.inr b)) :: (.inl a) :: (.inr (.inr b)) :: st) n I L P) ∧
  (∀ (lv : List mm_V) (st : List mm_V) a i, (mm_ix n a 20 i) → mm_E d 98 19 lv [] (.inl i :: .inr (.inr (some a)) :: st) n I L P = mm_E d 98 20 lv [] (.inl (I a i.toNat) :: st) n I L P) ∧
  (∀ (lv : List mm_V) (st : List mm_V), mm_E d 98 20 lv [] st n I L P = mm_E d 98 21 lv [] (.inl 1 :: st) n I L P) ∧
  (∀ (lv : List mm_V) (st : List mm_V) a b, mm_E d 98 21 lv [] (.inl b :: .inl a :: st) n I L P = mm_E d 98 22 lv [] (.inl (mm_add a b) :: st) n I L P) ∧
  (∀ (lv : List mm_V) (st : List mm_V) a i z, (mm_ix n a 20 i) → mm_E d 98 22 lv [] (.inl z :: .inl i :: .inr (.inr (some a)) :: st) n I L P = mm_E d 98 23 lv [] st n (mm_ui I a i.toNat z) L P) ∧
  (∀ (lv : List mm_V) (st : List mm_V), mm_E d 98 23 lv [] st n I L P = mm_E d 98 24 lv [] (.inl (-1) :: st) n I L P) ∧
  (∀ (lv : List mm_V) z, mm_E d 98 24 lv [] [.inl z] n I L P = some (some (.inl z), n, I, L, P)) :=
  ⟨fun _ _ _ => mq_il (i := 1) rfl rfl,
   fun _ _ _ => mq_if_lt rfl,
   fun _ _ _ => mq_il (i := 1) rfl rfl,
   fun _ _ _ => mq_al (i := 0) rfl rfl,
   fun _ _ _ h0 => mq_getR rfl h0,
   fun _ _ _ h0 => mq_alen rfl h0,
   fun _ _ _ _ => mq_ic_ge rfl,
   fun _ _ _ => mq_al (i := 0) rfl rfl,
   fun _ _ _ h0 => mq_getR rfl h0,
   fun _ _ _ => mq_il (i := 1) rfl rfl,
   fun _ _ _ _ => mq_dup2 rfl rfl rfl,
   fun _ _ _ _ h0 => mq_iald rfl h0,
   fun _ _ => mq_push rfl,
   fun _ _ _ _ => mq_bi rfl,
   fun _ _ _ _ _ h0 => mq_iast rfl h0,
   fun _ _ => mq_push rfl,
   fun _ _ => mq_ri rfl⟩
theorem eX11_refuse (d n : Nat) (I L : mm_I) (P : mm_P) (x0 : Option Nat) (x1 : Int) : mm_rn (d + 1) 98 [.inr (.inr x0), .inl x1] n I L P = mm_E d 98 0 [.inr (.inr x0), .inl x1] [] [] n I L P := rfl

set_option maxRecDepth 20000 in
set_option maxHeartbeats 8000000 in
theorem kX11_hours (d n : Nat) (I L : mm_I) (P : mm_P) :
  (∀ (st : List mm_V) z (l1 : mm_V) (l2 : mm_V), mm_E d 99 0 [(.inr (.inr z)), l1, l2] [] st n I L P = mm_E d 99 1 [(.inr (.inr z)), l1, l2] [] ((.inr (.inr z)) :: st) n I L P) ∧
  (∀ (lv : List mm_V) a, (mm_ok n a 11) → mm_E d 99 1 lv [] (.inr (.inr (some a)) :: []) n I L P = mm_kr d 99 4 lv [] [] n (mm_rn d 92 [.inr (.inr (some a))] n I L P)) ∧
  (∀ (lv : List mm_V) (st : List mm_V) a, mm_E d 99 4 lv [] (.inl a :: st) n I L P = if a = 0 then mm_E d 99 13 lv [] st n I L P else mm_E d 99 7 lv [] st n I L P) ∧
  (∀ (st : List mm_V) z (l1 : mm_V) (l2 : mm_V), mm_E d 99 7 [(.inr (.inr z)), l1, l2] [] st n I L P = mm_E d 99 8 [(.inr (.inr z)), l1, l2] [] ((.inr (.inr z)) :: st) n I L P) ∧
  (∀ (lv : List mm_V) (st : List mm_V), mm_E d 99 8 lv [] st n I L P = mm_E d 99 9 lv [] (.inl 0 :: st) n I L P) ∧
  (∀ (lv : List mm_V) a x0, (mm_ok n a 11) → mm_E d 99 9 lv [] (.inl x0 :: .inr (.inr (some a)) :: []) n I L P = mm_kr d 99 12 lv [] [] n (mm_rn d 98 [.inr (.inr (some a)), .inl x0] n I L P)) ∧
  (∀ (lv : List mm_V) z, mm_E d 99 12 lv [] [.inl z] n I L P = some (some (.inl z), n, I, L, P)) ∧
  (∀ (st : List mm_V) z (l0 : mm_V) (l2 : mm_V), mm_E d 99 13 [l0, (.inl z), l2] [] st n I L P = mm_E d 99 14 [l0, (.inl z), l2] [] ((.inl z) :: st) n I L P) ∧
  (∀ (lv : List mm_V) (st : List mm_V), mm_E d 99 14 lv [] st n I L P = mm_E d 99 15 lv [] (.inl 1 :: st) n I L P) ∧
  (∀ (lv : List mm_V) (st : List mm_V) a b, mm_E d 99 15 lv [] (.inl b :: .inl a :: st) n I L P = if a < b then mm_E d 99 24 lv [] st n I L P else mm_E d 99 18 lv [] st n I L P) ∧
  (∀ (st : List mm_V) z (l0 : mm_V) (l2 : mm_V), mm_E d 99 18 [l0, (.inl z), l2] [] st n I L P = mm_E d 99 19 [l0, (.inl z), l2] [] ((.inl z) :: st) n I L P) ∧
  (∀ (lv : List mm_V) (st : List mm_V), mm_E d 99 19 lv [] st n I L P = mm_E d 99 21 lv [] (.inl 60 :: st) n I L P) ∧
  (∀ (lv : List mm_V) (st : List mm_V) a b, mm_E d 99 21 lv [] (.inl b :: .inl a :: st) n I L P = if a ≤ b then mm_E d 99 30 lv [] st n I L P else mm_E d 99 24 lv [] st n I L P) ∧
  (∀ (st : List mm_V) z (l1 : mm_V) (l2 : mm_V), mm_E d 99 24 [(.inr (.inr z)), l1, l2] [] st n I L P = mm_E d 99 25 [(.inr (.inr z)), l1, l2] [] ((.inr (.inr z)) :: st) n I L P) ∧
  (∀ (lv : List mm_V) (st : List mm_V), mm_E d 99 25 lv [] st n I L P = mm_E d 99 26 lv [] (.inl 1 :: st) n I L P) ∧
  (∀ (lv : List mm_V) a x0, (mm_ok n a 11) → mm_E d 99 26 lv [] (.inl x0 :: .inr (.inr (some a)) :: []) n I L P = mm_kr d 99 29 lv [] [] n (mm_rn d 98 [.inr (.inr (some a)), .inl x0] n I L P)) ∧
  (∀ (lv : List mm_V) z, mm_E d 99 29 lv [] [.inl z] n I L P = some (some (.inl z), n, I, L, P)) ∧
  (∀ (st : List mm_V) z (l1 : mm_V) (l2 : mm_V), mm_E d 99 30 [(.inr (.inr z)), l1, l2] [] st n I L P = mm_E d 99 31 [(.inr (.inr z)), l1, l2] [] ((.inr (.inr z)) :: st) n I L P) ∧
  (∀ (lv : List mm_V) (st : List mm_V) a, (mm_ok n a 11) → mm_E d 99 31 lv [] (.inr (.inr (some a)) :: st) n I L P = mm_E d 99 34 lv [] (.inr (.inr (P a 8)) :: st) n I L P) ∧
  (∀ (lv : List mm_V) (st : List mm_V) a, (mm_ok n a 5) → mm_E d 99 34 lv [] (.inr (.inr (some a)) :: st) n I L P = mm_E d 99 37 lv [] (.inl (I a 8) :: st) n I L P) ∧
  (∀ (st : List mm_V) z (l0 : mm_V) (l2 : mm_V), mm_E d 99 37 [l0, (.inl z), l2] [] st n I L P = mm_E d 99 38 [l0, (.inl z), l2] [] ((.inl z) :: st) n I L P) ∧
  (∀ (lv : List mm_V) (st : List mm_V) a b, mm_E d 99 38 lv [] (.inl b :: .inl a :: st) n I L P = mm_E d 99 39 lv [] (.inl (mm_add a b) :: st) n I L P) ∧
  (∀ (lv : List mm_V) (st : List mm_V), mm_E d 99 39 lv [] st n I L P = mm_E d 99 42 lv [] (.inl 9999 :: st) n I L P) ∧
  (∀ (lv : List mm_V) (st : List mm_V) a b, mm_E d 99 42 lv [] (.inl b :: .inl a :: st) n I L P = if a ≤ b then mm_E d 99 51 lv [] st n I L P else mm_E d 99 45 lv [] st n I L P) ∧
  (∀ (st : List mm_V) z (l1 : mm_V) (l2 : mm_V), mm_E d 99 45 [(.inr (.inr z)), l1, l2] [] st n I L P = mm_E d 99 46 [(.inr (.inr z)), l1, l2] [] ((.inr (.inr z)) :: st) n I L P) ∧
  (∀ (lv : List mm_V) (st : List mm_V), mm_E d 99 46 lv [] st n I L P = mm_E d 99 47 lv [] (.inl 4 :: st) n I L P) ∧
  (∀ (lv : List mm_V) a x0, (mm_ok n a 11) → mm_E d 99 47 lv [] (.inl x0 :: .inr (.inr (some a)) :: []) n I L P = mm_kr d 99 50 lv [] [] n (mm_rn d 98 [.inr (.inr (some a)), .inl x0] n I L P)) ∧
  (∀ (lv : List mm_V) z, mm_E d 99 50 lv [] [.inl z] n I L P = some (some (.inl z), n, I, L, P)) ∧
  (∀ (lv : List mm_V) (st : List mm_V), mm_E d 99 51 lv [] st n I L P = mm_E d 99 52 lv [] (.inl 0 :: st) n I L P) ∧
  (∀ (st : List mm_V) z (l0 : mm_V) (l1 : mm_V) (l2 : mm_V), mm_E d 99 52 [l0, l1, l2] [] ((.inl z) :: st) n I L P = mm_E d 99 53 [l0, l1, (.inl z)] [] st n I L P) ∧
  (∀ (st : List mm_V) z (l0 : mm_V) (l2 : mm_V), mm_E d 99 54 [l0, (.inl z), l2] [] st n I L P = mm_E d 99 55 [l0, (.inl z), l2] [] ((.inl z) :: st) n I L P) ∧
  (∀ (lv : List mm_V) (st : List mm_V) a b, mm_E d 99 55 lv [] (.inl b :: .inl a :: st) n I L P = if b ≤ a then mm_E d 99 79 lv [] st n I L P else mm_E d 99 58 lv [] st n I L P) ∧
  (∀ (st : List mm_V) z (l1 : mm_V) (l2 : mm_V), mm_E d 99 58 [(.inr (.inr z)), l1, l2] [] st n I L P = mm_E d 99 59 [(.inr (.inr z)), l1, l2] [] ((.inr (.inr z)) :: st) n I L P) ∧
  (∀ (lv : List mm_V) (st : List mm_V) a, (mm_ok n a 11) → mm_E d 99 59 lv [] (.inr (.inr (some a)) :: st) n I L P = mm_E d 99 62 lv [] (.inr (.inr (P a 10)) :: st) n I L P) ∧
  (∀ (st : List mm_V) z (l1 : mm_V) (l2 : mm_V), mm_E d 99 62 [(.inr (.inr z)), l1, l2] [] st n I L P = mm_E d 99 63 [(.inr (.inr z)), l1, l2] [] ((.inr (.inr z)) :: st) n I L P) ∧
  (∀ (lv : List mm_V) (st : List mm_V) a, (mm_ok n a 11) → mm_E d 99 63 lv [] (.inr (.inr (some a)) :: st) n I L P = mm_E d 99 66 lv [] (.inr (.inr (P a 8)) :: st) n I L P) ∧
  (∀ (lv : List mm_V) a x0, (mm_ok n a 6) → mm_E d 99 66 lv [] (.inr (.inr x0) :: .inr (.inr (some a)) :: []) n I L P = mm_kv d 99 69 lv [] [] n (mm_rn d 51 [.inr (.inr (some a)), .inr (.inr x0)] n I L P)) ∧
  (∀ (st : List mm_V) z (l1 : mm_V) (l2 : mm_V), mm_E d 99 69 [(.inr (.inr z)), l1, l2] [] st n I L P = mm_E d 99 70 [(.inr (.inr z)), l1, l2] [] ((.inr (.inr z)) :: st) n I L P) ∧
  (∀ (lv : List mm_V) a, (mm_ok n a 11) → mm_E d 99 70 lv [] (.inr (.inr (some a)) :: []) n I L P = mm_kv d 99 73 lv [] [] n (mm_rn d 100 [.inr (.inr (some a))] n I L P)) ∧
  (∀ (st : List mm_V) z (l0 : mm_V) (l1 : mm_V), mm_E d 99 73 [l0, l1, (.inl z)] [] st n I L P = mm_E d 99 76 [l0, l1, (.inl (mm_add z 1))] [] st n I L P) ∧
  (∀ (lv : List mm_V) (st : List mm_V), mm_E d 99 76 lv [] st n I L P = mm_E d 99 53 lv [] st n I L P) ∧
  (∀ (st : List mm_V) z (l1 : mm_V) (l2 : mm_V), mm_E d 99 79 [(.inr (.inr z)), l1, l2] [] st n I L P = mm_E d 99 80 [(.inr (.inr z)), l1, l2] [] ((.inr (.inr z)) :: st) n I L P) ∧
  (∀ (lv : List mm_V) (st : List mm_V) a, (mm_ok n a 11) → mm_E d 99 80 lv [] (.inr (.inr (some a)) :: st) n I L P = mm_E d 99 83 lv [] (.inr (.inr (P a 8)) :: st) n I L P) ∧
  (∀ (lv : List mm_V) (st : List mm_V) a, (mm_ok n a 5) → mm_E d 99 83 lv [] (.inr (.inr (some a)) :: st) n I L P = mm_E d 99 86 lv [] (.inl (I a 8) :: st) n I L P) ∧
  (∀ (lv : List mm_V) z, mm_E d 99 86 lv [] [.inl z] n I L P = some (some (.inl z), n, I, L, P)) :=
  ⟨fun _ _ _ _ => mq_al (i := 0) rfl rfl,
   fun _ _ h0 => mq_cVr (na := 0) rfl rfl (Nat.le_of_ble_eq_true rfl) (Nat.le_of_ble_eq_true rfl) h0,
   fun _ _ _ => mq_if_eq rfl,
   fun _ _ _ _ => mq_al (i := 0) rfl rfl,
   fun _ _ => mq_push rfl,
   fun _ _ _ h0 => mq_cVr (na := 1) rfl rfl (Nat.le_of_ble_eq_true rfl) (Nat.le_of_ble_eq_true rfl) h0,
   fun _ _ => mq_ri rfl,
   fun _ _ _ _ => mq_il (i := 1) rfl rfl,
   fun _ _ => mq_push rfl,
   fun _ _ _ _ => mq_ic_lt rfl,
   fun _ _ _ _ => mq_il (i := 1) rfl rfl,
   fun _ _ => mq_push rfl,
   fun _ _ _ _ => mq_ic_le rfl,
   fun _ _ _ _ => mq_al (i := 0) rfl rfl,
   fun _ _ => mq_push rfl,
   fun _ _ _ h0 => mq_cVr (na := 1) rfl rfl (Nat.le_of_ble_eq_true rfl) (Nat.le_of_ble_eq_true rfl) h0,
   fun _ _ => mq_ri rfl,
   fun _ _ _ _ => mq_al (i := 0) rfl rfl,
   fun _ _ _ h0 => mq_getR rfl h0,
   fun _ _ _ h0 => mq_getI rfl h0,
   fun _ _ _ _ => mq_il (i := 1) rfl rfl,
   fun _ _ _ _ => mq_bi rfl,
   fun _ _ => mq_push rfl,
   fun _ _ _ _ => mq_ic_le rfl,
   fun _ _ _ _ => mq_al (i := 0) rfl rfl,
   fun _ _ => mq_push rfl,
   fun _ _ _ h0 => mq_cVr (na := 1) rfl rfl (Nat.le_of_ble_eq_true rfl) (Nat.le_of_ble_eq_true rfl) h0,
   fun _ _ => mq_ri rfl,
   fun _ _ => mq_push rfl,
   fun _ _ _ _ _ => mq_is (i := 2) rfl rfl rfl,
   fun _ _ _ _ => mq_il (i := 1) rfl rfl,
   fun _ _ _ _ => mq_ic_ge rfl,
   fun _ _ _ _ => mq_al (i := 0) rfl rfl,
   fun _ _ _ h0 => mq_getR rfl h0,
   fun _ _ _ _ => mq_al (i := 0) rfl rfl,
   fun _ _ _ h0 => mq_getR rfl h0,
   fun _ _ _ h0 => mq_cVv (na := 1) rfl rfl (Nat.le_of_ble_eq_true rfl) (Nat.le_of_ble_eq_true rfl) h0,
   fun _ _ _ _ => mq_al (i := 0) rfl rfl,
   fun _ _ h0 => mq_cVv (na := 0) rfl rfl (Nat.le_of_ble_eq_true rfl) (Nat.le_of_ble_eq_true rfl) h0,
   fun _ _ _ _ => mq_iinc (i := 2) rfl rfl rfl rfl,
   fun _ _ => mq_go rfl,
   fun _ _ _ _ => mq_al (i := 0) rfl rfl,
   fun _ _ _ h0 => mq_getR rfl h0,
   fun _ _ _ h0 => mq_getI rfl h0,
   fun _ _ => mq_ri rfl⟩
theorem hX11_hours_53 (d n : Nat) (I L : mm_I) (P : mm_P) : ∀ (st : List mm_V) z (l0 : mm_V) (l1 : mm_V), mm_E d 99 53 [l0, l1, (.inl z)] [] st n I L P = mm_E d 99 54 [l0, l1, (.inl z)] [] ((.inl z) :: st) n I L P := fun _ _ _ _ => mq_il (i := 2) rfl rfl
theorem eX11_hours (d n : Nat) (I L : mm_I) (P : mm_P) (x0 : Option Nat) (x1 : Int) : mm_rn (d + 1) 99 [.inr (.inr x0), .inl x1] n I L P = mm_E d 99 0 [.inr (.inr x0), .inl x1, mm_junk] [] [] n I L P := rfl

set_option maxRecDepth 20000 in
set_option maxHeartbeats 8000000 in
theorem kX11_passLoggedHour (d n : Nat) (I L : mm_I) (P : mm_P) :
  (∀ (st : List mm_V) z (l1 : mm_V) (l2 : mm_V), mm_E d 100 0 [(.inr (.inr z)), l1, l2] [] st n I L P = mm_E d 100 1 [(.inr (.inr z)), l1, l2] [] ((.inr (.inr z)) :: st) n I L P) ∧
  (∀ (lv : List mm_V) (st : List mm_V) a, (mm_ok n a 11) → mm_E d 100 1 lv [] (.inr (.inr (some a)) :: st) n I L P = mm_E d 100 4 lv [] (.inr (.inr (P a 8)) :: st) n I L P) ∧
  (∀ (lv : List mm_V) (st : List mm_V) a, (mm_ok n a 5) → mm_E d 100 4 lv [] (.inr (.inr (some a)) :: st) n I L P = mm_E d 100 7 lv [] (.inl (I a 8) :: st) n I L P) ∧
  (∀ (st : List mm_V) z (l0 : mm_V) (l1 : mm_V) (l2 : mm_V), mm_E d 100 7 [l0, l1, l2] [] ((.inl z) :: st) n I L P = mm_E d 100 8 [l0, (.inl z), l2] [] st n I L P) ∧
  (∀ (st : List mm_V) z (l1 : mm_V) (l2 : mm_V), mm_E d 100 8 [(.inr (.inr z)), l1, l2] [] st n I L P = mm_E d 100 9 [(.inr (.inr z)), l1, l2] [] ((.inr (.inr z)) :: st) n I L P) ∧
  (∀ (lv : List mm_V) (st : List mm_V) a, (mm_ok n a 11) → mm_E d 100 9 lv [] (.inr (.inr (some a)) :: st) n I L P = mm_E d 100 12 lv [] (.inr (.inr (P a 8)) :: st) n I L P) ∧
  (∀ (st : List mm_V) z (l1 : mm_V) (l2 : mm_V), mm_E d 100 12 [(.inr (.inr z)), l1, l2] [] st n I L P = mm_E d 100 13 [(.inr (.inr z)), l1, l2] [] ((.inr (.inr z)) :: st) n I L P) ∧
  (∀ (lv : List mm_V) (st : List mm_V) a, (mm_ok n a 11) → mm_E d 100 13 lv [] (.inr (.inr (some a)) :: st) n I L P = mm_E d 100 16 lv [] (.inr (.inr (P a 2)) :: st) n I L P) ∧
  (∀ (st : List mm_V) z (l1 : mm_V) (l2 : mm_V), mm_E d 100 16 [(.inr (.inr z)), l1, l2] [] st n I L P = mm_E d 100 17 [(.inr (.inr z)), l1, l2] [] ((.inr (.inr z)) :: st) n I L P) ∧
  (∀ (lv : List mm_V) a w0 w1, (mm_ok n a 11) → mm_E d 100 17 lv [] (.inr (.inr (some a)) :: [.inr (.inr w0), .inr (.inr w1)]) n I L P = mm_kr d 100 20 lv [] [.inr (.inr w0), .inr (.inr w1)] n (mm_rn d 96 [.inr (.inr (some a))] n I L P)) ∧
  (∀ (lv : List mm_V) a x0 x1, (mm_ok n a 5) → mm_E d 100 20 lv [] (.inr (.inr x1) :: .inr (.inr x0) :: .inr (.inr (some a)) :: []) n I L P = mm_kr d 100 23 lv [] [] n (mm_rn d 47 [.inr (.inr (some a)), .inr (.inr x0), .inr (.inr x1)] n I L P)) ∧
  (∀ (st : List mm_V) z (l0 : mm_V) (l1 : mm_V) (l2 : mm_V), mm_E d 100 23 [l0, l1, l2] [] ((.inl z) :: st) n I L P = mm_E d 100 24 [l0, l1, (.inl z)] [] st n I L P) ∧
  (∀ (st : List mm_V) z (l1 : mm_V) (l2 : mm_V), mm_E d 100 24 [(.inr (.inr z)), l1, l2] [] st n I L P = mm_E d 100 25 [(.inr (.inr z)), l1, l2] [] ((.inr (.inr z)) :: st) n I L P) ∧
  (∀ (lv : List mm_V) (st : List mm_V) a, (mm_ok n a 11) → mm_E d 100 25 lv [] (.inr (.inr (some a)) :: st) n I L P = mm_E d 100 28 lv [] (.inr (.inr (P a 9)) :: st) n I L P) ∧
  (∀ (st : List mm_V) z (l0 : mm_V) (l2 : mm_V), mm_E d 100 28 [l0, (.inl z), l2] [] st n I L P = mm_E d 100 29 [l0, (.inl z), l2] [] ((.inl z) :: st) n I L P) ∧
  (∀ (st : List mm_V) z (l0 : mm_V) (l1 : mm_V), mm_E d 100 29 [l0, l1, (.inl z)] [] st n I L P = mm_E d 100 30 [l0, l1, (.inl z)] [] ((.inl z) :: st) n I L P) ∧
  (∀ (st : List mm_V) z (l1 : mm_V) (l2 : mm_V), mm_E d 100 30 [(.inr (.inr z)), l1, l2] [] st n I L P = mm_E d 100 31 [(.inr (.inr z)), l1, l2] [] ((.inr (.inr z)) :: st) n I L P) ∧
  (∀ (lv : List mm_V) (st : List mm_V) a, (mm_ok n a 11) → mm_E d 100 31 lv [] (.inr (.inr (some a)) :: st) n I L P = mm_E d 100 34 lv [] (.inr (.inr (P a 8)) :: st) n I L P) ∧
  (∀ (lv : List mm_V) a w0 w1 w2, (mm_ok n a 5) → mm_E d 100 34 lv [] (.inr (.inr (some a)) :: [.inl w0, .inl w1, .inr (.inr w2)]) n I L P = mm_kr d 100 37 lv [] [.inl w0, .inl w1, .inr (.inr w2)] n (mm_rn d 42 [.inr (.inr (some a))] n I L P)) ∧
  (∀ (st : List mm_V) z (l1 : mm_V) (l2 : mm_V), mm_E d 100 37 [(.inr (.inr z)), l1, l2] [] st n I L P = mm_E d 100 38 [(.inr (.inr z)), l1, l2] [] ((.inr (.inr z)) :: st) n I L P) ∧
  (∀ (lv : List mm_V) (st : List mm_V) a, (mm_ok n a 11) → mm_E d 100 38 lv [] (.inr (.inr (some a)) :: st) n I L P = mm_E d 100 41 lv [] (.inr (.inr (P a 8)) :: st) n I L P) ∧
  (∀ (lv : List mm_V) (st : List mm_V) a, (mm_ok n a 5) → mm_E d 100 41 lv [] (.inr (.inr (some a)) :: st) n I L P = mm_E d 100 44 lv [] (.inl (I a 3) :: st) n I L P) ∧
  (∀ (lv : List mm_V) a x0 x1 x2 x3, (mm_ok n a 1) → mm_E d 100 44 lv [] (.inl x3 :: .inl x2 :: .inl x1 :: .inl x0 :: .inr (.inr (some a)) :: []) n I L P = mm_kv d 100 47 lv [] [] n (mm_rn d 8 [.inr (.inr (some a)), .inl x0, .inl x1, .inl x2, .inl x3] n I L P)) ∧
  (∀ (lv : List mm_V), mm_E d 100 47 lv [] [] n I L P = some (none, n, I, L, P)) :=
  ⟨fun _ _ _ _ => mq_al (i := 0) rfl rfl,
   fun _ _ _ h0 => mq_getR rfl h0,
   fun _ _ _ h0 => mq_getI rfl h0,
   fun _ _ _ _ _ => mq_is (i := 1) rfl rfl rfl,
   fun _ _ _ _ => mq_al (i := 0) rfl rfl,
   fun _ _ _ h0 => mq_getR rfl h0,
   fun _ _ _ _ => mq_al (i := 0) rfl rfl,
   fun _ _ _ h0 => mq_getR rfl h0,
   fun _ _ _ _ => mq_al (i := 0) rfl rfl,
   fun _ _ _ _ h0 => mq_cVr (na := 0) rfl rfl (Nat.le_of_ble_eq_true rfl) (Nat.le_of_ble_eq_true rfl) h0,
   fun _ _ _ _ h0 => mq_cVr (na := 2) rfl rfl (Nat.le_of_ble_eq_true rfl) (Nat.le_of_ble_eq_true rfl) h0,
   fun _ _ _ _ _ => mq_is (i := 2) rfl rfl rfl,
   fun _ _ _ _ => mq_al (i := 0) rfl rfl,
   fun _ _ _ h0 => mq_getR rfl h0,
   fun _ _ _ _ => mq_il (i := 1) rfl rfl,
   fun _ _ _ _ => mq_il (i := 2) rfl rfl,
   fun _ _ _ _ => mq_al (i := 0) rfl rfl,
   fun _ _ _ h0 => mq_getR rfl h0,
   fun _ _ _ _ _ h0 => mq_cVr (na := 0) rfl rfl (Nat.le_of_ble_eq_true rfl) (Nat.le_of_ble_eq_true rfl) h0,
   fun _ _ _ _ => mq_al (i := 0) rfl rfl,
   fun _ _ _ h0 => mq_getR rfl h0,
   fun _ _ _ h0 => mq_getI rfl h0,
   fun _ _ _ _ _ _ h0 => mq_cVv (na := 4) rfl rfl (Nat.le_of_ble_eq_true rfl) (Nat.le_of_ble_eq_true rfl) h0,
   fun _ => mq_rv rfl⟩
theorem eX11_passLoggedHour (d n : Nat) (I L : mm_I) (P : mm_P) (x0 : Option Nat) : mm_rn (d + 1) 100 [.inr (.inr x0)] n I L P = mm_E d 100 0 [.inr (.inr x0), mm_junk, mm_junk] [] [] n I L P := rfl

set_option maxRecDepth 20000 in
set_option maxHeartbeats 8000000 in
theorem kX11_walk (d n : Nat) (I L : mm_I) (P : mm_P) :
  (∀ (st : List mm_V) z (l1 : mm_V), mm_E d 101 0 [(.inr (.inr z)), l1] [] st n I L P = mm_E d 101 1 [(.inr (.inr z)), l1] [] ((.inr (.inr z)) :: st) n I L P) ∧
  (∀ (lv : List mm_V) (st : List mm_V) a, (mm_ok n a 11) → mm_E d 101 1 lv [] (.inr (.inr (some a)) :: st) n I L P = mm_E d 101 4 lv [] (.inr (.inr (P a 2)) :: st) n I L P) ∧
  (∀ (st : List mm_V) z (l0 : mm_V), mm_E d 101 4 [l0, (.inl z)] [] st n I L P = mm_E d 101 5 [l0, (.inl z)] [] ((.inl z) :: st) n I L P) ∧
  (∀ (lv : List mm_V) a x0, (mm_ok n a 9) → mm_E d 101 5 lv [] (.inl x0 :: .inr (.inr (some a)) :: []) n I L P = mm_kr d 101 8 lv [] [] n (mm_rn d 63 [.inr (.inr (some a)), .inl x0] n I L P)) ∧
  (∀ (lv : List mm_V) (st : List mm_V) a, mm_E d 101 8 lv [] (.inl a :: st) n I L P = if a = 0 then mm_E d 101 11 lv [] st n I L P else mm_E d 101 17 lv [] st n I L P) ∧
  (∀ (st : List mm_V) z (l1 : mm_V), mm_E d 101 11 [(.inr (.inr z)), l1] [] st n I L P = mm_E d 101 12 [(.inr (.inr z)), l1] [] ((.inr (.inr z)) :: st) n I L P) ∧
  (∀ (lv : List mm_V) (st : List mm_V), mm_E d 101 12 lv [] st n I L P = mm_E d 101 13 lv [] (.inl 0 :: st) n I L P) ∧
  (∀ (lv : List mm_V) a x0, (mm_ok n a 11) → mm_E d 101 13 lv [] (.inl x0 :: .inr (.inr (some a)) :: []) n I L P = mm_kr d 101 16 lv [] [] n (mm_rn d 98 [.inr (.inr (some a)), .inl x0] n I L P)) ∧
  (∀ (lv : List mm_V) z, mm_E d 101 16 lv [] [.inl z] n I L P = some (some (.inl z), n, I, L, P)) ∧
  (∀ (st : List mm_V) z (l1 : mm_V), mm_E d 101 17 [(.inr (.inr z)), l1] [] st n I L P = mm_E d 101 18 [(.inr (.inr z)), l1] [] ((.inr (.inr z)) :: st) n I L P) ∧
  (∀ (lv : List mm_V) (st : List mm_V) a, (mm_ok n a 11) → mm_E d 101 18 lv [] (.inr (.inr (some a)) :: st) n I L P = mm_E d 101 21 lv [] (.inr (.inr (P a 2)) :: st) n I L P) ∧
  (∀ (st : List mm_V) z (l1 : mm_V), mm_E d 101 21 [(.inr (.inr z)), l1] [] st n I L P = mm_E d 101 22 [(.inr (.inr z)), l1] [] ((.inr (.inr z)) :: st) n I L P) ∧
  (∀ (lv : List mm_V) (st : List mm_V) a, (mm_ok n a 11) → mm_E d 101 22 lv [] (.inr (.inr (some a)) :: st) n I L P = mm_E d 101 25 lv [] (.inr (.inr (P a 8)) :: st) n I L P) ∧
  (∀ (lv : List mm_V) (st : List mm_V) a, (mm_ok n a 5) → mm_E d 101 25 lv [] (.inr (.inr (some a)) :: st) n I L P = mm_E d 101 28 lv [] (.inl (I a 3) :: st) n I L P) ∧
  (∀ (st : List mm_V) z (l0 : mm_V), mm_E d 101 28 [l0, (.inl z)] [] st n I L P = mm_E d 101 29 [l0, (.inl z)] [] ((.inl z) :: st) n I L P) ∧
  (∀ (lv : List mm_V) a x0 x1, (mm_ok n a 9) → mm_E d 101 29 lv [] (.inl x1 :: .inl x0 :: .inr (.inr (some a)) :: []) n I L P = mm_kr d 101 32 lv [] [] n (mm_rn d 65 [.inr (.inr (some a)), .inl x0, .inl x1] n I L P)) ∧
  (∀ (lv : List mm_V) (st : List mm_V) a, mm_E d 101 32 lv [] (.inl a :: st) n I L P = if a = 0 then mm_E d 101 35 lv [] st n I L P else mm_E d 101 41 lv [] st n I L P) ∧
  (∀ (st : List mm_V) z (l1 : mm_V), mm_E d 101 35 [(.inr (.inr z)), l1] [] st n I L P = mm_E d 101 36 [(.inr (.inr z)), l1] [] ((.inr (.inr z)) :: st) n I L P) ∧
  (∀ (lv : List mm_V) (st : List mm_V), mm_E d 101 36 lv [] st n I L P = mm_E d 101 37 lv [] (.inl 2 :: st) n I L P) ∧
  (∀ (lv : List mm_V) a x0, (mm_ok n a 11) → mm_E d 101 37 lv [] (.inl x0 :: .inr (.inr (some a)) :: []) n I L P = mm_kr d 101 40 lv [] [] n (mm_rn d 98 [.inr (.inr (some a)), .inl x0] n I L P)) ∧
  (∀ (lv : List mm_V) z, mm_E d 101 40 lv [] [.inl z] n I L P = some (some (.inl z), n, I, L, P)) ∧
  (∀ (st : List mm_V) z (l1 : mm_V), mm_E d 101 41 [(.inr (.inr z)), l1] [] st n I L P = mm_E d 101 42 [(.inr (.inr z)), l1] [] ((.inr (.inr z)) :: st) n I L P) ∧
  (∀ (lv : List mm_V) (st : List mm_V) a, (mm_ok n a 11) → mm_E d 101 42 lv [] (.inr (.inr (some a)) :: st) n I L P = mm_E d 101 45 lv [] (.inr (.inr (P a 8)) :: st) n I L P) ∧
  (∀ (lv : List mm_V) (st : List mm_V) a, (mm_ok n a 5) → mm_E d 101 45 lv [] (.inr (.inr (some a)) :: st) n I L P = mm_E d 101 48 lv [] (.inl (I a 4) :: st) n I L P) ∧
  (∀ (lv : List mm_V) (st : List mm_V), mm_E d 101 48 lv [] st n I L P = mm_E d 101 49 lv [] (.inl 1 :: st) n I L P) ∧
  (∀ (lv : List mm_V) (st : List mm_V) a b, mm_E d 101 49 lv [] (.inl b :: .inl a :: st) n I L P = if b ≤ a then mm_E d 101 58 lv [] st n I L P else mm_E d 101 52 lv [] st n I L P) ∧
  (∀ (st : List mm_V) z (l1 : mm_V), mm_E d 101 52 [(.inr (.inr z)), l1] [] st n I L P = mm_E d 101 53 [(.inr (.inr z)), l1] [] ((.inr (.inr z)) :: st) n I L P) ∧
  (∀ (lv : List mm_V) (st : List mm_V), mm_E d 101 53 lv [] st n I L P = mm_E d 101 54 lv [] (.inl 3 :: st) n I L P) ∧
  (∀ (lv : List mm_V) a x0, (mm_ok n a 11) → mm_E d 101 54 lv [] (.inl x0 :: .inr (.inr (some a)) :: []) n I L P = mm_kr d 101 57 lv [] [] n (mm_rn d 98 [.inr (.inr (some a)), .inl x0] n I L P)) ∧
  (∀ (lv : List mm_V) z, mm_E d 101 57 lv [] [.inl z] n I L P = some (some (.inl z), n, I, L, P)) ∧
  (∀ (st : List mm_V) z (l1 : mm_V), mm_E d 101 58 [(.inr (.inr z)), l1] [] st n I L P = mm_E d 101 59 [(.inr (.inr z)), l1] [] ((.inr (.inr z)) :: st) n I L P) ∧
  (∀ (lv : List mm_V) (st : List mm_V) a, (mm_ok n a 11) → mm_E d 101 59 lv [] (.inr (.inr (some a)) :: st) n I L P = mm_E d 101 62 lv [] (.inr (.inr (P a 10)) :: st) n I L P) ∧
  (∀ (st : List mm_V) z (l1 : mm_V), mm_E d 101 62 [(.inr (.inr z)), l1] [] st n I L P = mm_E d 101 63 [(.inr (.inr z)), l1] [] ((.inr (.inr z)) :: st) n I L P) ∧
  (∀ (lv : List mm_V) (st : List mm_V) a, (mm_ok n a 11) → mm_E d 101 63 lv [] (.inr (.inr (some a)) :: st) n I L P = mm_E d 101 66 lv [] (.inr (.inr (P a 8)) :: st) n I L P) ∧
  (∀ (lv : List mm_V) a x0, (mm_ok n a 6) → mm_E d 101 66 lv [] (.inr (.inr x0) :: .inr (.inr (some a)) :: []) n I L P = mm_kv d 101 69 lv [] [] n (mm_rn d 51 [.inr (.inr (some a)), .inr (.inr x0)] n I L P)) ∧
  (∀ (st : List mm_V) z (l1 : mm_V), mm_E d 101 69 [(.inr (.inr z)), l1] [] st n I L P = mm_E d 101 70 [(.inr (.inr z)), l1] [] ((.inr (.inr z)) :: st) n I L P) ∧
  (∀ (lv : List mm_V) (st : List mm_V) a, (mm_ok n a 11) → mm_E d 101 70 lv [] (.inr (.inr (some a)) :: st) n I L P = mm_E d 101 73 lv [] (.inr (.inr (P a 8)) :: st) n I L P) ∧
  (∀ (st : List mm_V) z (l0 : mm_V), mm_E d 101 73 [l0, (.inl z)] [] st n I L P = mm_E d 101 74 [l0, (.inl z)] [] ((.inl z) :: st) n I L P) ∧
  (∀ (lv : List mm_V) (st : List mm_V) a z, (mm_ok n a 5) → mm_E d 101 74 lv [] (.inl z :: .inr (.inr (some a)) :: st) n I L P = mm_E d 101 77 lv [] st n (mm_ui I a 3 z) L P) ∧
  (∀ (st : List mm_V) z (l1 : mm_V), mm_E d 101 77 [(.inr (.inr z)), l1] [] st n I L P = mm_E d 101 78 [(.inr (.inr z)), l1] [] ((.inr (.inr z)) :: st) n I L P) ∧
  (∀ (lv : List mm_V) (st : List mm_V) a, (mm_ok n a 11) → mm_E d 101 78 lv [] (.inr (.inr (some a)) :: st) n I L P = mm_E d 101 81 lv [] (.inr (.inr (P a 8)) :: st) n I L P) ∧
  (∀ (lv : List mm_V) (st : List mm_V) a, mm_E d 101 81 lv [] ((.inr (.inr a)) :: st) n I L P = mm_E d 101 82 lv [] ((.inr (.inr a)) :: (.inr (.inr a)) :: st) n I L P) ∧
  (∀ (lv : List mm_V) (st : List mm_V) a, (mm_ok n a 5) → mm_E d 101 82 lv [] (.inr (.inr (some a)) :: st) n I L P = mm_E d 101 85 lv [] (.inl (I a 4) :: st) n I L P) ∧
  (∀ (lv : List mm_V) (st : List mm_V), mm_E d 101 85 lv [] st n I L P = mm_E d 101 86 lv [] (.inl 1 :: st) n I L P) ∧
  (∀ (lv : List mm_V) (st : List mm_V) a b, mm_E d 101 86 lv [] (.inl b :: .inl a :: st) n I L P = mm_E d 101 87 lv [] (.inl (mm_sub a b) :: st) n I L P) ∧
  (∀ (lv : List mm_V) (st : List mm_V) a z, (mm_ok n a 5) → mm_E d 101 87 lv [] (.inl z :: .inr (.inr (some a)) :: st) n I L P = mm_E d 101 90 lv [] st n (mm_ui I a 4 z) L P) ∧
  (∀ (st : List mm_V) z (l1 : mm_V), mm_E d 101 90 [(.inr (.inr z)), l1] [] st n I L P = mm_E d 101 91 [(.inr (.inr z)), l1] [] ((.inr (.inr z)) :: st) n I L P) ∧
  (∀ (lv : List mm_V) (st : List mm_V) a, (mm_ok n a 11) → mm_E d 101 91 lv [] (.inr (.inr (some a)) :: st) n I L P = mm_E d 101 94 lv [] (.inr (.inr (P a 8)) :: st) n I L P) ∧
  (∀ (lv : List mm_V) (st : List mm_V) a, (mm_ok n a 5) → mm_E d 101 94 lv [] (.inr (.inr (some a)) :: st) n I L P = mm_E d 101 97 lv [] (.inl (I a 4) :: st) n I L P) ∧
  (∀ (lv : List mm_V) z, mm_E d 101 97 lv [] [.inl z] n I L P = some (some (.inl z), n, I, L, P)) :=
  ⟨fun _ _ _ => mq_al (i := 0) rfl rfl,
   fun _ _ _ h0 => mq_getR rfl h0,
   fun _ _ _ => mq_il (i := 1) rfl rfl,
   fun _ _ _ h0 => mq_cVr (na := 1) rfl rfl (Nat.le_of_ble_eq_true rfl) (Nat.le_of_ble_eq_true rfl) h0,
   fun _ _ _ => mq_if_ne rfl,
   fun _ _ _ => mq_al (i := 0) rfl rfl,
   fun _ _ => mq_push rfl,
   fun _ _ _ h0 => mq_cVr (na := 1) rfl rfl (Nat.le_of_ble_eq_true rfl) (Nat.le_of_ble_eq_true rfl) h0,
   fun _ _ => mq_ri rfl,
   fun _ _ _ => mq_al (i := 0) rfl rfl,
   fun _ _ _ h0 => mq_getR rfl h0,
   fun _ _ _ => mq_al (i := 0) rfl rfl,
   fun _ _ _ h0 => mq_getR rfl h0,
   fun _ _ _ h0 => mq_getI rfl h0,
   fun _ _ _ => mq_il (i := 1) rfl rfl,
   fun _ _ _ _ h0 => mq_cVr (na := 2) rfl rfl (Nat.le_of_ble_eq_true rfl) (Nat.le_of_ble_eq_true rfl) h0,
   fun _ _ _ => mq_if_ne rfl,
   fun _ _ _ => mq_al (i := 0) rfl rfl,
   fun _ _ => mq_push rfl,
   fun _ _ _ h0 => mq_cVr (na := 1) rfl rfl (Nat.le_of_ble_eq_true rfl) (Nat.le_of_ble_eq_true rfl) h0,
   fun _ _ => mq_ri rfl,
   fun _ _ _ => mq_al (i := 0) rfl rfl,
   fun _ _ _ h0 => mq_getR rfl h0,
   fun _ _ _ h0 => mq_getI rfl h0,
   fun _ _ => mq_push rfl,
   fun _ _ _ _ => mq_ic_ge rfl,
   fun _ _ _ => mq_al (i := 0) rfl rfl,
   fun _ _ => mq_push rfl,
   fun _ _ _ h0 => mq_cVr (na := 1) rfl rfl (Nat.le_of_ble_eq_true rfl) (Nat.le_of_ble_eq_true rfl) h0,
   fun _ _ => mq_ri rfl,
   fun _ _ _ => mq_al (i := 0) rfl rfl,
   fun _ _ _ h0 => mq_getR rfl h0,
   fun _ _ _ => mq_al (i := 0) rfl rfl,
   fun _ _ _ h0 => mq_getR rfl h0,
   fun _ _ _ h0 => mq_cVv (na := 1) rfl rfl (Nat.le_of_ble_eq_true rfl) (Nat.le_of_ble_eq_true rfl) h0,
   fun _ _ _ => mq_al (i := 0) rfl rfl,
   fun _ _ _ h0 => mq_getR rfl h0,
   fun _ _ _ => mq_il (i := 1) rfl rfl,
   fun _ _ _ _ h0 => mq_putI rfl h0,
   fun _ _ _ => mq_al (i := 0) rfl rfl,
   fun _ _ _ h0 => mq_getR rfl h0,
   fun _ _ _ => mq_dup rfl rfl,
   fun _ _ _ h0 => mq_getI rfl h0,
   fun _ _ => mq_push rfl,
   fun _ _ _ _ => mq_bi rfl,
   fun _ _ _ _ h0 => mq_putI rfl h0,
   fun _ _ _ => mq_al (i := 0) rfl rfl,
   fun _ _ _ h0 => mq_getR rfl h0,
   fun _ _ _ h0 => mq_getI rfl h0,
   fun _ _ => mq_ri rfl⟩
theorem eX11_walk (d n : Nat) (I L : mm_I) (P : mm_P) (x0 : Option Nat) (x1 : Int) : mm_rn (d + 1) 101 [.inr (.inr x0), .inl x1] n I L P = mm_E d 101 0 [.inr (.inr x0), .inl x1] [] [] n I L P := rfl

set_option maxRecDepth 20000 in
set_option maxHeartbeats 8000000 in
theorem kX11_cry (d n : Nat) (I L : mm_I) (P : mm_P) :
  (∀ (st : List mm_V) z, mm_E d 102 0 [(.inr (.inr z))] [] st n I L P = mm_E d 102 1 [(.inr (.inr z))] [] ((.inr (.inr z)) :: st) n I L P) ∧
  (∀ (lv : List mm_V) a, (mm_ok n a 11) → mm_E d 102 1 lv [] (.inr (.inr (some a)) :: []) n I L P = mm_kr d 102 4 lv [] [] n (mm_rn d 92 [.inr (.inr (some a))] n I L P)) ∧
  (∀ (lv : List mm_V) (st : List mm_V) a, mm_E d 102 4 lv [] (.inl a :: st) n I L P = if a = 0 then mm_E d 102 13 lv [] st n I L P else mm_E d 102 7 lv [] st n I L P) ∧
  (∀ (st : List mm_V) z, mm_E d 102 7 [(.inr (.inr z))] [] st n I L P = mm_E d 102 8 [(.inr (.inr z))] [] ((.inr (.inr z)) :: st) n I L P) ∧
  (∀ (lv : List mm_V) (st : List mm_V), mm_E d 102 8 lv [] st n I L P = mm_E d 102 9 lv [] (.inl 0 :: st) n I L P) ∧
  (∀ (lv : List mm_V) a x0, (mm_ok n a 11) → mm_E d 102 9 lv [] (.inl x0 :: .inr (.inr (some a)) :: []) n I L P = mm_kr d 102 12 lv [] [] n (mm_rn d 98 [.inr (.inr (some a)), .inl x0] n I L P)) ∧
  (∀ (lv : List mm_V) z, mm_E d 102 12 lv [] [.inl z] n I L P = some (some (.inl z), n, I, L, P)) ∧
  (∀ (st : List mm_V) z, mm_E d 102 13 [(.inr (.inr z))] [] st n I L P = mm_E d 102 14 [(.inr (.inr z))] [] ((.inr (.inr z)) :: st) n I L P) ∧
  (∀ (lv : List mm_V) (st : List mm_V) a, (mm_ok n a 11) → mm_E d 102 14 lv [] (.inr (.inr (some a)) :: st) n I L P = mm_E d 102 17 lv [] (.inr (.inr (P a 8)) :: st) n I L P) ∧
  (∀ (lv : List mm_V) (st : List mm_V) a, (mm_ok n a 5) → mm_E d 102 17 lv [] (.inr (.inr (some a)) :: st) n I L P = mm_E d 102 20 lv [] (.inl (I a 5) :: st) n I L P) ∧
  (∀ (lv : List mm_V) (st : List mm_V), mm_E d 102 20 lv [] st n I L P = mm_E d 102 21 lv [] (.inl 3 :: st) n I L P) ∧
  (∀ (lv : List mm_V) (st : List mm_V) a b, mm_E d 102 21 lv [] (.inl b :: .inl a :: st) n I L P = if b ≤ a then mm_E d 102 30 lv [] st n I L P else mm_E d 102 24 lv [] st n I L P) ∧
  (∀ (st : List mm_V) z, mm_E d 102 24 [(.inr (.inr z))] [] st n I L P = mm_E d 102 25 [(.inr (.inr z))] [] ((.inr (.inr z)) :: st) n I L P) ∧
  (∀ (lv : List mm_V) (st : List mm_V), mm_E d 102 25 lv [] st n I L P = mm_E d 102 26 lv [] (.inl 3 :: st) n I L P) ∧
  (∀ (lv : List mm_V) a x0, (mm_ok n a 11) → mm_E d 102 26 lv [] (.inl x0 :: .inr (.inr (some a)) :: []) n I L P = mm_kr d 102 29 lv [] [] n (mm_rn d 98 [.inr (.inr (some a)), .inl x0] n I L P)) ∧
  (∀ (lv : List mm_V) z, mm_E d 102 29 lv [] [.inl z] n I L P = some (some (.inl z), n, I, L, P)) ∧
  (∀ (st : List mm_V) z, mm_E d 102 30 [(.inr (.inr z))] [] st n I L P = mm_E d 102 31 [(.inr (.inr z))] [] ((.inr (.inr z)) :: st) n I L P) ∧
  (∀ (lv : List mm_V) (st : List mm_V) a, (mm_ok n a 11) → mm_E d 102 31 lv [] (.inr (.inr (some a)) :: st) n I L P = mm_E d 102 34 lv [] (.inr (.inr (P a 10)) :: st) n I L P) ∧
  (∀ (st : List mm_V) z, mm_E d 102 34 [(.inr (.inr z))] [] st n I L P = mm_E d 102 35 [(.inr (.inr z))] [] ((.inr (.inr z)) :: st) n I L P) ∧
  (∀ (lv : List mm_V) (st : List mm_V) a, (mm_ok n a 11) → mm_E d 102 35 lv [] (.inr (.inr (some a)) :: st) n I L P = mm_E d 102 38 lv [] (.inr (.inr (P a 8)) :: st) n I L P) ∧
  (∀ (lv : List mm_V) a x0, (mm_ok n a 6) → mm_E d 102 38 lv [] (.inr (.inr x0) :: .inr (.inr (some a)) :: []) n I L P = mm_kv d 102 41 lv [] [] n (mm_rn d 51 [.inr (.inr (some a)), .inr (.inr x0)] n I L P)) ∧
  (∀ (st : List mm_V) z, mm_E d 102 41 [(.inr (.inr z))] [] st n I L P = mm_E d 102 42 [(.inr (.inr z))] [] ((.inr (.inr z)) :: st) n I L P) ∧
  (∀ (lv : List mm_V) (st : List mm_V) a, (mm_ok n a 11) → mm_E d 102 42 lv [] (.inr (.inr (some a)) :: st) n I L P = mm_E d 102 45 lv [] (.inr (.inr (P a 8)) :: st) n I L P) ∧
  (∀ (lv : List mm_V) (st : List mm_V), mm_E d 102 45 lv [] st n I L P = mm_E d 102 46 lv [] (.inl 0 :: st) n I L P) ∧
  (∀ (lv : List mm_V) (st : List mm_V) a z, (mm_ok n a 5) → mm_E d 102 46 lv [] (.inl z :: .inr (.inr (some a)) :: st) n I L P = mm_E d 102 49 lv [] st n (mm_ui I a 5 z) L P) ∧
  (∀ (st : List mm_V) z, mm_E d 102 49 [(.inr (.inr z))] [] st n I L P = mm_E d 102 50 [(.inr (.inr z))] [] ((.inr (.inr z)) :: st) n I L P) ∧
  (∀ (lv : List mm_V) (st : List mm_V) a, (mm_ok n a 11) → mm_E d 102 50 lv [] (.inr (.inr (some a)) :: st) n I L P = mm_E d 102 53 lv [] (.inr (.inr (P a 8)) :: st) n I L P) ∧
  (∀ (st : List mm_V) z, mm_E d 102 53 [(.inr (.inr z))] [] st n I L P = mm_E d 102 54 [(.inr (.inr z))] [] ((.inr (.inr z)) :: st) n I L P) ∧
  (∀ (lv : List mm_V) (st : List mm_V) a, (mm_ok n a 11) → mm_E d 102 54 lv [] (.inr (.inr (some a)) :: st) n I L P = mm_E d 102 57 lv [] (.inr (.inr (P a 2)) :: st) n I L P) ∧
  (∀ (lv : List mm_V) a x0, (mm_ok n a 5) → mm_E d 102 57 lv [] (.inr (.inr x0) :: .inr (.inr (some a)) :: []) n I L P = mm_kr d 102 60 lv [] [] n (mm_rn d 46 [.inr (.inr (some a)), .inr (.inr x0)] n I L P)) ∧
  (∀ (lv : List mm_V) z, mm_E d 102 60 lv [] [.inl z] n I L P = some (some (.inl z), n, I, L, P)) :=
  ⟨fun _ _ => mq_al (i := 0) rfl rfl,
   fun _ _ h0 => mq_cVr (na := 0) rfl rfl (Nat.le_of_ble_eq_true rfl) (Nat.le_of_ble_eq_true rfl) h0,
   fun _ _ _ => mq_if_eq rfl,
   fun _ _ => mq_al (i := 0) rfl rfl,
   fun _ _ => mq_push rfl,
   fun _ _ _ h0 => mq_cVr (na := 1) rfl rfl (Nat.le_of_ble_eq_true rfl) (Nat.le_of_ble_eq_true rfl) h0,
   fun _ _ => mq_ri rfl,
   fun _ _ => mq_al (i := 0) rfl rfl,
   fun _ _ _ h0 => mq_getR rfl h0,
   fun _ _ _ h0 => mq_getI rfl h0,
   fun _ _ => mq_push rfl,
   fun _ _ _ _ => mq_ic_ge rfl,
   fun _ _ => mq_al (i := 0) rfl rfl,
   fun _ _ => mq_push rfl,
   fun _ _ _ h0 => mq_cVr (na := 1) rfl rfl (Nat.le_of_ble_eq_true rfl) (Nat.le_of_ble_eq_true rfl) h0,
   fun _ _ => mq_ri rfl,
   fun _ _ => mq_al (i := 0) rfl rfl,
   fun _ _ _ h0 => mq_getR rfl h0,
   fun _ _ => mq_al (i := 0) rfl rfl,
   fun _ _ _ h0 => mq_getR rfl h0,
   fun _ _ _ h0 => mq_cVv (na := 1) rfl rfl (Nat.le_of_ble_eq_true rfl) (Nat.le_of_ble_eq_true rfl) h0,
   fun _ _ => mq_al (i := 0) rfl rfl,
   fun _ _ _ h0 => mq_getR rfl h0,
   fun _ _ => mq_push rfl,
   fun _ _ _ _ h0 => mq_putI rfl h0,
   fun _ _ => mq_al (i := 0) rfl rfl,
   fun _ _ _ h0 => mq_getR rfl h0,
   fun _ _ => mq_al (i := 0) rfl rfl,
   fun _ _ _ h0 => mq_getR rfl h0,
   fun _ _ _ h0 => mq_cVr (na := 1) rfl rfl (Nat.le_of_ble_eq_true rfl) (Nat.le_of_ble_eq_true rfl) h0,
   fun _ _ => mq_ri rfl⟩
theorem eX11_cry (d n : Nat) (I L : mm_I) (P : mm_P) (x0 : Option Nat) : mm_rn (d + 1) 102 [.inr (.inr x0)] n I L P = mm_E d 102 0 [.inr (.inr x0)] [] [] n I L P := rfl

set_option maxRecDepth 20000 in
set_option maxHeartbeats 8000000 in
theorem kX11_whisper (d n : Nat) (I L : mm_I) (P : mm_P) :
  (∀ (st : List mm_V) z, mm_E d 103 0 [(.inr (.inr z))] [] st n I L P = mm_E d 103 1 [(.inr (.inr z))] [] ((.inr (.inr z)) :: st) n I L P) ∧
  (∀ (lv : List mm_V) a, (mm_ok n a 11) → mm_E d 103 1 lv [] (.inr (.inr (some a)) :: []) n I L P = mm_kr d 103 4 lv [] [] n (mm_rn d 92 [.inr (.inr (some a))] n I L P)) ∧
  (∀ (lv : List mm_V) (st : List mm_V) a, mm_E d 103 4 lv [] (.inl a :: st) n I L P = if a = 0 then mm_E d 103 13 lv [] st n I L P else mm_E d 103 7 lv [] st n I L P) ∧
  (∀ (st : List mm_V) z, mm_E d 103 7 [(.inr (.inr z))] [] st n I L P = mm_E d 103 8 [(.inr (.inr z))] [] ((.inr (.inr z)) :: st) n I L P) ∧
  (∀ (lv : List mm_V) (st : List mm_V), mm_E d 103 8 lv [] st n I L P = mm_E d 103 9 lv [] (.inl 0 :: st) n I L P) ∧
  (∀ (lv : List mm_V) a x0, (mm_ok n a 11) → mm_E d 103 9 lv [] (.inl x0 :: .inr (.inr (some a)) :: []) n I L P = mm_kr d 103 12 lv [] [] n (mm_rn d 98 [.inr (.inr (some a)), .inl x0] n I L P)) ∧
  (∀ (lv : List mm_V) z, mm_E d 103 12 lv [] [.inl z] n I L P = some (some (.inl z), n, I, L, P)) ∧
  (∀ (st : List mm_V) z, mm_E d 103 13 [(.inr (.inr z))] [] st n I L P = mm_E d 103 14 [(.inr (.inr z))] [] ((.inr (.inr z)) :: st) n I L P) ∧
  (∀ (lv : List mm_V) (st : List mm_V) a, (mm_ok n a 11) → mm_E d 103 14 lv [] (.inr (.inr (some a)) :: st) n I L P = mm_E d 103 17 lv [] (.inr (.inr (P a 8)) :: st) n I L P) ∧
  (∀ (st : List mm_V) z, mm_E d 103 17 [(.inr (.inr z))] [] st n I L P = mm_E d 103 18 [(.inr (.inr z))] [] ((.inr (.inr z)) :: st) n I L P) ∧
  (∀ (lv : List mm_V) (st : List mm_V) a, (mm_ok n a 11) → mm_E d 103 18 lv [] (.inr (.inr (some a)) :: st) n I L P = mm_E d 103 21 lv [] (.inr (.inr (P a 8)) :: st) n I L P) ∧
  (∀ (lv : List mm_V) (st : List mm_V) a, (mm_ok n a 5) → mm_E d 103 21 lv [] (.inr (.inr (some a)) :: st) n I L P = mm_E d 103 24 lv [] (.inl (I a 3) :: st) n I L P) ∧
  (∀ (lv : List mm_V) a x0, (mm_ok n a 5) → mm_E d 103 24 lv [] (.inl x0 :: .inr (.inr (some a)) :: []) n I L P = mm_kr d 103 27 lv [] [] n (mm_rn d 285 [.inr (.inr (some a)), .inl x0] n I L P)) ∧
  (∀ (lv : List mm_V) (st : List mm_V), mm_E d 103 27 lv [] st n I L P = mm_E d 103 28 lv [] (.inl 1 :: st) n I L P) ∧
  (∀ (lv : List mm_V) (st : List mm_V) a b, mm_E d 103 28 lv [] (.inl b :: .inl a :: st) n I L P = if b ≤ a then mm_E d 103 37 lv [] st n I L P else mm_E d 103 31 lv [] st n I L P) ∧
  (∀ (st : List mm_V) z, mm_E d 103 31 [(.inr (.inr z))] [] st n I L P = mm_E d 103 32 [(.inr (.inr z))] [] ((.inr (.inr z)) :: st) n I L P) ∧
  (∀ (lv : List mm_V) (st : List mm_V), mm_E d 103 32 lv [] st n I L P = mm_E d 103 33 lv [] (.inl 2 :: st) n I L P) ∧
  (∀ (lv : List mm_V) a x0, (mm_ok n a 11) → mm_E d 103 33 lv [] (.inl x0 :: .inr (.inr (some a)) :: []) n I L P = mm_kr d 103 36 lv [] [] n (mm_rn d 98 [.inr (.inr (some a)), .inl x0] n I L P)) ∧
  (∀ (lv : List mm_V) z, mm_E d 103 36 lv [] [.inl z] n I L P = some (some (.inl z), n, I, L, P)) ∧
  (∀ (st : List mm_V) z, mm_E d 103 37 [(.inr (.inr z))] [] st n I L P = mm_E d 103 38 [(.inr (.inr z))] [] ((.inr (.inr z)) :: st) n I L P) ∧
  (∀ (lv : List mm_V) (st : List mm_V) a, (mm_ok n a 11) → mm_E d 103 38 lv [] (.inr (.inr (some a)) :: st) n I L P = mm_E d 103 41 lv [] (.inr (.inr (P a 8)) :: st) n I L P) ∧
  (∀ (lv : List mm_V) (st : List mm_V) a, (mm_ok n a 5) → mm_E d 103 41 lv [] (.inr (.inr (some a)) :: st) n I L P = mm_E d 103 44 lv [] (.inl (I a 5) :: st) n I L P) ∧
  (∀ (lv : List mm_V) (st : List mm_V), mm_E d 103 44 lv [] st n I L P = mm_E d 103 45 lv [] (.inl 1 :: st) n I L P) ∧
  (∀ (lv : List mm_V) (st : List mm_V) a b, mm_E d 103 45 lv [] (.inl b :: .inl a :: st) n I L P = if b ≤ a then mm_E d 103 54 lv [] st n I L P else mm_E d 103 48 lv [] st n I L P) ∧
  (∀ (st : List mm_V) z, mm_E d 103 48 [(.inr (.inr z))] [] st n I L P = mm_E d 103 49 [(.inr (.inr z))] [] ((.inr (.inr z)) :: st) n I L P) ∧
  (∀ (lv : List mm_V) (st : List mm_V), mm_E d 103 49 lv [] st n I L P = mm_E d 103 50 lv [] (.inl 3 :: st) n I L P) ∧
  (∀ (lv : List mm_V) a x0, (mm_ok n a 11) → mm_E d 103 50 lv [] (.inl x0 :: .inr (.inr (some a)) :: []) n I L P = mm_kr d 103 53 lv [] [] n (mm_rn d 98 [.inr (.inr (some a)), .inl x0] n I L P)) ∧
  (∀ (lv : List mm_V) z, mm_E d 103 53 lv [] [.inl z] n I L P = some (some (.inl z), n, I, L, P)) ∧
  (∀ (st : List mm_V) z, mm_E d 103 54 [(.inr (.inr z))] [] st n I L P = mm_E d 103 55 [(.inr (.inr z))] [] ((.inr (.inr z)) :: st) n I L P) ∧
  (∀ (lv : List mm_V) (st : List mm_V) a, (mm_ok n a 11) → mm_E d 103 55 lv [] (.inr (.inr (some a)) :: st) n I L P = mm_E d 103 58 lv [] (.inr (.inr (P a 10)) :: st) n I L P) ∧
  (∀ (st : List mm_V) z, mm_E d 103 58 [(.inr (.inr z))] [] st n I L P = mm_E d 103 59 [(.inr (.inr z))] [] ((.inr (.inr z)) :: st) n I L P) ∧
  (∀ (lv : List mm_V) (st : List mm_V) a, (mm_ok n a 11) → mm_E d 103 59 lv [] (.inr (.inr (some a)) :: st) n I L P = mm_E d 103 62 lv [] (.inr (.inr (P a 8)) :: st) n I L P) ∧
  (∀ (lv : List mm_V) a x0, (mm_ok n a 6) → mm_E d 103 62 lv [] (.inr (.inr x0) :: .inr (.inr (some a)) :: []) n I L P = mm_kv d 103 65 lv [] [] n (mm_rn d 51 [.inr (.inr (some a)), .inr (.inr x0)] n I L P)) ∧
  (∀ (st : List mm_V) z, mm_E d 103 65 [(.inr (.inr z))] [] st n I L P = mm_E d 103 66 [(.inr (.inr z))] [] ((.inr (.inr z)) :: st) n I L P) ∧
  (∀ (lv : List mm_V) (st : List mm_V) a, (mm_ok n a 11) → mm_E d 103 66 lv [] (.inr (.inr (some a)) :: st) n I L P = mm_E d 103 69 lv [] (.inr (.inr (P a 8)) :: st) n I L P) ∧
  (∀ (lv : List mm_V) (st : List mm_V) a, mm_E d 103 69 lv [] ((.inr (.inr a)) :: st) n I L P = mm_E d 103 70 lv [] ((.inr (.inr a)) :: (.inr (.inr a)) :: st) n I L P) ∧
  (∀ (lv : List mm_V) (st : List mm_V) a, (mm_ok n a 5) → mm_E d 103 70 lv [] (.inr (.inr (some a)) :: st) n I L P = mm_E d 103 73 lv [] (.inl (I a 5) :: st) n I L P) ∧
  (∀ (lv : List mm_V) (st : List mm_V), mm_E d 103 73 lv [] st n I L P = mm_E d 103 74 lv [] (.inl 1 :: st) n I L P) ∧
  (∀ (lv : List mm_V) (st : List mm_V) a b, mm_E d 103 74 lv [] (.inl b :: .inl a :: st) n I L P = mm_E d 103 75 lv [] (.inl (mm_sub a b) :: st) n I L P) ∧
  (∀ (lv : List mm_V) (st : List mm_V) a z, (mm_ok n a 5) → mm_E d 103 75 lv [] (.inl z :: .inr (.inr (some a)) :: st) n I L P = mm_E d 103 78 lv [] st n (mm_ui I a 5 z) L P) ∧
  (∀ (st : List mm_V) z, mm_E d 103 78 [(.inr (.inr z))] [] st n I L P = mm_E d 103 79 [(.inr (.inr z))] [] ((.inr (.inr z)) :: st) n I L P) ∧
  (∀ (lv : List mm_V) (st : List mm_V) a, (mm_ok n a 11) → mm_E d 103 79 lv [] (.inr (.inr (some a)) :: st) n I L P = mm_E d 103 82 lv [] (.inr (.inr (P a 8)) :: st) n I L P) ∧
  (∀ (st : List mm_V) z, mm_E d 103 82 [(.inr (.inr z))] [] st n I L P = mm_E d 103 83 [(.inr (.inr z))] [] ((.inr (.inr z)) :: st) n I L P) ∧
  (∀ (lv : List mm_V) (st : List mm_V) a, (mm_ok n a 11) → mm_E d 103 83 lv [] (.inr (.inr (some a)) :: st) n I L P = mm_E d 103 86 lv [] (.inr (.inr (P a 8)) :: st) n I L P) ∧
  (∀ (lv : List mm_V) (st : List mm_V) a, (mm_ok n a 5) → mm_E d 103 86 lv [] (.inr (.inr (some a)) :: st) n I L P = mm_E d 103 89 lv [] (.inl (I a 3) :: st) n I L P) ∧
  (∀ (lv : List mm_V) (st : List mm_V), mm_E d 103 89 lv [] st n I L P = mm_E d 103 90 lv [] (.inl 3 :: st) n I L P) ∧
  (∀ (lv : List mm_V) a x0 x1, (mm_ok n a 5) → mm_E d 103 90 lv [] (.inl x1 :: .inl x0 :: .inr (.inr (some a)) :: []) n I L P = mm_kv d 103 93 lv [] [] n (mm_rn d 286 [.inr (.inr (some a)), .inl x0, .inl x1] n I L P)) ∧
  (∀ (st : List mm_V) z, mm_E d 103 93 [(.inr (.inr z))] [] st n I L P = mm_E d 103 94 [(.inr (.inr z))] [] ((.inr (.inr z)) :: st) n I L P) ∧
  (∀ (lv : List mm_V) (st : List mm_V) a, (mm_ok n a 11) → mm_E d 103 94 lv [] (.inr (.inr (some a)) :: st) n I L P = mm_E d 103 97 lv [] (.inr (.inr (P a 8)) :: st) n I L P) ∧
  (∀ (st : List mm_V) z, mm_E d 103 97 [(.inr (.inr z))] [] st n I L P = mm_E d 103 98 [(.inr (.inr z))] [] ((.inr (.inr z)) :: st) n I L P) ∧
  (∀ (lv : List mm_V) (st : List mm_V) a, (mm_ok n a 11) → mm_E d 103 98 lv [] (.inr (.inr (some a)) :: st) n I L P = mm_E d 103 101 lv [] (.inr (.inr (P a 8)) :: st) n I L P) ∧
  (∀ (lv : List mm_V) (st : List mm_V) a, (mm_ok n a 5) → mm_E d 103 101 lv [] (.inr (.inr (some a)) :: st) n I L P = mm_E d 103 104 lv [] (.inl (I a 3) :: st) n I L P) ∧
  (∀ (lv : List mm_V) a x0, (mm_ok n a 5) → mm_E d 103 104 lv [] (.inl x0 :: .inr (.inr (some a)) :: []) n I L P = mm_kr d 103 107 lv [] [] n (mm_rn d 285 [.inr (.inr (some a)), .inl x0] n I L P)) ∧
  (∀ (lv : List mm_V) z, mm_E d 103 107 lv [] [.inl z] n I L P = some (some (.inl z), n, I, L, P)) :=
  ⟨fun _ _ => mq_al (i := 0) rfl rfl,
   fun _ _ h0 => mq_cVr (na := 0) rfl rfl (Nat.le_of_ble_eq_true rfl) (Nat.le_of_ble_eq_true rfl) h0,
   fun _ _ _ => mq_if_eq rfl,
   fun _ _ => mq_al (i := 0) rfl rfl,
   fun _ _ => mq_push rfl,
   fun _ _ _ h0 => mq_cVr (na := 1) rfl rfl (Nat.le_of_ble_eq_true rfl) (Nat.le_of_ble_eq_true rfl) h0,
   fun _ _ => mq_ri rfl,
   fun _ _ => mq_al (i := 0) rfl rfl,
   fun _ _ _ h0 => mq_getR rfl h0,
   fun _ _ => mq_al (i := 0) rfl rfl,
   fun _ _ _ h0 => mq_getR rfl h0,
   fun _ _ _ h0 => mq_getI rfl h0,
   fun _ _ _ h0 => mq_cVr (na := 1) rfl rfl (Nat.le_of_ble_eq_true rfl) (Nat.le_of_ble_eq_true rfl) h0,
   fun _ _ => mq_push rfl,
   fun _ _ _ _ => mq_ic_ge rfl,
   fun _ _ => mq_al (i := 0) rfl rfl,
   fun _ _ => mq_push rfl,
   fun _ _ _ h0 => mq_cVr (na := 1) rfl rfl (Nat.le_of_ble_eq_true rfl) (Nat.le_of_ble_eq_true rfl) h0,
   fun _ _ => mq_ri rfl,
   fun _ _ => mq_al (i := 0) rfl rfl,
   fun _ _ _ h0 => mq_getR rfl h0,
   fun _ _ _ h0 => mq_getI rfl h0,
   fun _ _ => mq_push rfl,
   fun _ _ _ _ => mq_ic_ge rfl,
   fun _ _ => mq_al (i := 0) rfl rfl,
   fun _ _ => mq_push rfl,
   fun _ _ _ h0 => mq_cVr (na := 1) rfl rfl (Nat.le_of_ble_eq_true rfl) (Nat.le_of_ble_eq_true rfl) h0,
   fun _ _ => mq_ri rfl,
   fun _ _ => mq_al (i := 0) rfl rfl,
   fun _ _ _ h0 => mq_getR rfl h0,
   fun _ _ => mq_al (i := 0) rfl rfl,
   fun _ _ _ h0 => mq_getR rfl h0,
   fun _ _ _ h0 => mq_cVv (na := 1) rfl rfl (Nat.le_of_ble_eq_true rfl) (Nat.le_of_ble_eq_true rfl) h0,
   fun _ _ => mq_al (i := 0) rfl rfl,
   fun _ _ _ h0 => mq_getR rfl h0,
   fun _ _ _ => mq_dup rfl rfl,
   fun _ _ _ h0 => mq_getI rfl h0,
   fun _ _ => mq_push rfl,
   fun _ _ _ _ => mq_bi rfl,
   fun _ _ _ _ h0 => mq_putI rfl h0,
   fun _ _ => mq_al (i := 0) rfl rfl,
   fun _ _ _ h0 => mq_getR rfl h0,
   fun _ _ => mq_al (i := 0) rfl rfl,
   fun _ _ _ h0 => mq_getR rfl h0,
   fun _ _ _ h0 => mq_getI rfl h0,
   fun _ _ => mq_push rfl,
   fun _ _ _ _ h0 => mq_cVv (na := 2) rfl rfl (Nat.le_of_ble_eq_true rfl) (Nat.le_of_ble_eq_true rfl) h0,
   fun _ _ => mq_al (i := 0) rfl rfl,
   fun _ _ _ h0 => mq_getR rfl h0,
   fun _ _ => mq_al (i := 0) rfl rfl,
   fun _ _ _ h0 => mq_getR rfl h0,
   fun _ _ _ h0 => mq_getI rfl h0,
   fun _ _ _ h0 => mq_cVr (na := 1) rfl rfl (Nat.le_of_ble_eq_true rfl) (Nat.le_of_ble_eq_true rfl) h0,
   fun _ _ => mq_ri rfl⟩
theorem eX11_whisper (d n : Nat) (I L : mm_I) (P : mm_P) (x0 : Option Nat) : mm_rn (d + 1) 103 [.inr (.inr x0)] n I L P = mm_E d 103 0 [.inr (.inr x0)] [] [] n I L P := rfl

set_option maxRecDepth 20000 in
set_option maxHeartbeats 8000000 in
theorem kX11_heir (d n : Nat) (I L : mm_I) (P : mm_P) :
  (∀ (st : List mm_V) z, mm_E d 104 0 [(.inr (.inr z))] [] st n I L P = mm_E d 104 1 [(.inr (.inr z))] [] ((.inr (.inr z)) :: st) n I L P) ∧
  (∀ (lv : List mm_V) a, (mm_ok n a 11) → mm_E d 104 1 lv [] (.inr (.inr (some a)) :: []) n I L P = mm_kr d 104 4 lv [] [] n (mm_rn d 92 [.inr (.inr (some a))] n I L P)) ∧
  (∀ (lv : List mm_V) (st : List mm_V) a, mm_E d 104 4 lv [] (.inl a :: st) n I L P = if a = 0 then mm_E d 104 13 lv [] st n I L P else mm_E d 104 7 lv [] st n I L P) ∧
  (∀ (st : List mm_V) z, mm_E d 104 7 [(.inr (.inr z))] [] st n I L P = mm_E d 104 8 [(.inr (.inr z))] [] ((.inr (.inr z)) :: st) n I L P) ∧
  (∀ (lv : List mm_V) (st : List mm_V), mm_E d 104 8 lv [] st n I L P = mm_E d 104 9 lv [] (.inl 0 :: st) n I L P) ∧
  (∀ (lv : List mm_V) a x0, (mm_ok n a 11) → mm_E d 104 9 lv [] (.inl x0 :: .inr (.inr (some a)) :: []) n I L P = mm_kr d 104 12 lv [] [] n (mm_rn d 98 [.inr (.inr (some a)), .inl x0] n I L P)) ∧
  (∀ (lv : List mm_V) z, mm_E d 104 12 lv [] [.inl z] n I L P = some (some (.inl z), n, I, L, P)) ∧
  (∀ (st : List mm_V) z, mm_E d 104 13 [(.inr (.inr z))] [] st n I L P = mm_E d 104 14 [(.inr (.inr z))] [] ((.inr (.inr z)) :: st) n I L P) ∧
  (∀ (lv : List mm_V) (st : List mm_V) a, (mm_ok n a 11) → mm_E d 104 14 lv [] (.inr (.inr (some a)) :: st) n I L P = mm_E d 104 17 lv [] (.inr (.inr (P a 8)) :: st) n I L P) ∧
  (∀ (lv : List mm_V) (st : List mm_V) a, (mm_ok n a 5) → mm_E d 104 17 lv [] (.inr (.inr (some a)) :: st) n I L P = mm_E d 104 20 lv [] (.inl (I a 5) :: st) n I L P) ∧
  (∀ (lv : List mm_V) (st : List mm_V), mm_E d 104 20 lv [] st n I L P = mm_E d 104 21 lv [] (.inl 3 :: st) n I L P) ∧
  (∀ (lv : List mm_V) (st : List mm_V) a b, mm_E d 104 21 lv [] (.inl b :: .inl a :: st) n I L P = if a < b then mm_E d 104 30 lv [] st n I L P else mm_E d 104 24 lv [] st n I L P) ∧
  (∀ (st : List mm_V) z, mm_E d 104 24 [(.inr (.inr z))] [] st n I L P = mm_E d 104 25 [(.inr (.inr z))] [] ((.inr (.inr z)) :: st) n I L P) ∧
  (∀ (lv : List mm_V) (st : List mm_V), mm_E d 104 25 lv [] st n I L P = mm_E d 104 26 lv [] (.inl 2 :: st) n I L P) ∧
  (∀ (lv : List mm_V) a x0, (mm_ok n a 11) → mm_E d 104 26 lv [] (.inl x0 :: .inr (.inr (some a)) :: []) n I L P = mm_kr d 104 29 lv [] [] n (mm_rn d 98 [.inr (.inr (some a)), .inl x0] n I L P)) ∧
  (∀ (lv : List mm_V) z, mm_E d 104 29 lv [] [.inl z] n I L P = some (some (.inl z), n, I, L, P)) ∧
  (∀ (st : List mm_V) z, mm_E d 104 30 [(.inr (.inr z))] [] st n I L P = mm_E d 104 31 [(.inr (.inr z))] [] ((.inr (.inr z)) :: st) n I L P) ∧
  (∀ (lv : List mm_V) (st : List mm_V) a, (mm_ok n a 11) → mm_E d 104 31 lv [] (.inr (.inr (some a)) :: st) n I L P = mm_E d 104 34 lv [] (.inr (.inr (P a 8)) :: st) n I L P) ∧
  (∀ (lv : List mm_V) (st : List mm_V) a, (mm_ok n a 5) → mm_E d 104 34 lv [] (.inr (.inr (some a)) :: st) n I L P = mm_E d 104 37 lv [] (.inl (I a 6) :: st) n I L P) ∧
  (∀ (lv : List mm_V) (st : List mm_V), mm_E d 104 37 lv [] st n I L P = mm_E d 104 38 lv [] (.inl 5 :: st) n I L P) ∧
  (∀ (lv : List mm_V) (st : List mm_V) a b, mm_E d 104 38 lv [] (.inl b :: .inl a :: st) n I L P = if b ≤ a then mm_E d 104 47 lv [] st n I L P else mm_E d 104 41 lv [] st n I L P) ∧
  (∀ (st : List mm_V) z, mm_E d 104 41 [(.inr (.inr z))] [] st n I L P = mm_E d 104 42 [(.inr (.inr z))] [] ((.inr (.inr z)) :: st) n I L P) ∧
  (∀ (lv : List mm_V) (st : List mm_V), mm_E d 104 42 lv [] st n I L P = mm_E d 104 43 lv [] (.inl 3 :: st) n I L P) ∧
  (∀ (lv : List mm_V) a x0, (mm_ok n a 11) → mm_E d 104 43 lv [] (.inl x0 :: .inr (.inr (some a)) :: []) n I L P = mm_kr d 104 46 lv [] [] n (mm_rn d 98 [.inr (.inr (some a)), .inl x0] n I L P)) ∧
  (∀ (lv : List mm_V) z, mm_E d 104 46 lv [] [.inl z] n I L P = some (some (.inl z), n, I, L, P)) ∧
  (∀ (st : List mm_V) z, mm_E d 104 47 [(.inr (.inr z))] [] st n I L P = mm_E d 104 48 [(.inr (.inr z))] [] ((.inr (.inr z)) :: st) n I L P) ∧
  (∀ (lv : List mm_V) (st : List mm_V) a, (mm_ok n a 11) → mm_E d 104 48 lv [] (.inr (.inr (some a)) :: st) n I L P = mm_E d 104 51 lv [] (.inr (.inr (P a 10)) :: st) n I L P) ∧
  (∀ (st : List mm_V) z, mm_E d 104 51 [(.inr (.inr z))] [] st n I L P = mm_E d 104 52 [(.inr (.inr z))] [] ((.inr (.inr z)) :: st) n I L P) ∧
  (∀ (lv : List mm_V) (st : List mm_V) a, (mm_ok n a 11) → mm_E d 104 52 lv [] (.inr (.inr (some a)) :: st) n I L P = mm_E d 104 55 lv [] (.inr (.inr (P a 8)) :: st) n I L P) ∧
  (∀ (lv : List mm_V) a x0, (mm_ok n a 6) → mm_E d 104 55 lv [] (.inr (.inr x0) :: .inr (.inr (some a)) :: []) n I L P = mm_kv d 104 58 lv [] [] n (mm_rn d 51 [.inr (.inr (some a)), .inr (.inr x0)] n I L P)) ∧
  (∀ (st : List mm_V) z, mm_E d 104 58 [(.inr (.inr z))] [] st n I L P = mm_E d 104 59 [(.inr (.inr z))] [] ((.inr (.inr z)) :: st) n I L P) ∧
  (∀ (lv : List mm_V) (st : List mm_V) a, (mm_ok n a 11) → mm_E d 104 59 lv [] (.inr (.inr (some a)) :: st) n I L P = mm_E d 104 62 lv [] (.inr (.inr (P a 8)) :: st) n I L P) ∧
  (∀ (lv : List mm_V) (st : List mm_V), mm_E d 104 62 lv [] st n I L P = mm_E d 104 63 lv [] (.inl 3 :: st) n I L P) ∧
  (∀ (lv : List mm_V) (st : List mm_V) a z, (mm_ok n a 5) → mm_E d 104 63 lv [] (.inl z :: .inr (.inr (some a)) :: st) n I L P = mm_E d 104 66 lv [] st n (mm_ui I a 5 z) L P) ∧
  (∀ (st : List mm_V) z, mm_E d 104 66 [(.inr (.inr z))] [] st n I L P = mm_E d 104 67 [(.inr (.inr z))] [] ((.inr (.inr z)) :: st) n I L P) ∧
  (∀ (lv : List mm_V) (st : List mm_V) a, (mm_ok n a 11) → mm_E d 104 67 lv [] (.inr (.inr (some a)) :: st) n I L P = mm_E d 104 70 lv [] (.inr (.inr (P a 8)) :: st) n I L P) ∧
  (∀ (lv : List mm_V) (st : List mm_V) a, mm_E d 104 70 lv [] ((.inr (.inr a)) :: st) n I L P = mm_E d 104 71 lv [] ((.inr (.inr a)) :: (.inr (.inr a)) :: st) n I L P) ∧
  (∀ (lv : List mm_V) (st : List mm_V) a, (mm_ok n a 5) → mm_E d 104 71 lv [] (.inr (.inr (some a)) :: st) n I L P = mm_E d 104 74 lv [] (.inl (I a 6) :: st) n I L P) ∧
  (∀ (lv : List mm_V) (st : List mm_V), mm_E d 104 74 lv [] st n I L P = mm_E d 104 75 lv [] (.inl 5 :: st) n I L P) ∧
  (∀ (lv : List mm_V) (st : List mm_V) a b, mm_E d 104 75 lv [] (.inl b :: .inl a :: st) n I L P = mm_E d 104 76 lv [] (.inl (mm_sub a b) :: st) n I L P) ∧
  (∀ (lv : List mm_V) (st : List mm_V) a z, (mm_ok n a 5) → mm_E d 104 76 lv [] (.inl z :: .inr (.inr (some a)) :: st) n I L P = mm_E d 104 79 lv [] st n (mm_ui I a 6 z) L P) ∧
  (∀ (st : List mm_V) z, mm_E d 104 79 [(.inr (.inr z))] [] st n I L P = mm_E d 104 80 [(.inr (.inr z))] [] ((.inr (.inr z)) :: st) n I L P) ∧
  (∀ (lv : List mm_V) (st : List mm_V) a, (mm_ok n a 11) → mm_E d 104 80 lv [] (.inr (.inr (some a)) :: st) n I L P = mm_E d 104 83 lv [] (.inr (.inr (P a 8)) :: st) n I L P) ∧
  (∀ (lv : List mm_V) (st : List mm_V), mm_E d 104 83 lv [] st n I L P = mm_E d 104 84 lv [] (.inl 0 :: st) n I L P) ∧
  (∀ (lv : List mm_V) (st : List mm_V) a z, (mm_ok n a 5) → mm_E d 104 84 lv [] (.inl z :: .inr (.inr (some a)) :: st) n I L P = mm_E d 104 87 lv [] st n (mm_ui I a 3 z) L P) ∧
  (∀ (st : List mm_V) z, mm_E d 104 87 [(.inr (.inr z))] [] st n I L P = mm_E d 104 88 [(.inr (.inr z))] [] ((.inr (.inr z)) :: st) n I L P) ∧
  (∀ (lv : List mm_V) (st : List mm_V) a, (mm_ok n a 11) → mm_E d 104 88 lv [] (.inr (.inr (some a)) :: st) n I L P = mm_E d 104 91 lv [] (.inr (.inr (P a 8)) :: st) n I L P) ∧
  (∀ (lv : List mm_V) (st : List mm_V) a, (mm_ok n a 5) → mm_E d 104 91 lv [] (.inr (.inr (some a)) :: st) n I L P = mm_E d 104 94 lv [] (.inl (I a 6) :: st) n I L P) ∧
  (∀ (lv : List mm_V) z, mm_E d 104 94 lv [] [.inl z] n I L P = some (some (.inl z), n, I, L, P)) :=
  ⟨fun _ _ => mq_al (i := 0) rfl rfl,
   fun _ _ h0 => mq_cVr (na := 0) rfl rfl (Nat.le_of_ble_eq_true rfl) (Nat.le_of_ble_eq_true rfl) h0,
   fun _ _ _ => mq_if_eq rfl,
   fun _ _ => mq_al (i := 0) rfl rfl,
   fun _ _ => mq_push rfl,
   fun _ _ _ h0 => mq_cVr (na := 1) rfl rfl (Nat.le_of_ble_eq_true rfl) (Nat.le_of_ble_eq_true rfl) h0,
   fun _ _ => mq_ri rfl,
   fun _ _ => mq_al (i := 0) rfl rfl,
   fun _ _ _ h0 => mq_getR rfl h0,
   fun _ _ _ h0 => mq_getI rfl h0,
   fun _ _ => mq_push rfl,
   fun _ _ _ _ => mq_ic_lt rfl,
   fun _ _ => mq_al (i := 0) rfl rfl,
   fun _ _ => mq_push rfl,
   fun _ _ _ h0 => mq_cVr (na := 1) rfl rfl (Nat.le_of_ble_eq_true rfl) (Nat.le_of_ble_eq_true rfl) h0,
   fun _ _ => mq_ri rfl,
   fun _ _ => mq_al (i := 0) rfl rfl,
   fun _ _ _ h0 => mq_getR rfl h0,
   fun _ _ _ h0 => mq_getI rfl h0,
   fun _ _ => mq_push rfl,
   fun _ _ _ _ => mq_ic_ge rfl,
   fun _ _ => mq_al (i := 0) rfl rfl,
   fun _ _ => mq_push rfl,
   fun _ _ _ h0 => mq_cVr (na := 1) rfl rfl (Nat.le_of_ble_eq_true rfl) (Nat.le_of_ble_eq_true rfl) h0,
   fun _ _ => mq_ri rfl,
   fun _ _ => mq_al (i := 0) rfl rfl,
   fun _ _ _ h0 => mq_getR rfl h0,
   fun _ _ => mq_al (i := 0) rfl rfl,
   fun _ _ _ h0 => mq_getR rfl h0,
   fun _ _ _ h0 => mq_cVv (na := 1) rfl rfl (Nat.le_of_ble_eq_true rfl) (Nat.le_of_ble_eq_true rfl) h0,
   fun _ _ => mq_al (i := 0) rfl rfl,
   fun _ _ _ h0 => mq_getR rfl h0,
   fun _ _ => mq_push rfl,
   fun _ _ _ _ h0 => mq_putI rfl h0,
   fun _ _ => mq_al (i := 0) rfl rfl,
   fun _ _ _ h0 => mq_getR rfl h0,
   fun _ _ _ => mq_dup rfl rfl,
   fun _ _ _ h0 => mq_getI rfl h0,
   fun _ _ => mq_push rfl,
   fun _ _ _ _ => mq_bi rfl,
   fun _ _ _ _ h0 => mq_putI rfl h0,
   fun _ _ => mq_al (i := 0) rfl rfl,
   fun _ _ _ h0 => mq_getR rfl h0,
   fun _ _ => mq_push rfl,
   fun _ _ _ _ h0 => mq_putI rfl h0,
   fun _ _ => mq_al (i := 0) rfl rfl,
   fun _ _ _ h0 => mq_getR rfl h0,
   fun _ _ _ h0 => mq_getI rfl h0,
   fun _ _ => mq_ri rfl⟩
theorem eX11_heir (d n : Nat) (I L : mm_I) (P : mm_P) (x0 : Option Nat) : mm_rn (d + 1) 104 [.inr (.inr x0)] n I L P = mm_E d 104 0 [.inr (.inr x0)] [] [] n I L P := rfl

set_option maxRecDepth 20000 in
set_option maxHeartbeats 8000000 in
theorem kX11_begin (d n : Nat) (I L : mm_I) (P : mm_P) :
  (∀ (st : List mm_V) z (l1 : mm_V) (l2 : mm_V) (l3 : mm_V), mm_E d 105 0 [(.inr (.inr z)), l1, l2, l3] [] st n I L P = mm_E d 105 1 [(.inr (.inr z)), l1, l2, l3] [] ((.inr (.inr z)) :: st) n I L P) ∧
  (∀ (lv : List mm_V) (st : List mm_V) a, (mm_ok n a 11) → mm_E d 105 1 lv [] (.inr (.inr (some a)) :: st) n I L P = mm_E d 105 4 lv [] (.inr (.inr (P a 2)) :: st) n I L P) ∧
  (∀ (st : List mm_V) z (l0 : mm_V) (l2 : mm_V) (l3 : mm_V), mm_E d 105 4 [l0, (.inl z), l2, l3] [] st n I L P = mm_E d 105 5 [l0, (.inl z), l2, l3] [] ((.inl z) :: st) n I L P) ∧
  (∀ (lv : List mm_V) a x0, (mm_ok n a 9) → mm_E d 105 5 lv [] (.inl x0 :: .inr (.inr (some a)) :: []) n I L P = mm_kr d 105 8 lv [] [] n (mm_rn d 63 [.inr (.inr (some a)), .inl x0] n I L P)) ∧
  (∀ (lv : List mm_V) (st : List mm_V) a, mm_E d 105 8 lv [] (.inl a :: st) n I L P = if a = 0 then mm_E d 105 11 lv [] st n I L P else mm_E d 105 17 lv [] st n I L P) ∧
  (∀ (st : List mm_V) z (l1 : mm_V) (l2 : mm_V) (l3 : mm_V), mm_E d 105 11 [(.inr (.inr z)), l1, l2, l3] [] st n I L P = mm_E d 105 12 [(.inr (.inr z)), l1, l2, l3] [] ((.inr (.inr z)) :: st) n I L P) ∧
  (∀ (lv : List mm_V) (st : List mm_V), mm_E d 105 12 lv [] st n I L P = mm_E d 105 13 lv [] (.inl 0 :: st) n I L P) ∧
  (∀ (lv : List mm_V) a x0, (mm_ok n a 11) → mm_E d 105 13 lv [] (.inl x0 :: .inr (.inr (some a)) :: []) n I L P = mm_kr d 105 16 lv [] [] n (mm_rn d 98 [.inr (.inr (some a)), .inl x0] n I L P)) ∧
  (∀ (lv : List mm_V) z, mm_E d 105 16 lv [] [.inl z] n I L P = some (some (.inl z), n, I, L, P)) ∧
  (∀ (st : List mm_V) z (l0 : mm_V) (l1 : mm_V) (l3 : mm_V), mm_E d 105 17 [l0, l1, (.inl z), l3] [] st n I L P = mm_E d 105 18 [l0, l1, (.inl z), l3] [] ((.inl z) :: st) n I L P) ∧
  (∀ (lv : List mm_V) (st : List mm_V) a, mm_E d 105 18 lv [] (.inl a :: st) n I L P = if a < 0 then mm_E d 105 37 lv [] st n I L P else mm_E d 105 21 lv [] st n I L P) ∧
  (∀ (st : List mm_V) z (l0 : mm_V) (l1 : mm_V) (l3 : mm_V), mm_E d 105 21 [l0, l1, (.inl z), l3] [] st n I L P = mm_E d 105 22 [l0, l1, (.inl z), l3] [] ((.inl z) :: st) n I L P) ∧
  (∀ (lv : List mm_V) (st : List mm_V), mm_E d 105 22 lv [] st n I L P = mm_E d 105 23 lv [] (.inl 3 :: st) n I L P) ∧
  (∀ (lv : List mm_V) (st : List mm_V) a b, mm_E d 105 23 lv [] (.inl b :: .inl a :: st) n I L P = if b ≤ a then mm_E d 105 37 lv [] st n I L P else mm_E d 105 26 lv [] st n I L P) ∧
  (∀ (st : List mm_V) z (l0 : mm_V) (l1 : mm_V) (l2 : mm_V), mm_E d 105 26 [l0, l1, l2, (.inl z)] [] st n I L P = mm_E d 105 27 [l0, l1, l2, (.inl z)] [] ((.inl z) :: st) n I L P) ∧
  (∀ (lv : List mm_V) (st : List mm_V), mm_E d 105 27 lv [] st n I L P = mm_E d 105 28 lv [] (.inl 1 :: st) n I L P) ∧
  (∀ (lv : List mm_V) (st : List mm_V) a b, mm_E d 105 28 lv [] (.inl b :: .inl a :: st) n I L P = if a < b then mm_E d 105 37 lv [] st n I L P else mm_E d 105 31 lv [] st n I L P) ∧
  (∀ (st : List mm_V) z (l0 : mm_V) (l1 : mm_V) (l2 : mm_V), mm_E d 105 31 [l0, l1, l2, (.inl z)] [] st n I L P = mm_E d 105 32 [l0, l1, l2, (.inl z)] [] ((.inl z) :: st) n I L P) ∧
  (∀ (lv : List mm_V) (st : List mm_V), mm_E d 105 32 lv [] st n I L P = mm_E d 105 34 lv [] (.inl 9 :: st) n I L P) ∧
  (∀ (lv : List mm_V) (st : List mm_V) a b, mm_E d 105 34 lv [] (.inl b :: .inl a :: st) n I L P = if a ≤ b then mm_E d 105 43 lv [] st n I L P else mm_E d 105 37 lv [] st n I L P) ∧
  (∀ (st : List mm_V) z (l1 : mm_V) (l2 : mm_V) (l3 : mm_V), mm_E d 105 37 [(.inr (.inr z)), l1, l2, l3] [] st n I L P = mm_E d 105 38 [(.inr (.inr z)), l1, l2, l3] [] ((.inr (.inr z)) :: st) n I L P) ∧
  (∀ (lv : List mm_V) (st : List mm_V), mm_E d 105 38 lv [] st n I L P = mm_E d 105 39 lv [] (.inl 1 :: st) n I L P) ∧
  (∀ (lv : List mm_V) a x0, (mm_ok n a 11) → mm_E d 105 39 lv [] (.inl x0 :: .inr (.inr (some a)) :: []) n I L P = mm_kr d 105 42 lv [] [] n (mm_rn d 98 [.inr (.inr (some a)), .inl x0] n I L P)) ∧
  (∀ (lv : List mm_V) z, mm_E d 105 42 lv [] [.inl z] n I L P = some (some (.inl z), n, I, L, P)) ∧
  (∀ (st : List mm_V) z (l1 : mm_V) (l2 : mm_V) (l3 : mm_V), mm_E d 105 43 [(.inr (.inr z)), l1, l2, l3] [] st n I L P = mm_E d 105 44 [(.inr (.inr z)), l1, l2, l3] [] ((.inr (.inr z)) :: st) n I L P) ∧
  (∀ (lv : List mm_V) (st : List mm_V) a, (mm_ok n a 11) → mm_E d 105 44 lv [] (.inr (.inr (some a)) :: st) n I L P = mm_E d 105 47 lv [] (.inr (.inr (P a 8)) :: st) n I L P) ∧
  (∀ (lv : List mm_V) (st : List mm_V) a, (mm_ok n a 5) → mm_E d 105 47 lv [] (.inr (.inr (some a)) :: st) n I L P = mm_E d 105 50 lv [] (.inr (.inr (P a 2)) :: st) n I L P) ∧
  (∀ (st : List mm_V) z (l0 : mm_V) (l2 : mm_V) (l3 : mm_V), mm_E d 105 50 [l0, (.inl z), l2, l3] [] st n I L P = mm_E d 105 51 [l0, (.inl z), l2, l3] [] ((.inl z) :: st) n I L P) ∧
  (∀ (lv : List mm_V) (st : List mm_V) a i, (mm_ix n a 20 i) → mm_E d 105 51 lv [] (.inl i :: .inr (.inr (some a)) :: st) n I L P = mm_E d 105 52 lv [] (.inl (I a i.toNat) :: st) n I L P) ∧
  (∀ (lv : List mm_V) (st : List mm_V) a, mm_E d 105 52 lv [] (.inl a :: st) n I L P = if a ≤ 0 then mm_E d 105 61 lv [] st n I L P else mm_E d 105 55 lv [] st n I L P) ∧
  (∀ (st : List mm_V) z (l1 : mm_V) (l2 : mm_V) (l3 : mm_V), mm_E d 105 55 [(.inr (.inr z)), l1, l2, l3] [] st n I L P = mm_E d 105 56 [(.inr (.inr z)), l1, l2, l3] [] ((.inr (.inr z)) :: st) n I L P) ∧
  (∀ (lv : List mm_V) (st : List mm_V), mm_E d 105 56 lv [] st n I L P = mm_E d 105 57 lv [] (.inl 2 :: st) n I L P) ∧
  (∀ (lv : List mm_V) a x0, (mm_ok n a 11) → mm_E d 105 57 lv [] (.inl x0 :: .inr (.inr (some a)) :: []) n I L P = mm_kr d 105 60 lv [] [] n (mm_rn d 98 [.inr (.inr (some a)), .inl x0] n I L P)) ∧
  (∀ (lv : List mm_V) z, mm_E d 105 60 lv [] [.inl z] n I L P = some (some (.inl z), n, I, L, P)) ∧
  (∀ (st : List mm_V) z (l1 : mm_V) (l2 : mm_V) (l3 : mm_V), mm_E d 105 61 [(.inr (.inr z)), l1, l2, l3] [] st n I L P = mm_E d 105 62 [(.inr (.inr z)), l1, l2, l3] [] ((.inr (.inr z)) :: st) n I L P) ∧
  (∀ (lv : List mm_V) (st : List mm_V) a, (mm_ok n a 11) → mm_E d 105 62 lv [] (.inr (.inr (some a)) :: st) n I L P = mm_E d 105 65 lv [] (.inr (.inr (P a 10)) :: st) n I L P) ∧
  (∀ (st : List mm_V) z (l1 : mm_V) (l2 : mm_V) (l3 : mm_V), mm_E d 105 65 [(.inr (.inr z)), l1, l2, l3] [] st n I L P = mm_E d 105 66 [(.inr (.inr z)), l1, l2, l3] [] ((.inr (.inr z)) :: st) n I L P) ∧
  (∀ (lv : List mm_V) (st : List mm_V) a, (mm_ok n a 11) → mm_E d 105 66 lv [] (.inr (.inr (some a)) :: st) n I L P = mm_E d 105 69 lv [] (.inr (.inr (P a 8)) :: st) n I L P) ∧
  (∀ (lv : List mm_V) a x0, (mm_ok n a 6) → mm_E d 105 69 lv [] (.inr (.inr x0) :: .inr (.inr (some a)) :: []) n I L P = mm_kv d 105 72 lv [] [] n (mm_rn d 51 [.inr (.inr (some a)), .inr (.inr x0)] n I L P)) ∧
  (∀ (st : List mm_V) z (l1 : mm_V) (l2 : mm_V) (l3 : mm_V), mm_E d 105 72 [(.inr (.inr z)), l1, l2, l3] [] st n I L P = mm_E d 105 73 [(.inr (.inr z)), l1, l2, l3] [] ((.inr (.inr z)) :: st) n I L P) ∧
  (∀ (lv : List mm_V) (st : List mm_V) a, (mm_ok n a 11) → mm_E d 105 73 lv [] (.inr (.inr (some a)) :: st) n I L P = mm_E d 105 76 lv [] (.inr (.inr (P a 8)) :: st) n I L P) ∧
  (∀ (st : List mm_V) z (l0 : mm_V) (l2 : mm_V) (l3 : mm_V), mm_E d 105 76 [l0, (.inl z), l2, l3] [] st n I L P = mm_E d 105 77 [l0, (.inl z), l2, l3] [] ((.inl z) :: st) n I L P) ∧
  (∀ (st : List mm_V) z (l0 : mm_V) (l1 : mm_V) (l3 : mm_V), mm_E d 105 77 [l0, l1, (.inl z), l3] [] st n I L P = mm_E d 105 78 [l0, l1, (.inl z), l3] [] ((.inl z) :: st) n I L P) ∧
  (∀ (st : List mm_V) z (l0 : mm_V) (l1 : mm_V) (l2 : mm_V), mm_E d 105 78 [l0, l1, l2, (.inl z)] [] st n I L P = mm_E d 105 79 [l0, l1, l2, (.inl z)] [] ((.inl z) :: st) n I L P) ∧
  (∀ (lv : List mm_V) a x0 x1 x2, (mm_ok n a 5) → mm_E d 105 79 lv [] (.inl x2 :: .inl x1 :: .inl x0 :: .inr (.inr (some a)) :: []) n I L P = mm_kv d 105 82 lv [] [] n (mm_rn d 45 [.inr (.inr (some a)), .inl x0, .inl x1, .inl x2] n I L P)) ∧
  (∀ (st : List mm_V) z (l1 : mm_V) (l2 : mm_V) (l3 : mm_V), mm_E d 105 82 [(.inr (.inr z)), l1, l2, l3] [] st n I L P = mm_E d 105 83 [(.inr (.inr z)), l1, l2, l3] [] ((.inr (.inr z)) :: st) n I L P) ∧
  (∀ (lv : List mm_V) (st : List mm_V) a, (mm_ok n a 11) → mm_E d 105 83 lv [] (.inr (.inr (some a)) :: st) n I L P = mm_E d 105 86 lv [] (.inr (.inr (P a 8)) :: st) n I L P) ∧
  (∀ (lv : List mm_V) a, (mm_ok n a 5) → mm_E d 105 86 lv [] (.inr (.inr (some a)) :: []) n I L P = mm_kr d 105 89 lv [] [] n (mm_rn d 42 [.inr (.inr (some a))] n I L P)) ∧
  (∀ (lv : List mm_V) x0, mm_E d 105 89 lv [] (.inl x0 :: []) n I L P = mm_kr d 105 92 lv [] [] n (mm_rn d 263 [.inl x0] n I L P)) ∧
  (∀ (lv : List mm_V) z, mm_E d 105 92 lv [] [.inl z] n I L P = some (some (.inl z), n, I, L, P)) :=
  ⟨fun _ _ _ _ _ => mq_al (i := 0) rfl rfl,
   fun _ _ _ h0 => mq_getR rfl h0,
   fun _ _ _ _ _ => mq_il (i := 1) rfl rfl,
   fun _ _ _ h0 => mq_cVr (na := 1) rfl rfl (Nat.le_of_ble_eq_true rfl) (Nat.le_of_ble_eq_true rfl) h0,
   fun _ _ _ => mq_if_ne rfl,
   fun _ _ _ _ _ => mq_al (i := 0) rfl rfl,
   fun _ _ => mq_push rfl,
   fun _ _ _ h0 => mq_cVr (na := 1) rfl rfl (Nat.le_of_ble_eq_true rfl) (Nat.le_of_ble_eq_true rfl) h0,
   fun _ _ => mq_ri rfl,
   fun _ _ _ _ _ => mq_il (i := 2) rfl rfl,
   fun _ _ _ => mq_if_lt rfl,
   fun _ _ _ _ _ => mq_il (i := 2) rfl rfl,
   fun _ _ => mq_push rfl,
   fun _ _ _ _ => mq_ic_ge rfl,
   fun _ _ _ _ _ => mq_il (i := 3) rfl rfl,
   fun _ _ => mq_push rfl,
   fun _ _ _ _ => mq_ic_lt rfl,
   fun _ _ _ _ _ => mq_il (i := 3) rfl rfl,
   fun _ _ => mq_push rfl,
   fun _ _ _ _ => mq_ic_le rfl,
   fun _ _ _ _ _ => mq_al (i := 0) rfl rfl,
   fun _ _ => mq_push rfl,
   fun _ _ _ h0 => mq_cVr (na := 1) rfl rfl (Nat.le_of_ble_eq_true rfl) (Nat.le_of_ble_eq_true rfl) h0,
   fun _ _ => mq_ri rfl,
   fun _ _ _ _ _ => mq_al (i := 0) rfl rfl,
   fun _ _ _ h0 => mq_getR rfl h0,
   fun _ _ _ h0 => mq_getR rfl h0,
   fun _ _ _ _ _ => mq_il (i := 1) rfl rfl,
   fun _ _ _ _ h0 => mq_iald rfl h0,
   fun _ _ _ => mq_if_le rfl,
   fun _ _ _ _ _ => mq_al (i := 0) rfl rfl,
   fun _ _ => mq_push rfl,
   fun _ _ _ h0 => mq_cVr (na := 1) rfl rfl (Nat.le_of_ble_eq_true rfl) (Nat.le_of_ble_eq_true rfl) h0,
   fun _ _ => mq_ri rfl,
   fun _ _ _ _ _ => mq_al (i := 0) rfl rfl,
   fun _ _ _ h0 => mq_getR rfl h0,
   fun _ _ _ _ _ => mq_al (i := 0) rfl rfl,
   fun _ _ _ h0 => mq_getR rfl h0,
   fun _ _ _ h0 => mq_cVv (na := 1) rfl rfl (Nat.le_of_ble_eq_true rfl) (Nat.le_of_ble_eq_true rfl) h0,
   fun _ _ _ _ _ => mq_al (i := 0) rfl rfl,
   fun _ _ _ h0 => mq_getR rfl h0,
   fun _ _ _ _ _ => mq_il (i := 1) rfl rfl,
   fun _ _ _ _ _ => mq_il (i := 2) rfl rfl,
   fun _ _ _ _ _ => mq_il (i := 3) rfl rfl,
   fun _ _ _ _ _ h0 => mq_cVv (na := 3) rfl rfl (Nat.le_of_ble_eq_true rfl) (Nat.le_of_ble_eq_true rfl) h0,
   fun _ _ _ _ _ => mq_al (i := 0) rfl rfl,
   fun _ _ _ h0 => mq_getR rfl h0,
   fun _ _ h0 => mq_cVr (na := 0) rfl rfl (Nat.le_of_ble_eq_true rfl) (Nat.le_of_ble_eq_true rfl) h0,
   fun _ _ => mq_cSr (na := 1) rfl (Nat.le_of_ble_eq_true rfl) (Nat.le_of_ble_eq_true rfl),
   fun _ _ => mq_ri rfl⟩
theorem eX11_begin (d n : Nat) (I L : mm_I) (P : mm_P) (x0 : Option Nat) (x1 : Int) (x2 : Int) (x3 : Int) : mm_rn (d + 1) 105 [.inr (.inr x0), .inl x1, .inl x2, .inl x3] n I L P = mm_E d 105 0 [.inr (.inr x0), .inl x1, .inl x2, .inl x3] [] [] n I L P := rfl

set_option maxRecDepth 20000 in
set_option maxHeartbeats 8000000 in
theorem kX11_give (d n : Nat) (I L : mm_I) (P : mm_P) :
  (∀ (st : List mm_V) z (l1 : mm_V), mm_E d 106 0 [(.inr (.inr z)), l1] [] st n I L P = mm_E d 106 1 [(.inr (.inr z)), l1] [] ((.inr (.inr z)) :: st) n I L P) ∧
  (∀ (lv : List mm_V) a, (mm_ok n a 11) → mm_E d 106 1 lv [] (.inr (.inr (some a)) :: []) n I L P = mm_kr d 106 4 lv [] [] n (mm_rn d 92 [.inr (.inr (some a))] n I L P)) ∧
  (∀ (lv : List mm_V) (st : List mm_V) a, mm_E d 106 4 lv [] (.inl a :: st) n I L P = if a = 0 then mm_E d 106 13 lv [] st n I L P else mm_E d 106 7 lv [] st n I L P) ∧
  (∀ (st : List mm_V) z (l1 : mm_V), mm_E d 106 7 [(.inr (.inr z)), l1] [] st n I L P = mm_E d 106 8 [(.inr (.inr z)), l1] [] ((.inr (.inr z)) :: st) n I L P) ∧
  (∀ (lv : List mm_V) (st : List mm_V), mm_E d 106 8 lv [] st n I L P = mm_E d 106 9 lv [] (.inl 0 :: st) n I L P) ∧
  (∀ (lv : List mm_V) a x0, (mm_ok n a 11) → mm_E d 106 9 lv [] (.inl x0 :: .inr (.inr (some a)) :: []) n I L P = mm_kr d 106 12 lv [] [] n (mm_rn d 98 [.inr (.inr (some a)), .inl x0] n I L P)) ∧
  (∀ (lv : List mm_V) z, mm_E d 106 12 lv [] [.inl z] n I L P = some (some (.inl z), n, I, L, P)) ∧
  (∀ (st : List mm_V) z (l0 : mm_V), mm_E d 106 13 [l0, (.inl z)] [] st n I L P = mm_E d 106 14 [l0, (.inl z)] [] ((.inl z) :: st) n I L P) ∧
  (∀ (lv : List mm_V) (st : List mm_V), mm_E d 106 14 lv [] st n I L P = mm_E d 106 15 lv [] (.inl 1 :: st) n I L P) ∧
  (∀ (lv : List mm_V) (st : List mm_V) a b, mm_E d 106 15 lv [] (.inl b :: .inl a :: st) n I L P = if a < b then mm_E d 106 24 lv [] st n I L P else mm_E d 106 18 lv [] st n I L P) ∧
  (∀ (st : List mm_V) z (l0 : mm_V), mm_E d 106 18 [l0, (.inl z)] [] st n I L P = mm_E d 106 19 [l0, (.inl z)] [] ((.inl z) :: st) n I L P) ∧
  (∀ (lv : List mm_V) (st : List mm_V), mm_E d 106 19 lv [] st n I L P = mm_E d 106 21 lv [] (.inl 50 :: st) n I L P) ∧
  (∀ (lv : List mm_V) (st : List mm_V) a b, mm_E d 106 21 lv [] (.inl b :: .inl a :: st) n I L P = if a ≤ b then mm_E d 106 30 lv [] st n I L P else mm_E d 106 24 lv [] st n I L P) ∧
  (∀ (st : List mm_V) z (l1 : mm_V), mm_E d 106 24 [(.inr (.inr z)), l1] [] st n I L P = mm_E d 106 25 [(.inr (.inr z)), l1] [] ((.inr (.inr z)) :: st) n I L P) ∧
  (∀ (lv : List mm_V) (st : List mm_V), mm_E d 106 25 lv [] st n I L P = mm_E d 106 26 lv [] (.inl 1 :: st) n I L P) ∧
  (∀ (lv : List mm_V) a x0, (mm_ok n a 11) → mm_E d 106 26 lv [] (.inl x0 :: .inr (.inr (some a)) :: []) n I L P = mm_kr d 106 29 lv [] [] n (mm_rn d 98 [.inr (.inr (some a)), .inl x0] n I L P)) ∧
  (∀ (lv : List mm_V) z, mm_E d 106 29 lv [] [.inl z] n I L P = some (some (.inl z), n, I, L, P)) ∧
  (∀ (st : List mm_V) z (l1 : mm_V), mm_E d 106 30 [(.inr (.inr z)), l1] [] st n I L P = mm_E d 106 31 [(.inr (.inr z)), l1] [] ((.inr (.inr z)) :: st) n I L P) ∧
  (∀ (lv : List mm_V) (st : List mm_V) a, (mm_ok n a 11) → mm_E d 106 31 lv [] (.inr (.inr (some a)) :: st) n I L P = mm_E d 106 34 lv [] (.inr (.inr (P a 8)) :: st) n I L P) ∧
  (∀ (lv : List mm_V) (st : List mm_V) a, (mm_ok n a 5) → mm_E d 106 34 lv [] (.inr (.inr (some a)) :: st) n I L P = mm_E d 106 37 lv [] (.inl (I a 6) :: st) n I L P) ∧
  (∀ (st : List mm_V) z (l0 : mm_V), mm_E d 106 37 [l0, (.inl z)] [] st n I L P = mm_E d 106 38 [l0, (.inl z)] [] ((.inl z) :: st) n I L P) ∧
  (∀ (lv : List mm_V) (st : List mm_V) a b, mm_E d 106 38 lv [] (.inl b :: .inl a :: st) n I L P = mm_E d 106 39 lv [] (.inl (mm_add a b) :: st) n I L P) ∧
  (∀ (lv : List mm_V) (st : List mm_V), mm_E d 106 39 lv [] st n I L P = mm_E d 106 42 lv [] (.inl 999 :: st) n I L P) ∧
  (∀ (lv : List mm_V) (st : List mm_V) a b, mm_E d 106 42 lv [] (.inl b :: .inl a :: st) n I L P = if a ≤ b then mm_E d 106 51 lv [] st n I L P else mm_E d 106 45 lv [] st n I L P) ∧
  (∀ (st : List mm_V) z (l1 : mm_V), mm_E d 106 45 [(.inr (.inr z)), l1] [] st n I L P = mm_E d 106 46 [(.inr (.inr z)), l1] [] ((.inr (.inr z)) :: st) n I L P) ∧
  (∀ (lv : List mm_V) (st : List mm_V), mm_E d 106 46 lv [] st n I L P = mm_E d 106 47 lv [] (.inl 3 :: st) n I L P) ∧
  (∀ (lv : List mm_V) a x0, (mm_ok n a 11) → mm_E d 106 47 lv [] (.inl x0 :: .inr (.inr (some a)) :: []) n I L P = mm_kr d 106 50 lv [] [] n (mm_rn d 98 [.inr (.inr (some a)), .inl x0] n I L P)) ∧
  (∀ (lv : List mm_V) z, mm_E d 106 50 lv [] [.inl z] n I L P = some (some (.inl z), n, I, L, P)) ∧
  (∀ (st : List mm_V) z (l1 : mm_V), mm_E d 106 51 [(.inr (.inr z)), l1] [] st n I L P = mm_E d 106 52 [(.inr (.inr z)), l1] [] ((.inr (.inr z)) :: st) n I L P) ∧
  (∀ (lv : List mm_V) (st : List mm_V) a, (mm_ok n a 11) → mm_E d 106 52 lv [] (.inr (.inr (some a)) :: st) n I L P = mm_E d 106 55 lv [] (.inr (.inr (P a 10)) :: st) n I L P) ∧
  (∀ (st : List mm_V) z (l1 : mm_V), mm_E d 106 55 [(.inr (.inr z)), l1] [] st n I L P = mm_E d 106 56 [(.inr (.inr z)), l1] [] ((.inr (.inr z)) :: st) n I L P) ∧
  (∀ (lv : List mm_V) (st : List mm_V) a, (mm_ok n a 11) → mm_E d 106 56 lv [] (.inr (.inr (some a)) :: st) n I L P = mm_E d 106 59 lv [] (.inr (.inr (P a 8)) :: st) n I L P) ∧
  (∀ (lv : List mm_V) a x0, (mm_ok n a 6) → mm_E d 106 59 lv [] (.inr (.inr x0) :: .inr (.inr (some a)) :: []) n I L P = mm_kv d 106 62 lv [] [] n (mm_rn d 51 [.inr (.inr (some a)), .inr (.inr x0)] n I L P)) ∧
  (∀ (st : List mm_V) z (l1 : mm_V), mm_E d 106 62 [(.inr (.inr z)), l1] [] st n I L P = mm_E d 106 63 [(.inr (.inr z)), l1] [] ((.inr (.inr z)) :: st) n I L P) ∧
  (∀ (lv : List mm_V) (st : List mm_V) a, (mm_ok n a 11) → mm_E d 106 63 lv [] (.inr (.inr (some a)) :: st) n I L P = mm_E d 106 66 lv [] (.inr (.inr (P a 8)) :: st) n I L P) ∧
  (∀ (lv : List mm_V) (st : List mm_V) a, mm_E d 106 66 lv [] ((.inr (.inr a)) :: st) n I L P = mm_E d 106 67 lv [] ((.inr (.inr a)) :: (.inr (.inr a)) :: st) n I L P) ∧
  (∀ (lv : List mm_V) (st : List mm_V) a, (mm_ok n a 5) → mm_E d 106 67 lv [] (.inr (.inr (some a)) :: st) n I L P = mm_E d 106 70 lv [] (.inl (I a 6) :: st) n I L P) ∧
  (∀ (st : List mm_V) z (l0 : mm_V), mm_E d 106 70 [l0, (.inl z)] [] st n I L P = mm_E d 106 71 [l0, (.inl z)] [] ((.inl z) :: st) n I L P) ∧
  (∀ (lv : List mm_V) (st : List mm_V) a b, mm_E d 106 71 lv [] (.inl b :: .inl a :: st) n I L P = mm_E d 106 72 lv [] (.inl (mm_add a b) :: st) n I L P) ∧
  (∀ (lv : List mm_V) (st : List mm_V) a z, (mm_ok n a 5) → mm_E d 106 72 lv [] (.inl z :: .inr (.inr (some a)) :: st) n I L P = mm_E d 106 75 lv [] st n (mm_ui I a 6 z) L P) ∧
  (∀ (st : List mm_V) z (l1 : mm_V), mm_E d 106 75 [(.inr (.inr z)), l1] [] st n I L P = mm_E d 106 76 [(.inr (.inr z)), l1] [] ((.inr (.inr z)) :: st) n I L P) ∧
  (∀ (lv : List mm_V) (st : List mm_V) a, (mm_ok n a 11) → mm_E d 106 76 lv [] (.inr (.inr (some a)) :: st) n I L P = mm_E d 106 79 lv [] (.inr (.inr (P a 8)) :: st) n I L P) ∧
  (∀ (lv : List mm_V) (st : List mm_V) a, (mm_ok n a 5) → mm_E d 106 79 lv [] (.inr (.inr (some a)) :: st) n I L P = mm_E d 106 82 lv [] (.inl (I a 6) :: st) n I L P) ∧
  (∀ (lv : List mm_V) z, mm_E d 106 82 lv [] [.inl z] n I L P = some (some (.inl z), n, I, L, P)) :=
  ⟨fun _ _ _ => mq_al (i := 0) rfl rfl,
   fun _ _ h0 => mq_cVr (na := 0) rfl rfl (Nat.le_of_ble_eq_true rfl) (Nat.le_of_ble_eq_true rfl) h0,
   fun _ _ _ => mq_if_eq rfl,
   fun _ _ _ => mq_al (i := 0) rfl rfl,
   fun _ _ => mq_push rfl,
   fun _ _ _ h0 => mq_cVr (na := 1) rfl rfl (Nat.le_of_ble_eq_true rfl) (Nat.le_of_ble_eq_true rfl) h0,
   fun _ _ => mq_ri rfl,
   fun _ _ _ => mq_il (i := 1) rfl rfl,
   fun _ _ => mq_push rfl,
   fun _ _ _ _ => mq_ic_lt rfl,
   fun _ _ _ => mq_il (i := 1) rfl rfl,
   fun _ _ => mq_push rfl,
   fun _ _ _ _ => mq_ic_le rfl,
   fun _ _ _ => mq_al (i := 0) rfl rfl,
   fun _ _ => mq_push rfl,
   fun _ _ _ h0 => mq_cVr (na := 1) rfl rfl (Nat.le_of_ble_eq_true rfl) (Nat.le_of_ble_eq_true rfl) h0,
   fun _ _ => mq_ri rfl,
   fun _ _ _ => mq_al (i := 0) rfl rfl,
   fun _ _ _ h0 => mq_getR rfl h0,
   fun _ _ _ h0 => mq_getI rfl h0,
   fun _ _ _ => mq_il (i := 1) rfl rfl,
   fun _ _ _ _ => mq_bi rfl,
   fun _ _ => mq_push rfl,
   fun _ _ _ _ => mq_ic_le rfl,
   fun _ _ _ => mq_al (i := 0) rfl rfl,
   fun _ _ => mq_push rfl,
   fun _ _ _ h0 => mq_cVr (na := 1) rfl rfl (Nat.le_of_ble_eq_true rfl) (Nat.le_of_ble_eq_true rfl) h0,
   fun _ _ => mq_ri rfl,
   fun _ _ _ => mq_al (i := 0) rfl rfl,
   fun _ _ _ h0 => mq_getR rfl h0,
   fun _ _ _ => mq_al (i := 0) rfl rfl,
   fun _ _ _ h0 => mq_getR rfl h0,
   fun _ _ _ h0 => mq_cVv (na := 1) rfl rfl (Nat.le_of_ble_eq_true rfl) (Nat.le_of_ble_eq_true rfl) h0,
   fun _ _ _ => mq_al (i := 0) rfl rfl,
   fun _ _ _ h0 => mq_getR rfl h0,
   fun _ _ _ => mq_dup rfl rfl,
   fun _ _ _ h0 => mq_getI rfl h0,
   fun _ _ _ => mq_il (i := 1) rfl rfl,
   fun _ _ _ _ => mq_bi rfl,
   fun _ _ _ _ h0 => mq_putI rfl h0,
   fun _ _ _ => mq_al (i := 0) rfl rfl,
   fun _ _ _ h0 => mq_getR rfl h0,
   fun _ _ _ h0 => mq_getI rfl h0,
   fun _ _ => mq_ri rfl⟩
theorem eX11_give (d n : Nat) (I L : mm_I) (P : mm_P) (x0 : Option Nat) (x1 : Int) : mm_rn (d + 1) 106 [.inr (.inr x0), .inl x1] n I L P = mm_E d 106 0 [.inr (.inr x0), .inl x1] [] [] n I L P := rfl

set_option maxRecDepth 20000 in
set_option maxHeartbeats 8000000 in
theorem kX11_years (d n : Nat) (I L : mm_I) (P : mm_P) :
  (∀ (ll : List (Option Int)) (st : List mm_V) z (l1 : mm_V) (l2 : mm_V) (l3 : mm_V) (l4 : mm_V) (l5 : mm_V) (l6 : mm_V), mm_E d 107 0 [(.inr (.inr z)), l1, l2, l3, l4, l5, l6] ll st n I L P = mm_E d 107 1 [(.inr (.inr z)), l1, l2, l3, l4, l5, l6] ll ((.inr (.inr z)) :: st) n I L P) ∧
  (∀ (lv : List mm_V) (ll : List (Option Int)) a, (mm_ok n a 11) → mm_E d 107 1 lv ll (.inr (.inr (some a)) :: []) n I L P = mm_kr d 107 4 lv ll [] n (mm_rn d 92 [.inr (.inr (some a))] n I L P)) ∧
  (∀ (lv : List mm_V) (ll : List (Option Int)) (st : List mm_V) a, mm_E d 107 4 lv ll (.inl a :: st) n I L P = if a = 0 then mm_E d 107 7 lv ll st n I L P else mm_E d 107 33 lv ll st n I L P) ∧
  (∀ (ll : List (Option Int)) (st : List mm_V) z (l0 : mm_V) (l2 : mm_V) (l3 : mm_V) (l4 : mm_V) (l5 : mm_V) (l6 : mm_V), mm_E d 107 7 [l0, (.inl z), l2, l3, l4, l5, l6] ll st n I L P = mm_E d 107 8 [l0, (.inl z), l2, l3, l4, l5, l6] ll ((.inl z) :: st) n I L P) ∧
  (∀ (ll : List (Option Int)) (lv : List mm_V) (st : List mm_V), mm_E d 107 8 lv ll st n I L P = mm_E d 107 9 lv ll (.inl 1 :: st) n I L P) ∧
  (∀ (lv : List mm_V) (ll : List (Option Int)) (st : List mm_V) a b, mm_E d 107 9 lv ll (.inl b :: .inl a :: st) n I L P = if a < b then mm_E d 107 33 lv ll st n I L P else mm_E d 107 12 lv ll st n I L P) ∧
  (∀ (ll : List (Option Int)) (st : List mm_V) z (l0 : mm_V) (l2 : mm_V) (l3 : mm_V) (l4 : mm_V) (l5 : mm_V) (l6 : mm_V), mm_E d 107 12 [l0, (.inl z), l2, l3, l4, l5, l6] ll st n I L P = mm_E d 107 13 [l0, (.inl z), l2, l3, l4, l5, l6] ll ((.inl z) :: st) n I L P) ∧
  (∀ (ll : List (Option Int)) (lv : List mm_V) (st : List mm_V), mm_E d 107 13 lv ll st n I L P = mm_E d 107 15 lv ll (.inl 60 :: st) n I L P) ∧
  (∀ (lv : List mm_V) (ll : List (Option Int)) (st : List mm_V) a b, mm_E d 107 15 lv ll (.inl b :: .inl a :: st) n I L P = if b < a then mm_E d 107 33 lv ll st n I L P else mm_E d 107 18 lv ll st n I L P) ∧
  (∀ (ll : List (Option Int)) (st : List mm_V) z (l1 : mm_V) (l2 : mm_V) (l3 : mm_V) (l4 : mm_V) (l5 : mm_V) (l6 : mm_V), mm_E d 107 18 [(.inr (.inr z)), l1, l2, l3, l4, l5, l6] ll st n I L P = mm_E d 107 19 [(.inr (.inr z)), l1, l2, l3, l4, l5, l6] ll ((.inr (.inr z)) :: st) n I L P) ∧
  (∀ (lv : List mm_V) (ll : List (Option Int)) (st : List mm_V) a, (mm_ok n a 11) → mm_E d 107 19 lv ll (.inr (.inr (some a)) :: st) n I L P = mm_E d 107 22 lv ll (.inr (.inr (P a 8)) :: st) n I L P) ∧
  (∀ (lv : List mm_V) (ll : List (Option Int)) (st : List mm_V) a, (mm_ok n a 5) → mm_E d 107 22 lv ll (.inr (.inr (some a)) :: st) n I L P = mm_E d 107 25 lv ll (.inl (I a 8) :: st) n I L P) ∧
  (∀ (ll : List (Option Int)) (st : List mm_V) z (l0 : mm_V) (l2 : mm_V) (l3 : mm_V) (l4 : mm_V) (l5 : mm_V) (l6 : mm_V), mm_E d 107 25 [l0, (.inl z), l2, l3, l4, l5, l6] ll st n I L P = mm_E d 107 26 [l0, (.inl z), l2, l3, l4, l5, l6] ll ((.inl z) :: st) n I L P) ∧
  (∀ (lv : List mm_V) (ll : List (Option Int)) (st : List mm_V) a b, mm_E d 107 26 lv ll (.inl b :: .inl a :: st) n I L P = mm_E d 107 27 lv ll (.inl (mm_add a b) :: st) n I L P) ∧
  (∀ (ll : List (Option Int)) (lv : List mm_V) (st : List mm_V), mm_E d 107 27 lv ll st n I L P = mm_E d 107 30 lv ll (.inl 9999 :: st) n I L P) ∧
  (∀ (lv : List mm_V) (ll : List (Option Int)) (st : List mm_V) a b, mm_E d 107 30 lv ll (.inl b :: .inl a :: st) n I L P = if a ≤ b then mm_E d 107 35 lv ll st n I L P else mm_E d 107 33 lv ll st n I L P) ∧
  (∀ (ll : List (Option Int)) (lv : List mm_V) (st : List mm_V), mm_E d 107 33 lv ll st n I L P = mm_E d 107 34 lv ll (.inl (-1) :: st) n I L P) ∧
  (∀ (lv : List mm_V) (ll : List (Option Int)) z, mm_E d 107 34 lv ll [.inl z] n I L P = some (some (.inl z), n, I, L, P)) ∧
  (∀ (lv : List mm_V) (st : List mm_V) z (g0 : Option Int) (g1 : Option Int) (g3 : Option Int) (g4 : Option Int) (g5 : Option Int) (g6 : Option Int), mm_E d 107 35 lv [g0, g1, (some z), g3, g4, g5, g6] st n I L P = mm_E d 107 36 lv [g0, g1, (some z), g3, g4, g5, g6] (.inr (.inl z) :: st) n I L P) ∧
  (∀ (st : List mm_V) z (l0 : mm_V) (l1 : mm_V) (l2 : mm_V) (l3 : mm_V) (l4 : mm_V) (l5 : mm_V) (l6 : mm_V) (g0 : Option Int) (g1 : Option Int) (g2 : Option Int) (g3 : Option Int) (g4 : Option Int) (g5 : Option Int) (g6 : Option Int), mm_E d 107 36 [l0, l1, l2, l3, l4, l5, l6] [g0, g1, g2, g3, g4, g5, g6] (.inr (.inl z) :: st) n I L P = mm_E d 107 38 [l0, l1, l2, l3, mm_junk, mm_junk, l6] [g0, g1, g2, none, (some z), none, g6] st n I L P) ∧
  (∀ (ll : List (Option Int)) (lv : List mm_V) (st : List mm_V), mm_E d 107 38 lv ll st n I L P = mm_E d 107 39 lv ll (.inl 0 :: st) n I L P) ∧
  (∀ (st : List mm_V) z (l0 : mm_V) (l1 : mm_V) (l2 : mm_V) (l3 : mm_V) (l4 : mm_V) (l5 : mm_V) (l6 : mm_V) (g0 : Option Int) (g1 : Option Int) (g2 : Option Int) (g3 : Option Int) (g4 : Option Int) (g5 : Option Int) (g6 : Option Int), mm_E d 107 39 [l0, l1, l2, l3, l4, l5, l6] [g0, g1, g2, g3, g4, g5, g6] ((.inl z) :: st) n I L P = mm_E d 107 41 [l0, l1, l2, l3, l4, l5, (.inl z)] [g0, g1, g2, g3, g4, none, none] st n I L P) ∧
  (∀ (ll : List (Option Int)) (st : List mm_V) z (l0 : mm_V) (l2 : mm_V) (l3 : mm_V) (l4 : mm_V) (l5 : mm_V) (l6 : mm_V), mm_E d 107 43 [l0, (.inl z), l2, l3, l4, l5, l6] ll st n I L P = mm_E d 107 44 [l0, (.inl z), l2, l3, l4, l5, l6] ll ((.inl z) :: st) n I L P) ∧
  (∀ (lv : List mm_V) (ll : List (Option Int)) (st : List mm_V) a b, mm_E d 107 44 lv ll (.inl b :: .inl a :: st) n I L P = if b ≤ a then mm_E d 107 84 lv ll st n I L P else mm_E d 107 47 lv ll st n I L P) ∧
  (∀ (ll : List (Option Int)) (st : List mm_V) z (l1 : mm_V) (l2 : mm_V) (l3 : mm_V) (l4 : mm_V) (l5 : mm_V) (l6 : mm_V), mm_E d 107 47 [(.inr (.inr z)), l1, l2, l3, l4, l5, l6] ll st n I L P = mm_E d 107 48 [(.inr (.inr z)), l1, l2, l3, l4, l5, l6] ll ((.inr (.inr z)) :: st) n I L P) ∧
  (∀ (lv : List mm_V) (ll : List (Option Int)) (st : List mm_V) a, (mm_ok n a 11) → mm_E d 107 48 lv ll (.inr (.inr (some a)) :: st) n I L P = mm_E d 107 51 lv ll (.inr (.inr (P a 10)) :: st) n I L P) ∧
  (∀ (ll : List (Option Int)) (st : List mm_V) z (l1 : mm_V) (l2 : mm_V) (l3 : mm_V) (l4 : mm_V) (l5 : mm_V) (l6 : mm_V), mm_E d 107 51 [(.inr (.inr z)), l1, l2, l3, l4, l5, l6] ll st n I L P = mm_E d 107 52 [(.inr (.inr z)), l1, l2, l3, l4, l5, l6] ll ((.inr (.inr z)) :: st) n I L P) ∧
  (∀ (lv : List mm_V) (ll : List (Option Int)) (st : List mm_V) a, (mm_ok n a 11) → mm_E d 107 52 lv ll (.inr (.inr (some a)) :: st) n I L P = mm_E d 107 55 lv ll (.inr (.inr (P a 8)) :: st) n I L P) ∧
  (∀ (lv : List mm_V) (ll : List (Option Int)) a x0, (mm_ok n a 6) → mm_E d 107 55 lv ll (.inr (.inr x0) :: .inr (.inr (some a)) :: []) n I L P = mm_kv d 107 58 lv ll [] n (mm_rn d 51 [.inr (.inr (some a)), .inr (.inr x0)] n I L P)) ∧
  (∀ (ll : List (Option Int)) (st : List mm_V) z (l1 : mm_V) (l2 : mm_V) (l3 : mm_V) (l4 : mm_V) (l5 : mm_V) (l6 : mm_V), mm_E d 107 58 [(.inr (.inr z)), l1, l2, l3, l4, l5, l6] ll st n I L P = mm_E d 107 59 [(.inr (.inr z)), l1, l2, l3, l4, l5, l6] ll ((.inr (.inr z)) :: st) n I L P) ∧
  (∀ (lv : List mm_V) (st : List mm_V) z (g0 : Option Int) (g1 : Option Int) (g2 : Option Int) (g3 : Option Int) (g5 : Option Int) (g6 : Option Int), mm_E d 107 59 lv [g0, g1, g2, g3, (some z), g5, g6] st n I L P = mm_E d 107 61 lv [g0, g1, g2, g3, (some z), g5, g6] (.inr (.inl z) :: st) n I L P) ∧
  (∀ (lv : List mm_V) (ll : List (Option Int)) a x0, (mm_ok n a 11) → mm_E d 107 61 lv ll (.inr (.inl x0) :: .inr (.inr (some a)) :: []) n I L P = mm_kr d 107 64 lv ll [] n (mm_rn d 110 [.inr (.inr (some a)), .inr (.inl x0)] n I L P)) ∧
  (∀ (st : List mm_V) z (l0 : mm_V) (l1 : mm_V) (l2 : mm_V) (l3 : mm_V) (l4 : mm_V) (l5 : mm_V) (l6 : mm_V) (g0 : Option Int) (g1 : Option Int) (g2 : Option Int) (g3 : Option Int) (g4 : Option Int) (g5 : Option Int) (g6 : Option Int), mm_E d 107 64 [l0, l1, l2, l3, l4, l5, l6] [g0, g1, g2, g3, g4, g5, g6] (.inr (.inl z) :: st) n I L P = mm_E d 107 66 [l0, l1, l2, l3, mm_junk, mm_junk, l6] [g0, g1, g2, none, (some z), none, g6] st n I L P) ∧
  (∀ (ll : List (Option Int)) (st : List mm_V) z (l1 : mm_V) (l2 : mm_V) (l3 : mm_V) (l4 : mm_V) (l5 : mm_V) (l6 : mm_V), mm_E d 107 66 [(.inr (.inr z)), l1, l2, l3, l4, l5, l6] ll st n I L P = mm_E d 107 67 [(.inr (.inr z)), l1, l2, l3, l4, l5, l6] ll ((.inr (.inr z)) :: st) n I L P) ∧
  (∀ (lv : List mm_V) (st : List mm_V) z (g0 : Option Int) (g1 : Option Int) (g2 : Option Int) (g3 : Option Int) (g5 : Option Int) (g6 : Option Int), mm_E d 107 67 lv [g0, g1, g2, g3, (some z), g5, g6] st n I L P = mm_E d 107 69 lv [g0, g1, g2, g3, (some z), g5, g6] (.inr (.inl z) :: st) n I L P) ∧
  (∀ (lv : List mm_V) (ll : List (Option Int)) a x0, (mm_ok n a 11) → mm_E d 107 69 lv ll (.inr (.inl x0) :: .inr (.inr (some a)) :: []) n I L P = mm_kr d 107 72 lv ll [] n (mm_rn d 111 [.inr (.inr (some a)), .inr (.inl x0)] n I L P)) ∧
  (∀ (st : List mm_V) z (l0 : mm_V) (l1 : mm_V) (l2 : mm_V) (l3 : mm_V) (l4 : mm_V) (l5 : mm_V) (l6 : mm_V) (g0 : Option Int) (g1 : Option Int) (g2 : Option Int) (g3 : Option Int) (g4 : Option Int) (g5 : Option Int) (g6 : Option Int), mm_E d 107 72 [l0, l1, l2, l3, l4, l5, l6] [g0, g1, g2, g3, g4, g5, g6] (.inr (.inl z) :: st) n I L P = mm_E d 107 74 [l0, l1, l2, l3, mm_junk, mm_junk, l6] [g0, g1, g2, none, (some z), none, g6] st n I L P) ∧
  (∀ (ll : List (Option Int)) (st : List mm_V) z (l1 : mm_V) (l2 : mm_V) (l3 : mm_V) (l4 : mm_V) (l5 : mm_V) (l6 : mm_V), mm_E d 107 74 [(.inr (.inr z)), l1, l2, l3, l4, l5, l6] ll st n I L P = mm_E d 107 75 [(.inr (.inr z)), l1, l2, l3, l4, l5, l6] ll ((.inr (.inr z)) :: st) n I L P) ∧
  (∀ (lv : List mm_V) (ll : List (Option Int)) a, (mm_ok n a 11) → mm_E d 107 75 lv ll (.inr (.inr (some a)) :: []) n I L P = mm_kv d 107 78 lv ll [] n (mm_rn d 100 [.inr (.inr (some a))] n I L P)) ∧
  (∀ (st : List mm_V) z (l0 : mm_V) (l1 : mm_V) (l2 : mm_V) (l3 : mm_V) (l4 : mm_V) (l5 : mm_V) (g0 : Option Int) (g1 : Option Int) (g2 : Option Int) (g3 : Option Int) (g4 : Option Int) (g5 : Option Int) (g6 : Option Int), mm_E d 107 78 [l0, l1, l2, l3, l4, l5, (.inl z)] [g0, g1, g2, g3, g4, g5, g6] st n I L P = mm_E d 107 81 [l0, l1, l2, l3, l4, l5, (.inl (mm_add z 1))] [g0, g1, g2, g3, g4, none, none] st n I L P) ∧
  (∀ (lv : List mm_V) (ll : List (Option Int)) (st : List mm_V), mm_E d 107 81 lv ll st n I L P = mm_E d 107 41 lv ll st n I L P) ∧
  (∀ (ll : List (Option Int)) (st : List mm_V) z (l1 : mm_V) (l2 : mm_V) (l3 : mm_V) (l4 : mm_V) (l5 : mm_V) (l6 : mm_V), mm_E d 107 84 [(.inr (.inr z)), l1, l2, l3, l4, l5, l6] ll st n I L P = mm_E d 107 85 [(.inr (.inr z)), l1, l2, l3, l4, l5, l6] ll ((.inr (.inr z)) :: st) n I L P) ∧
  (∀ (lv : List mm_V) (ll : List (Option Int)) (st : List mm_V) a, (mm_ok n a 11) → mm_E d 107 85 lv ll (.inr (.inr (some a)) :: st) n I L P = mm_E d 107 88 lv ll (.inr (.inr (P a 8)) :: st) n I L P) ∧
  (∀ (lv : List mm_V) (ll : List (Option Int)) (st : List mm_V) a, (mm_ok n a 5) → mm_E d 107 88 lv ll (.inr (.inr (some a)) :: st) n I L P = mm_E d 107 91 lv ll (.inl (I a 8) :: st) n I L P) ∧
  (∀ (lv : List mm_V) (ll : List (Option Int)) z, mm_E d 107 91 lv ll [.inl z] n I L P = some (some (.inl z), n, I, L, P)) :=
  ⟨fun _ _ _ _ _ _ _ _ _ => mq_al (i := 0) rfl rfl,
   fun _ _ _ h0 => mq_cVr (na := 0) rfl rfl (Nat.le_of_ble_eq_true rfl) (Nat.le_of_ble_eq_true rfl) h0,
   fun _ _ _ _ => mq_if_ne rfl,
   fun _ _ _ _ _ _ _ _ _ => mq_il (i := 1) rfl rfl,
   fun _ _ _ => mq_push rfl,
   fun _ _ _ _ _ => mq_ic_lt rfl,
   fun _ _ _ _ _ _ _ _ _ => mq_il (i := 1) rfl rfl,
   fun _ _ _ => mq_push rfl,
   fun _ _ _ _ _ => mq_ic_gt rfl,
   fun _ _ _ _ _ _ _ _ _ => mq_al (i := 0) rfl rfl,
   fun _ _ _ _ h0 => mq_getR rfl h0,
   fun _ _ _ _ h0 => mq_getI rfl h0,
   fun _ _ _ _ _ _ _ _ _ => mq_il (i := 1) rfl rfl,
   fun _ _ _ _ _ => mq_bi rfl,
   fun _ _ _ => mq_push rfl,
   fun _ _ _ _ _ => mq_ic_le rfl,
   fun _ _ _ => mq_push rfl,
   fun _ _ _ => mq_ri rfl,
   fun _ _ _ _ _ _ _ _ _ => mq_ll (i := 2) rfl rfl,
   fun _ _ _ _ _ _ _ _ _ _ _ _ _ _ _ _ => mq_ls (i := 4) rfl rfl rfl,
   fun _ _ _ => mq_push rfl,
   fun _ _ _ _ _ _ _ _ _ _ _ _ _ _ _ _ => mq_is (i := 6) rfl rfl rfl,
   fun _ _ _ _ _ _ _ _ _ => mq_il (i := 1) rfl rfl,
   fun _ _ _ _ _ => mq_ic_ge rfl,
   fun _ _ _ _ _ _ _ _ _ => mq_al (i := 0) rfl rfl,
   fun _ _ _ _ h0 => mq_getR rfl h0,
   fun _ _ _ _ _ _ _ _ _ => mq_al (i := 0) rfl rfl,
   fun _ _ _ _ h0 => mq_getR rfl h0,
   fun _ _ _ _ h0 => mq_cVv (na := 1) rfl rfl (Nat.le_of_ble_eq_true rfl) (Nat.le_of_ble_eq_true rfl) h0,
   fun _ _ _ _ _ _ _ _ _ => mq_al (i := 0) rfl rfl,
   fun _ _ _ _ _ _ _ _ _ => mq_ll (i := 4) rfl rfl,
   fun _ _ _ _ h0 => mq_cVr (na := 1) rfl rfl (Nat.le_of_ble_eq_true rfl) (Nat.le_of_ble_eq_true rfl) h0,
   fun _ _ _ _ _ _ _ _ _ _ _ _ _ _ _ _ => mq_ls (i := 4) rfl rfl rfl,
   fun _ _ _ _ _ _ _ _ _ => mq_al (i := 0) rfl rfl,
   fun _ _ _ _ _ _ _ _ _ => mq_ll (i := 4) rfl rfl,
   fun _ _ _ _ h0 => mq_cVr (na := 1) rfl rfl (Nat.le_of_ble_eq_true rfl) (Nat.le_of_ble_eq_true rfl) h0,
   fun _ _ _ _ _ _ _ _ _ _ _ _ _ _ _ _ => mq_ls (i := 4) rfl rfl rfl,
   fun _ _ _ _ _ _ _ _ _ => mq_al (i := 0) rfl rfl,
   fun _ _ _ h0 => mq_cVv (na := 0) rfl rfl (Nat.le_of_ble_eq_true rfl) (Nat.le_of_ble_eq_true rfl) h0,
   fun _ _ _ _ _ _ _ _ _ _ _ _ _ _ _ => mq_iinc (i := 6) rfl rfl rfl rfl,
   fun _ _ _ => mq_go rfl,
   fun _ _ _ _ _ _ _ _ _ => mq_al (i := 0) rfl rfl,
   fun _ _ _ _ h0 => mq_getR rfl h0,
   fun _ _ _ _ h0 => mq_getI rfl h0,
   fun _ _ _ => mq_ri rfl⟩
theorem hX11_years_41 (d n : Nat) (I L : mm_I) (P : mm_P) : ∀ (ll : List (Option Int)) (st : List mm_V) z (l0 : mm_V) (l1 : mm_V) (l2 : mm_V) (l3 : mm_V) (l4 : mm_V) (l5 : mm_V), mm_E d 107 41 [l0, l1, l2, l3, l4, l5, (.inl z)] ll st n I L P = mm_E d 107 43 [l0, l1, l2, l3, l4, l5, (.inl z)] ll ((.inl z) :: st) n I L P := fun _ _ _ _ _ _ _ _ _ => mq_il (i := 6) rfl rfl
theorem eX11_years (d n : Nat) (I L : mm_I) (P : mm_P) (x0 : Option Nat) (x1 : Int) (x2 : Int) : mm_rn (d + 1) 107 [.inr (.inr x0), .inl x1, .inr (.inl x2)] n I L P = mm_E d 107 0 [.inr (.inr x0), .inl x1, mm_junk, mm_junk, mm_junk, mm_junk, mm_junk] [none, none, some x2, none, none, none, none] [] n I L P := rfl

set_option maxRecDepth 20000 in
set_option maxHeartbeats 8000000 in
theorem kX11_nextDraw (d n : Nat) (I L : mm_I) (P : mm_P) :
  (∀ (lv : List mm_V) (st : List mm_V) z (g1 : Option Int), mm_E d 108 0 lv [(some z), g1] st n I L P = mm_E d 108 1 lv [(some z), g1] (.inr (.inl z) :: st) n I L P) ∧
  (∀ (ll : List (Option Int)) (lv : List mm_V) (st : List mm_V), mm_E d 108 1 lv ll st n I L P = mm_E d 108 4 lv ll (.inr (.inl 6364136223846793005) :: st) n I L P) ∧
  (∀ (lv : List mm_V) (ll : List (Option Int)) (st : List mm_V) a b, mm_E d 108 4 lv ll (.inr (.inl b) :: .inr (.inl a) :: st) n I L P = mm_E d 108 5 lv ll (.inr (.inl (mm_lmull a b)) :: st) n I L P) ∧
  (∀ (ll : List (Option Int)) (lv : List mm_V) (st : List mm_V), mm_E d 108 5 lv ll st n I L P = mm_E d 108 8 lv ll (.inr (.inl 1442695040888963407) :: st) n I L P) ∧
  (∀ (lv : List mm_V) (ll : List (Option Int)) (st : List mm_V) a b, mm_E d 108 8 lv ll (.inr (.inl b) :: .inr (.inl a) :: st) n I L P = mm_E d 108 9 lv ll (.inr (.inl (mm_laddl a b)) :: st) n I L P) ∧
  (∀ (lv : List mm_V) (ll : List (Option Int)) z, mm_E d 108 9 lv ll [.inr (.inl z)] n I L P = some (some (.inr (.inl z)), n, I, L, P)) :=
  ⟨fun _ _ _ _ => mq_ll (i := 0) rfl rfl,
   fun _ _ _ => mq_push rfl,
   fun _ _ _ _ _ => mq_bl rfl,
   fun _ _ _ => mq_push rfl,
   fun _ _ _ _ _ => mq_bl rfl,
   fun _ _ _ => mq_rl rfl⟩
theorem eX11_nextDraw (d n : Nat) (I L : mm_I) (P : mm_P) (x0 : Int) : mm_rn (d + 1) 108 [.inr (.inl x0)] n I L P = mm_E d 108 0 [mm_junk, mm_junk] [some x0, none] [] n I L P := rfl

set_option maxRecDepth 20000 in
set_option maxHeartbeats 8000000 in
theorem kX11_drawn (d n : Nat) (I L : mm_I) (P : mm_P) :
  (∀ (ll : List (Option Int)) (st : List mm_V) z (l0 : mm_V) (l1 : mm_V), mm_E d 109 0 [l0, l1, (.inl z)] ll st n I L P = mm_E d 109 1 [l0, l1, (.inl z)] ll ((.inl z) :: st) n I L P) ∧
  (∀ (lv : List mm_V) (ll : List (Option Int)) (st : List mm_V) a, mm_E d 109 1 lv ll (.inl a :: st) n I L P = if a ≤ 0 then mm_E d 109 15 lv ll st n I L P else mm_E d 109 4 lv ll st n I L P) ∧
  (∀ (lv : List mm_V) (st : List mm_V) z (g1 : Option Int) (g2 : Option Int), mm_E d 109 4 lv [(some z), g1, g2] st n I L P = mm_E d 109 5 lv [(some z), g1, g2] (.inr (.inl z) :: st) n I L P) ∧
  (∀ (ll : List (Option Int)) (lv : List mm_V) (st : List mm_V), mm_E d 109 5 lv ll st n I L P = mm_E d 109 7 lv ll (.inl 33 :: st) n I L P) ∧
  (∀ (lv : List mm_V) (ll : List (Option Int)) (st : List mm_V) a b, mm_E d 109 7 lv ll (.inl b :: .inr (.inl a) :: st) n I L P = mm_E d 109 8 lv ll (.inr (.inl (mm_lushr a b)) :: st) n I L P) ∧
  (∀ (ll : List (Option Int)) (st : List mm_V) z (l0 : mm_V) (l1 : mm_V), mm_E d 109 8 [l0, l1, (.inl z)] ll st n I L P = mm_E d 109 9 [l0, l1, (.inl z)] ll ((.inl z) :: st) n I L P) ∧
  (∀ (lv : List mm_V) (ll : List (Option Int)) (st : List mm_V) a, mm_E d 109 9 lv ll (.inl a :: st) n I L P = mm_E d 109 10 lv ll (.inr (.inl a) :: st) n I L P) ∧
  (∀ (lv : List mm_V) (ll : List (Option Int)) (st : List mm_V) a b, (¬ b = 0) → mm_E d 109 10 lv ll (.inr (.inl b) :: .inr (.inl a) :: st) n I L P = mm_E d 109 11 lv ll (.inr (.inl (mm_wl (Int.tmod a b))) :: st) n I L P) ∧
  (∀ (lv : List mm_V) (ll : List (Option Int)) (st : List mm_V) a, mm_E d 109 11 lv ll (.inr (.inl a) :: st) n I L P = mm_E d 109 12 lv ll (.inl (mm_w a) :: st) n I L P) ∧
  (∀ (lv : List mm_V) (ll : List (Option Int)) (st : List mm_V), mm_E d 109 12 lv ll st n I L P = mm_E d 109 16 lv ll st n I L P) ∧
  (∀ (ll : List (Option Int)) (lv : List mm_V) (st : List mm_V), mm_E d 109 15 lv ll st n I L P = mm_E d 109 16 lv ll (.inl 0 :: st) n I L P) ∧
  (∀ (lv : List mm_V) (ll : List (Option Int)) z, mm_E d 109 16 lv ll [.inl z] n I L P = some (some (.inl z), n, I, L, P)) :=
  ⟨fun _ _ _ _ _ => mq_il (i := 2) rfl rfl,
   fun _ _ _ _ => mq_if_le rfl,
   fun _ _ _ _ _ => mq_ll (i := 0) rfl rfl,
   fun _ _ _ => mq_push rfl,
   fun _ _ _ _ _ => mq_sl rfl,
   fun _ _ _ _ _ => mq_il (i := 2) rfl rfl,
   fun _ _ _ _ => mq_i2l rfl,
   fun _ _ _ _ _ h0 => mq_dl rfl h0,
   fun _ _ _ _ => mq_l2i rfl,
   fun _ _ _ => mq_go rfl,
   fun _ _ _ => mq_push rfl,
   fun _ _ _ => mq_ri rfl⟩
theorem eX11_drawn (d n : Nat) (I L : mm_I) (P : mm_P) (x0 : Int) (x1 : Int) : mm_rn (d + 1) 109 [.inr (.inl x0), .inl x1] n I L P = mm_E d 109 0 [mm_junk, mm_junk, .inl x1] [some x0, none, none] [] n I L P := rfl

set_option maxRecDepth 20000 in
set_option maxHeartbeats 8000000 in
theorem kX11_drawTrouble (d n : Nat) (I L : mm_I) (P : mm_P) :
  (∀ (lv : List mm_V) (st : List mm_V) z (g0 : Option Int) (g2 : Option Int) (g3 : Option Int) (g4 : Option Int) (g5 : Option Int) (g6 : Option Int), mm_E d 110 0 lv [g0, (some z), g2, g3, g4, g5, g6] st n I L P = mm_E d 110 1 lv [g0, (some z), g2, g3, g4, g5, g6] (.inr (.inl z) :: st) n I L P) ∧
  (∀ (lv : List mm_V) (ll : List (Option Int)) x0, mm_E d 110 1 lv ll (.inr (.inl x0) :: []) n I L P = mm_kr d 110 4 lv ll [] n (mm_rn d 108 [.inr (.inl x0)] n I L P)) ∧
  (∀ (st : List mm_V) z (l0 : mm_V) (l1 : mm_V) (l2 : mm_V) (l3 : mm_V) (l4 : mm_V) (l5 : mm_V) (l6 : mm_V) (g0 : Option Int) (g1 : Option Int) (g2 : Option Int) (g3 : Option Int) (g4 : Option Int) (g5 : Option Int) (g6 : Option Int), mm_E d 110 4 [l0, l1, l2, l3, l4, l5, l6] [g0, g1, g2, g3, g4, g5, g6] (.inr (.inl z) :: st) n I L P = mm_E d 110 5 [l0, l1, l2, mm_junk, mm_junk, l5, l6] [g0, g1, none, (some z), none, g5, g6] st n I L P) ∧
  (∀ (lv : List mm_V) (st : List mm_V) z (g0 : Option Int) (g1 : Option Int) (g2 : Option Int) (g4 : Option Int) (g5 : Option Int) (g6 : Option Int), mm_E d 110 5 lv [g0, g1, g2, (some z), g4, g5, g6] st n I L P = mm_E d 110 6 lv [g0, g1, g2, (some z), g4, g5, g6] (.inr (.inl z) :: st) n I L P) ∧
  (∀ (ll : List (Option Int)) (lv : List mm_V) (st : List mm_V), mm_E d 110 6 lv ll st n I L P = mm_E d 110 8 lv ll (.inl 10 :: st) n I L P) ∧
  (∀ (lv : List mm_V) (ll : List (Option Int)) x0 x1, mm_E d 110 8 lv ll (.inl x1 :: .inr (.inl x0) :: []) n I L P = mm_kr d 110 11 lv ll [] n (mm_rn d 109 [.inr (.inl x0), .inl x1] n I L P)) ∧
  (∀ (ll : List (Option Int)) (st : List mm_V) z (l1 : mm_V) (l2 : mm_V) (l3 : mm_V) (l4 : mm_V) (l5 : mm_V) (l6 : mm_V), mm_E d 110 11 [(.inr (.inr z)), l1, l2, l3, l4, l5, l6] ll st n I L P = mm_E d 110 12 [(.inr (.inr z)), l1, l2, l3, l4, l5, l6] ll ((.inr (.inr z)) :: st) n I L P) ∧
  (∀ (lv : List mm_V) (ll : List (Option Int)) (st : List mm_V) a, (mm_ok n a 11) → mm_E d 110 12 lv ll (.inr (.inr (some a)) :: st) n I L P = mm_E d 110 15 lv ll (.inl (I a 7) :: st) n I L P) ∧
  (∀ (lv : List mm_V) (ll : List (Option Int)) (st : List mm_V) a b, mm_E d 110 15 lv ll (.inl b :: .inl a :: st) n I L P = if a < b then mm_E d 110 20 lv ll st n I L P else mm_E d 110 18 lv ll st n I L P) ∧
  (∀ (lv : List mm_V) (st : List mm_V) z (g0 : Option Int) (g1 : Option Int) (g2 : Option Int) (g4 : Option Int) (g5 : Option Int) (g6 : Option Int), mm_E d 110 18 lv [g0, g1, g2, (some z), g4, g5, g6] st n I L P = mm_E d 110 19 lv [g0, g1, g2, (some z), g4, g5, g6] (.inr (.inl z) :: st) n I L P) ∧
  (∀ (lv : List mm_V) (ll : List (Option Int)) z, mm_E d 110 19 lv ll [.inr (.inl z)] n I L P = some (some (.inr (.inl z)), n, I, L, P)) ∧
  (∀ (lv : List mm_V) (st : List mm_V) z (g0 : Option Int) (g1 : Option Int) (g2 : Option Int) (g4 : Option Int) (g5 : Option Int) (g6 : Option Int), mm_E d 110 20 lv [g0, g1, g2, (some z), g4, g5, g6] st n I L P = mm_E d 110 21 lv [g0, g1, g2, (some z), g4, g5, g6] (.inr (.inl z) :: st) n I L P) ∧
  (∀ (lv : List mm_V) (ll : List (Option Int)) x0, mm_E d 110 21 lv ll (.inr (.inl x0) :: []) n I L P = mm_kr d 110 24 lv ll [] n (mm_rn d 108 [.inr (.inl x0)] n I L P)) ∧
  (∀ (st : List mm_V) z (l0 : mm_V) (l1 : mm_V) (l2 : mm_V) (l3 : mm_V) (l4 : mm_V) (l5 : mm_V) (l6 : mm_V) (g0 : Option Int) (g1 : Option Int) (g2 : Option Int) (g3 : Option Int) (g4 : Option Int) (g5 : Option Int) (g6 : Option Int), mm_E d 110 24 [l0, l1, l2, l3, l4, l5, l6] [g0, g1, g2, g3, g4, g5, g6] (.inr (.inl z) :: st) n I L P = mm_E d 110 25 [l0, l1, l2, mm_junk, mm_junk, l5, l6] [g0, g1, none, (some z), none, g5, g6] st n I L P) ∧
  (∀ (lv : List mm_V) (st : List mm_V) z (g0 : Option Int) (g1 : Option Int) (g2 : Option Int) (g4 : Option Int) (g5 : Option Int) (g6 : Option Int), mm_E d 110 25 lv [g0, g1, g2, (some z), g4, g5, g6] st n I L P = mm_E d 110 26 lv [g0, g1, g2, (some z), g4, g5, g6] (.inr (.inl z) :: st) n I L P) ∧
  (∀ (ll : List (Option Int)) (st : List mm_V) z (l1 : mm_V) (l2 : mm_V) (l3 : mm_V) (l4 : mm_V) (l5 : mm_V) (l6 : mm_V), mm_E d 110 26 [(.inr (.inr z)), l1, l2, l3, l4, l5, l6] ll st n I L P = mm_E d 110 27 [(.inr (.inr z)), l1, l2, l3, l4, l5, l6] ll ((.inr (.inr z)) :: st) n I L P) ∧
  (∀ (lv : List mm_V) (ll : List (Option Int)) (st : List mm_V) a, (mm_ok n a 11) → mm_E d 110 27 lv ll (.inr (.inr (some a)) :: st) n I L P = mm_E d 110 30 lv ll (.inr (.inr (P a 2)) :: st) n I L P) ∧
  (∀ (lv : List mm_V) (ll : List (Option Int)) (st : List mm_V) a, (mm_ok n a 9) → mm_E d 110 30 lv ll (.inr (.inr (some a)) :: st) n I L P = mm_E d 110 33 lv ll (.inl (I a 0) :: st) n I L P) ∧
  (∀ (lv : List mm_V) (ll : List (Option Int)) x0 x1, mm_E d 110 33 lv ll (.inl x1 :: .inr (.inl x0) :: []) n I L P = mm_kr d 110 36 lv ll [] n (mm_rn d 109 [.inr (.inl x0), .inl x1] n I L P)) ∧
  (∀ (st : List mm_V) z (l0 : mm_V) (l1 : mm_V) (l2 : mm_V) (l3 : mm_V) (l4 : mm_V) (l5 : mm_V) (l6 : mm_V) (g0 : Option Int) (g1 : Option Int) (g2 : Option Int) (g3 : Option Int) (g4 : Option Int) (g5 : Option Int) (g6 : Option Int), mm_E d 110 36 [l0, l1, l2, l3, l4, l5, l6] [g0, g1, g2, g3, g4, g5, g6] ((.inl z) :: st) n I L P = mm_E d 110 38 [l0, l1, l2, l3, l4, (.inl z), l6] [g0, g1, g2, g3, none, none, g6] st n I L P) ∧
  (∀ (lv : List mm_V) (st : List mm_V) z (g0 : Option Int) (g1 : Option Int) (g2 : Option Int) (g4 : Option Int) (g5 : Option Int) (g6 : Option Int), mm_E d 110 38 lv [g0, g1, g2, (some z), g4, g5, g6] st n I L P = mm_E d 110 39 lv [g0, g1, g2, (some z), g4, g5, g6] (.inr (.inl z) :: st) n I L P) ∧
  (∀ (lv : List mm_V) (ll : List (Option Int)) x0, mm_E d 110 39 lv ll (.inr (.inl x0) :: []) n I L P = mm_kr d 110 42 lv ll [] n (mm_rn d 108 [.inr (.inl x0)] n I L P)) ∧
  (∀ (st : List mm_V) z (l0 : mm_V) (l1 : mm_V) (l2 : mm_V) (l3 : mm_V) (l4 : mm_V) (l5 : mm_V) (l6 : mm_V) (g0 : Option Int) (g1 : Option Int) (g2 : Option Int) (g3 : Option Int) (g4 : Option Int) (g5 : Option Int) (g6 : Option Int), mm_E d 110 42 [l0, l1, l2, l3, l4, l5, l6] [g0, g1, g2, g3, g4, g5, g6] (.inr (.inl z) :: st) n I L P = mm_E d 110 43 [l0, l1, l2, mm_junk, mm_junk, l5, l6] [g0, g1, none, (some z), none, g5, g6] st n I L P) ∧
  (∀ (lv : List mm_V) (st : List mm_V) z (g0 : Option Int) (g1 : Option Int) (g2 : Option Int) (g4 : Option Int) (g5 : Option Int) (g6 : Option Int), mm_E d 110 43 lv [g0, g1, g2, (some z), g4, g5, g6] st n I L P = mm_E d 110 44 lv [g0, g1, g2, (some z), g4, g5, g6] (.inr (.inl z) :: st) n I L P) ∧
  (∀ (ll : List (Option Int)) (lv : List mm_V) (st : List mm_V), mm_E d 110 44 lv ll st n I L P = mm_E d 110 45 lv ll (.inl 3 :: st) n I L P) ∧
  (∀ (lv : List mm_V) (ll : List (Option Int)) x0 x1, mm_E d 110 45 lv ll (.inl x1 :: .inr (.inl x0) :: []) n I L P = mm_kr d 110 48 lv ll [] n (mm_rn d 109 [.inr (.inl x0), .inl x1] n I L P)) ∧
  (∀ (st : List mm_V) z (l0 : mm_V) (l1 : mm_V) (l2 : mm_V) (l3 : mm_V) (l4 : mm_V) (l5 : mm_V) (l6 : mm_V) (g0 : Option Int) (g1 : Option Int) (g2 : Option Int) (g3 : Option Int) (g4 : Option Int) (g5 : Option Int) (g6 : Option Int), mm_E d 110 48 [l0, l1, l2, l3, l4, l5, l6] [g0, g1, g2, g3, g4, g5, g6] ((.inl z) :: st) n I L P = mm_E d 110 50 [l0, l1, l2, l3, l4, l5, (.inl z)] [g0, g1, g2, g3, g4, none, none] st n I L P) ∧
  (∀ (lv : List mm_V) (st : List mm_V) z (g0 : Option Int) (g1 : Option Int) (g2 : Option Int) (g4 : Option Int) (g5 : Option Int) (g6 : Option Int), mm_E d 110 50 lv [g0, g1, g2, (some z), g4, g5, g6] st n I L P = mm_E d 110 51 lv [g0, g1, g2, (some z), g4, g5, g6] (.inr (.inl z) :: st) n I L P) ∧
  (∀ (lv : List mm_V) (ll : List (Option Int)) x0, mm_E d 110 51 lv ll (.inr (.inl x0) :: []) n I L P = mm_kr d 110 54 lv ll [] n (mm_rn d 108 [.inr (.inl x0)] n I L P)) ∧
  (∀ (st : List mm_V) z (l0 : mm_V) (l1 : mm_V) (l2 : mm_V) (l3 : mm_V) (l4 : mm_V) (l5 : mm_V) (l6 : mm_V) (g0 : Option Int) (g1 : Option Int) (g2 : Option Int) (g3 : Option Int) (g4 : Option Int) (g5 : Option Int) (g6 : Option Int), mm_E d 110 54 [l0, l1, l2, l3, l4, l5, l6] [g0, g1, g2, g3, g4, g5, g6] (.inr (.inl z) :: st) n I L P = mm_E d 110 55 [l0, l1, l2, mm_junk, mm_junk, l5, l6] [g0, g1, none, (some z), none, g5, g6] st n I L P) ∧
  (∀ (ll : List (Option Int)) (st : List mm_V) z (l1 : mm_V) (l2 : mm_V) (l3 : mm_V) (l4 : mm_V) (l5 : mm_V) (l6 : mm_V), mm_E d 110 55 [(.inr (.inr z)), l1, l2, l3, l4, l5, l6] ll st n I L P = mm_E d 110 56 [(.inr (.inr z)), l1, l2, l3, l4, l5, l6] ll ((.inr (.inr z)) :: st) n I L P) ∧
  (∀ (lv : List mm_V) (ll : List (Option Int)) (st : List mm_V) a, (mm_ok n a 11) → mm_E d 110 56 lv ll (.inr (.inr (some a)) :: st) n I L P = mm_E d 110 59 lv ll (.inr (.inr (P a 8)) :: st) n I L P) ∧
  (∀ (ll : List (Option Int)) (st : List mm_V) z (l0 : mm_V) (l1 : mm_V) (l2 : mm_V) (l3 : mm_V) (l4 : mm_V) (l6 : mm_V), mm_E d 110 59 [l0, l1, l2, l3, l4, (.inl z), l6] ll st n I L P = mm_E d 110 61 [l0, l1, l2, l3, l4, (.inl z), l6] ll ((.inl z) :: st) n I L P) ∧
  (∀ (ll : List (Option Int)) (st : List mm_V) z (l0 : mm_V) (l1 : mm_V) (l2 : mm_V) (l3 : mm_V) (l4 : mm_V) (l5 : mm_V), mm_E d 110 61 [l0, l1, l2, l3, l4, l5, (.inl z)] ll st n I L P = mm_E d 110 63 [l0, l1, l2, l3, l4, l5, (.inl z)] ll ((.inl z) :: st) n I L P) ∧
  (∀ (lv : List mm_V) (st : List mm_V) z (g0 : Option Int) (g1 : Option Int) (g2 : Option Int) (g4 : Option Int) (g5 : Option Int) (g6 : Option Int), mm_E d 110 63 lv [g0, g1, g2, (some z), g4, g5, g6] st n I L P = mm_E d 110 64 lv [g0, g1, g2, (some z), g4, g5, g6] (.inr (.inl z) :: st) n I L P) ∧
  (∀ (ll : List (Option Int)) (lv : List mm_V) (st : List mm_V), mm_E d 110 64 lv ll st n I L P = mm_E d 110 65 lv ll (.inl 3 :: st) n I L P) ∧
  (∀ (lv : List mm_V) (ll : List (Option Int)) x0 x1 w0 w1 w2, mm_E d 110 65 lv ll (.inl x1 :: .inr (.inl x0) :: [.inl w0, .inl w1, .inr (.inr w2)]) n I L P = mm_kr d 110 68 lv ll [.inl w0, .inl w1, .inr (.inr w2)] n (mm_rn d 109 [.inr (.inl x0), .inl x1] n I L P)) ∧
  (∀ (ll : List (Option Int)) (lv : List mm_V) (st : List mm_V), mm_E d 110 68 lv ll st n I L P = mm_E d 110 69 lv ll (.inl 1 :: st) n I L P) ∧
  (∀ (lv : List mm_V) (ll : List (Option Int)) (st : List mm_V) a b, mm_E d 110 69 lv ll (.inl b :: .inl a :: st) n I L P = mm_E d 110 70 lv ll (.inl (mm_add a b) :: st) n I L P) ∧
  (∀ (lv : List mm_V) (ll : List (Option Int)) a x0 x1 x2, (mm_ok n a 5) → mm_E d 110 70 lv ll (.inl x2 :: .inl x1 :: .inl x0 :: .inr (.inr (some a)) :: []) n I L P = mm_kv d 110 73 lv ll [] n (mm_rn d 45 [.inr (.inr (some a)), .inl x0, .inl x1, .inl x2] n I L P)) ∧
  (∀ (lv : List mm_V) (st : List mm_V) z (g0 : Option Int) (g1 : Option Int) (g2 : Option Int) (g4 : Option Int) (g5 : Option Int) (g6 : Option Int), mm_E d 110 73 lv [g0, g1, g2, (some z), g4, g5, g6] st n I L P = mm_E d 110 74 lv [g0, g1, g2, (some z), g4, g5, g6] (.inr (.inl z) :: st) n I L P) ∧
  (∀ (lv : List mm_V) (ll : List (Option Int)) z, mm_E d 110 74 lv ll [.inr (.inl z)] n I L P = some (some (.inr (.inl z)), n, I, L, P)) :=
  ⟨fun _ _ _ _ _ _ _ _ _ => mq_ll (i := 1) rfl rfl,
   fun _ _ _ => mq_cSr (na := 1) rfl (Nat.le_of_ble_eq_true rfl) (Nat.le_of_ble_eq_true rfl),
   fun _ _ _ _ _ _ _ _ _ _ _ _ _ _ _ _ => mq_ls (i := 3) rfl rfl rfl,
   fun _ _ _ _ _ _ _ _ _ => mq_ll (i := 3) rfl rfl,
   fun _ _ _ => mq_push rfl,
   fun _ _ _ _ => mq_cSr (na := 2) rfl (Nat.le_of_ble_eq_true rfl) (Nat.le_of_ble_eq_true rfl),
   fun _ _ _ _ _ _ _ _ _ => mq_al (i := 0) rfl rfl,
   fun _ _ _ _ h0 => mq_getI rfl h0,
   fun _ _ _ _ _ => mq_ic_lt rfl,
   fun _ _ _ _ _ _ _ _ _ => mq_ll (i := 3) rfl rfl,
   fun _ _ _ => mq_rl rfl,
   fun _ _ _ _ _ _ _ _ _ => mq_ll (i := 3) rfl rfl,
   fun _ _ _ => mq_cSr (na := 1) rfl (Nat.le_of_ble_eq_true rfl) (Nat.le_of_ble_eq_true rfl),
   fun _ _ _ _ _ _ _ _ _ _ _ _ _ _ _ _ => mq_ls (i := 3) rfl rfl rfl,
   fun _ _ _ _ _ _ _ _ _ => mq_ll (i := 3) rfl rfl,
   fun _ _ _ _ _ _ _ _ _ => mq_al (i := 0) rfl rfl,
   fun _ _ _ _ h0 => mq_getR rfl h0,
   fun _ _ _ _ h0 => mq_getI rfl h0,
   fun _ _ _ _ => mq_cSr (na := 2) rfl (Nat.le_of_ble_eq_true rfl) (Nat.le_of_ble_eq_true rfl),
   fun _ _ _ _ _ _ _ _ _ _ _ _ _ _ _ _ => mq_is (i := 5) rfl rfl rfl,
   fun _ _ _ _ _ _ _ _ _ => mq_ll (i := 3) rfl rfl,
   fun _ _ _ => mq_cSr (na := 1) rfl (Nat.le_of_ble_eq_true rfl) (Nat.le_of_ble_eq_true rfl),
   fun _ _ _ _ _ _ _ _ _ _ _ _ _ _ _ _ => mq_ls (i := 3) rfl rfl rfl,
   fun _ _ _ _ _ _ _ _ _ => mq_ll (i := 3) rfl rfl,
   fun _ _ _ => mq_push rfl,
   fun _ _ _ _ => mq_cSr (na := 2) rfl (Nat.le_of_ble_eq_true rfl) (Nat.le_of_ble_eq_true rfl),
   fun _ _ _ _ _ _ _ _ _ _ _ _ _ _ _ _ => mq_is (i := 6) rfl rfl rfl,
   fun _ _ _ _ _ _ _ _ _ => mq_ll (i := 3) rfl rfl,
   fun _ _ _ => mq_cSr (na := 1) rfl (Nat.le_of_ble_eq_true rfl) (Nat.le_of_ble_eq_true rfl),
   fun _ _ _ _ _ _ _ _ _ _ _ _ _ _ _ _ => mq_ls (i := 3) rfl rfl rfl,
   fun _ _ _ _ _ _ _ _ _ => mq_al (i := 0) rfl rfl,
   fun _ _ _ _ h0 => mq_getR rfl h0,
   fun _ _ _ _ _ _ _ _ _ => mq_il (i := 5) rfl rfl,
   fun _ _ _ _ _ _ _ _ _ => mq_il (i := 6) rfl rfl,
   fun _ _ _ _ _ _ _ _ _ => mq_ll (i := 3) rfl rfl,
   fun _ _ _ => mq_push rfl,
   fun _ _ _ _ _ _ _ => mq_cSr (na := 2) rfl (Nat.le_of_ble_eq_true rfl) (Nat.le_of_ble_eq_true rfl),
   fun _ _ _ => mq_push rfl,
   fun _ _ _ _ _ => mq_bi rfl,
   fun _ _ _ _ _ _ h0 => mq_cVv (na := 3) rfl rfl (Nat.le_of_ble_eq_true rfl) (Nat.le_of_ble_eq_true rfl) h0,
   fun _ _ _ _ _ _ _ _ _ => mq_ll (i := 3) rfl rfl,
   fun _ _ _ => mq_rl rfl⟩
theorem eX11_drawTrouble (d n : Nat) (I L : mm_I) (P : mm_P) (x0 : Option Nat) (x1 : Int) : mm_rn (d + 1) 110 [.inr (.inr x0), .inr (.inl x1)] n I L P = mm_E d 110 0 [.inr (.inr x0), mm_junk, mm_junk, mm_junk, mm_junk, mm_junk, mm_junk] [none, some x1, none, none, none, none, none] [] n I L P := rfl

set_option maxRecDepth 20000 in
set_option maxHeartbeats 8000000 in
theorem kX11_drawWalk (d n : Nat) (I L : mm_I) (P : mm_P) :
  (∀ (lv : List mm_V) (st : List mm_V) z (g0 : Option Int) (g2 : Option Int) (g3 : Option Int) (g4 : Option Int) (g5 : Option Int), mm_E d 111 0 lv [g0, (some z), g2, g3, g4, g5] st n I L P = mm_E d 111 1 lv [g0, (some z), g2, g3, g4, g5] (.inr (.inl z) :: st) n I L P) ∧
  (∀ (lv : List mm_V) (ll : List (Option Int)) x0, mm_E d 111 1 lv ll (.inr (.inl x0) :: []) n I L P = mm_kr d 111 4 lv ll [] n (mm_rn d 108 [.inr (.inl x0)] n I L P)) ∧
  (∀ (st : List mm_V) z (l0 : mm_V) (l1 : mm_V) (l2 : mm_V) (l3 : mm_V) (l4 : mm_V) (l5 : mm_V) (g0 : Option Int) (g1 : Option Int) (g2 : Option Int) (g3 : Option Int) (g4 : Option Int) (g5 : Option Int), mm_E d 111 4 [l0, l1, l2, l3, l4, l5] [g0, g1, g2, g3, g4, g5] (.inr (.inl z) :: st) n I L P = mm_E d 111 5 [l0, l1, l2, mm_junk, mm_junk, l5] [g0, g1, none, (some z), none, g5] st n I L P) ∧
  (∀ (lv : List mm_V) (st : List mm_V) z (g0 : Option Int) (g1 : Option Int) (g2 : Option Int) (g4 : Option Int) (g5 : Option Int), mm_E d 111 5 lv [g0, g1, g2, (some z), g4, g5] st n I L P = mm_E d 111 6 lv [g0, g1, g2, (some z), g4, g5] (.inr (.inl z) :: st) n I L P) ∧
  (∀ (ll : List (Option Int)) (st : List mm_V) z (l1 : mm_V) (l2 : mm_V) (l3 : mm_V) (l4 : mm_V) (l5 : mm_V), mm_E d 111 6 [(.inr (.inr z)), l1, l2, l3, l4, l5] ll st n I L P = mm_E d 111 7 [(.inr (.inr z)), l1, l2, l3, l4, l5] ll ((.inr (.inr z)) :: st) n I L P) ∧
  (∀ (lv : List mm_V) (ll : List (Option Int)) (st : List mm_V) a, (mm_ok n a 11) → mm_E d 111 7 lv ll (.inr (.inr (some a)) :: st) n I L P = mm_E d 111 10 lv ll (.inr (.inr (P a 2)) :: st) n I L P) ∧
  (∀ (lv : List mm_V) (ll : List (Option Int)) (st : List mm_V) a, (mm_ok n a 9) → mm_E d 111 10 lv ll (.inr (.inr (some a)) :: st) n I L P = mm_E d 111 13 lv ll (.inl (I a 0) :: st) n I L P) ∧
  (∀ (lv : List mm_V) (ll : List (Option Int)) x0 x1, mm_E d 111 13 lv ll (.inl x1 :: .inr (.inl x0) :: []) n I L P = mm_kr d 111 16 lv ll [] n (mm_rn d 109 [.inr (.inl x0), .inl x1] n I L P)) ∧
  (∀ (st : List mm_V) z (l0 : mm_V) (l1 : mm_V) (l2 : mm_V) (l3 : mm_V) (l4 : mm_V) (l5 : mm_V) (g0 : Option Int) (g1 : Option Int) (g2 : Option Int) (g3 : Option Int) (g4 : Option Int) (g5 : Option Int), mm_E d 111 16 [l0, l1, l2, l3, l4, l5] [g0, g1, g2, g3, g4, g5] ((.inl z) :: st) n I L P = mm_E d 111 18 [l0, l1, l2, l3, l4, (.inl z)] [g0, g1, g2, g3, none, none] st n I L P) ∧
  (∀ (ll : List (Option Int)) (st : List mm_V) z (l1 : mm_V) (l2 : mm_V) (l3 : mm_V) (l4 : mm_V) (l5 : mm_V), mm_E d 111 18 [(.inr (.inr z)), l1, l2, l3, l4, l5] ll st n I L P = mm_E d 111 19 [(.inr (.inr z)), l1, l2, l3, l4, l5] ll ((.inr (.inr z)) :: st) n I L P) ∧
  (∀ (lv : List mm_V) (ll : List (Option Int)) (st : List mm_V) a, (mm_ok n a 11) → mm_E d 111 19 lv ll (.inr (.inr (some a)) :: st) n I L P = mm_E d 111 22 lv ll (.inr (.inr (P a 2)) :: st) n I L P) ∧
  (∀ (ll : List (Option Int)) (st : List mm_V) z (l1 : mm_V) (l2 : mm_V) (l3 : mm_V) (l4 : mm_V) (l5 : mm_V), mm_E d 111 22 [(.inr (.inr z)), l1, l2, l3, l4, l5] ll st n I L P = mm_E d 111 23 [(.inr (.inr z)), l1, l2, l3, l4, l5] ll ((.inr (.inr z)) :: st) n I L P) ∧
  (∀ (lv : List mm_V) (ll : List (Option Int)) (st : List mm_V) a, (mm_ok n a 11) → mm_E d 111 23 lv ll (.inr (.inr (some a)) :: st) n I L P = mm_E d 111 26 lv ll (.inr (.inr (P a 8)) :: st) n I L P) ∧
  (∀ (lv : List mm_V) (ll : List (Option Int)) (st : List mm_V) a, (mm_ok n a 5) → mm_E d 111 26 lv ll (.inr (.inr (some a)) :: st) n I L P = mm_E d 111 29 lv ll (.inl (I a 3) :: st) n I L P) ∧
  (∀ (ll : List (Option Int)) (st : List mm_V) z (l0 : mm_V) (l1 : mm_V) (l2 : mm_V) (l3 : mm_V) (l4 : mm_V), mm_E d 111 29 [l0, l1, l2, l3, l4, (.inl z)] ll st n I L P = mm_E d 111 31 [l0, l1, l2, l3, l4, (.inl z)] ll ((.inl z) :: st) n I L P) ∧
  (∀ (lv : List mm_V) (ll : List (Option Int)) a x0 x1, (mm_ok n a 9) → mm_E d 111 31 lv ll (.inl x1 :: .inl x0 :: .inr (.inr (some a)) :: []) n I L P = mm_kr d 111 34 lv ll [] n (mm_rn d 65 [.inr (.inr (some a)), .inl x0, .inl x1] n I L P)) ∧
  (∀ (lv : List mm_V) (ll : List (Option Int)) (st : List mm_V) a, mm_E d 111 34 lv ll (.inl a :: st) n I L P = if a = 0 then mm_E d 111 46 lv ll st n I L P else mm_E d 111 37 lv ll st n I L P) ∧
  (∀ (ll : List (Option Int)) (st : List mm_V) z (l1 : mm_V) (l2 : mm_V) (l3 : mm_V) (l4 : mm_V) (l5 : mm_V), mm_E d 111 37 [(.inr (.inr z)), l1, l2, l3, l4, l5] ll st n I L P = mm_E d 111 38 [(.inr (.inr z)), l1, l2, l3, l4, l5] ll ((.inr (.inr z)) :: st) n I L P) ∧
  (∀ (lv : List mm_V) (ll : List (Option Int)) (st : List mm_V) a, (mm_ok n a 11) → mm_E d 111 38 lv ll (.inr (.inr (some a)) :: st) n I L P = mm_E d 111 41 lv ll (.inr (.inr (P a 8)) :: st) n I L P) ∧
  (∀ (ll : List (Option Int)) (st : List mm_V) z (l0 : mm_V) (l1 : mm_V) (l2 : mm_V) (l3 : mm_V) (l4 : mm_V), mm_E d 111 41 [l0, l1, l2, l3, l4, (.inl z)] ll st n I L P = mm_E d 111 43 [l0, l1, l2, l3, l4, (.inl z)] ll ((.inl z) :: st) n I L P) ∧
  (∀ (lv : List mm_V) (ll : List (Option Int)) (st : List mm_V) a z, (mm_ok n a 5) → mm_E d 111 43 lv ll (.inl z :: .inr (.inr (some a)) :: st) n I L P = mm_E d 111 46 lv ll st n (mm_ui I a 3 z) L P) ∧
  (∀ (lv : List mm_V) (st : List mm_V) z (g0 : Option Int) (g1 : Option Int) (g2 : Option Int) (g4 : Option Int) (g5 : Option Int), mm_E d 111 46 lv [g0, g1, g2, (some z), g4, g5] st n I L P = mm_E d 111 47 lv [g0, g1, g2, (some z), g4, g5] (.inr (.inl z) :: st) n I L P) ∧
  (∀ (lv : List mm_V) (ll : List (Option Int)) z, mm_E d 111 47 lv ll [.inr (.inl z)] n I L P = some (some (.inr (.inl z)), n, I, L, P)) :=
  ⟨fun _ _ _ _ _ _ _ _ => mq_ll (i := 1) rfl rfl,
   fun _ _ _ => mq_cSr (na := 1) rfl (Nat.le_of_ble_eq_true rfl) (Nat.le_of_ble_eq_true rfl),
   fun _ _ _ _ _ _ _ _ _ _ _ _ _ _ => mq_ls (i := 3) rfl rfl rfl,
   fun _ _ _ _ _ _ _ _ => mq_ll (i := 3) rfl rfl,
   fun _ _ _ _ _ _ _ _ => mq_al (i := 0) rfl rfl,
   fun _ _ _ _ h0 => mq_getR rfl h0,
   fun _ _ _ _ h0 => mq_getI rfl h0,
   fun _ _ _ _ => mq_cSr (na := 2) rfl (Nat.le_of_ble_eq_true rfl) (Nat.le_of_ble_eq_true rfl),
   fun _ _ _ _ _ _ _ _ _ _ _ _ _ _ => mq_is (i := 5) rfl rfl rfl,
   fun _ _ _ _ _ _ _ _ => mq_al (i := 0) rfl rfl,
   fun _ _ _ _ h0 => mq_getR rfl h0,
   fun _ _ _ _ _ _ _ _ => mq_al (i := 0) rfl rfl,
   fun _ _ _ _ h0 => mq_getR rfl h0,
   fun _ _ _ _ h0 => mq_getI rfl h0,
   fun _ _ _ _ _ _ _ _ => mq_il (i := 5) rfl rfl,
   fun _ _ _ _ _ h0 => mq_cVr (na := 2) rfl rfl (Nat.le_of_ble_eq_true rfl) (Nat.le_of_ble_eq_true rfl) h0,
   fun _ _ _ _ => mq_if_eq rfl,
   fun _ _ _ _ _ _ _ _ => mq_al (i := 0) rfl rfl,
   fun _ _ _ _ h0 => mq_getR rfl h0,
   fun _ _ _ _ _ _ _ _ => mq_il (i := 5) rfl rfl,
   fun _ _ _ _ _ h0 => mq_putI rfl h0,
   fun _ _ _ _ _ _ _ _ => mq_ll (i := 3) rfl rfl,
   fun _ _ _ => mq_rl rfl⟩
theorem eX11_drawWalk (d n : Nat) (I L : mm_I) (P : mm_P) (x0 : Option Nat) (x1 : Int) : mm_rn (d + 1) 111 [.inr (.inr x0), .inr (.inl x1)] n I L P = mm_E d 111 0 [.inr (.inr x0), mm_junk, mm_junk, mm_junk, mm_junk, mm_junk] [none, some x1, none, none, none, none] [] n I L P := rfl

set_option maxRecDepth 20000 in
set_option maxHeartbeats 8000000 in
theorem kX11_status (d n : Nat) (I L : mm_I) (P : mm_P) :
  (∀ (st : List mm_V) z (l0 : mm_V), mm_E d 112 0 [l0, (.inl z)] [] st n I L P = mm_E d 112 1 [l0, (.inl z)] [] ((.inl z) :: st) n I L P) ∧
  (∀ (lv : List mm_V) (st : List mm_V) a, mm_E d 112 1 lv [] (.inl a :: st) n I L P = if a < 0 then mm_E d 112 22 lv [] st n I L P else mm_E d 112 4 lv [] st n I L P) ∧
  (∀ (st : List mm_V) z (l0 : mm_V), mm_E d 112 4 [l0, (.inl z)] [] st n I L P = mm_E d 112 5 [l0, (.inl z)] [] ((.inl z) :: st) n I L P) ∧
  (∀ (st : List mm_V) z (l1 : mm_V), mm_E d 112 5 [(.inr (.inr z)), l1] [] st n I L P = mm_E d 112 6 [(.inr (.inr z)), l1] [] ((.inr (.inr z)) :: st) n I L P) ∧
  (∀ (lv : List mm_V) (st : List mm_V) a, (mm_ok n a 11) → mm_E d 112 6 lv [] (.inr (.inr (some a)) :: st) n I L P = mm_E d 112 9 lv [] (.inr (.inr (P a 17)) :: st) n I L P) ∧
  (∀ (lv : List mm_V) (st : List mm_V) a, (mm_ok n a 20) → mm_E d 112 9 lv [] (.inr (.inr (some a)) :: st) n I L P = mm_E d 112 10 lv [] (.inl ((mm_ty a).2 : Int) :: st) n I L P) ∧
  (∀ (lv : List mm_V) (st : List mm_V) a b, mm_E d 112 10 lv [] (.inl b :: .inl a :: st) n I L P = if b ≤ a then mm_E d 112 22 lv [] st n I L P else mm_E d 112 13 lv [] st n I L P) ∧
  (∀ (st : List mm_V) z (l1 : mm_V), mm_E d 112 13 [(.inr (.inr z)), l1] [] st n I L P = mm_E d 112 14 [(.inr (.inr z)), l1] [] ((.inr (.inr z)) :: st) n I L P) ∧
  (∀ (lv : List mm_V) (st : List mm_V) a, (mm_ok n a 11) → mm_E d 112 14 lv [] (.inr (.inr (some a)) :: st) n I L P = mm_E d 112 17 lv [] (.inr (.inr (P a 17)) :: st) n I L P) ∧
  (∀ (st : List mm_V) z (l0 : mm_V), mm_E d 112 17 [l0, (.inl z)] [] st n I L P = mm_E d 112 18 [l0, (.inl z)] [] ((.inl z) :: st) n I L P) ∧
  (∀ (lv : List mm_V) (st : List mm_V) a i, (mm_ix n a 20 i) → mm_E d 112 18 lv [] (.inl i :: .inr (.inr (some a)) :: st) n I L P = mm_E d 112 19 lv [] (.inl (I a i.toNat) :: st) n I L P) ∧
  (∀ (lv : List mm_V) (st : List mm_V), mm_E d 112 19 lv [] st n I L P = mm_E d 112 23 lv [] st n I L P) ∧
  (∀ (lv : List mm_V) (st : List mm_V), mm_E d 112 22 lv [] st n I L P = mm_E d 112 23 lv [] (.inl (-1) :: st) n I L P) ∧
  (∀ (lv : List mm_V) z, mm_E d 112 23 lv [] [.inl z] n I L P = some (some (.inl z), n, I, L, P)) :=
  ⟨fun _ _ _ => mq_il (i := 1) rfl rfl,
   fun _ _ _ => mq_if_lt rfl,
   fun _ _ _ => mq_il (i := 1) rfl rfl,
   fun _ _ _ => mq_al (i := 0) rfl rfl,
   fun _ _ _ h0 => mq_getR rfl h0,
   fun _ _ _ h0 => mq_alen rfl h0,
   fun _ _ _ _ => mq_ic_ge rfl,
   fun _ _ _ => mq_al (i := 0) rfl rfl,
   fun _ _ _ h0 => mq_getR rfl h0,
   fun _ _ _ => mq_il (i := 1) rfl rfl,
   fun _ _ _ _ h0 => mq_iald rfl h0,
   fun _ _ => mq_go rfl,
   fun _ _ => mq_push rfl,
   fun _ _ => mq_ri rfl⟩
theorem eX11_status (d n : Nat) (I L : mm_I) (P : mm_P) (x0 : Option Nat) (x1 : Int) : mm_rn (d + 1) 112 [.inr (.inr x0), .inl x1] n I L P = mm_E d 112 0 [.inr (.inr x0), .inl x1] [] [] n I L P := rfl

set_option maxRecDepth 20000 in
set_option maxHeartbeats 8000000 in
theorem kX11_undo (d n : Nat) (I L : mm_I) (P : mm_P) :
  (∀ (st : List mm_V) z, mm_E d 113 0 [(.inr (.inr z))] [] st n I L P = mm_E d 113 1 [(.inr (.inr z))] [] ((.inr (.inr z)) :: st) n I L P) ∧
  (∀ (lv : List mm_V) (st : List mm_V) a, (mm_ok n a 11) → mm_E d 113 1 lv [] (.inr (.inr (some a)) :: st) n I L P = mm_E d 113 4 lv [] (.inr (.inr (P a 10)) :: st) n I L P) ∧
  (∀ (st : List mm_V) z, mm_E d 113 4 [(.inr (.inr z))] [] st n I L P = mm_E d 113 5 [(.inr (.inr z))] [] ((.inr (.inr z)) :: st) n I L P) ∧
  (∀ (lv : List mm_V) (st : List mm_V) a, (mm_ok n a 11) → mm_E d 113 5 lv [] (.inr (.inr (some a)) :: st) n I L P = mm_E d 113 8 lv [] (.inr (.inr (P a 8)) :: st) n I L P) ∧
  (∀ (lv : List mm_V) a x0, (mm_ok n a 6) → mm_E d 113 8 lv [] (.inr (.inr x0) :: .inr (.inr (some a)) :: []) n I L P = mm_kr d 113 11 lv [] [] n (mm_rn d 52 [.inr (.inr (some a)), .inr (.inr x0)] n I L P)) ∧
  (∀ (lv : List mm_V) (st : List mm_V) a, mm_E d 113 11 lv [] (.inl a :: st) n I L P = if a = 0 then mm_E d 113 24 lv [] st n I L P else mm_E d 113 14 lv [] st n I L P) ∧
  (∀ (st : List mm_V) z, mm_E d 113 14 [(.inr (.inr z))] [] st n I L P = mm_E d 113 15 [(.inr (.inr z))] [] ((.inr (.inr z)) :: st) n I L P) ∧
  (∀ (lv : List mm_V) (st : List mm_V) a, (mm_ok n a 11) → mm_E d 113 15 lv [] (.inr (.inr (some a)) :: st) n I L P = mm_E d 113 18 lv [] (.inr (.inr (P a 10)) :: st) n I L P) ∧
  (∀ (lv : List mm_V) (st : List mm_V) a, (mm_ok n a 6) → mm_E d 113 18 lv [] (.inr (.inr (some a)) :: st) n I L P = mm_E d 113 21 lv [] (.inl (I a 2) :: st) n I L P) ∧
  (∀ (lv : List mm_V) (st : List mm_V), mm_E d 113 21 lv [] st n I L P = mm_E d 113 25 lv [] st n I L P) ∧
  (∀ (lv : List mm_V) (st : List mm_V), mm_E d 113 24 lv [] st n I L P = mm_E d 113 25 lv [] (.inl (-1) :: st) n I L P) ∧
  (∀ (lv : List mm_V) z, mm_E d 113 25 lv [] [.inl z] n I L P = some (some (.inl z), n, I, L, P)) :=
  ⟨fun _ _ => mq_al (i := 0) rfl rfl,
   fun _ _ _ h0 => mq_getR rfl h0,
   fun _ _ => mq_al (i := 0) rfl rfl,
   fun _ _ _ h0 => mq_getR rfl h0,
   fun _ _ _ h0 => mq_cVr (na := 1) rfl rfl (Nat.le_of_ble_eq_true rfl) (Nat.le_of_ble_eq_true rfl) h0,
   fun _ _ _ => mq_if_eq rfl,
   fun _ _ => mq_al (i := 0) rfl rfl,
   fun _ _ _ h0 => mq_getR rfl h0,
   fun _ _ _ h0 => mq_getI rfl h0,
   fun _ _ => mq_go rfl,
   fun _ _ => mq_push rfl,
   fun _ _ => mq_ri rfl⟩
theorem eX11_undo (d n : Nat) (I L : mm_I) (P : mm_P) (x0 : Option Nat) : mm_rn (d + 1) 113 [.inr (.inr x0)] n I L P = mm_E d 113 0 [.inr (.inr x0)] [] [] n I L P := rfl

set_option maxRecDepth 20000 in
set_option maxHeartbeats 8000000 in
theorem kX11_log (d n : Nat) (I L : mm_I) (P : mm_P) :
  (∀ (st : List mm_V) z (l0 : mm_V) (l2 : mm_V), mm_E d 114 0 [l0, (.inl z), l2] [] st n I L P = mm_E d 114 1 [l0, (.inl z), l2] [] ((.inl z) :: st) n I L P) ∧
  (∀ (lv : List mm_V) (st : List mm_V) a, mm_E d 114 1 lv [] (.inl a :: st) n I L P = if a < 0 then mm_E d 114 12 lv [] st n I L P else mm_E d 114 4 lv [] st n I L P) ∧
  (∀ (st : List mm_V) z (l0 : mm_V) (l2 : mm_V), mm_E d 114 4 [l0, (.inl z), l2] [] st n I L P = mm_E d 114 5 [l0, (.inl z), l2] [] ((.inl z) :: st) n I L P) ∧
  (∀ (st : List mm_V) z (l1 : mm_V) (l2 : mm_V), mm_E d 114 5 [(.inr (.inr z)), l1, l2] [] st n I L P = mm_E d 114 6 [(.inr (.inr z)), l1, l2] [] ((.inr (.inr z)) :: st) n I L P) ∧
  (∀ (lv : List mm_V) a w0, (mm_ok n a 11) → mm_E d 114 6 lv [] (.inr (.inr (some a)) :: [.inl w0]) n I L P = mm_kr d 114 9 lv [] [.inl w0] n (mm_rn d 115 [.inr (.inr (some a))] n I L P)) ∧
  (∀ (lv : List mm_V) (st : List mm_V) a b, mm_E d 114 9 lv [] (.inl b :: .inl a :: st) n I L P = if a < b then mm_E d 114 14 lv [] st n I L P else mm_E d 114 12 lv [] st n I L P) ∧
  (∀ (lv : List mm_V) (st : List mm_V), mm_E d 114 12 lv [] st n I L P = mm_E d 114 13 lv [] (.inl (-1) :: st) n I L P) ∧
  (∀ (lv : List mm_V) z, mm_E d 114 13 lv [] [.inl z] n I L P = some (some (.inl z), n, I, L, P)) ∧
  (∀ (st : List mm_V) z (l1 : mm_V) (l2 : mm_V), mm_E d 114 14 [(.inr (.inr z)), l1, l2] [] st n I L P = mm_E d 114 15 [(.inr (.inr z)), l1, l2] [] ((.inr (.inr z)) :: st) n I L P) ∧
  (∀ (lv : List mm_V) (st : List mm_V) a, (mm_ok n a 11) → mm_E d 114 15 lv [] (.inr (.inr (some a)) :: st) n I L P = mm_E d 114 18 lv [] (.inr (.inr (P a 9)) :: st) n I L P) ∧
  (∀ (st : List mm_V) z (l1 : mm_V) (l2 : mm_V), mm_E d 114 18 [(.inr (.inr z)), l1, l2] [] st n I L P = mm_E d 114 19 [(.inr (.inr z)), l1, l2] [] ((.inr (.inr z)) :: st) n I L P) ∧
  (∀ (lv : List mm_V) (st : List mm_V) a, (mm_ok n a 11) → mm_E d 114 19 lv [] (.inr (.inr (some a)) :: st) n I L P = mm_E d 114 22 lv [] (.inr (.inr (P a 8)) :: st) n I L P) ∧
  (∀ (lv : List mm_V) (st : List mm_V) a, (mm_ok n a 5) → mm_E d 114 22 lv [] (.inr (.inr (some a)) :: st) n I L P = mm_E d 114 25 lv [] (.inl (I a 8) :: st) n I L P) ∧
  (∀ (lv : List mm_V) (st : List mm_V), mm_E d 114 25 lv [] st n I L P = mm_E d 114 26 lv [] (.inl 1 :: st) n I L P) ∧
  (∀ (lv : List mm_V) (st : List mm_V) a b, mm_E d 114 26 lv [] (.inl b :: .inl a :: st) n I L P = mm_E d 114 27 lv [] (.inl (mm_sub a b) :: st) n I L P) ∧
  (∀ (st : List mm_V) z (l0 : mm_V) (l2 : mm_V), mm_E d 114 27 [l0, (.inl z), l2] [] st n I L P = mm_E d 114 28 [l0, (.inl z), l2] [] ((.inl z) :: st) n I L P) ∧
  (∀ (lv : List mm_V) (st : List mm_V) a b, mm_E d 114 28 lv [] (.inl b :: .inl a :: st) n I L P = mm_E d 114 29 lv [] (.inl (mm_sub a b) :: st) n I L P) ∧
  (∀ (st : List mm_V) z (l0 : mm_V) (l1 : mm_V), mm_E d 114 29 [l0, l1, (.inl z)] [] st n I L P = mm_E d 114 30 [l0, l1, (.inl z)] [] ((.inl z) :: st) n I L P) ∧
  (∀ (lv : List mm_V) a x0 x1, (mm_ok n a 1) → mm_E d 114 30 lv [] (.inl x1 :: .inl x0 :: .inr (.inr (some a)) :: []) n I L P = mm_kr d 114 33 lv [] [] n (mm_rn d 9 [.inr (.inr (some a)), .inl x0, .inl x1] n I L P)) ∧
  (∀ (lv : List mm_V) z, mm_E d 114 33 lv [] [.inl z] n I L P = some (some (.inl z), n, I, L, P)) :=
  ⟨fun _ _ _ _ => mq_il (i := 1) rfl rfl,
   fun _ _ _ => mq_if_lt rfl,
   fun _ _ _ _ => mq_il (i := 1) rfl rfl,
   fun _ _ _ _ => mq_al (i := 0) rfl rfl,
   fun _ _ _ h0 => mq_cVr (na := 0) rfl rfl (Nat.le_of_ble_eq_true rfl) (Nat.le_of_ble_eq_true rfl) h0,
   fun _ _ _ _ => mq_ic_lt rfl,
   fun _ _ => mq_push rfl,
   fun _ _ => mq_ri rfl,
   fun _ _ _ _ => mq_al (i := 0) rfl rfl,
   fun _ _ _ h0 => mq_getR rfl h0,
   fun _ _ _ _ => mq_al (i := 0) rfl rfl,
   fun _ _ _ h0 => mq_getR rfl h0,
   fun _ _ _ h0 => mq_getI rfl h0,
   fun _ _ => mq_push rfl,
   fun _ _ _ _ => mq_bi rfl,
   fun _ _ _ _ => mq_il (i := 1) rfl rfl,
   fun _ _ _ _ => mq_bi rfl,
   fun _ _ _ _ => mq_il (i := 2) rfl rfl,
   fun _ _ _ _ h0 => mq_cVr (na := 2) rfl rfl (Nat.le_of_ble_eq_true rfl) (Nat.le_of_ble_eq_true rfl) h0,
   fun _ _ => mq_ri rfl⟩
theorem eX11_log (d n : Nat) (I L : mm_I) (P : mm_P) (x0 : Option Nat) (x1 : Int) (x2 : Int) : mm_rn (d + 1) 114 [.inr (.inr x0), .inl x1, .inl x2] n I L P = mm_E d 114 0 [.inr (.inr x0), .inl x1, .inl x2] [] [] n I L P := rfl

set_option maxRecDepth 20000 in
set_option maxHeartbeats 8000000 in
theorem kX11_logLength (d n : Nat) (I L : mm_I) (P : mm_P) :
  (∀ (lv : List mm_V) (st : List mm_V), mm_E d 115 0 lv [] st n I L P = mm_E d 115 2 lv [] (.inl 60 :: st) n I L P) ∧
  (∀ (st : List mm_V) z, mm_E d 115 2 [(.inr (.inr z))] [] st n I L P = mm_E d 115 3 [(.inr (.inr z))] [] ((.inr (.inr z)) :: st) n I L P) ∧
  (∀ (lv : List mm_V) (st : List mm_V) a, (mm_ok n a 11) → mm_E d 115 3 lv [] (.inr (.inr (some a)) :: st) n I L P = mm_E d 115 6 lv [] (.inr (.inr (P a 8)) :: st) n I L P) ∧
  (∀ (lv : List mm_V) (st : List mm_V) a, (mm_ok n a 5) → mm_E d 115 6 lv [] (.inr (.inr (some a)) :: st) n I L P = mm_E d 115 9 lv [] (.inl (I a 8) :: st) n I L P) ∧
  (∀ (lv : List mm_V) x0 x1, mm_E d 115 9 lv [] (.inl x1 :: .inl x0 :: []) n I L P = mm_kr d 115 12 lv [] [] n (mm_rn d 267 [.inl x0, .inl x1] n I L P)) ∧
  (∀ (lv : List mm_V) z, mm_E d 115 12 lv [] [.inl z] n I L P = some (some (.inl z), n, I, L, P)) :=
  ⟨fun _ _ => mq_push rfl,
   fun _ _ => mq_al (i := 0) rfl rfl,
   fun _ _ _ h0 => mq_getR rfl h0,
   fun _ _ _ h0 => mq_getI rfl h0,
   fun _ _ _ => mq_cSr (na := 2) rfl (Nat.le_of_ble_eq_true rfl) (Nat.le_of_ble_eq_true rfl),
   fun _ _ => mq_ri rfl⟩
theorem eX11_logLength (d n : Nat) (I L : mm_I) (P : mm_P) (x0 : Option Nat) : mm_rn (d + 1) 115 [.inr (.inr x0)] n I L P = mm_E d 115 0 [.inr (.inr x0)] [] [] n I L P := rfl

set_option maxRecDepth 20000 in
set_option maxHeartbeats 8000000 in
theorem kX11_lost (d n : Nat) (I L : mm_I) (P : mm_P) :
  (∀ (st : List mm_V) z (l1 : mm_V), mm_E d 116 0 [(.inr (.inr z)), l1] [] st n I L P = mm_E d 116 1 [(.inr (.inr z)), l1] [] ((.inr (.inr z)) :: st) n I L P) ∧
  (∀ (lv : List mm_V) a, (mm_ok n a 11) → mm_E d 116 1 lv [] (.inr (.inr (some a)) :: []) n I L P = mm_kr d 116 4 lv [] [] n (mm_rn d 92 [.inr (.inr (some a))] n I L P)) ∧
  (∀ (lv : List mm_V) (st : List mm_V) a, mm_E d 116 4 lv [] (.inl a :: st) n I L P = if a = 0 then mm_E d 116 7 lv [] st n I L P else mm_E d 116 17 lv [] st n I L P) ∧
  (∀ (st : List mm_V) z (l0 : mm_V), mm_E d 116 7 [l0, (.inl z)] [] st n I L P = mm_E d 116 8 [l0, (.inl z)] [] ((.inl z) :: st) n I L P) ∧
  (∀ (lv : List mm_V) (st : List mm_V) a, mm_E d 116 8 lv [] (.inl a :: st) n I L P = if a < 0 then mm_E d 116 17 lv [] st n I L P else mm_E d 116 11 lv [] st n I L P) ∧
  (∀ (st : List mm_V) z (l0 : mm_V), mm_E d 116 11 [l0, (.inl z)] [] st n I L P = mm_E d 116 12 [l0, (.inl z)] [] ((.inl z) :: st) n I L P) ∧
  (∀ (lv : List mm_V) (st : List mm_V), mm_E d 116 12 lv [] st n I L P = mm_E d 116 14 lv [] (.inl 60 :: st) n I L P) ∧
  (∀ (lv : List mm_V) (st : List mm_V) a b, mm_E d 116 14 lv [] (.inl b :: .inl a :: st) n I L P = if a ≤ b then mm_E d 116 19 lv [] st n I L P else mm_E d 116 17 lv [] st n I L P) ∧
  (∀ (lv : List mm_V) (st : List mm_V), mm_E d 116 17 lv [] st n I L P = mm_E d 116 18 lv [] (.inl (-1) :: st) n I L P) ∧
  (∀ (lv : List mm_V) z, mm_E d 116 18 lv [] [.inl z] n I L P = some (some (.inl z), n, I, L, P)) ∧
  (∀ (st : List mm_V) z (l1 : mm_V), mm_E d 116 19 [(.inr (.inr z)), l1] [] st n I L P = mm_E d 116 20 [(.inr (.inr z)), l1] [] ((.inr (.inr z)) :: st) n I L P) ∧
  (∀ (lv : List mm_V) (st : List mm_V) a, (mm_ok n a 11) → mm_E d 116 20 lv [] (.inr (.inr (some a)) :: st) n I L P = mm_E d 116 23 lv [] (.inr (.inr (P a 15)) :: st) n I L P) ∧
  (∀ (st : List mm_V) z (l1 : mm_V), mm_E d 116 23 [(.inr (.inr z)), l1] [] st n I L P = mm_E d 116 24 [(.inr (.inr z)), l1] [] ((.inr (.inr z)) :: st) n I L P) ∧
  (∀ (lv : List mm_V) (st : List mm_V) a, (mm_ok n a 11) → mm_E d 116 24 lv [] (.inr (.inr (some a)) :: st) n I L P = mm_E d 116 27 lv [] (.inr (.inr (P a 8)) :: st) n I L P) ∧
  (∀ (st : List mm_V) z (l1 : mm_V), mm_E d 116 27 [(.inr (.inr z)), l1] [] st n I L P = mm_E d 116 28 [(.inr (.inr z)), l1] [] ((.inr (.inr z)) :: st) n I L P) ∧
  (∀ (lv : List mm_V) (st : List mm_V) a, (mm_ok n a 11) → mm_E d 116 28 lv [] (.inr (.inr (some a)) :: st) n I L P = mm_E d 116 31 lv [] (.inr (.inr (P a 2)) :: st) n I L P) ∧
  (∀ (st : List mm_V) z (l1 : mm_V), mm_E d 116 31 [(.inr (.inr z)), l1] [] st n I L P = mm_E d 116 32 [(.inr (.inr z)), l1] [] ((.inr (.inr z)) :: st) n I L P) ∧
  (∀ (lv : List mm_V) a w0 w1 w2, (mm_ok n a 11) → mm_E d 116 32 lv [] (.inr (.inr (some a)) :: [.inr (.inr w0), .inr (.inr w1), .inr (.inr w2)]) n I L P = mm_kr d 116 35 lv [] [.inr (.inr w0), .inr (.inr w1), .inr (.inr w2)] n (mm_rn d 96 [.inr (.inr (some a))] n I L P)) ∧
  (∀ (st : List mm_V) z (l0 : mm_V), mm_E d 116 35 [l0, (.inl z)] [] st n I L P = mm_E d 116 36 [l0, (.inl z)] [] ((.inl z) :: st) n I L P) ∧
  (∀ (lv : List mm_V) a x0 x1 x2 x3, (mm_ok n a 0) → mm_E d 116 36 lv [] (.inl x3 :: .inr (.inr x2) :: .inr (.inr x1) :: .inr (.inr x0) :: .inr (.inr (some a)) :: []) n I L P = mm_kr d 116 39 lv [] [] n (mm_rn d 1 [.inr (.inr (some a)), .inr (.inr x0), .inr (.inr x1), .inr (.inr x2), .inl x3] n I L P)) ∧
  (∀ (lv : List mm_V) z, mm_E d 116 39 lv [] [.inl z] n I L P = some (some (.inl z), n, I, L, P)) :=
  ⟨fun _ _ _ => mq_al (i := 0) rfl rfl,
   fun _ _ h0 => mq_cVr (na := 0) rfl rfl (Nat.le_of_ble_eq_true rfl) (Nat.le_of_ble_eq_true rfl) h0,
   fun _ _ _ => mq_if_ne rfl,
   fun _ _ _ => mq_il (i := 1) rfl rfl,
   fun _ _ _ => mq_if_lt rfl,
   fun _ _ _ => mq_il (i := 1) rfl rfl,
   fun _ _ => mq_push rfl,
   fun _ _ _ _ => mq_ic_le rfl,
   fun _ _ => mq_push rfl,
   fun _ _ => mq_ri rfl,
   fun _ _ _ => mq_al (i := 0) rfl rfl,
   fun _ _ _ h0 => mq_getR rfl h0,
   fun _ _ _ => mq_al (i := 0) rfl rfl,
   fun _ _ _ h0 => mq_getR rfl h0,
   fun _ _ _ => mq_al (i := 0) rfl rfl,
   fun _ _ _ h0 => mq_getR rfl h0,
   fun _ _ _ => mq_al (i := 0) rfl rfl,
   fun _ _ _ _ _ h0 => mq_cVr (na := 0) rfl rfl (Nat.le_of_ble_eq_true rfl) (Nat.le_of_ble_eq_true rfl) h0,
   fun _ _ _ => mq_il (i := 1) rfl rfl,
   fun _ _ _ _ _ _ h0 => mq_cVr (na := 4) rfl rfl (Nat.le_of_ble_eq_true rfl) (Nat.le_of_ble_eq_true rfl) h0,
   fun _ _ => mq_ri rfl⟩
theorem eX11_lost (d n : Nat) (I L : mm_I) (P : mm_P) (x0 : Option Nat) (x1 : Int) : mm_rn (d + 1) 116 [.inr (.inr x0), .inl x1] n I L P = mm_E d 116 0 [.inr (.inr x0), .inl x1] [] [] n I L P := rfl

set_option maxRecDepth 20000 in
set_option maxHeartbeats 8000000 in
theorem kX11_left (d n : Nat) (I L : mm_I) (P : mm_P) :
  (∀ (st : List mm_V) z (l1 : mm_V) (l2 : mm_V), mm_E d 117 0 [(.inr (.inr z)), l1, l2] [] st n I L P = mm_E d 117 1 [(.inr (.inr z)), l1, l2] [] ((.inr (.inr z)) :: st) n I L P) ∧
  (∀ (lv : List mm_V) (st : List mm_V) a, (mm_ok n a 11) → mm_E d 117 1 lv [] (.inr (.inr (some a)) :: st) n I L P = mm_E d 117 4 lv [] (.inr (.inr (P a 2)) :: st) n I L P) ∧
  (∀ (st : List mm_V) z (l0 : mm_V) (l2 : mm_V), mm_E d 117 4 [l0, (.inl z), l2] [] st n I L P = mm_E d 117 5 [l0, (.inl z), l2] [] ((.inl z) :: st) n I L P) ∧
  (∀ (lv : List mm_V) a x0, (mm_ok n a 9) → mm_E d 117 5 lv [] (.inl x0 :: .inr (.inr (some a)) :: []) n I L P = mm_kr d 117 8 lv [] [] n (mm_rn d 63 [.inr (.inr (some a)), .inl x0] n I L P)) ∧
  (∀ (lv : List mm_V) (st : List mm_V) a, mm_E d 117 8 lv [] (.inl a :: st) n I L P = if a = 0 then mm_E d 117 21 lv [] st n I L P else mm_E d 117 11 lv [] st n I L P) ∧
  (∀ (st : List mm_V) z (l0 : mm_V) (l1 : mm_V), mm_E d 117 11 [l0, l1, (.inl z)] [] st n I L P = mm_E d 117 12 [l0, l1, (.inl z)] [] ((.inl z) :: st) n I L P) ∧
  (∀ (lv : List mm_V) (st : List mm_V) a, mm_E d 117 12 lv [] (.inl a :: st) n I L P = if a < 0 then mm_E d 117 21 lv [] st n I L P else mm_E d 117 15 lv [] st n I L P) ∧
  (∀ (st : List mm_V) z (l0 : mm_V) (l1 : mm_V), mm_E d 117 15 [l0, l1, (.inl z)] [] st n I L P = mm_E d 117 16 [l0, l1, (.inl z)] [] ((.inl z) :: st) n I L P) ∧
  (∀ (lv : List mm_V) (st : List mm_V), mm_E d 117 16 lv [] st n I L P = mm_E d 117 18 lv [] (.inl 60 :: st) n I L P) ∧
  (∀ (lv : List mm_V) (st : List mm_V) a b, mm_E d 117 18 lv [] (.inl b :: .inl a :: st) n I L P = if a ≤ b then mm_E d 117 23 lv [] st n I L P else mm_E d 117 21 lv [] st n I L P) ∧
  (∀ (lv : List mm_V) (st : List mm_V), mm_E d 117 21 lv [] st n I L P = mm_E d 117 22 lv [] (.inl (-1) :: st) n I L P) ∧
  (∀ (lv : List mm_V) z, mm_E d 117 22 lv [] [.inl z] n I L P = some (some (.inl z), n, I, L, P)) ∧
  (∀ (st : List mm_V) z (l1 : mm_V) (l2 : mm_V), mm_E d 117 23 [(.inr (.inr z)), l1, l2] [] st n I L P = mm_E d 117 24 [(.inr (.inr z)), l1, l2] [] ((.inr (.inr z)) :: st) n I L P) ∧
  (∀ (lv : List mm_V) (st : List mm_V) a, (mm_ok n a 11) → mm_E d 117 24 lv [] (.inr (.inr (some a)) :: st) n I L P = mm_E d 117 27 lv [] (.inr (.inr (P a 15)) :: st) n I L P) ∧
  (∀ (st : List mm_V) z (l1 : mm_V) (l2 : mm_V), mm_E d 117 27 [(.inr (.inr z)), l1, l2] [] st n I L P = mm_E d 117 28 [(.inr (.inr z)), l1, l2] [] ((.inr (.inr z)) :: st) n I L P) ∧
  (∀ (lv : List mm_V) (st : List mm_V) a, (mm_ok n a 11) → mm_E d 117 28 lv [] (.inr (.inr (some a)) :: st) n I L P = mm_E d 117 31 lv [] (.inr (.inr (P a 8)) :: st) n I L P) ∧
  (∀ (st : List mm_V) z (l1 : mm_V) (l2 : mm_V), mm_E d 117 31 [(.inr (.inr z)), l1, l2] [] st n I L P = mm_E d 117 32 [(.inr (.inr z)), l1, l2] [] ((.inr (.inr z)) :: st) n I L P) ∧
  (∀ (lv : List mm_V) (st : List mm_V) a, (mm_ok n a 11) → mm_E d 117 32 lv [] (.inr (.inr (some a)) :: st) n I L P = mm_E d 117 35 lv [] (.inr (.inr (P a 2)) :: st) n I L P) ∧
  (∀ (st : List mm_V) z (l1 : mm_V) (l2 : mm_V), mm_E d 117 35 [(.inr (.inr z)), l1, l2] [] st n I L P = mm_E d 117 36 [(.inr (.inr z)), l1, l2] [] ((.inr (.inr z)) :: st) n I L P) ∧
  (∀ (lv : List mm_V) a w0 w1 w2, (mm_ok n a 11) → mm_E d 117 36 lv [] (.inr (.inr (some a)) :: [.inr (.inr w0), .inr (.inr w1), .inr (.inr w2)]) n I L P = mm_kr d 117 39 lv [] [.inr (.inr w0), .inr (.inr w1), .inr (.inr w2)] n (mm_rn d 96 [.inr (.inr (some a))] n I L P)) ∧
  (∀ (st : List mm_V) z (l0 : mm_V) (l1 : mm_V), mm_E d 117 39 [l0, l1, (.inl z)] [] st n I L P = mm_E d 117 40 [l0, l1, (.inl z)] [] ((.inl z) :: st) n I L P) ∧
  (∀ (lv : List mm_V) a x0 x1 x2 x3, (mm_ok n a 0) → mm_E d 117 40 lv [] (.inl x3 :: .inr (.inr x2) :: .inr (.inr x1) :: .inr (.inr x0) :: .inr (.inr (some a)) :: []) n I L P = mm_kr d 117 43 lv [] [] n (mm_rn d 1 [.inr (.inr (some a)), .inr (.inr x0), .inr (.inr x1), .inr (.inr x2), .inl x3] n I L P)) ∧
  (∀ (lv : List mm_V) (st : List mm_V) a, mm_E d 117 43 lv [] ((.inl a) :: st) n I L P = mm_E d 117 44 lv [] st n I L P) ∧
  (∀ (st : List mm_V) z (l1 : mm_V) (l2 : mm_V), mm_E d 117 44 [(.inr (.inr z)), l1, l2] [] st n I L P = mm_E d 117 45 [(.inr (.inr z)), l1, l2] [] ((.inr (.inr z)) :: st) n I L P) ∧
  (∀ (lv : List mm_V) (st : List mm_V) a, (mm_ok n a 11) → mm_E d 117 45 lv [] (.inr (.inr (some a)) :: st) n I L P = mm_E d 117 48 lv [] (.inr (.inr (P a 15)) :: st) n I L P) ∧
  (∀ (lv : List mm_V) (st : List mm_V) a, (mm_ok n a 0) → mm_E d 117 48 lv [] (.inr (.inr (some a)) :: st) n I L P = mm_E d 117 51 lv [] (.inr (.inr (P a 0)) :: st) n I L P) ∧
  (∀ (lv : List mm_V) (st : List mm_V) a, (mm_ok n a 5) → mm_E d 117 51 lv [] (.inr (.inr (some a)) :: st) n I L P = mm_E d 117 54 lv [] (.inr (.inr (P a 0)) :: st) n I L P) ∧
  (∀ (st : List mm_V) z (l0 : mm_V) (l2 : mm_V), mm_E d 117 54 [l0, (.inl z), l2] [] st n I L P = mm_E d 117 55 [l0, (.inl z), l2] [] ((.inl z) :: st) n I L P) ∧
  (∀ (lv : List mm_V) (st : List mm_V) a i, (mm_ix n a 20 i) → mm_E d 117 55 lv [] (.inl i :: .inr (.inr (some a)) :: st) n I L P = mm_E d 117 56 lv [] (.inl (I a i.toNat) :: st) n I L P) ∧
  (∀ (lv : List mm_V) z, mm_E d 117 56 lv [] [.inl z] n I L P = some (some (.inl z), n, I, L, P)) :=
  ⟨fun _ _ _ _ => mq_al (i := 0) rfl rfl,
   fun _ _ _ h0 => mq_getR rfl h0,
   fun _ _ _ _ => mq_il (i := 1) rfl rfl,
   fun _ _ _ h0 => mq_cVr (na := 1) rfl rfl (Nat.le_of_ble_eq_true rfl) (Nat.le_of_ble_eq_true rfl) h0,
   fun _ _ _ => mq_if_eq rfl,
   fun _ _ _ _ => mq_il (i := 2) rfl rfl,
   fun _ _ _ => mq_if_lt rfl,
   fun _ _ _ _ => mq_il (i := 2) rfl rfl,
   fun _ _ => mq_push rfl,
   fun _ _ _ _ => mq_ic_le rfl,
   fun _ _ => mq_push rfl,
   fun _ _ => mq_ri rfl,
   fun _ _ _ _ => mq_al (i := 0) rfl rfl,
   fun _ _ _ h0 => mq_getR rfl h0,
   fun _ _ _ _ => mq_al (i := 0) rfl rfl,
   fun _ _ _ h0 => mq_getR rfl h0,
   fun _ _ _ _ => mq_al (i := 0) rfl rfl,
   fun _ _ _ h0 => mq_getR rfl h0,
   fun _ _ _ _ => mq_al (i := 0) rfl rfl,
   fun _ _ _ _ _ h0 => mq_cVr (na := 0) rfl rfl (Nat.le_of_ble_eq_true rfl) (Nat.le_of_ble_eq_true rfl) h0,
   fun _ _ _ _ => mq_il (i := 2) rfl rfl,
   fun _ _ _ _ _ _ h0 => mq_cVr (na := 4) rfl rfl (Nat.le_of_ble_eq_true rfl) (Nat.le_of_ble_eq_true rfl) h0,
   fun _ _ _ => mq_pop rfl rfl,
   fun _ _ _ _ => mq_al (i := 0) rfl rfl,
   fun _ _ _ h0 => mq_getR rfl h0,
   fun _ _ _ h0 => mq_getR rfl h0,
   fun _ _ _ h0 => mq_getR rfl h0,
   fun _ _ _ _ => mq_il (i := 1) rfl rfl,
   fun _ _ _ _ h0 => mq_iald rfl h0,
   fun _ _ => mq_ri rfl⟩
theorem eX11_left (d n : Nat) (I L : mm_I) (P : mm_P) (x0 : Option Nat) (x1 : Int) (x2 : Int) : mm_rn (d + 1) 117 [.inr (.inr x0), .inl x1, .inl x2] n I L P = mm_E d 117 0 [.inr (.inr x0), .inl x1, .inl x2] [] [] n I L P := rfl

set_option maxRecDepth 20000 in
set_option maxHeartbeats 8000000 in
theorem kX11_saved (d n : Nat) (I L : mm_I) (P : mm_P) :
  (∀ (st : List mm_V) z (l1 : mm_V) (l2 : mm_V), mm_E d 118 0 [(.inr (.inr z)), l1, l2] [] st n I L P = mm_E d 118 1 [(.inr (.inr z)), l1, l2] [] ((.inr (.inr z)) :: st) n I L P) ∧
  (∀ (lv : List mm_V) a, (mm_ok n a 11) → mm_E d 118 1 lv [] (.inr (.inr (some a)) :: []) n I L P = mm_kr d 118 4 lv [] [] n (mm_rn d 92 [.inr (.inr (some a))] n I L P)) ∧
  (∀ (lv : List mm_V) (st : List mm_V) a, mm_E d 118 4 lv [] (.inl a :: st) n I L P = if a = 0 then mm_E d 118 7 lv [] st n I L P else mm_E d 118 18 lv [] st n I L P) ∧
  (∀ (st : List mm_V) z (l0 : mm_V) (l2 : mm_V), mm_E d 118 7 [l0, (.inl z), l2] [] st n I L P = mm_E d 118 8 [l0, (.inl z), l2] [] ((.inl z) :: st) n I L P) ∧
  (∀ (lv : List mm_V) (st : List mm_V), mm_E d 118 8 lv [] st n I L P = mm_E d 118 9 lv [] (.inl 1 :: st) n I L P) ∧
  (∀ (lv : List mm_V) (st : List mm_V) a b, mm_E d 118 9 lv [] (.inl b :: .inl a :: st) n I L P = if a < b then mm_E d 118 18 lv [] st n I L P else mm_E d 118 12 lv [] st n I L P) ∧
  (∀ (st : List mm_V) z (l0 : mm_V) (l2 : mm_V), mm_E d 118 12 [l0, (.inl z), l2] [] st n I L P = mm_E d 118 13 [l0, (.inl z), l2] [] ((.inl z) :: st) n I L P) ∧
  (∀ (lv : List mm_V) (st : List mm_V), mm_E d 118 13 lv [] st n I L P = mm_E d 118 15 lv [] (.inl 60 :: st) n I L P) ∧
  (∀ (lv : List mm_V) (st : List mm_V) a b, mm_E d 118 15 lv [] (.inl b :: .inl a :: st) n I L P = if a ≤ b then mm_E d 118 22 lv [] st n I L P else mm_E d 118 18 lv [] st n I L P) ∧
  (∀ (lv : List mm_V) (st : List mm_V), mm_E d 118 18 lv [] st n I L P = mm_E d 118 21 lv [] (.inl (-1000000) :: st) n I L P) ∧
  (∀ (lv : List mm_V) z, mm_E d 118 21 lv [] [.inl z] n I L P = some (some (.inl z), n, I, L, P)) ∧
  (∀ (st : List mm_V) z (l1 : mm_V) (l2 : mm_V), mm_E d 118 22 [(.inr (.inr z)), l1, l2] [] st n I L P = mm_E d 118 23 [(.inr (.inr z)), l1, l2] [] ((.inr (.inr z)) :: st) n I L P) ∧
  (∀ (lv : List mm_V) a, (mm_ok n a 11) → mm_E d 118 23 lv [] (.inr (.inr (some a)) :: []) n I L P = mm_kr d 118 26 lv [] [] n (mm_rn d 96 [.inr (.inr (some a))] n I L P)) ∧
  (∀ (st : List mm_V) z (l0 : mm_V) (l1 : mm_V) (l2 : mm_V), mm_E d 118 26 [l0, l1, l2] [] ((.inr (.inr z)) :: st) n I L P = mm_E d 118 27 [l0, l1, (.inr (.inr z))] [] st n I L P) ∧
  (∀ (st : List mm_V) z (l1 : mm_V) (l2 : mm_V), mm_E d 118 27 [(.inr (.inr z)), l1, l2] [] st n I L P = mm_E d 118 28 [(.inr (.inr z)), l1, l2] [] ((.inr (.inr z)) :: st) n I L P) ∧
  (∀ (lv : List mm_V) (st : List mm_V) a, (mm_ok n a 11) → mm_E d 118 28 lv [] (.inr (.inr (some a)) :: st) n I L P = mm_E d 118 31 lv [] (.inr (.inr (P a 15)) :: st) n I L P) ∧
  (∀ (st : List mm_V) z (l1 : mm_V) (l2 : mm_V), mm_E d 118 31 [(.inr (.inr z)), l1, l2] [] st n I L P = mm_E d 118 32 [(.inr (.inr z)), l1, l2] [] ((.inr (.inr z)) :: st) n I L P) ∧
  (∀ (lv : List mm_V) (st : List mm_V) a, (mm_ok n a 11) → mm_E d 118 32 lv [] (.inr (.inr (some a)) :: st) n I L P = mm_E d 118 35 lv [] (.inr (.inr (P a 8)) :: st) n I L P) ∧
  (∀ (st : List mm_V) z (l1 : mm_V) (l2 : mm_V), mm_E d 118 35 [(.inr (.inr z)), l1, l2] [] st n I L P = mm_E d 118 36 [(.inr (.inr z)), l1, l2] [] ((.inr (.inr z)) :: st) n I L P) ∧
  (∀ (lv : List mm_V) (st : List mm_V) a, (mm_ok n a 11) → mm_E d 118 36 lv [] (.inr (.inr (some a)) :: st) n I L P = mm_E d 118 39 lv [] (.inr (.inr (P a 2)) :: st) n I L P) ∧
  (∀ (st : List mm_V) z (l0 : mm_V) (l1 : mm_V), mm_E d 118 39 [l0, l1, (.inr (.inr z))] [] st n I L P = mm_E d 118 40 [l0, l1, (.inr (.inr z))] [] ((.inr (.inr z)) :: st) n I L P) ∧
  (∀ (st : List mm_V) z (l0 : mm_V) (l2 : mm_V), mm_E d 118 40 [l0, (.inl z), l2] [] st n I L P = mm_E d 118 41 [l0, (.inl z), l2] [] ((.inl z) :: st) n I L P) ∧
  (∀ (lv : List mm_V) a x0 x1 x2 x3, (mm_ok n a 0) → mm_E d 118 41 lv [] (.inl x3 :: .inr (.inr x2) :: .inr (.inr x1) :: .inr (.inr x0) :: .inr (.inr (some a)) :: []) n I L P = mm_kr d 118 44 lv [] [] n (mm_rn d 1 [.inr (.inr (some a)), .inr (.inr x0), .inr (.inr x1), .inr (.inr x2), .inl x3] n I L P)) ∧
  (∀ (st : List mm_V) z (l1 : mm_V) (l2 : mm_V), mm_E d 118 44 [(.inr (.inr z)), l1, l2] [] st n I L P = mm_E d 118 45 [(.inr (.inr z)), l1, l2] [] ((.inr (.inr z)) :: st) n I L P) ∧
  (∀ (lv : List mm_V) (st : List mm_V) a, (mm_ok n a 11) → mm_E d 118 45 lv [] (.inr (.inr (some a)) :: st) n I L P = mm_E d 118 48 lv [] (.inr (.inr (P a 15)) :: st) n I L P) ∧
  (∀ (st : List mm_V) z (l1 : mm_V) (l2 : mm_V), mm_E d 118 48 [(.inr (.inr z)), l1, l2] [] st n I L P = mm_E d 118 49 [(.inr (.inr z)), l1, l2] [] ((.inr (.inr z)) :: st) n I L P) ∧
  (∀ (lv : List mm_V) (st : List mm_V) a, (mm_ok n a 11) → mm_E d 118 49 lv [] (.inr (.inr (some a)) :: st) n I L P = mm_E d 118 52 lv [] (.inr (.inr (P a 8)) :: st) n I L P) ∧
  (∀ (st : List mm_V) z (l1 : mm_V) (l2 : mm_V), mm_E d 118 52 [(.inr (.inr z)), l1, l2] [] st n I L P = mm_E d 118 53 [(.inr (.inr z)), l1, l2] [] ((.inr (.inr z)) :: st) n I L P) ∧
  (∀ (lv : List mm_V) (st : List mm_V) a, (mm_ok n a 11) → mm_E d 118 53 lv [] (.inr (.inr (some a)) :: st) n I L P = mm_E d 118 56 lv [] (.inr (.inr (P a 2)) :: st) n I L P) ∧
  (∀ (st : List mm_V) z (l0 : mm_V) (l1 : mm_V), mm_E d 118 56 [l0, l1, (.inr (.inr z))] [] st n I L P = mm_E d 118 57 [l0, l1, (.inr (.inr z))] [] ((.inr (.inr z)) :: st) n I L P) ∧
  (∀ (st : List mm_V) z (l0 : mm_V) (l2 : mm_V), mm_E d 118 57 [l0, (.inl z), l2] [] st n I L P = mm_E d 118 58 [l0, (.inl z), l2] [] ((.inl z) :: st) n I L P) ∧
  (∀ (lv : List mm_V) a x0 x1 x2 x3 w0, (mm_ok n a 0) → mm_E d 118 58 lv [] (.inl x3 :: .inr (.inr x2) :: .inr (.inr x1) :: .inr (.inr x0) :: .inr (.inr (some a)) :: [.inl w0]) n I L P = mm_kr d 118 61 lv [] [.inl w0] n (mm_rn d 3 [.inr (.inr (some a)), .inr (.inr x0), .inr (.inr x1), .inr (.inr x2), .inl x3] n I L P)) ∧
  (∀ (lv : List mm_V) (st : List mm_V) a b, mm_E d 118 61 lv [] (.inl b :: .inl a :: st) n I L P = mm_E d 118 62 lv [] (.inl (mm_sub a b) :: st) n I L P) ∧
  (∀ (lv : List mm_V) z, mm_E d 118 62 lv [] [.inl z] n I L P = some (some (.inl z), n, I, L, P)) :=
  ⟨fun _ _ _ _ => mq_al (i := 0) rfl rfl,
   fun _ _ h0 => mq_cVr (na := 0) rfl rfl (Nat.le_of_ble_eq_true rfl) (Nat.le_of_ble_eq_true rfl) h0,
   fun _ _ _ => mq_if_ne rfl,
   fun _ _ _ _ => mq_il (i := 1) rfl rfl,
   fun _ _ => mq_push rfl,
   fun _ _ _ _ => mq_ic_lt rfl,
   fun _ _ _ _ => mq_il (i := 1) rfl rfl,
   fun _ _ => mq_push rfl,
   fun _ _ _ _ => mq_ic_le rfl,
   fun _ _ => mq_push rfl,
   fun _ _ => mq_ri rfl,
   fun _ _ _ _ => mq_al (i := 0) rfl rfl,
   fun _ _ h0 => mq_cVr (na := 0) rfl rfl (Nat.le_of_ble_eq_true rfl) (Nat.le_of_ble_eq_true rfl) h0,
   fun _ _ _ _ _ => mq_as (i := 2) rfl rfl rfl,
   fun _ _ _ _ => mq_al (i := 0) rfl rfl,
   fun _ _ _ h0 => mq_getR rfl h0,
   fun _ _ _ _ => mq_al (i := 0) rfl rfl,
   fun _ _ _ h0 => mq_getR rfl h0,
   fun _ _ _ _ => mq_al (i := 0) rfl rfl,
   fun _ _ _ h0 => mq_getR rfl h0,
   fun _ _ _ _ => mq_al (i := 2) rfl rfl,
   fun _ _ _ _ => mq_il (i := 1) rfl rfl,
   fun _ _ _ _ _ _ h0 => mq_cVr (na := 4) rfl rfl (Nat.le_of_ble_eq_true rfl) (Nat.le_of_ble_eq_true rfl) h0,
   fun _ _ _ _ => mq_al (i := 0) rfl rfl,
   fun _ _ _ h0 => mq_getR rfl h0,
   fun _ _ _ _ => mq_al (i := 0) rfl rfl,
   fun _ _ _ h0 => mq_getR rfl h0,
   fun _ _ _ _ => mq_al (i := 0) rfl rfl,
   fun _ _ _ h0 => mq_getR rfl h0,
   fun _ _ _ _ => mq_al (i := 2) rfl rfl,
   fun _ _ _ _ => mq_il (i := 1) rfl rfl,
   fun _ _ _ _ _ _ _ h0 => mq_cVr (na := 4) rfl rfl (Nat.le_of_ble_eq_true rfl) (Nat.le_of_ble_eq_true rfl) h0,
   fun _ _ _ _ => mq_bi rfl,
   fun _ _ => mq_ri rfl⟩
theorem eX11_saved (d n : Nat) (I L : mm_I) (P : mm_P) (x0 : Option Nat) (x1 : Int) : mm_rn (d + 1) 118 [.inr (.inr x0), .inl x1] n I L P = mm_E d 118 0 [.inr (.inr x0), .inl x1, mm_junk] [] [] n I L P := rfl

set_option maxRecDepth 20000 in
set_option maxHeartbeats 8000000 in
theorem kX11_cryAt (d n : Nat) (I L : mm_I) (P : mm_P) :
  (∀ (st : List mm_V) z (l1 : mm_V) (l2 : mm_V), mm_E d 119 0 [(.inr (.inr z)), l1, l2] [] st n I L P = mm_E d 119 1 [(.inr (.inr z)), l1, l2] [] ((.inr (.inr z)) :: st) n I L P) ∧
  (∀ (lv : List mm_V) a, (mm_ok n a 11) → mm_E d 119 1 lv [] (.inr (.inr (some a)) :: []) n I L P = mm_kr d 119 4 lv [] [] n (mm_rn d 92 [.inr (.inr (some a))] n I L P)) ∧
  (∀ (lv : List mm_V) (st : List mm_V) a, mm_E d 119 4 lv [] (.inl a :: st) n I L P = if a = 0 then mm_E d 119 7 lv [] st n I L P else mm_E d 119 27 lv [] st n I L P) ∧
  (∀ (st : List mm_V) z (l0 : mm_V) (l2 : mm_V), mm_E d 119 7 [l0, (.inl z), l2] [] st n I L P = mm_E d 119 8 [l0, (.inl z), l2] [] ((.inl z) :: st) n I L P) ∧
  (∀ (lv : List mm_V) (st : List mm_V), mm_E d 119 8 lv [] st n I L P = mm_E d 119 9 lv [] (.inl 1 :: st) n I L P) ∧
  (∀ (lv : List mm_V) (st : List mm_V) a b, mm_E d 119 9 lv [] (.inl b :: .inl a :: st) n I L P = if a < b then mm_E d 119 27 lv [] st n I L P else mm_E d 119 12 lv [] st n I L P) ∧
  (∀ (st : List mm_V) z (l0 : mm_V) (l2 : mm_V), mm_E d 119 12 [l0, (.inl z), l2] [] st n I L P = mm_E d 119 13 [l0, (.inl z), l2] [] ((.inl z) :: st) n I L P) ∧
  (∀ (lv : List mm_V) (st : List mm_V), mm_E d 119 13 lv [] st n I L P = mm_E d 119 15 lv [] (.inl 24 :: st) n I L P) ∧
  (∀ (lv : List mm_V) (st : List mm_V) a b, mm_E d 119 15 lv [] (.inl b :: .inl a :: st) n I L P = if b < a then mm_E d 119 27 lv [] st n I L P else mm_E d 119 18 lv [] st n I L P) ∧
  (∀ (st : List mm_V) z (l0 : mm_V) (l1 : mm_V), mm_E d 119 18 [l0, l1, (.inl z)] [] st n I L P = mm_E d 119 19 [l0, l1, (.inl z)] [] ((.inl z) :: st) n I L P) ∧
  (∀ (lv : List mm_V) (st : List mm_V) a, mm_E d 119 19 lv [] (.inl a :: st) n I L P = if a < 0 then mm_E d 119 27 lv [] st n I L P else mm_E d 119 22 lv [] st n I L P) ∧
  (∀ (st : List mm_V) z (l0 : mm_V) (l1 : mm_V), mm_E d 119 22 [l0, l1, (.inl z)] [] st n I L P = mm_E d 119 23 [l0, l1, (.inl z)] [] ((.inl z) :: st) n I L P) ∧
  (∀ (lv : List mm_V) (st : List mm_V), mm_E d 119 23 lv [] st n I L P = mm_E d 119 24 lv [] (.inl 1 :: st) n I L P) ∧
  (∀ (lv : List mm_V) (st : List mm_V) a b, mm_E d 119 24 lv [] (.inl b :: .inl a :: st) n I L P = if a ≤ b then mm_E d 119 29 lv [] st n I L P else mm_E d 119 27 lv [] st n I L P) ∧
  (∀ (lv : List mm_V) (st : List mm_V), mm_E d 119 27 lv [] st n I L P = mm_E d 119 28 lv [] (.inl (-1) :: st) n I L P) ∧
  (∀ (lv : List mm_V) z, mm_E d 119 28 lv [] [.inl z] n I L P = some (some (.inl z), n, I, L, P)) ∧
  (∀ (st : List mm_V) z (l1 : mm_V) (l2 : mm_V), mm_E d 119 29 [(.inr (.inr z)), l1, l2] [] st n I L P = mm_E d 119 30 [(.inr (.inr z)), l1, l2] [] ((.inr (.inr z)) :: st) n I L P) ∧
  (∀ (lv : List mm_V) (st : List mm_V) a, (mm_ok n a 11) → mm_E d 119 30 lv [] (.inr (.inr (some a)) :: st) n I L P = mm_E d 119 33 lv [] (.inr (.inr (P a 15)) :: st) n I L P) ∧
  (∀ (st : List mm_V) z (l1 : mm_V) (l2 : mm_V), mm_E d 119 33 [(.inr (.inr z)), l1, l2] [] st n I L P = mm_E d 119 34 [(.inr (.inr z)), l1, l2] [] ((.inr (.inr z)) :: st) n I L P) ∧
  (∀ (lv : List mm_V) (st : List mm_V) a, (mm_ok n a 11) → mm_E d 119 34 lv [] (.inr (.inr (some a)) :: st) n I L P = mm_E d 119 37 lv [] (.inr (.inr (P a 8)) :: st) n I L P) ∧
  (∀ (st : List mm_V) z (l1 : mm_V) (l2 : mm_V), mm_E d 119 37 [(.inr (.inr z)), l1, l2] [] st n I L P = mm_E d 119 38 [(.inr (.inr z)), l1, l2] [] ((.inr (.inr z)) :: st) n I L P) ∧
  (∀ (lv : List mm_V) (st : List mm_V) a, (mm_ok n a 11) → mm_E d 119 38 lv [] (.inr (.inr (some a)) :: st) n I L P = mm_E d 119 41 lv [] (.inr (.inr (P a 2)) :: st) n I L P) ∧
  (∀ (st : List mm_V) z (l1 : mm_V) (l2 : mm_V), mm_E d 119 41 [(.inr (.inr z)), l1, l2] [] st n I L P = mm_E d 119 42 [(.inr (.inr z)), l1, l2] [] ((.inr (.inr z)) :: st) n I L P) ∧
  (∀ (lv : List mm_V) a w0 w1 w2, (mm_ok n a 11) → mm_E d 119 42 lv [] (.inr (.inr (some a)) :: [.inr (.inr w0), .inr (.inr w1), .inr (.inr w2)]) n I L P = mm_kr d 119 45 lv [] [.inr (.inr w0), .inr (.inr w1), .inr (.inr w2)] n (mm_rn d 96 [.inr (.inr (some a))] n I L P)) ∧
  (∀ (st : List mm_V) z (l0 : mm_V) (l2 : mm_V), mm_E d 119 45 [l0, (.inl z), l2] [] st n I L P = mm_E d 119 46 [l0, (.inl z), l2] [] ((.inl z) :: st) n I L P) ∧
  (∀ (lv : List mm_V) a x0 x1 x2 x3, (mm_ok n a 0) → mm_E d 119 46 lv [] (.inl x3 :: .inr (.inr x2) :: .inr (.inr x1) :: .inr (.inr x0) :: .inr (.inr (some a)) :: []) n I L P = mm_kv d 119 49 lv [] [] n (mm_rn d 4 [.inr (.inr (some a)), .inr (.inr x0), .inr (.inr x1), .inr (.inr x2), .inl x3] n I L P)) ∧
  (∀ (st : List mm_V) z (l0 : mm_V) (l1 : mm_V), mm_E d 119 49 [l0, l1, (.inl z)] [] st n I L P = mm_E d 119 50 [l0, l1, (.inl z)] [] ((.inl z) :: st) n I L P) ∧
  (∀ (lv : List mm_V) (st : List mm_V) a, mm_E d 119 50 lv [] (.inl a :: st) n I L P = if a = 0 then mm_E d 119 53 lv [] st n I L P else mm_E d 119 63 lv [] st n I L P) ∧
  (∀ (st : List mm_V) z (l1 : mm_V) (l2 : mm_V), mm_E d 119 53 [(.inr (.inr z)), l1, l2] [] st n I L P = mm_E d 119 54 [(.inr (.inr z)), l1, l2] [] ((.inr (.inr z)) :: st) n I L P) ∧
  (∀ (lv : List mm_V) (st : List mm_V) a, (mm_ok n a 11) → mm_E d 119 54 lv [] (.inr (.inr (some a)) :: st) n I L P = mm_E d 119 57 lv [] (.inr (.inr (P a 15)) :: st) n I L P) ∧
  (∀ (lv : List mm_V) (st : List mm_V) a, (mm_ok n a 0) → mm_E d 119 57 lv [] (.inr (.inr (some a)) :: st) n I L P = mm_E d 119 60 lv [] (.inl (I a 2) :: st) n I L P) ∧
  (∀ (lv : List mm_V) (st : List mm_V), mm_E d 119 60 lv [] st n I L P = mm_E d 119 70 lv [] st n I L P) ∧
  (∀ (st : List mm_V) z (l1 : mm_V) (l2 : mm_V), mm_E d 119 63 [(.inr (.inr z)), l1, l2] [] st n I L P = mm_E d 119 64 [(.inr (.inr z)), l1, l2] [] ((.inr (.inr z)) :: st) n I L P) ∧
  (∀ (lv : List mm_V) (st : List mm_V) a, (mm_ok n a 11) → mm_E d 119 64 lv [] (.inr (.inr (some a)) :: st) n I L P = mm_E d 119 67 lv [] (.inr (.inr (P a 15)) :: st) n I L P) ∧
  (∀ (lv : List mm_V) (st : List mm_V) a, (mm_ok n a 0) → mm_E d 119 67 lv [] (.inr (.inr (some a)) :: st) n I L P = mm_E d 119 70 lv [] (.inl (I a 3) :: st) n I L P) ∧
  (∀ (lv : List mm_V) z, mm_E d 119 70 lv [] [.inl z] n I L P = some (some (.inl z), n, I, L, P)) :=
  ⟨fun _ _ _ _ => mq_al (i := 0) rfl rfl,
   fun _ _ h0 => mq_cVr (na := 0) rfl rfl (Nat.le_of_ble_eq_true rfl) (Nat.le_of_ble_eq_true rfl) h0,
   fun _ _ _ => mq_if_ne rfl,
   fun _ _ _ _ => mq_il (i := 1) rfl rfl,
   fun _ _ => mq_push rfl,
   fun _ _ _ _ => mq_ic_lt rfl,
   fun _ _ _ _ => mq_il (i := 1) rfl rfl,
   fun _ _ => mq_push rfl,
   fun _ _ _ _ => mq_ic_gt rfl,
   fun _ _ _ _ => mq_il (i := 2) rfl rfl,
   fun _ _ _ => mq_if_lt rfl,
   fun _ _ _ _ => mq_il (i := 2) rfl rfl,
   fun _ _ => mq_push rfl,
   fun _ _ _ _ => mq_ic_le rfl,
   fun _ _ => mq_push rfl,
   fun _ _ => mq_ri rfl,
   fun _ _ _ _ => mq_al (i := 0) rfl rfl,
   fun _ _ _ h0 => mq_getR rfl h0,
   fun _ _ _ _ => mq_al (i := 0) rfl rfl,
   fun _ _ _ h0 => mq_getR rfl h0,
   fun _ _ _ _ => mq_al (i := 0) rfl rfl,
   fun _ _ _ h0 => mq_getR rfl h0,
   fun _ _ _ _ => mq_al (i := 0) rfl rfl,
   fun _ _ _ _ _ h0 => mq_cVr (na := 0) rfl rfl (Nat.le_of_ble_eq_true rfl) (Nat.le_of_ble_eq_true rfl) h0,
   fun _ _ _ _ => mq_il (i := 1) rfl rfl,
   fun _ _ _ _ _ _ h0 => mq_cVv (na := 4) rfl rfl (Nat.le_of_ble_eq_true rfl) (Nat.le_of_ble_eq_true rfl) h0,
   fun _ _ _ _ => mq_il (i := 2) rfl rfl,
   fun _ _ _ => mq_if_ne rfl,
   fun _ _ _ _ => mq_al (i := 0) rfl rfl,
   fun _ _ _ h0 => mq_getR rfl h0,
   fun _ _ _ h0 => mq_getI rfl h0,
   fun _ _ => mq_go rfl,
   fun _ _ _ _ => mq_al (i := 0) rfl rfl,
   fun _ _ _ h0 => mq_getR rfl h0,
   fun _ _ _ h0 => mq_getI rfl h0,
   fun _ _ => mq_ri rfl⟩
theorem eX11_cryAt (d n : Nat) (I L : mm_I) (P : mm_P) (x0 : Option Nat) (x1 : Int) (x2 : Int) : mm_rn (d + 1) 119 [.inr (.inr x0), .inl x1, .inl x2] n I L P = mm_E d 119 0 [.inr (.inr x0), .inl x1, .inl x2] [] [] n I L P := rfl

set_option maxRecDepth 20000 in
set_option maxHeartbeats 8000000 in
theorem kX11_quiet (d n : Nat) (I L : mm_I) (P : mm_P) :
  (∀ (st : List mm_V) z, mm_E d 120 0 [(.inr (.inr z))] [] st n I L P = mm_E d 120 1 [(.inr (.inr z))] [] ((.inr (.inr z)) :: st) n I L P) ∧
  (∀ (lv : List mm_V) a, (mm_ok n a 11) → mm_E d 120 1 lv [] (.inr (.inr (some a)) :: []) n I L P = mm_kr d 120 4 lv [] [] n (mm_rn d 92 [.inr (.inr (some a))] n I L P)) ∧
  (∀ (lv : List mm_V) (st : List mm_V) a, mm_E d 120 4 lv [] (.inl a :: st) n I L P = if a = 0 then mm_E d 120 11 lv [] st n I L P else mm_E d 120 7 lv [] st n I L P) ∧
  (∀ (lv : List mm_V) (st : List mm_V), mm_E d 120 7 lv [] st n I L P = mm_E d 120 8 lv [] (.inl (-1) :: st) n I L P) ∧
  (∀ (lv : List mm_V) (st : List mm_V), mm_E d 120 8 lv [] st n I L P = mm_E d 120 30 lv [] st n I L P) ∧
  (∀ (st : List mm_V) z, mm_E d 120 11 [(.inr (.inr z))] [] st n I L P = mm_E d 120 12 [(.inr (.inr z))] [] ((.inr (.inr z)) :: st) n I L P) ∧
  (∀ (lv : List mm_V) (st : List mm_V) a, (mm_ok n a 11) → mm_E d 120 12 lv [] (.inr (.inr (some a)) :: st) n I L P = mm_E d 120 15 lv [] (.inr (.inr (P a 15)) :: st) n I L P) ∧
  (∀ (st : List mm_V) z, mm_E d 120 15 [(.inr (.inr z))] [] st n I L P = mm_E d 120 16 [(.inr (.inr z))] [] ((.inr (.inr z)) :: st) n I L P) ∧
  (∀ (lv : List mm_V) (st : List mm_V) a, (mm_ok n a 11) → mm_E d 120 16 lv [] (.inr (.inr (some a)) :: st) n I L P = mm_E d 120 19 lv [] (.inr (.inr (P a 8)) :: st) n I L P) ∧
  (∀ (st : List mm_V) z, mm_E d 120 19 [(.inr (.inr z))] [] st n I L P = mm_E d 120 20 [(.inr (.inr z))] [] ((.inr (.inr z)) :: st) n I L P) ∧
  (∀ (lv : List mm_V) (st : List mm_V) a, (mm_ok n a 11) → mm_E d 120 20 lv [] (.inr (.inr (some a)) :: st) n I L P = mm_E d 120 23 lv [] (.inr (.inr (P a 2)) :: st) n I L P) ∧
  (∀ (st : List mm_V) z, mm_E d 120 23 [(.inr (.inr z))] [] st n I L P = mm_E d 120 24 [(.inr (.inr z))] [] ((.inr (.inr z)) :: st) n I L P) ∧
  (∀ (lv : List mm_V) a w0 w1 w2, (mm_ok n a 11) → mm_E d 120 24 lv [] (.inr (.inr (some a)) :: [.inr (.inr w0), .inr (.inr w1), .inr (.inr w2)]) n I L P = mm_kr d 120 27 lv [] [.inr (.inr w0), .inr (.inr w1), .inr (.inr w2)] n (mm_rn d 96 [.inr (.inr (some a))] n I L P)) ∧
  (∀ (lv : List mm_V) a x0 x1 x2, (mm_ok n a 0) → mm_E d 120 27 lv [] (.inr (.inr x2) :: .inr (.inr x1) :: .inr (.inr x0) :: .inr (.inr (some a)) :: []) n I L P = mm_kr d 120 30 lv [] [] n (mm_rn d 5 [.inr (.inr (some a)), .inr (.inr x0), .inr (.inr x1), .inr (.inr x2)] n I L P)) ∧
  (∀ (lv : List mm_V) z, mm_E d 120 30 lv [] [.inl z] n I L P = some (some (.inl z), n, I, L, P)) :=
  ⟨fun _ _ => mq_al (i := 0) rfl rfl,
   fun _ _ h0 => mq_cVr (na := 0) rfl rfl (Nat.le_of_ble_eq_true rfl) (Nat.le_of_ble_eq_true rfl) h0,
   fun _ _ _ => mq_if_eq rfl,
   fun _ _ => mq_push rfl,
   fun _ _ => mq_go rfl,
   fun _ _ => mq_al (i := 0) rfl rfl,
   fun _ _ _ h0 => mq_getR rfl h0,
   fun _ _ => mq_al (i := 0) rfl rfl,
   fun _ _ _ h0 => mq_getR rfl h0,
   fun _ _ => mq_al (i := 0) rfl rfl,
   fun _ _ _ h0 => mq_getR rfl h0,
   fun _ _ => mq_al (i := 0) rfl rfl,
   fun _ _ _ _ _ h0 => mq_cVr (na := 0) rfl rfl (Nat.le_of_ble_eq_true rfl) (Nat.le_of_ble_eq_true rfl) h0,
   fun _ _ _ _ _ h0 => mq_cVr (na := 3) rfl rfl (Nat.le_of_ble_eq_true rfl) (Nat.le_of_ble_eq_true rfl) h0,
   fun _ _ => mq_ri rfl⟩
theorem eX11_quiet (d n : Nat) (I L : mm_I) (P : mm_P) (x0 : Option Nat) : mm_rn (d + 1) 120 [.inr (.inr x0)] n I L P = mm_E d 120 0 [.inr (.inr x0)] [] [] n I L P := rfl

set_option maxRecDepth 20000 in
set_option maxHeartbeats 8000000 in
theorem kX11_call (d n : Nat) (I L : mm_I) (P : mm_P) :
  (∀ (st : List mm_V) z (l1 : mm_V) (l2 : mm_V), mm_E d 121 0 [(.inr (.inr z)), l1, l2] [] st n I L P = mm_E d 121 1 [(.inr (.inr z)), l1, l2] [] ((.inr (.inr z)) :: st) n I L P) ∧
  (∀ (lv : List mm_V) a, (mm_ok n a 11) → mm_E d 121 1 lv [] (.inr (.inr (some a)) :: []) n I L P = mm_kr d 121 4 lv [] [] n (mm_rn d 92 [.inr (.inr (some a))] n I L P)) ∧
  (∀ (lv : List mm_V) (st : List mm_V) a, mm_E d 121 4 lv [] (.inl a :: st) n I L P = if a = 0 then mm_E d 121 7 lv [] st n I L P else mm_E d 121 27 lv [] st n I L P) ∧
  (∀ (st : List mm_V) z (l0 : mm_V) (l2 : mm_V), mm_E d 121 7 [l0, (.inl z), l2] [] st n I L P = mm_E d 121 8 [l0, (.inl z), l2] [] ((.inl z) :: st) n I L P) ∧
  (∀ (lv : List mm_V) (st : List mm_V), mm_E d 121 8 lv [] st n I L P = mm_E d 121 9 lv [] (.inl 1 :: st) n I L P) ∧
  (∀ (lv : List mm_V) (st : List mm_V) a b, mm_E d 121 9 lv [] (.inl b :: .inl a :: st) n I L P = if a < b then mm_E d 121 27 lv [] st n I L P else mm_E d 121 12 lv [] st n I L P) ∧
  (∀ (st : List mm_V) z (l0 : mm_V) (l2 : mm_V), mm_E d 121 12 [l0, (.inl z), l2] [] st n I L P = mm_E d 121 13 [l0, (.inl z), l2] [] ((.inl z) :: st) n I L P) ∧
  (∀ (lv : List mm_V) (st : List mm_V), mm_E d 121 13 lv [] st n I L P = mm_E d 121 15 lv [] (.inl 40 :: st) n I L P) ∧
  (∀ (lv : List mm_V) (st : List mm_V) a b, mm_E d 121 15 lv [] (.inl b :: .inl a :: st) n I L P = if b < a then mm_E d 121 27 lv [] st n I L P else mm_E d 121 18 lv [] st n I L P) ∧
  (∀ (st : List mm_V) z (l0 : mm_V) (l1 : mm_V), mm_E d 121 18 [l0, l1, (.inl z)] [] st n I L P = mm_E d 121 19 [l0, l1, (.inl z)] [] ((.inl z) :: st) n I L P) ∧
  (∀ (lv : List mm_V) (st : List mm_V) a, mm_E d 121 19 lv [] (.inl a :: st) n I L P = if a < 0 then mm_E d 121 27 lv [] st n I L P else mm_E d 121 22 lv [] st n I L P) ∧
  (∀ (st : List mm_V) z (l0 : mm_V) (l1 : mm_V), mm_E d 121 22 [l0, l1, (.inl z)] [] st n I L P = mm_E d 121 23 [l0, l1, (.inl z)] [] ((.inl z) :: st) n I L P) ∧
  (∀ (lv : List mm_V) (st : List mm_V), mm_E d 121 23 lv [] st n I L P = mm_E d 121 24 lv [] (.inl 1 :: st) n I L P) ∧
  (∀ (lv : List mm_V) (st : List mm_V) a b, mm_E d 121 24 lv [] (.inl b :: .inl a :: st) n I L P = if a ≤ b then mm_E d 121 29 lv [] st n I L P else mm_E d 121 27 lv [] st n I L P) ∧
  (∀ (lv : List mm_V) (st : List mm_V), mm_E d 121 27 lv [] st n I L P = mm_E d 121 28 lv [] (.inl (-1) :: st) n I L P) ∧
  (∀ (lv : List mm_V) z, mm_E d 121 28 lv [] [.inl z] n I L P = some (some (.inl z), n, I, L, P)) ∧
  (∀ (st : List mm_V) z (l0 : mm_V) (l1 : mm_V), mm_E d 121 29 [l0, l1, (.inl z)] [] st n I L P = mm_E d 121 30 [l0, l1, (.inl z)] [] ((.inl z) :: st) n I L P) ∧
  (∀ (lv : List mm_V) (st : List mm_V) a, mm_E d 121 30 lv [] (.inl a :: st) n I L P = if a = 0 then mm_E d 121 33 lv [] st n I L P else mm_E d 121 41 lv [] st n I L P) ∧
  (∀ (st : List mm_V) z (l1 : mm_V) (l2 : mm_V), mm_E d 121 33 [(.inr (.inr z)), l1, l2] [] st n I L P = mm_E d 121 34 [(.inr (.inr z)), l1, l2] [] ((.inr (.inr z)) :: st) n I L P) ∧
  (∀ (st : List mm_V) z (l0 : mm_V) (l2 : mm_V), mm_E d 121 34 [l0, (.inl z), l2] [] st n I L P = mm_E d 121 35 [l0, (.inl z), l2] [] ((.inl z) :: st) n I L P) ∧
  (∀ (lv : List mm_V) a x0, (mm_ok n a 11) → mm_E d 121 35 lv [] (.inl x0 :: .inr (.inr (some a)) :: []) n I L P = mm_kr d 121 38 lv [] [] n (mm_rn d 122 [.inr (.inr (some a)), .inl x0] n I L P)) ∧
  (∀ (lv : List mm_V) (st : List mm_V), mm_E d 121 38 lv [] st n I L P = mm_E d 121 52 lv [] st n I L P) ∧
  (∀ (st : List mm_V) z (l1 : mm_V) (l2 : mm_V), mm_E d 121 41 [(.inr (.inr z)), l1, l2] [] st n I L P = mm_E d 121 42 [(.inr (.inr z)), l1, l2] [] ((.inr (.inr z)) :: st) n I L P) ∧
  (∀ (st : List mm_V) z (l1 : mm_V) (l2 : mm_V), mm_E d 121 42 [(.inr (.inr z)), l1, l2] [] st n I L P = mm_E d 121 43 [(.inr (.inr z)), l1, l2] [] ((.inr (.inr z)) :: st) n I L P) ∧
  (∀ (st : List mm_V) z (l0 : mm_V) (l2 : mm_V), mm_E d 121 43 [l0, (.inl z), l2] [] st n I L P = mm_E d 121 44 [l0, (.inl z), l2] [] ((.inl z) :: st) n I L P) ∧
  (∀ (lv : List mm_V) (st : List mm_V), mm_E d 121 44 lv [] st n I L P = mm_E d 121 45 lv [] (.inl 1 :: st) n I L P) ∧
  (∀ (lv : List mm_V) (st : List mm_V) a b, mm_E d 121 45 lv [] (.inl b :: .inl a :: st) n I L P = mm_E d 121 46 lv [] (.inl (mm_sub a b) :: st) n I L P) ∧
  (∀ (lv : List mm_V) a x0 w0, (mm_ok n a 11) → mm_E d 121 46 lv [] (.inl x0 :: .inr (.inr (some a)) :: [.inr (.inr w0)]) n I L P = mm_kr d 121 49 lv [] [.inr (.inr w0)] n (mm_rn d 122 [.inr (.inr (some a)), .inl x0] n I L P)) ∧
  (∀ (lv : List mm_V) a x0, (mm_ok n a 11) → mm_E d 121 49 lv [] (.inl x0 :: .inr (.inr (some a)) :: []) n I L P = mm_kr d 121 52 lv [] [] n (mm_rn d 123 [.inr (.inr (some a)), .inl x0] n I L P)) ∧
  (∀ (lv : List mm_V) z, mm_E d 121 52 lv [] [.inl z] n I L P = some (some (.inl z), n, I, L, P)) :=
  ⟨fun _ _ _ _ => mq_al (i := 0) rfl rfl,
   fun _ _ h0 => mq_cVr (na := 0) rfl rfl (Nat.le_of_ble_eq_true rfl) (Nat.le_of_ble_eq_true rfl) h0,
   fun _ _ _ => mq_if_ne rfl,
   fun _ _ _ _ => mq_il (i := 1) rfl rfl,
   fun _ _ => mq_push rfl,
   fun _ _ _ _ => mq_ic_lt rfl,
   fun _ _ _ _ => mq_il (i := 1) rfl rfl,
   fun _ _ => mq_push rfl,
   fun _ _ _ _ => mq_ic_gt rfl,
   fun _ _ _ _ => mq_il (i := 2) rfl rfl,
   fun _ _ _ => mq_if_lt rfl,
   fun _ _ _ _ => mq_il (i := 2) rfl rfl,
   fun _ _ => mq_push rfl,
   fun _ _ _ _ => mq_ic_le rfl,
   fun _ _ => mq_push rfl,
   fun _ _ => mq_ri rfl,
   fun _ _ _ _ => mq_il (i := 2) rfl rfl,
   fun _ _ _ => mq_if_ne rfl,
   fun _ _ _ _ => mq_al (i := 0) rfl rfl,
   fun _ _ _ _ => mq_il (i := 1) rfl rfl,
   fun _ _ _ h0 => mq_cVr (na := 1) rfl rfl (Nat.le_of_ble_eq_true rfl) (Nat.le_of_ble_eq_true rfl) h0,
   fun _ _ => mq_go rfl,
   fun _ _ _ _ => mq_al (i := 0) rfl rfl,
   fun _ _ _ _ => mq_al (i := 0) rfl rfl,
   fun _ _ _ _ => mq_il (i := 1) rfl rfl,
   fun _ _ => mq_push rfl,
   fun _ _ _ _ => mq_bi rfl,
   fun _ _ _ _ h0 => mq_cVr (na := 1) rfl rfl (Nat.le_of_ble_eq_true rfl) (Nat.le_of_ble_eq_true rfl) h0,
   fun _ _ _ h0 => mq_cVr (na := 1) rfl rfl (Nat.le_of_ble_eq_true rfl) (Nat.le_of_ble_eq_true rfl) h0,
   fun _ _ => mq_ri rfl⟩
theorem eX11_call (d n : Nat) (I L : mm_I) (P : mm_P) (x0 : Option Nat) (x1 : Int) (x2 : Int) : mm_rn (d + 1) 121 [.inr (.inr x0), .inl x1, .inl x2] n I L P = mm_E d 121 0 [.inr (.inr x0), .inl x1, .inl x2] [] [] n I L P := rfl

set_option maxRecDepth 20000 in
set_option maxHeartbeats 8000000 in
theorem kX11_callValue (d n : Nat) (I L : mm_I) (P : mm_P) :
  (∀ (lv : List mm_V) (st : List mm_V), mm_E d 122 0 lv [] st n I L P = mm_E d 122 1 lv [] (.inl 0 :: st) n I L P) ∧
  (∀ (st : List mm_V) z (l0 : mm_V) (l1 : mm_V) (l2 : mm_V) (l3 : mm_V) (l4 : mm_V) (l5 : mm_V) (l6 : mm_V), mm_E d 122 1 [l0, l1, l2, l3, l4, l5, l6] [] ((.inl z) :: st) n I L P = mm_E d 122 2 [l0, l1, (.inl z), l3, l4, l5, l6] [] st n I L P) ∧
  (∀ (lv : List mm_V) (st : List mm_V), mm_E d 122 2 lv [] st n I L P = mm_E d 122 3 lv [] (.inl 0 :: st) n I L P) ∧
  (∀ (st : List mm_V) z (l0 : mm_V) (l1 : mm_V) (l2 : mm_V) (l3 : mm_V) (l4 : mm_V) (l5 : mm_V) (l6 : mm_V), mm_E d 122 3 [l0, l1, l2, l3, l4, l5, l6] [] ((.inl z) :: st) n I L P = mm_E d 122 4 [l0, l1, l2, (.inl z), l4, l5, l6] [] st n I L P) ∧
  (∀ (st : List mm_V) z (l1 : mm_V) (l2 : mm_V) (l3 : mm_V) (l4 : mm_V) (l5 : mm_V) (l6 : mm_V), mm_E d 122 5 [(.inr (.inr z)), l1, l2, l3, l4, l5, l6] [] st n I L P = mm_E d 122 6 [(.inr (.inr z)), l1, l2, l3, l4, l5, l6] [] ((.inr (.inr z)) :: st) n I L P) ∧
  (∀ (lv : List mm_V) (st : List mm_V) a, (mm_ok n a 11) → mm_E d 122 6 lv [] (.inr (.inr (some a)) :: st) n I L P = mm_E d 122 9 lv [] (.inr (.inr (P a 2)) :: st) n I L P) ∧
  (∀ (lv : List mm_V) (st : List mm_V) a, (mm_ok n a 9) → mm_E d 122 9 lv [] (.inr (.inr (some a)) :: st) n I L P = mm_E d 122 12 lv [] (.inl (I a 0) :: st) n I L P) ∧
  (∀ (lv : List mm_V) (st : List mm_V) a b, mm_E d 122 12 lv [] (.inl b :: .inl a :: st) n I L P = if b ≤ a then mm_E d 122 33 lv [] st n I L P else mm_E d 122 15 lv [] st n I L P) ∧
  (∀ (st : List mm_V) z (l0 : mm_V) (l1 : mm_V) (l3 : mm_V) (l4 : mm_V) (l5 : mm_V) (l6 : mm_V), mm_E d 122 15 [l0, l1, (.inl z), l3, l4, l5, l6] [] st n I L P = mm_E d 122 16 [l0, l1, (.inl z), l3, l4, l5, l6] [] ((.inl z) :: st) n I L P) ∧
  (∀ (st : List mm_V) z (l1 : mm_V) (l2 : mm_V) (l3 : mm_V) (l4 : mm_V) (l5 : mm_V) (l6 : mm_V), mm_E d 122 16 [(.inr (.inr z)), l1, l2, l3, l4, l5, l6] [] st n I L P = mm_E d 122 17 [(.inr (.inr z)), l1, l2, l3, l4, l5, l6] [] ((.inr (.inr z)) :: st) n I L P) ∧
  (∀ (lv : List mm_V) (st : List mm_V) a, (mm_ok n a 11) → mm_E d 122 17 lv [] (.inr (.inr (some a)) :: st) n I L P = mm_E d 122 20 lv [] (.inr (.inr (P a 2)) :: st) n I L P) ∧
  (∀ (lv : List mm_V) (st : List mm_V) a, (mm_ok n a 9) → mm_E d 122 20 lv [] (.inr (.inr (some a)) :: st) n I L P = mm_E d 122 23 lv [] (.inr (.inr (P a 5)) :: st) n I L P) ∧
  (∀ (st : List mm_V) z (l0 : mm_V) (l1 : mm_V) (l2 : mm_V) (l4 : mm_V) (l5 : mm_V) (l6 : mm_V), mm_E d 122 23 [l0, l1, l2, (.inl z), l4, l5, l6] [] st n I L P = mm_E d 122 24 [l0, l1, l2, (.inl z), l4, l5, l6] [] ((.inl z) :: st) n I L P) ∧
  (∀ (lv : List mm_V) (st : List mm_V) a i, (mm_ix n a 20 i) → mm_E d 122 24 lv [] (.inl i :: .inr (.inr (some a)) :: st) n I L P = mm_E d 122 25 lv [] (.inl (I a i.toNat) :: st) n I L P) ∧
  (∀ (lv : List mm_V) (st : List mm_V) a b, mm_E d 122 25 lv [] (.inl b :: .inl a :: st) n I L P = mm_E d 122 26 lv [] (.inl (mm_add a b) :: st) n I L P) ∧
  (∀ (st : List mm_V) z (l0 : mm_V) (l1 : mm_V) (l2 : mm_V) (l3 : mm_V) (l4 : mm_V) (l5 : mm_V) (l6 : mm_V), mm_E d 122 26 [l0, l1, l2, l3, l4, l5, l6] [] ((.inl z) :: st) n I L P = mm_E d 122 27 [l0, l1, (.inl z), l3, l4, l5, l6] [] st n I L P) ∧
  (∀ (st : List mm_V) z (l0 : mm_V) (l1 : mm_V) (l2 : mm_V) (l4 : mm_V) (l5 : mm_V) (l6 : mm_V), mm_E d 122 27 [l0, l1, l2, (.inl z), l4, l5, l6] [] st n I L P = mm_E d 122 30 [l0, l1, l2, (.inl (mm_add z 1)), l4, l5, l6] [] st n I L P) ∧
  (∀ (lv : List mm_V) (st : List mm_V), mm_E d 122 30 lv [] st n I L P = mm_E d 122 4 lv [] st n I L P) ∧
  (∀ (lv : List mm_V) (st : List mm_V), mm_E d 122 33 lv [] st n I L P = mm_E d 122 34 lv [] (.inl 0 :: st) n I L P) ∧
  (∀ (st : List mm_V) z (l0 : mm_V) (l1 : mm_V) (l2 : mm_V) (l3 : mm_V) (l4 : mm_V) (l5 : mm_V) (l6 : mm_V), mm_E d 122 34 [l0, l1, l2, l3, l4, l5, l6] [] ((.inl z) :: st) n I L P = mm_E d 122 35 [l0, l1, l2, (.inl z), l4, l5, l6] [] st n I L P) ∧
  (∀ (lv : List mm_V) (st : List mm_V), mm_E d 122 35 lv [] st n I L P = mm_E d 122 36 lv [] (.inl 0 :: st) n I L P) ∧
  (∀ (st : List mm_V) z (l0 : mm_V) (l1 : mm_V) (l2 : mm_V) (l3 : mm_V) (l4 : mm_V) (l5 : mm_V) (l6 : mm_V), mm_E d 122 36 [l0, l1, l2, l3, l4, l5, l6] [] ((.inl z) :: st) n I L P = mm_E d 122 38 [l0, l1, l2, l3, (.inl z), l5, l6] [] st n I L P) ∧
  (∀ (st : List mm_V) z (l0 : mm_V) (l2 : mm_V) (l3 : mm_V) (l4 : mm_V) (l5 : mm_V) (l6 : mm_V), mm_E d 122 40 [l0, (.inl z), l2, l3, l4, l5, l6] [] st n I L P = mm_E d 122 41 [l0, (.inl z), l2, l3, l4, l5, l6] [] ((.inl z) :: st) n I L P) ∧
  (∀ (lv : List mm_V) (st : List mm_V) a b, mm_E d 122 41 lv [] (.inl b :: .inl a :: st) n I L P = if b ≤ a then mm_E d 122 117 lv [] st n I L P else mm_E d 122 44 lv [] st n I L P) ∧
  (∀ (st : List mm_V) z (l0 : mm_V) (l1 : mm_V) (l3 : mm_V) (l4 : mm_V) (l5 : mm_V) (l6 : mm_V), mm_E d 122 44 [l0, l1, (.inl z), l3, l4, l5, l6] [] st n I L P = mm_E d 122 45 [l0, l1, (.inl z), l3, l4, l5, l6] [] ((.inl z) :: st) n I L P) ∧
  (∀ (lv : List mm_V) (st : List mm_V) a, mm_E d 122 45 lv [] (.inl a :: st) n I L P = if a ≤ 0 then mm_E d 122 117 lv [] st n I L P else mm_E d 122 48 lv [] st n I L P) ∧
  (∀ (lv : List mm_V) (st : List mm_V), mm_E d 122 48 lv [] st n I L P = mm_E d 122 49 lv [] (.inl 0 :: st) n I L P) ∧
  (∀ (st : List mm_V) z (l0 : mm_V) (l1 : mm_V) (l2 : mm_V) (l3 : mm_V) (l4 : mm_V) (l5 : mm_V) (l6 : mm_V), mm_E d 122 49 [l0, l1, l2, l3, l4, l5, l6] [] ((.inl z) :: st) n I L P = mm_E d 122 51 [l0, l1, l2, l3, l4, (.inl z), l6] [] st n I L P) ∧
  (∀ (lv : List mm_V) (st : List mm_V), mm_E d 122 51 lv [] st n I L P = mm_E d 122 52 lv [] (.inl 0 :: st) n I L P) ∧
  (∀ (st : List mm_V) z (l0 : mm_V) (l1 : mm_V) (l2 : mm_V) (l3 : mm_V) (l4 : mm_V) (l5 : mm_V) (l6 : mm_V), mm_E d 122 52 [l0, l1, l2, l3, l4, l5, l6] [] ((.inl z) :: st) n I L P = mm_E d 122 54 [l0, l1, l2, l3, l4, l5, (.inl z)] [] st n I L P) ∧
  (∀ (st : List mm_V) z (l1 : mm_V) (l2 : mm_V) (l3 : mm_V) (l4 : mm_V) (l5 : mm_V) (l6 : mm_V), mm_E d 122 56 [(.inr (.inr z)), l1, l2, l3, l4, l5, l6] [] st n I L P = mm_E d 122 57 [(.inr (.inr z)), l1, l2, l3, l4, l5, l6] [] ((.inr (.inr z)) :: st) n I L P) ∧
  (∀ (lv : List mm_V) (st : List mm_V) a, (mm_ok n a 11) → mm_E d 122 57 lv [] (.inr (.inr (some a)) :: st) n I L P = mm_E d 122 60 lv [] (.inr (.inr (P a 2)) :: st) n I L P) ∧
  (∀ (lv : List mm_V) (st : List mm_V) a, (mm_ok n a 9) → mm_E d 122 60 lv [] (.inr (.inr (some a)) :: st) n I L P = mm_E d 122 63 lv [] (.inl (I a 0) :: st) n I L P) ∧
  (∀ (lv : List mm_V) (st : List mm_V) a b, mm_E d 122 63 lv [] (.inl b :: .inl a :: st) n I L P = if b ≤ a then mm_E d 122 106 lv [] st n I L P else mm_E d 122 66 lv [] st n I L P) ∧
  (∀ (st : List mm_V) z (l0 : mm_V) (l1 : mm_V) (l2 : mm_V) (l3 : mm_V) (l4 : mm_V) (l6 : mm_V), mm_E d 122 66 [l0, l1, l2, l3, l4, (.inl z), l6] [] st n I L P = mm_E d 122 68 [l0, l1, l2, l3, l4, (.inl z), l6] [] ((.inl z) :: st) n I L P) ∧
  (∀ (st : List mm_V) z (l1 : mm_V) (l2 : mm_V) (l3 : mm_V) (l4 : mm_V) (l5 : mm_V) (l6 : mm_V), mm_E d 122 68 [(.inr (.inr z)), l1, l2, l3, l4, l5, l6] [] st n I L P = mm_E d 122 69 [(.inr (.inr z)), l1, l2, l3, l4, l5, l6] [] ((.inr (.inr z)) :: st) n I L P) ∧
  (∀ (lv : List mm_V) (st : List mm_V) a, (mm_ok n a 11) → mm_E d 122 69 lv [] (.inr (.inr (some a)) :: st) n I L P = mm_E d 122 72 lv [] (.inr (.inr (P a 2)) :: st) n I L P) ∧
  (∀ (lv : List mm_V) (st : List mm_V) a, (mm_ok n a 9) → mm_E d 122 72 lv [] (.inr (.inr (some a)) :: st) n I L P = mm_E d 122 75 lv [] (.inr (.inr (P a 5)) :: st) n I L P) ∧
  (∀ (st : List mm_V) z (l0 : mm_V) (l1 : mm_V) (l2 : mm_V) (l3 : mm_V) (l4 : mm_V) (l5 : mm_V), mm_E d 122 75 [l0, l1, l2, l3, l4, l5, (.inl z)] [] st n I L P = mm_E d 122 77 [l0, l1, l2, l3, l4, l5, (.inl z)] [] ((.inl z) :: st) n I L P) ∧
  (∀ (lv : List mm_V) (st : List mm_V) a i, (mm_ix n a 20 i) → mm_E d 122 77 lv [] (.inl i :: .inr (.inr (some a)) :: st) n I L P = mm_E d 122 78 lv [] (.inl (I a i.toNat) :: st) n I L P) ∧
  (∀ (lv : List mm_V) (st : List mm_V), mm_E d 122 78 lv [] st n I L P = mm_E d 122 81 lv [] (.inl 1000 :: st) n I L P) ∧
  (∀ (st : List mm_V) z (l1 : mm_V) (l2 : mm_V) (l3 : mm_V) (l4 : mm_V) (l5 : mm_V) (l6 : mm_V), mm_E d 122 81 [(.inr (.inr z)), l1, l2, l3, l4, l5, l6] [] st n I L P = mm_E d 122 82 [(.inr (.inr z)), l1, l2, l3, l4, l5, l6] [] ((.inr (.inr z)) :: st) n I L P) ∧
  (∀ (lv : List mm_V) (st : List mm_V) a, (mm_ok n a 11) → mm_E d 122 82 lv [] (.inr (.inr (some a)) :: st) n I L P = mm_E d 122 85 lv [] (.inr (.inr (P a 8)) :: st) n I L P) ∧
  (∀ (lv : List mm_V) (st : List mm_V) a, (mm_ok n a 5) → mm_E d 122 85 lv [] (.inr (.inr (some a)) :: st) n I L P = mm_E d 122 88 lv [] (.inr (.inr (P a 0)) :: st) n I L P) ∧
  (∀ (st : List mm_V) z (l0 : mm_V) (l1 : mm_V) (l2 : mm_V) (l3 : mm_V) (l4 : mm_V) (l5 : mm_V), mm_E d 122 88 [l0, l1, l2, l3, l4, l5, (.inl z)] [] st n I L P = mm_E d 122 90 [l0, l1, l2, l3, l4, l5, (.inl z)] [] ((.inl z) :: st) n I L P) ∧
  (∀ (lv : List mm_V) (st : List mm_V) a i, (mm_ix n a 20 i) → mm_E d 122 90 lv [] (.inl i :: .inr (.inr (some a)) :: st) n I L P = mm_E d 122 91 lv [] (.inl (I a i.toNat) :: st) n I L P) ∧
  (∀ (lv : List mm_V) (st : List mm_V) a b, mm_E d 122 91 lv [] (.inl b :: .inl a :: st) n I L P = mm_E d 122 92 lv [] (.inl (mm_mul a b) :: st) n I L P) ∧
  (∀ (st : List mm_V) z (l0 : mm_V) (l1 : mm_V) (l2 : mm_V) (l4 : mm_V) (l5 : mm_V) (l6 : mm_V), mm_E d 122 92 [l0, l1, l2, (.inl z), l4, l5, l6] [] st n I L P = mm_E d 122 93 [l0, l1, l2, (.inl z), l4, l5, l6] [] ((.inl z) :: st) n I L P) ∧
  (∀ (lv : List mm_V) x0 x1 w0 w1, mm_E d 122 93 lv [] (.inl x1 :: .inl x0 :: [.inl w0, .inl w1]) n I L P = mm_kr d 122 96 lv [] [.inl w0, .inl w1] n (mm_rn d 265 [.inl x0, .inl x1] n I L P)) ∧
  (∀ (lv : List mm_V) (st : List mm_V) a b, mm_E d 122 96 lv [] (.inl b :: .inl a :: st) n I L P = mm_E d 122 97 lv [] (.inl (mm_mul a b) :: st) n I L P) ∧
  (∀ (lv : List mm_V) (st : List mm_V) a b, mm_E d 122 97 lv [] (.inl b :: .inl a :: st) n I L P = mm_E d 122 98 lv [] (.inl (mm_add a b) :: st) n I L P) ∧
  (∀ (st : List mm_V) z (l0 : mm_V) (l1 : mm_V) (l2 : mm_V) (l3 : mm_V) (l4 : mm_V) (l5 : mm_V) (l6 : mm_V), mm_E d 122 98 [l0, l1, l2, l3, l4, l5, l6] [] ((.inl z) :: st) n I L P = mm_E d 122 100 [l0, l1, l2, l3, l4, (.inl z), l6] [] st n I L P) ∧
  (∀ (st : List mm_V) z (l0 : mm_V) (l1 : mm_V) (l2 : mm_V) (l3 : mm_V) (l4 : mm_V) (l5 : mm_V), mm_E d 122 100 [l0, l1, l2, l3, l4, l5, (.inl z)] [] st n I L P = mm_E d 122 103 [l0, l1, l2, l3, l4, l5, (.inl (mm_add z 1))] [] st n I L P) ∧
  (∀ (lv : List mm_V) (st : List mm_V), mm_E d 122 103 lv [] st n I L P = mm_E d 122 54 lv [] st n I L P) ∧
  (∀ (st : List mm_V) z (l0 : mm_V) (l1 : mm_V) (l2 : mm_V) (l3 : mm_V) (l4 : mm_V) (l6 : mm_V), mm_E d 122 106 [l0, l1, l2, l3, l4, (.inl z), l6] [] st n I L P = mm_E d 122 108 [l0, l1, l2, l3, l4, (.inl z), l6] [] ((.inl z) :: st) n I L P) ∧
  (∀ (st : List mm_V) z (l0 : mm_V) (l1 : mm_V) (l3 : mm_V) (l4 : mm_V) (l5 : mm_V) (l6 : mm_V), mm_E d 122 108 [l0, l1, (.inl z), l3, l4, l5, l6] [] st n I L P = mm_E d 122 109 [l0, l1, (.inl z), l3, l4, l5, l6] [] ((.inl z) :: st) n I L P) ∧
  (∀ (lv : List mm_V) (st : List mm_V) a b, (¬ b = 0) → mm_E d 122 109 lv [] (.inl b :: .inl a :: st) n I L P = mm_E d 122 110 lv [] (.inl (mm_w (Int.tdiv a b)) :: st) n I L P) ∧
  (∀ (st : List mm_V) z (l0 : mm_V) (l1 : mm_V) (l2 : mm_V) (l3 : mm_V) (l4 : mm_V) (l5 : mm_V) (l6 : mm_V), mm_E d 122 110 [l0, l1, l2, l3, l4, l5, l6] [] ((.inl z) :: st) n I L P = mm_E d 122 111 [l0, l1, l2, (.inl z), l4, l5, l6] [] st n I L P) ∧
  (∀ (st : List mm_V) z (l0 : mm_V) (l1 : mm_V) (l2 : mm_V) (l3 : mm_V) (l5 : mm_V) (l6 : mm_V), mm_E d 122 111 [l0, l1, l2, l3, (.inl z), l5, l6] [] st n I L P = mm_E d 122 114 [l0, l1, l2, l3, (.inl (mm_add z 1)), l5, l6] [] st n I L P) ∧
  (∀ (lv : List mm_V) (st : List mm_V), mm_E d 122 114 lv [] st n I L P = mm_E d 122 38 lv [] st n I L P) ∧
  (∀ (st : List mm_V) z (l0 : mm_V) (l1 : mm_V) (l2 : mm_V) (l4 : mm_V) (l5 : mm_V) (l6 : mm_V), mm_E d 122 117 [l0, l1, l2, (.inl z), l4, l5, l6] [] st n I L P = mm_E d 122 118 [l0, l1, l2, (.inl z), l4, l5, l6] [] ((.inl z) :: st) n I L P) ∧
  (∀ (lv : List mm_V) z, mm_E d 122 118 lv [] [.inl z] n I L P = some (some (.inl z), n, I, L, P)) :=
  ⟨fun _ _ => mq_push rfl,
   fun _ _ _ _ _ _ _ _ _ => mq_is (i := 2) rfl rfl rfl,
   fun _ _ => mq_push rfl,
   fun _ _ _ _ _ _ _ _ _ => mq_is (i := 3) rfl rfl rfl,
   fun _ _ _ _ _ _ _ _ => mq_al (i := 0) rfl rfl,
   fun _ _ _ h0 => mq_getR rfl h0,
   fun _ _ _ h0 => mq_getI rfl h0,
   fun _ _ _ _ => mq_ic_ge rfl,
   fun _ _ _ _ _ _ _ _ => mq_il (i := 2) rfl rfl,
   fun _ _ _ _ _ _ _ _ => mq_al (i := 0) rfl rfl,
   fun _ _ _ h0 => mq_getR rfl h0,
   fun _ _ _ h0 => mq_getR rfl h0,
   fun _ _ _ _ _ _ _ _ => mq_il (i := 3) rfl rfl,
   fun _ _ _ _ h0 => mq_iald rfl h0,
   fun _ _ _ _ => mq_bi rfl,
   fun _ _ _ _ _ _ _ _ _ => mq_is (i := 2) rfl rfl rfl,
   fun _ _ _ _ _ _ _ _ => mq_iinc (i := 3) rfl rfl rfl rfl,
   fun _ _ => mq_go rfl,
   fun _ _ => mq_push rfl,
   fun _ _ _ _ _ _ _ _ _ => mq_is (i := 3) rfl rfl rfl,
   fun _ _ => mq_push rfl,
   fun _ _ _ _ _ _ _ _ _ => mq_is (i := 4) rfl rfl rfl,
   fun _ _ _ _ _ _ _ _ => mq_il (i := 1) rfl rfl,
   fun _ _ _ _ => mq_ic_ge rfl,
   fun _ _ _ _ _ _ _ _ => mq_il (i := 2) rfl rfl,
   fun _ _ _ => mq_if_le rfl,
   fun _ _ => mq_push rfl,
   fun _ _ _ _ _ _ _ _ _ => mq_is (i := 5) rfl rfl rfl,
   fun _ _ => mq_push rfl,
   fun _ _ _ _ _ _ _ _ _ => mq_is (i := 6) rfl rfl rfl,
   fun _ _ _ _ _ _ _ _ => mq_al (i := 0) rfl rfl,
   fun _ _ _ h0 => mq_getR rfl h0,
   fun _ _ _ h0 => mq_getI rfl h0,
   fun _ _ _ _ => mq_ic_ge rfl,
   fun _ _ _ _ _ _ _ _ => mq_il (i := 5) rfl rfl,
   fun _ _ _ _ _ _ _ _ => mq_al (i := 0) rfl rfl,
   fun _ _ _ h0 => mq_getR rfl h0,
   fun _ _ _ h0 => mq_getR rfl h0,
   fun _ _ _ _ _ _ _ _ => mq_il (i := 6) rfl rfl,
   fun _ _ _ _ h0 => mq_iald rfl h0,
   fun _ _ => mq_push rfl,
   fun _ _ _ _ _ _ _ _ => mq_al (i := 0) rfl rfl,
   fun _ _ _ h0 => mq_getR rfl h0,
   fun _ _ _ h0 => mq_getR rfl h0,
   fun _ _ _ _ _ _ _ _ => mq_il (i := 6) rfl rfl,
   fun _ _ _ _ h0 => mq_iald rfl h0,
   fun _ _ _ _ => mq_bi rfl,
   fun _ _ _ _ _ _ _ _ => mq_il (i := 3) rfl rfl,
   fun _ _ _ _ _ => mq_cSr (na := 2) rfl (Nat.le_of_ble_eq_true rfl) (Nat.le_of_ble_eq_true rfl),
   fun _ _ _ _ => mq_bi rfl,
   fun _ _ _ _ => mq_bi rfl,
   fun _ _ _ _ _ _ _ _ _ => mq_is (i := 5) rfl rfl rfl,
   fun _ _ _ _ _ _ _ _ => mq_iinc (i := 6) rfl rfl rfl rfl,
   fun _ _ => mq_go rfl,
   fun _ _ _ _ _ _ _ _ => mq_il (i := 5) rfl rfl,
   fun _ _ _ _ _ _ _ _ => mq_il (i := 2) rfl rfl,
   fun _ _ _ _ h0 => mq_di rfl h0,
   fun _ _ _ _ _ _ _ _ _ => mq_is (i := 3) rfl rfl rfl,
   fun _ _ _ _ _ _ _ _ => mq_iinc (i := 4) rfl rfl rfl rfl,
   fun _ _ => mq_go rfl,
   fun _ _ _ _ _ _ _ _ => mq_il (i := 3) rfl rfl,
   fun _ _ => mq_ri rfl⟩
theorem hX11_callValue_4 (d n : Nat) (I L : mm_I) (P : mm_P) : ∀ (st : List mm_V) z (l0 : mm_V) (l1 : mm_V) (l2 : mm_V) (l4 : mm_V) (l5 : mm_V) (l6 : mm_V), mm_E d 122 4 [l0, l1, l2, (.inl z), l4, l5, l6] [] st n I L P = mm_E d 122 5 [l0, l1, l2, (.inl z), l4, l5, l6] [] ((.inl z) :: st) n I L P := fun _ _ _ _ _ _ _ _ => mq_il (i := 3) rfl rfl
theorem hX11_callValue_38 (d n : Nat) (I L : mm_I) (P : mm_P) : ∀ (st : List mm_V) z (l0 : mm_V) (l1 : mm_V) (l2 : mm_V) (l3 : mm_V) (l5 : mm_V) (l6 : mm_V), mm_E d 122 38 [l0, l1, l2, l3, (.inl z), l5, l6] [] st n I L P = mm_E d 122 40 [l0, l1, l2, l3, (.inl z), l5, l6] [] ((.inl z) :: st) n I L P := fun _ _ _ _ _ _ _ _ => mq_il (i := 4) rfl rfl
theorem hX11_callValue_54 (d n : Nat) (I L : mm_I) (P : mm_P) : ∀ (st : List mm_V) z (l0 : mm_V) (l1 : mm_V) (l2 : mm_V) (l3 : mm_V) (l4 : mm_V) (l5 : mm_V), mm_E d 122 54 [l0, l1, l2, l3, l4, l5, (.inl z)] [] st n I L P = mm_E d 122 56 [l0, l1, l2, l3, l4, l5, (.inl z)] [] ((.inl z) :: st) n I L P := fun _ _ _ _ _ _ _ _ => mq_il (i := 6) rfl rfl
theorem eX11_callValue (d n : Nat) (I L : mm_I) (P : mm_P) (x0 : Option Nat) (x1 : Int) : mm_rn (d + 1) 122 [.inr (.inr x0), .inl x1] n I L P = mm_E d 122 0 [.inr (.inr x0), .inl x1, mm_junk, mm_junk, mm_junk, mm_junk, mm_junk] [] [] n I L P := rfl

set_option maxRecDepth 20000 in
set_option maxHeartbeats 8000000 in
theorem kX11_callsToHeed (d n : Nat) (I L : mm_I) (P : mm_P) :
  (∀ (lv : List mm_V) (st : List mm_V), mm_E d 123 0 lv [] st n I L P = mm_E d 123 1 lv [] (.inl 0 :: st) n I L P) ∧
  (∀ (st : List mm_V) z (l0 : mm_V) (l1 : mm_V) (l2 : mm_V) (l3 : mm_V), mm_E d 123 1 [l0, l1, l2, l3] [] ((.inl z) :: st) n I L P = mm_E d 123 2 [l0, l1, (.inl z), l3] [] st n I L P) ∧
  (∀ (lv : List mm_V) (st : List mm_V), mm_E d 123 2 lv [] st n I L P = mm_E d 123 3 lv [] (.inl 0 :: st) n I L P) ∧
  (∀ (st : List mm_V) z (l0 : mm_V) (l1 : mm_V) (l2 : mm_V) (l3 : mm_V), mm_E d 123 3 [l0, l1, l2, l3] [] ((.inl z) :: st) n I L P = mm_E d 123 4 [l0, l1, l2, (.inl z)] [] st n I L P) ∧
  (∀ (st : List mm_V) z (l1 : mm_V) (l2 : mm_V) (l3 : mm_V), mm_E d 123 5 [(.inr (.inr z)), l1, l2, l3] [] st n I L P = mm_E d 123 6 [(.inr (.inr z)), l1, l2, l3] [] ((.inr (.inr z)) :: st) n I L P) ∧
  (∀ (lv : List mm_V) (st : List mm_V) a, (mm_ok n a 11) → mm_E d 123 6 lv [] (.inr (.inr (some a)) :: st) n I L P = mm_E d 123 9 lv [] (.inr (.inr (P a 2)) :: st) n I L P) ∧
  (∀ (lv : List mm_V) (st : List mm_V) a, (mm_ok n a 9) → mm_E d 123 9 lv [] (.inr (.inr (some a)) :: st) n I L P = mm_E d 123 12 lv [] (.inl (I a 0) :: st) n I L P) ∧
  (∀ (lv : List mm_V) (st : List mm_V) a b, mm_E d 123 12 lv [] (.inl b :: .inl a :: st) n I L P = if b ≤ a then mm_E d 123 56 lv [] st n I L P else mm_E d 123 15 lv [] st n I L P) ∧
  (∀ (st : List mm_V) z (l1 : mm_V) (l2 : mm_V) (l3 : mm_V), mm_E d 123 15 [(.inr (.inr z)), l1, l2, l3] [] st n I L P = mm_E d 123 16 [(.inr (.inr z)), l1, l2, l3] [] ((.inr (.inr z)) :: st) n I L P) ∧
  (∀ (lv : List mm_V) (st : List mm_V) a, (mm_ok n a 11) → mm_E d 123 16 lv [] (.inr (.inr (some a)) :: st) n I L P = mm_E d 123 19 lv [] (.inr (.inr (P a 2)) :: st) n I L P) ∧
  (∀ (lv : List mm_V) (st : List mm_V) a, (mm_ok n a 9) → mm_E d 123 19 lv [] (.inr (.inr (some a)) :: st) n I L P = mm_E d 123 22 lv [] (.inr (.inr (P a 5)) :: st) n I L P) ∧
  (∀ (st : List mm_V) z (l0 : mm_V) (l1 : mm_V) (l2 : mm_V), mm_E d 123 22 [l0, l1, l2, (.inl z)] [] st n I L P = mm_E d 123 23 [l0, l1, l2, (.inl z)] [] ((.inl z) :: st) n I L P) ∧
  (∀ (lv : List mm_V) (st : List mm_V) a i, (mm_ix n a 20 i) → mm_E d 123 23 lv [] (.inl i :: .inr (.inr (some a)) :: st) n I L P = mm_E d 123 24 lv [] (.inl (I a i.toNat) :: st) n I L P) ∧
  (∀ (lv : List mm_V) (st : List mm_V) a, mm_E d 123 24 lv [] (.inl a :: st) n I L P = if a ≤ 0 then mm_E d 123 50 lv [] st n I L P else mm_E d 123 27 lv [] st n I L P) ∧
  (∀ (lv : List mm_V) (st : List mm_V), mm_E d 123 27 lv [] st n I L P = mm_E d 123 30 lv [] (.inl 1000 :: st) n I L P) ∧
  (∀ (st : List mm_V) z (l1 : mm_V) (l2 : mm_V) (l3 : mm_V), mm_E d 123 30 [(.inr (.inr z)), l1, l2, l3] [] st n I L P = mm_E d 123 31 [(.inr (.inr z)), l1, l2, l3] [] ((.inr (.inr z)) :: st) n I L P) ∧
  (∀ (lv : List mm_V) (st : List mm_V) a, (mm_ok n a 11) → mm_E d 123 31 lv [] (.inr (.inr (some a)) :: st) n I L P = mm_E d 123 34 lv [] (.inr (.inr (P a 8)) :: st) n I L P) ∧
  (∀ (lv : List mm_V) (st : List mm_V) a, (mm_ok n a 5) → mm_E d 123 34 lv [] (.inr (.inr (some a)) :: st) n I L P = mm_E d 123 37 lv [] (.inr (.inr (P a 0)) :: st) n I L P) ∧
  (∀ (st : List mm_V) z (l0 : mm_V) (l1 : mm_V) (l2 : mm_V), mm_E d 123 37 [l0, l1, l2, (.inl z)] [] st n I L P = mm_E d 123 38 [l0, l1, l2, (.inl z)] [] ((.inl z) :: st) n I L P) ∧
  (∀ (lv : List mm_V) (st : List mm_V) a i, (mm_ix n a 20 i) → mm_E d 123 38 lv [] (.inl i :: .inr (.inr (some a)) :: st) n I L P = mm_E d 123 39 lv [] (.inl (I a i.toNat) :: st) n I L P) ∧
  (∀ (lv : List mm_V) (st : List mm_V) a b, mm_E d 123 39 lv [] (.inl b :: .inl a :: st) n I L P = mm_E d 123 40 lv [] (.inl (mm_mul a b) :: st) n I L P) ∧
  (∀ (st : List mm_V) z (l0 : mm_V) (l2 : mm_V) (l3 : mm_V), mm_E d 123 40 [l0, (.inl z), l2, l3] [] st n I L P = mm_E d 123 41 [l0, (.inl z), l2, l3] [] ((.inl z) :: st) n I L P) ∧
  (∀ (lv : List mm_V) (st : List mm_V) a b, mm_E d 123 41 lv [] (.inl b :: .inl a :: st) n I L P = if a < b then mm_E d 123 50 lv [] st n I L P else mm_E d 123 44 lv [] st n I L P) ∧
  (∀ (st : List mm_V) z (l0 : mm_V) (l1 : mm_V) (l3 : mm_V), mm_E d 123 44 [l0, l1, (.inl z), l3] [] st n I L P = mm_E d 123 45 [l0, l1, (.inl z), l3] [] ((.inl z) :: st) n I L P) ∧
  (∀ (lv : List mm_V) (st : List mm_V), mm_E d 123 45 lv [] st n I L P = mm_E d 123 46 lv [] (.inl 1 :: st) n I L P) ∧
  (∀ (st : List mm_V) z (l0 : mm_V) (l1 : mm_V) (l2 : mm_V), mm_E d 123 46 [l0, l1, l2, (.inl z)] [] st n I L P = mm_E d 123 47 [l0, l1, l2, (.inl z)] [] ((.inl z) :: st) n I L P) ∧
  (∀ (lv : List mm_V) (st : List mm_V) a b, mm_E d 123 47 lv [] (.inl b :: .inl a :: st) n I L P = mm_E d 123 48 lv [] (.inl (mm_shl a b) :: st) n I L P) ∧
  (∀ (lv : List mm_V) (st : List mm_V) a b, mm_E d 123 48 lv [] (.inl b :: .inl a :: st) n I L P = mm_E d 123 49 lv [] (.inl (mm_or a b) :: st) n I L P) ∧
  (∀ (st : List mm_V) z (l0 : mm_V) (l1 : mm_V) (l2 : mm_V) (l3 : mm_V), mm_E d 123 49 [l0, l1, l2, l3] [] ((.inl z) :: st) n I L P = mm_E d 123 50 [l0, l1, (.inl z), l3] [] st n I L P) ∧
  (∀ (st : List mm_V) z (l0 : mm_V) (l1 : mm_V) (l2 : mm_V), mm_E d 123 50 [l0, l1, l2, (.inl z)] [] st n I L P = mm_E d 123 53 [l0, l1, l2, (.inl (mm_add z 1))] [] st n I L P) ∧
  (∀ (lv : List mm_V) (st : List mm_V), mm_E d 123 53 lv [] st n I L P = mm_E d 123 4 lv [] st n I L P) ∧
  (∀ (st : List mm_V) z (l0 : mm_V) (l1 : mm_V) (l3 : mm_V), mm_E d 123 56 [l0, l1, (.inl z), l3] [] st n I L P = mm_E d 123 57 [l0, l1, (.inl z), l3] [] ((.inl z) :: st) n I L P) ∧
  (∀ (lv : List mm_V) z, mm_E d 123 57 lv [] [.inl z] n I L P = some (some (.inl z), n, I, L, P)) :=
  ⟨fun _ _ => mq_push rfl,
   fun _ _ _ _ _ _ => mq_is (i := 2) rfl rfl rfl,
   fun _ _ => mq_push rfl,
   fun _ _ _ _ _ _ => mq_is (i := 3) rfl rfl rfl,
   fun _ _ _ _ _ => mq_al (i := 0) rfl rfl,
   fun _ _ _ h0 => mq_getR rfl h0,
   fun _ _ _ h0 => mq_getI rfl h0,
   fun _ _ _ _ => mq_ic_ge rfl,
   fun _ _ _ _ _ => mq_al (i := 0) rfl rfl,
   fun _ _ _ h0 => mq_getR rfl h0,
   fun _ _ _ h0 => mq_getR rfl h0,
   fun _ _ _ _ _ => mq_il (i := 3) rfl rfl,
   fun _ _ _ _ h0 => mq_iald rfl h0,
   fun _ _ _ => mq_if_le rfl,
   fun _ _ => mq_push rfl,
   fun _ _ _ _ _ => mq_al (i := 0) rfl rfl,
   fun _ _ _ h0 => mq_getR rfl h0,
   fun _ _ _ h0 => mq_getR rfl h0,
   fun _ _ _ _ _ => mq_il (i := 3) rfl rfl,
   fun _ _ _ _ h0 => mq_iald rfl h0,
   fun _ _ _ _ => mq_bi rfl,
   fun _ _ _ _ _ => mq_il (i := 1) rfl rfl,
   fun _ _ _ _ => mq_ic_lt rfl,
   fun _ _ _ _ _ => mq_il (i := 2) rfl rfl,
   fun _ _ => mq_push rfl,
   fun _ _ _ _ _ => mq_il (i := 3) rfl rfl,
   fun _ _ _ _ => mq_bi rfl,
   fun _ _ _ _ => mq_bi rfl,
   fun _ _ _ _ _ _ => mq_is (i := 2) rfl rfl rfl,
   fun _ _ _ _ _ => mq_iinc (i := 3) rfl rfl rfl rfl,
   fun _ _ => mq_go rfl,
   fun _ _ _ _ _ => mq_il (i := 2) rfl rfl,
   fun _ _ => mq_ri rfl⟩
theorem hX11_callsToHeed_4 (d n : Nat) (I L : mm_I) (P : mm_P) : ∀ (st : List mm_V) z (l0 : mm_V) (l1 : mm_V) (l2 : mm_V), mm_E d 123 4 [l0, l1, l2, (.inl z)] [] st n I L P = mm_E d 123 5 [l0, l1, l2, (.inl z)] [] ((.inl z) :: st) n I L P := fun _ _ _ _ _ => mq_il (i := 3) rfl rfl
theorem eX11_callsToHeed (d n : Nat) (I L : mm_I) (P : mm_P) (x0 : Option Nat) (x1 : Int) : mm_rn (d + 1) 123 [.inr (.inr x0), .inl x1] n I L P = mm_E d 123 0 [.inr (.inr x0), .inl x1, mm_junk, mm_junk] [] [] n I L P := rfl

set_option maxRecDepth 20000 in
set_option maxHeartbeats 8000000 in
theorem kX11_round (d n : Nat) (I L : mm_I) (P : mm_P) :
  (∀ (st : List mm_V) z (l1 : mm_V) (l2 : mm_V), mm_E d 124 0 [(.inr (.inr z)), l1, l2] [] st n I L P = mm_E d 124 1 [(.inr (.inr z)), l1, l2] [] ((.inr (.inr z)) :: st) n I L P) ∧
  (∀ (lv : List mm_V) a, (mm_ok n a 11) → mm_E d 124 1 lv [] (.inr (.inr (some a)) :: []) n I L P = mm_kr d 124 4 lv [] [] n (mm_rn d 92 [.inr (.inr (some a))] n I L P)) ∧
  (∀ (lv : List mm_V) (st : List mm_V) a, mm_E d 124 4 lv [] (.inl a :: st) n I L P = if a = 0 then mm_E d 124 7 lv [] st n I L P else mm_E d 124 43 lv [] st n I L P) ∧
  (∀ (st : List mm_V) z (l0 : mm_V) (l2 : mm_V), mm_E d 124 7 [l0, (.inl z), l2] [] st n I L P = mm_E d 124 8 [l0, (.inl z), l2] [] ((.inl z) :: st) n I L P) ∧
  (∀ (lv : List mm_V) (st : List mm_V), mm_E d 124 8 lv [] st n I L P = mm_E d 124 9 lv [] (.inl 1 :: st) n I L P) ∧
  (∀ (lv : List mm_V) (st : List mm_V) a b, mm_E d 124 9 lv [] (.inl b :: .inl a :: st) n I L P = if a < b then mm_E d 124 43 lv [] st n I L P else mm_E d 124 12 lv [] st n I L P) ∧
  (∀ (st : List mm_V) z (l0 : mm_V) (l2 : mm_V), mm_E d 124 12 [l0, (.inl z), l2] [] st n I L P = mm_E d 124 13 [l0, (.inl z), l2] [] ((.inl z) :: st) n I L P) ∧
  (∀ (lv : List mm_V) (st : List mm_V), mm_E d 124 13 lv [] st n I L P = mm_E d 124 14 lv [] (.inl 5 :: st) n I L P) ∧
  (∀ (lv : List mm_V) (st : List mm_V) a b, mm_E d 124 14 lv [] (.inl b :: .inl a :: st) n I L P = if b < a then mm_E d 124 43 lv [] st n I L P else mm_E d 124 17 lv [] st n I L P) ∧
  (∀ (st : List mm_V) z (l0 : mm_V) (l1 : mm_V), mm_E d 124 17 [l0, l1, (.inl z)] [] st n I L P = mm_E d 124 18 [l0, l1, (.inl z)] [] ((.inl z) :: st) n I L P) ∧
  (∀ (lv : List mm_V) (st : List mm_V) a, mm_E d 124 18 lv [] (.inl a :: st) n I L P = if a < 0 then mm_E d 124 43 lv [] st n I L P else mm_E d 124 21 lv [] st n I L P) ∧
  (∀ (st : List mm_V) z (l0 : mm_V) (l1 : mm_V), mm_E d 124 21 [l0, l1, (.inl z)] [] st n I L P = mm_E d 124 22 [l0, l1, (.inl z)] [] ((.inl z) :: st) n I L P) ∧
  (∀ (lv : List mm_V) (st : List mm_V), mm_E d 124 22 lv [] st n I L P = mm_E d 124 23 lv [] (.inl 1 :: st) n I L P) ∧
  (∀ (lv : List mm_V) (st : List mm_V) a b, mm_E d 124 23 lv [] (.inl b :: .inl a :: st) n I L P = if b < a then mm_E d 124 43 lv [] st n I L P else mm_E d 124 26 lv [] st n I L P) ∧
  (∀ (st : List mm_V) z (l1 : mm_V) (l2 : mm_V), mm_E d 124 26 [(.inr (.inr z)), l1, l2] [] st n I L P = mm_E d 124 27 [(.inr (.inr z)), l1, l2] [] ((.inr (.inr z)) :: st) n I L P) ∧
  (∀ (lv : List mm_V) (st : List mm_V) a, (mm_ok n a 11) → mm_E d 124 27 lv [] (.inr (.inr (some a)) :: st) n I L P = mm_E d 124 30 lv [] (.inr (.inr (P a 2)) :: st) n I L P) ∧
  (∀ (st : List mm_V) z (l1 : mm_V) (l2 : mm_V), mm_E d 124 30 [(.inr (.inr z)), l1, l2] [] st n I L P = mm_E d 124 31 [(.inr (.inr z)), l1, l2] [] ((.inr (.inr z)) :: st) n I L P) ∧
  (∀ (lv : List mm_V) (st : List mm_V) a, (mm_ok n a 11) → mm_E d 124 31 lv [] (.inr (.inr (some a)) :: st) n I L P = mm_E d 124 34 lv [] (.inr (.inr (P a 8)) :: st) n I L P) ∧
  (∀ (lv : List mm_V) (st : List mm_V) a, (mm_ok n a 5) → mm_E d 124 34 lv [] (.inr (.inr (some a)) :: st) n I L P = mm_E d 124 37 lv [] (.inl (I a 3) :: st) n I L P) ∧
  (∀ (lv : List mm_V) a x0, (mm_ok n a 9) → mm_E d 124 37 lv [] (.inl x0 :: .inr (.inr (some a)) :: []) n I L P = mm_kr d 124 40 lv [] [] n (mm_rn d 287 [.inr (.inr (some a)), .inl x0] n I L P)) ∧
  (∀ (lv : List mm_V) (st : List mm_V) a, mm_E d 124 40 lv [] (.inl a :: st) n I L P = if a = 0 then mm_E d 124 43 lv [] st n I L P else mm_E d 124 45 lv [] st n I L P) ∧
  (∀ (lv : List mm_V) (st : List mm_V), mm_E d 124 43 lv [] st n I L P = mm_E d 124 44 lv [] (.inl (-1) :: st) n I L P) ∧
  (∀ (lv : List mm_V) z, mm_E d 124 44 lv [] [.inl z] n I L P = some (some (.inl z), n, I, L, P)) ∧
  (∀ (st : List mm_V) z (l1 : mm_V) (l2 : mm_V), mm_E d 124 45 [(.inr (.inr z)), l1, l2] [] st n I L P = mm_E d 124 46 [(.inr (.inr z)), l1, l2] [] ((.inr (.inr z)) :: st) n I L P) ∧
  (∀ (lv : List mm_V) (st : List mm_V) a, (mm_ok n a 11) → mm_E d 124 46 lv [] (.inr (.inr (some a)) :: st) n I L P = mm_E d 124 49 lv [] (.inr (.inr (P a 16)) :: st) n I L P) ∧
  (∀ (st : List mm_V) z (l1 : mm_V) (l2 : mm_V), mm_E d 124 49 [(.inr (.inr z)), l1, l2] [] st n I L P = mm_E d 124 50 [(.inr (.inr z)), l1, l2] [] ((.inr (.inr z)) :: st) n I L P) ∧
  (∀ (lv : List mm_V) (st : List mm_V) a, (mm_ok n a 11) → mm_E d 124 50 lv [] (.inr (.inr (some a)) :: st) n I L P = mm_E d 124 53 lv [] (.inr (.inr (P a 2)) :: st) n I L P) ∧
  (∀ (st : List mm_V) z (l1 : mm_V) (l2 : mm_V), mm_E d 124 53 [(.inr (.inr z)), l1, l2] [] st n I L P = mm_E d 124 54 [(.inr (.inr z)), l1, l2] [] ((.inr (.inr z)) :: st) n I L P) ∧
  (∀ (lv : List mm_V) (st : List mm_V) a, (mm_ok n a 11) → mm_E d 124 54 lv [] (.inr (.inr (some a)) :: st) n I L P = mm_E d 124 57 lv [] (.inr (.inr (P a 8)) :: st) n I L P) ∧
  (∀ (st : List mm_V) z (l0 : mm_V) (l2 : mm_V), mm_E d 124 57 [l0, (.inl z), l2] [] st n I L P = mm_E d 124 58 [l0, (.inl z), l2] [] ((.inl z) :: st) n I L P) ∧
  (∀ (lv : List mm_V) a x0 x1 x2, (mm_ok n a 7) → mm_E d 124 58 lv [] (.inl x2 :: .inr (.inr x1) :: .inr (.inr x0) :: .inr (.inr (some a)) :: []) n I L P = mm_kv d 124 61 lv [] [] n (mm_rn d 54 [.inr (.inr (some a)), .inr (.inr x0), .inr (.inr x1), .inl x2] n I L P)) ∧
  (∀ (st : List mm_V) z (l0 : mm_V) (l1 : mm_V), mm_E d 124 61 [l0, l1, (.inl z)] [] st n I L P = mm_E d 124 62 [l0, l1, (.inl z)] [] ((.inl z) :: st) n I L P) ∧
  (∀ (lv : List mm_V) (st : List mm_V) a, mm_E d 124 62 lv [] (.inl a :: st) n I L P = if a = 0 then mm_E d 124 65 lv [] st n I L P else mm_E d 124 75 lv [] st n I L P) ∧
  (∀ (st : List mm_V) z (l1 : mm_V) (l2 : mm_V), mm_E d 124 65 [(.inr (.inr z)), l1, l2] [] st n I L P = mm_E d 124 66 [(.inr (.inr z)), l1, l2] [] ((.inr (.inr z)) :: st) n I L P) ∧
  (∀ (lv : List mm_V) (st : List mm_V) a, (mm_ok n a 11) → mm_E d 124 66 lv [] (.inr (.inr (some a)) :: st) n I L P = mm_E d 124 69 lv [] (.inr (.inr (P a 16)) :: st) n I L P) ∧
  (∀ (lv : List mm_V) (st : List mm_V) a, (mm_ok n a 7) → mm_E d 124 69 lv [] (.inr (.inr (some a)) :: st) n I L P = mm_E d 124 72 lv [] (.inl (I a 0) :: st) n I L P) ∧
  (∀ (lv : List mm_V) (st : List mm_V), mm_E d 124 72 lv [] st n I L P = mm_E d 124 82 lv [] st n I L P) ∧
  (∀ (st : List mm_V) z (l1 : mm_V) (l2 : mm_V), mm_E d 124 75 [(.inr (.inr z)), l1, l2] [] st n I L P = mm_E d 124 76 [(.inr (.inr z)), l1, l2] [] ((.inr (.inr z)) :: st) n I L P) ∧
  (∀ (lv : List mm_V) (st : List mm_V) a, (mm_ok n a 11) → mm_E d 124 76 lv [] (.inr (.inr (some a)) :: st) n I L P = mm_E d 124 79 lv [] (.inr (.inr (P a 16)) :: st) n I L P) ∧
  (∀ (lv : List mm_V) (st : List mm_V) a, (mm_ok n a 7) → mm_E d 124 79 lv [] (.inr (.inr (some a)) :: st) n I L P = mm_E d 124 82 lv [] (.inl (I a 1) :: st) n I L P) ∧
  (∀ (lv : List mm_V) z, mm_E d 124 82 lv [] [.inl z] n I L P = some (some (.inl z), n, I, L, P)) :=
  ⟨fun _ _ _ _ => mq_al (i := 0) rfl rfl,
   fun _ _ h0 => mq_cVr (na := 0) rfl rfl (Nat.le_of_ble_eq_true rfl) (Nat.le_of_ble_eq_true rfl) h0,
   fun _ _ _ => mq_if_ne rfl,
   fun _ _ _ _ => mq_il (i := 1) rfl rfl,
   fun _ _ => mq_push rfl,
   fun _ _ _ _ => mq_ic_lt rfl,
   fun _ _ _ _ => mq_il (i := 1) rfl rfl,
   fun _ _ => mq_push rfl,
   fun _ _ _ _ => mq_ic_gt rfl,
   fun _ _ _ _ => mq_il (i := 2) rfl rfl,
   fun _ _ _ => mq_if_lt rfl,
   fun _ _ _ _ => mq_il (i := 2) rfl rfl,
   fun _ _ => mq_push rfl,
   fun _ _ _ _ => mq_ic_gt rfl,
   fun _ _ _ _ => mq_al (i := 0) rfl rfl,
   fun _ _ _ h0 => mq_getR rfl h0,
   fun _ _ _ _ => mq_al (i := 0) rfl rfl,
   fun _ _ _ h0 => mq_getR rfl h0,
   fun _ _ _ h0 => mq_getI rfl h0,
   fun _ _ _ h0 => mq_cVr (na := 1) rfl rfl (Nat.le_of_ble_eq_true rfl) (Nat.le_of_ble_eq_true rfl) h0,
   fun _ _ _ => mq_if_ne rfl,
   fun _ _ => mq_push rfl,
   fun _ _ => mq_ri rfl,
   fun _ _ _ _ => mq_al (i := 0) rfl rfl,
   fun _ _ _ h0 => mq_getR rfl h0,
   fun _ _ _ _ => mq_al (i := 0) rfl rfl,
   fun _ _ _ h0 => mq_getR rfl h0,
   fun _ _ _ _ => mq_al (i := 0) rfl rfl,
   fun _ _ _ h0 => mq_getR rfl h0,
   fun _ _ _ _ => mq_il (i := 1) rfl rfl,
   fun _ _ _ _ _ h0 => mq_cVv (na := 3) rfl rfl (Nat.le_of_ble_eq_true rfl) (Nat.le_of_ble_eq_true rfl) h0,
   fun _ _ _ _ => mq_il (i := 2) rfl rfl,
   fun _ _ _ => mq_if_ne rfl,
   fun _ _ _ _ => mq_al (i := 0) rfl rfl,
   fun _ _ _ h0 => mq_getR rfl h0,
   fun _ _ _ h0 => mq_getI rfl h0,
   fun _ _ => mq_go rfl,
   fun _ _ _ _ => mq_al (i := 0) rfl rfl,
   fun _ _ _ h0 => mq_getR rfl h0,
   fun _ _ _ h0 => mq_getI rfl h0,
   fun _ _ => mq_ri rfl⟩
theorem eX11_round (d n : Nat) (I L : mm_I) (P : mm_P) (x0 : Option Nat) (x1 : Int) (x2 : Int) : mm_rn (d + 1) 124 [.inr (.inr x0), .inl x1, .inl x2] n I L P = mm_E d 124 0 [.inr (.inr x0), .inl x1, .inl x2] [] [] n I L P := rfl

set_option maxRecDepth 20000 in
set_option maxHeartbeats 8000000 in
theorem kX11_cover (d n : Nat) (I L : mm_I) (P : mm_P) :
  (∀ (st : List mm_V) z (l1 : mm_V) (l2 : mm_V) (l3 : mm_V), mm_E d 125 0 [(.inr (.inr z)), l1, l2, l3] [] st n I L P = mm_E d 125 1 [(.inr (.inr z)), l1, l2, l3] [] ((.inr (.inr z)) :: st) n I L P) ∧
  (∀ (lv : List mm_V) a, (mm_ok n a 11) → mm_E d 125 1 lv [] (.inr (.inr (some a)) :: []) n I L P = mm_kr d 125 4 lv [] [] n (mm_rn d 92 [.inr (.inr (some a))] n I L P)) ∧
  (∀ (lv : List mm_V) (st : List mm_V) a, mm_E d 125 4 lv [] (.inl a :: st) n I L P = if a = 0 then mm_E d 125 9 lv [] st n I L P else mm_E d 125 7 lv [] st n I L P) ∧
  (∀ (lv : List mm_V) (st : List mm_V), mm_E d 125 7 lv [] st n I L P = mm_E d 125 8 lv [] (.inl (-1) :: st) n I L P) ∧
  (∀ (lv : List mm_V) z, mm_E d 125 8 lv [] [.inl z] n I L P = some (some (.inl z), n, I, L, P)) ∧
  (∀ (lv : List mm_V) (st : List mm_V), mm_E d 125 9 lv [] st n I L P = mm_E d 125 10 lv [] (.inl 1 :: st) n I L P) ∧
  (∀ (st : List mm_V) z (l1 : mm_V) (l2 : mm_V) (l3 : mm_V), mm_E d 125 10 [(.inr (.inr z)), l1, l2, l3] [] st n I L P = mm_E d 125 11 [(.inr (.inr z)), l1, l2, l3] [] ((.inr (.inr z)) :: st) n I L P) ∧
  (∀ (lv : List mm_V) (st : List mm_V) a, (mm_ok n a 11) → mm_E d 125 11 lv [] (.inr (.inr (some a)) :: st) n I L P = mm_E d 125 14 lv [] (.inr (.inr (P a 2)) :: st) n I L P) ∧
  (∀ (lv : List mm_V) (st : List mm_V) a, (mm_ok n a 9) → mm_E d 125 14 lv [] (.inr (.inr (some a)) :: st) n I L P = mm_E d 125 17 lv [] (.inl (I a 0) :: st) n I L P) ∧
  (∀ (lv : List mm_V) (st : List mm_V) a b, mm_E d 125 17 lv [] (.inl b :: .inl a :: st) n I L P = mm_E d 125 18 lv [] (.inl (mm_shl a b) :: st) n I L P) ∧
  (∀ (lv : List mm_V) (st : List mm_V), mm_E d 125 18 lv [] st n I L P = mm_E d 125 19 lv [] (.inl 1 :: st) n I L P) ∧
  (∀ (lv : List mm_V) (st : List mm_V) a b, mm_E d 125 19 lv [] (.inl b :: .inl a :: st) n I L P = mm_E d 125 20 lv [] (.inl (mm_sub a b) :: st) n I L P) ∧
  (∀ (st : List mm_V) z (l0 : mm_V) (l1 : mm_V) (l2 : mm_V) (l3 : mm_V), mm_E d 125 20 [l0, l1, l2, l3] [] ((.inl z) :: st) n I L P = mm_E d 125 21 [l0, (.inl z), l2, l3] [] st n I L P) ∧
  (∀ (st : List mm_V) z (l0 : mm_V) (l2 : mm_V) (l3 : mm_V), mm_E d 125 21 [l0, (.inl z), l2, l3] [] st n I L P = mm_E d 125 22 [l0, (.inl z), l2, l3] [] ((.inl z) :: st) n I L P) ∧
  (∀ (st : List mm_V) z (l0 : mm_V) (l1 : mm_V) (l2 : mm_V) (l3 : mm_V), mm_E d 125 22 [l0, l1, l2, l3] [] ((.inl z) :: st) n I L P = mm_E d 125 23 [l0, l1, (.inl z), l3] [] st n I L P) ∧
  (∀ (lv : List mm_V) (st : List mm_V), mm_E d 125 23 lv [] st n I L P = mm_E d 125 24 lv [] (.inl 1 :: st) n I L P) ∧
  (∀ (st : List mm_V) z (l0 : mm_V) (l1 : mm_V) (l2 : mm_V) (l3 : mm_V), mm_E d 125 24 [l0, l1, l2, l3] [] ((.inl z) :: st) n I L P = mm_E d 125 25 [l0, l1, l2, (.inl z)] [] st n I L P) ∧
  (∀ (st : List mm_V) z (l0 : mm_V) (l2 : mm_V) (l3 : mm_V), mm_E d 125 26 [l0, (.inl z), l2, l3] [] st n I L P = mm_E d 125 27 [l0, (.inl z), l2, l3] [] ((.inl z) :: st) n I L P) ∧
  (∀ (lv : List mm_V) (st : List mm_V) a b, mm_E d 125 27 lv [] (.inl b :: .inl a :: st) n I L P = if b ≤ a then mm_E d 125 61 lv [] st n I L P else mm_E d 125 30 lv [] st n I L P) ∧
  (∀ (st : List mm_V) z (l0 : mm_V) (l1 : mm_V) (l2 : mm_V), mm_E d 125 30 [l0, l1, l2, (.inl z)] [] st n I L P = mm_E d 125 31 [l0, l1, l2, (.inl z)] [] ((.inl z) :: st) n I L P) ∧
  (∀ (lv : List mm_V) x0, mm_E d 125 31 lv [] (.inl x0 :: []) n I L P = mm_kr d 125 34 lv [] [] n (mm_rn d 263 [.inl x0] n I L P)) ∧
  (∀ (st : List mm_V) z (l0 : mm_V) (l1 : mm_V) (l3 : mm_V), mm_E d 125 34 [l0, l1, (.inl z), l3] [] st n I L P = mm_E d 125 35 [l0, l1, (.inl z), l3] [] ((.inl z) :: st) n I L P) ∧
  (∀ (lv : List mm_V) x0 w0, mm_E d 125 35 lv [] (.inl x0 :: [.inl w0]) n I L P = mm_kr d 125 38 lv [] [.inl w0] n (mm_rn d 263 [.inl x0] n I L P)) ∧
  (∀ (lv : List mm_V) (st : List mm_V) a b, mm_E d 125 38 lv [] (.inl b :: .inl a :: st) n I L P = if b ≤ a then mm_E d 125 55 lv [] st n I L P else mm_E d 125 41 lv [] st n I L P) ∧
  (∀ (st : List mm_V) z (l1 : mm_V) (l2 : mm_V) (l3 : mm_V), mm_E d 125 41 [(.inr (.inr z)), l1, l2, l3] [] st n I L P = mm_E d 125 42 [(.inr (.inr z)), l1, l2, l3] [] ((.inr (.inr z)) :: st) n I L P) ∧
  (∀ (lv : List mm_V) (st : List mm_V) a, (mm_ok n a 11) → mm_E d 125 42 lv [] (.inr (.inr (some a)) :: st) n I L P = mm_E d 125 45 lv [] (.inr (.inr (P a 2)) :: st) n I L P) ∧
  (∀ (st : List mm_V) z (l0 : mm_V) (l1 : mm_V) (l2 : mm_V), mm_E d 125 45 [l0, l1, l2, (.inl z)] [] st n I L P = mm_E d 125 46 [l0, l1, l2, (.inl z)] [] ((.inl z) :: st) n I L P) ∧
  (∀ (lv : List mm_V) a x0, (mm_ok n a 9) → mm_E d 125 46 lv [] (.inl x0 :: .inr (.inr (some a)) :: []) n I L P = mm_kr d 125 49 lv [] [] n (mm_rn d 69 [.inr (.inr (some a)), .inl x0] n I L P)) ∧
  (∀ (st : List mm_V) z (l0 : mm_V) (l2 : mm_V) (l3 : mm_V), mm_E d 125 49 [l0, (.inl z), l2, l3] [] st n I L P = mm_E d 125 50 [l0, (.inl z), l2, l3] [] ((.inl z) :: st) n I L P) ∧
  (∀ (lv : List mm_V) (st : List mm_V) a b, mm_E d 125 50 lv [] (.inl b :: .inl a :: st) n I L P = if a = b then mm_E d 125 53 lv [] st n I L P else mm_E d 125 55 lv [] st n I L P) ∧
  (∀ (st : List mm_V) z (l0 : mm_V) (l1 : mm_V) (l2 : mm_V), mm_E d 125 53 [l0, l1, l2, (.inl z)] [] st n I L P = mm_E d 125 54 [l0, l1, l2, (.inl z)] [] ((.inl z) :: st) n I L P) ∧
  (∀ (st : List mm_V) z (l0 : mm_V) (l1 : mm_V) (l2 : mm_V) (l3 : mm_V), mm_E d 125 54 [l0, l1, l2, l3] [] ((.inl z) :: st) n I L P = mm_E d 125 55 [l0, l1, (.inl z), l3] [] st n I L P) ∧
  (∀ (st : List mm_V) z (l0 : mm_V) (l1 : mm_V) (l2 : mm_V), mm_E d 125 55 [l0, l1, l2, (.inl z)] [] st n I L P = mm_E d 125 58 [l0, l1, l2, (.inl (mm_add z 1))] [] st n I L P) ∧
  (∀ (lv : List mm_V) (st : List mm_V), mm_E d 125 58 lv [] st n I L P = mm_E d 125 25 lv [] st n I L P) ∧
  (∀ (st : List mm_V) z (l0 : mm_V) (l1 : mm_V) (l3 : mm_V), mm_E d 125 61 [l0, l1, (.inl z), l3] [] st n I L P = mm_E d 125 62 [l0, l1, (.inl z), l3] [] ((.inl z) :: st) n I L P) ∧
  (∀ (lv : List mm_V) z, mm_E d 125 62 lv [] [.inl z] n I L P = some (some (.inl z), n, I, L, P)) :=
  ⟨fun _ _ _ _ _ => mq_al (i := 0) rfl rfl,
   fun _ _ h0 => mq_cVr (na := 0) rfl rfl (Nat.le_of_ble_eq_true rfl) (Nat.le_of_ble_eq_true rfl) h0,
   fun _ _ _ => mq_if_eq rfl,
   fun _ _ => mq_push rfl,
   fun _ _ => mq_ri rfl,
   fun _ _ => mq_push rfl,
   fun _ _ _ _ _ => mq_al (i := 0) rfl rfl,
   fun _ _ _ h0 => mq_getR rfl h0,
   fun _ _ _ h0 => mq_getI rfl h0,
   fun _ _ _ _ => mq_bi rfl,
   fun _ _ => mq_push rfl,
   fun _ _ _ _ => mq_bi rfl,
   fun _ _ _ _ _ _ => mq_is (i := 1) rfl rfl rfl,
   fun _ _ _ _ _ => mq_il (i := 1) rfl rfl,
   fun _ _ _ _ _ _ => mq_is (i := 2) rfl rfl rfl,
   fun _ _ => mq_push rfl,
   fun _ _ _ _ _ _ => mq_is (i := 3) rfl rfl rfl,
   fun _ _ _ _ _ => mq_il (i := 1) rfl rfl,
   fun _ _ _ _ => mq_ic_ge rfl,
   fun _ _ _ _ _ => mq_il (i := 3) rfl rfl,
   fun _ _ => mq_cSr (na := 1) rfl (Nat.le_of_ble_eq_true rfl) (Nat.le_of_ble_eq_true rfl),
   fun _ _ _ _ _ => mq_il (i := 2) rfl rfl,
   fun _ _ _ => mq_cSr (na := 1) rfl (Nat.le_of_ble_eq_true rfl) (Nat.le_of_ble_eq_true rfl),
   fun _ _ _ _ => mq_ic_ge rfl,
   fun _ _ _ _ _ => mq_al (i := 0) rfl rfl,
   fun _ _ _ h0 => mq_getR rfl h0,
   fun _ _ _ _ _ => mq_il (i := 3) rfl rfl,
   fun _ _ _ h0 => mq_cVr (na := 1) rfl rfl (Nat.le_of_ble_eq_true rfl) (Nat.le_of_ble_eq_true rfl) h0,
   fun _ _ _ _ _ => mq_il (i := 1) rfl rfl,
   fun _ _ _ _ => mq_ic_ne rfl,
   fun _ _ _ _ _ => mq_il (i := 3) rfl rfl,
   fun _ _ _ _ _ _ => mq_is (i := 2) rfl rfl rfl,
   fun _ _ _ _ _ => mq_iinc (i := 3) rfl rfl rfl rfl,
   fun _ _ => mq_go rfl,
   fun _ _ _ _ _ => mq_il (i := 2) rfl rfl,
   fun _ _ => mq_ri rfl⟩
theorem hX11_cover_25 (d n : Nat) (I L : mm_I) (P : mm_P) : ∀ (st : List mm_V) z (l0 : mm_V) (l1 : mm_V) (l2 : mm_V), mm_E d 125 25 [l0, l1, l2, (.inl z)] [] st n I L P = mm_E d 125 26 [l0, l1, l2, (.inl z)] [] ((.inl z) :: st) n I L P := fun _ _ _ _ _ => mq_il (i := 3) rfl rfl
theorem eX11_cover (d n : Nat) (I L : mm_I) (P : mm_P) (x0 : Option Nat) : mm_rn (d + 1) 125 [.inr (.inr x0)] n I L P = mm_E d 125 0 [.inr (.inr x0), mm_junk, mm_junk, mm_junk] [] [] n I L P := rfl

set_option maxRecDepth 20000 in
set_option maxHeartbeats 8000000 in
theorem kX11_seen (d n : Nat) (I L : mm_I) (P : mm_P) :
  (∀ (st : List mm_V) z (l1 : mm_V) (l2 : mm_V) (l3 : mm_V) (l4 : mm_V), mm_E d 126 0 [(.inr (.inr z)), l1, l2, l3, l4] [] st n I L P = mm_E d 126 1 [(.inr (.inr z)), l1, l2, l3, l4] [] ((.inr (.inr z)) :: st) n I L P) ∧
  (∀ (lv : List mm_V) (st : List mm_V) a, (mm_ok n a 11) → mm_E d 126 1 lv [] (.inr (.inr (some a)) :: st) n I L P = mm_E d 126 4 lv [] (.inr (.inr (P a 2)) :: st) n I L P) ∧
  (∀ (st : List mm_V) z (l0 : mm_V) (l2 : mm_V) (l3 : mm_V) (l4 : mm_V), mm_E d 126 4 [l0, (.inl z), l2, l3, l4] [] st n I L P = mm_E d 126 5 [l0, (.inl z), l2, l3, l4] [] ((.inl z) :: st) n I L P) ∧
  (∀ (lv : List mm_V) a x0, (mm_ok n a 9) → mm_E d 126 5 lv [] (.inl x0 :: .inr (.inr (some a)) :: []) n I L P = mm_kr d 126 8 lv [] [] n (mm_rn d 63 [.inr (.inr (some a)), .inl x0] n I L P)) ∧
  (∀ (lv : List mm_V) (st : List mm_V) a, mm_E d 126 8 lv [] (.inl a :: st) n I L P = if a = 0 then mm_E d 126 44 lv [] st n I L P else mm_E d 126 11 lv [] st n I L P) ∧
  (∀ (st : List mm_V) z (l0 : mm_V) (l1 : mm_V) (l3 : mm_V) (l4 : mm_V), mm_E d 126 11 [l0, l1, (.inl z), l3, l4] [] st n I L P = mm_E d 126 12 [l0, l1, (.inl z), l3, l4] [] ((.inl z) :: st) n I L P) ∧
  (∀ (lv : List mm_V) (st : List mm_V), mm_E d 126 12 lv [] st n I L P = mm_E d 126 13 lv [] (.inl 1 :: st) n I L P) ∧
  (∀ (lv : List mm_V) (st : List mm_V) a b, mm_E d 126 13 lv [] (.inl b :: .inl a :: st) n I L P = if a < b then mm_E d 126 44 lv [] st n I L P else mm_E d 126 16 lv [] st n I L P) ∧
  (∀ (st : List mm_V) z (l0 : mm_V) (l1 : mm_V) (l3 : mm_V) (l4 : mm_V), mm_E d 126 16 [l0, l1, (.inl z), l3, l4] [] st n I L P = mm_E d 126 17 [l0, l1, (.inl z), l3, l4] [] ((.inl z) :: st) n I L P) ∧
  (∀ (lv : List mm_V) (st : List mm_V), mm_E d 126 17 lv [] st n I L P = mm_E d 126 19 lv [] (.inl 20 :: st) n I L P) ∧
  (∀ (lv : List mm_V) (st : List mm_V) a b, mm_E d 126 19 lv [] (.inl b :: .inl a :: st) n I L P = if b < a then mm_E d 126 44 lv [] st n I L P else mm_E d 126 22 lv [] st n I L P) ∧
  (∀ (st : List mm_V) z (l0 : mm_V) (l1 : mm_V) (l2 : mm_V) (l4 : mm_V), mm_E d 126 22 [l0, l1, l2, (.inl z), l4] [] st n I L P = mm_E d 126 23 [l0, l1, l2, (.inl z), l4] [] ((.inl z) :: st) n I L P) ∧
  (∀ (lv : List mm_V) (st : List mm_V) a, mm_E d 126 23 lv [] (.inl a :: st) n I L P = if a < 0 then mm_E d 126 44 lv [] st n I L P else mm_E d 126 26 lv [] st n I L P) ∧
  (∀ (st : List mm_V) z (l0 : mm_V) (l1 : mm_V) (l2 : mm_V) (l4 : mm_V), mm_E d 126 26 [l0, l1, l2, (.inl z), l4] [] st n I L P = mm_E d 126 27 [l0, l1, l2, (.inl z), l4] [] ((.inl z) :: st) n I L P) ∧
  (∀ (lv : List mm_V) (st : List mm_V), mm_E d 126 27 lv [] st n I L P = mm_E d 126 29 lv [] (.inl 99 :: st) n I L P) ∧
  (∀ (lv : List mm_V) (st : List mm_V) a b, mm_E d 126 29 lv [] (.inl b :: .inl a :: st) n I L P = if b < a then mm_E d 126 44 lv [] st n I L P else mm_E d 126 32 lv [] st n I L P) ∧
  (∀ (st : List mm_V) z (l1 : mm_V) (l2 : mm_V) (l3 : mm_V) (l4 : mm_V), mm_E d 126 32 [(.inr (.inr z)), l1, l2, l3, l4] [] st n I L P = mm_E d 126 33 [(.inr (.inr z)), l1, l2, l3, l4] [] ((.inr (.inr z)) :: st) n I L P) ∧
  (∀ (lv : List mm_V) (st : List mm_V) a, (mm_ok n a 11) → mm_E d 126 33 lv [] (.inr (.inr (some a)) :: st) n I L P = mm_E d 126 36 lv [] (.inr (.inr (P a 14)) :: st) n I L P) ∧
  (∀ (lv : List mm_V) (st : List mm_V) a, (mm_ok n a 2) → mm_E d 126 36 lv [] (.inr (.inr (some a)) :: st) n I L P = mm_E d 126 39 lv [] (.inl (I a 4) :: st) n I L P) ∧
  (∀ (lv : List mm_V) (st : List mm_V), mm_E d 126 39 lv [] st n I L P = mm_E d 126 41 lv [] (.inl 10 :: st) n I L P) ∧
  (∀ (lv : List mm_V) (st : List mm_V) a b, mm_E d 126 41 lv [] (.inl b :: .inl a :: st) n I L P = if a < b then mm_E d 126 46 lv [] st n I L P else mm_E d 126 44 lv [] st n I L P) ∧
  (∀ (lv : List mm_V) (st : List mm_V), mm_E d 126 44 lv [] st n I L P = mm_E d 126 45 lv [] (.inl (-1) :: st) n I L P) ∧
  (∀ (lv : List mm_V) z, mm_E d 126 45 lv [] [.inl z] n I L P = some (some (.inl z), n, I, L, P)) ∧
  (∀ (st : List mm_V) z (l1 : mm_V) (l2 : mm_V) (l3 : mm_V) (l4 : mm_V), mm_E d 126 46 [(.inr (.inr z)), l1, l2, l3, l4] [] st n I L P = mm_E d 126 47 [(.inr (.inr z)), l1, l2, l3, l4] [] ((.inr (.inr z)) :: st) n I L P) ∧
  (∀ (lv : List mm_V) (st : List mm_V) a, (mm_ok n a 11) → mm_E d 126 47 lv [] (.inr (.inr (some a)) :: st) n I L P = mm_E d 126 50 lv [] (.inr (.inr (P a 14)) :: st) n I L P) ∧
  (∀ (st : List mm_V) z (l0 : mm_V) (l2 : mm_V) (l3 : mm_V) (l4 : mm_V), mm_E d 126 50 [l0, (.inl z), l2, l3, l4] [] st n I L P = mm_E d 126 51 [l0, (.inl z), l2, l3, l4] [] ((.inl z) :: st) n I L P) ∧
  (∀ (st : List mm_V) z (l0 : mm_V) (l1 : mm_V) (l3 : mm_V) (l4 : mm_V), mm_E d 126 51 [l0, l1, (.inl z), l3, l4] [] st n I L P = mm_E d 126 52 [l0, l1, (.inl z), l3, l4] [] ((.inl z) :: st) n I L P) ∧
  (∀ (st : List mm_V) z (l0 : mm_V) (l1 : mm_V) (l2 : mm_V) (l4 : mm_V), mm_E d 126 52 [l0, l1, l2, (.inl z), l4] [] st n I L P = mm_E d 126 53 [l0, l1, l2, (.inl z), l4] [] ((.inl z) :: st) n I L P) ∧
  (∀ (st : List mm_V) z (l0 : mm_V) (l1 : mm_V) (l2 : mm_V) (l3 : mm_V), mm_E d 126 53 [l0, l1, l2, l3, (.inl z)] [] st n I L P = mm_E d 126 55 [l0, l1, l2, l3, (.inl z)] [] ((.inl z) :: st) n I L P) ∧
  (∀ (lv : List mm_V) a x0 x1 x2 x3, (mm_ok n a 2) → mm_E d 126 55 lv [] (.inl x3 :: .inl x2 :: .inl x1 :: .inl x0 :: .inr (.inr (some a)) :: []) n I L P = mm_kv d 126 58 lv [] [] n (mm_rn d 12 [.inr (.inr (some a)), .inl x0, .inl x1, .inl x2, .inl x3] n I L P)) ∧
  (∀ (st : List mm_V) z (l1 : mm_V) (l2 : mm_V) (l3 : mm_V) (l4 : mm_V), mm_E d 126 58 [(.inr (.inr z)), l1, l2, l3, l4] [] st n I L P = mm_E d 126 59 [(.inr (.inr z)), l1, l2, l3, l4] [] ((.inr (.inr z)) :: st) n I L P) ∧
  (∀ (lv : List mm_V) (st : List mm_V) a, (mm_ok n a 11) → mm_E d 126 59 lv [] (.inr (.inr (some a)) :: st) n I L P = mm_E d 126 62 lv [] (.inr (.inr (P a 14)) :: st) n I L P) ∧
  (∀ (lv : List mm_V) (st : List mm_V) a, (mm_ok n a 2) → mm_E d 126 62 lv [] (.inr (.inr (some a)) :: st) n I L P = mm_E d 126 65 lv [] (.inl (I a 4) :: st) n I L P) ∧
  (∀ (lv : List mm_V) z, mm_E d 126 65 lv [] [.inl z] n I L P = some (some (.inl z), n, I, L, P)) :=
  ⟨fun _ _ _ _ _ _ => mq_al (i := 0) rfl rfl,
   fun _ _ _ h0 => mq_getR rfl h0,
   fun _ _ _ _ _ _ => mq_il (i := 1) rfl rfl,
   fun _ _ _ h0 => mq_cVr (na := 1) rfl rfl (Nat.le_of_ble_eq_true rfl) (Nat.le_of_ble_eq_true rfl) h0,
   fun _ _ _ => mq_if_eq rfl,
   fun _ _ _ _ _ _ => mq_il (i := 2) rfl rfl,
   fun _ _ => mq_push rfl,
   fun _ _ _ _ => mq_ic_lt rfl,
   fun _ _ _ _ _ _ => mq_il (i := 2) rfl rfl,
   fun _ _ => mq_push rfl,
   fun _ _ _ _ => mq_ic_gt rfl,
   fun _ _ _ _ _ _ => mq_il (i := 3) rfl rfl,
   fun _ _ _ => mq_if_lt rfl,
   fun _ _ _ _ _ _ => mq_il (i := 3) rfl rfl,
   fun _ _ => mq_push rfl,
   fun _ _ _ _ => mq_ic_gt rfl,
   fun _ _ _ _ _ _ => mq_al (i := 0) rfl rfl,
   fun _ _ _ h0 => mq_getR rfl h0,
   fun _ _ _ h0 => mq_getI rfl h0,
   fun _ _ => mq_push rfl,
   fun _ _ _ _ => mq_ic_lt rfl,
   fun _ _ => mq_push rfl,
   fun _ _ => mq_ri rfl,
   fun _ _ _ _ _ _ => mq_al (i := 0) rfl rfl,
   fun _ _ _ h0 => mq_getR rfl h0,
   fun _ _ _ _ _ _ => mq_il (i := 1) rfl rfl,
   fun _ _ _ _ _ _ => mq_il (i := 2) rfl rfl,
   fun _ _ _ _ _ _ => mq_il (i := 3) rfl rfl,
   fun _ _ _ _ _ _ => mq_il (i := 4) rfl rfl,
   fun _ _ _ _ _ _ h0 => mq_cVv (na := 4) rfl rfl (Nat.le_of_ble_eq_true rfl) (Nat.le_of_ble_eq_true rfl) h0,
   fun _ _ _ _ _ _ => mq_al (i := 0) rfl rfl,
   fun _ _ _ h0 => mq_getR rfl h0,
   fun _ _ _ h0 => mq_getI rfl h0,
   fun _ _ => mq_ri rfl⟩
theorem eX11_seen (d n : Nat) (I L : mm_I) (P : mm_P) (x0 : Option Nat) (x1 : Int) (x2 : Int) (x3 : Int) (x4 : Int) : mm_rn (d + 1) 126 [.inr (.inr x0), .inl x1, .inl x2, .inl x3, .inl x4] n I L P = mm_E d 126 0 [.inr (.inr x0), .inl x1, .inl x2, .inl x3, .inl x4] [] [] n I L P := rfl

set_option maxRecDepth 20000 in
set_option maxHeartbeats 8000000 in
theorem kX11_fits (d n : Nat) (I L : mm_I) (P : mm_P) :
  (∀ (st : List mm_V) z (l1 : mm_V), mm_E d 127 0 [(.inr (.inr z)), l1] [] st n I L P = mm_E d 127 1 [(.inr (.inr z)), l1] [] ((.inr (.inr z)) :: st) n I L P) ∧
  (∀ (lv : List mm_V) a, (mm_ok n a 11) → mm_E d 127 1 lv [] (.inr (.inr (some a)) :: []) n I L P = mm_kr d 127 4 lv [] [] n (mm_rn d 92 [.inr (.inr (some a))] n I L P)) ∧
  (∀ (lv : List mm_V) (st : List mm_V) a, mm_E d 127 4 lv [] (.inl a :: st) n I L P = if a = 0 then mm_E d 127 11 lv [] st n I L P else mm_E d 127 7 lv [] st n I L P) ∧
  (∀ (lv : List mm_V) (st : List mm_V), mm_E d 127 7 lv [] st n I L P = mm_E d 127 8 lv [] (.inl (-1) :: st) n I L P) ∧
  (∀ (lv : List mm_V) (st : List mm_V), mm_E d 127 8 lv [] st n I L P = mm_E d 127 27 lv [] st n I L P) ∧
  (∀ (st : List mm_V) z (l1 : mm_V), mm_E d 127 11 [(.inr (.inr z)), l1] [] st n I L P = mm_E d 127 12 [(.inr (.inr z)), l1] [] ((.inr (.inr z)) :: st) n I L P) ∧
  (∀ (lv : List mm_V) (st : List mm_V) a, (mm_ok n a 11) → mm_E d 127 12 lv [] (.inr (.inr (some a)) :: st) n I L P = mm_E d 127 15 lv [] (.inr (.inr (P a 14)) :: st) n I L P) ∧
  (∀ (st : List mm_V) z (l1 : mm_V), mm_E d 127 15 [(.inr (.inr z)), l1] [] st n I L P = mm_E d 127 16 [(.inr (.inr z)), l1] [] ((.inr (.inr z)) :: st) n I L P) ∧
  (∀ (lv : List mm_V) (st : List mm_V) a, (mm_ok n a 11) → mm_E d 127 16 lv [] (.inr (.inr (some a)) :: st) n I L P = mm_E d 127 19 lv [] (.inr (.inr (P a 2)) :: st) n I L P) ∧
  (∀ (st : List mm_V) z (l1 : mm_V), mm_E d 127 19 [(.inr (.inr z)), l1] [] st n I L P = mm_E d 127 20 [(.inr (.inr z)), l1] [] ((.inr (.inr z)) :: st) n I L P) ∧
  (∀ (lv : List mm_V) a w0 w1, (mm_ok n a 11) → mm_E d 127 20 lv [] (.inr (.inr (some a)) :: [.inr (.inr w0), .inr (.inr w1)]) n I L P = mm_kr d 127 23 lv [] [.inr (.inr w0), .inr (.inr w1)] n (mm_rn d 96 [.inr (.inr (some a))] n I L P)) ∧
  (∀ (st : List mm_V) z (l0 : mm_V), mm_E d 127 23 [l0, (.inl z)] [] st n I L P = mm_E d 127 24 [l0, (.inl z)] [] ((.inl z) :: st) n I L P) ∧
  (∀ (lv : List mm_V) a x0 x1 x2, (mm_ok n a 2) → mm_E d 127 24 lv [] (.inl x2 :: .inr (.inr x1) :: .inr (.inr x0) :: .inr (.inr (some a)) :: []) n I L P = mm_kr d 127 27 lv [] [] n (mm_rn d 13 [.inr (.inr (some a)), .inr (.inr x0), .inr (.inr x1), .inl x2] n I L P)) ∧
  (∀ (lv : List mm_V) z, mm_E d 127 27 lv [] [.inl z] n I L P = some (some (.inl z), n, I, L, P)) :=
  ⟨fun _ _ _ => mq_al (i := 0) rfl rfl,
   fun _ _ h0 => mq_cVr (na := 0) rfl rfl (Nat.le_of_ble_eq_true rfl) (Nat.le_of_ble_eq_true rfl) h0,
   fun _ _ _ => mq_if_eq rfl,
   fun _ _ => mq_push rfl,
   fun _ _ => mq_go rfl,
   fun _ _ _ => mq_al (i := 0) rfl rfl,
   fun _ _ _ h0 => mq_getR rfl h0,
   fun _ _ _ => mq_al (i := 0) rfl rfl,
   fun _ _ _ h0 => mq_getR rfl h0,
   fun _ _ _ => mq_al (i := 0) rfl rfl,
   fun _ _ _ _ h0 => mq_cVr (na := 0) rfl rfl (Nat.le_of_ble_eq_true rfl) (Nat.le_of_ble_eq_true rfl) h0,
   fun _ _ _ => mq_il (i := 1) rfl rfl,
   fun _ _ _ _ _ h0 => mq_cVr (na := 3) rfl rfl (Nat.le_of_ble_eq_true rfl) (Nat.le_of_ble_eq_true rfl) h0,
   fun _ _ => mq_ri rfl⟩
theorem eX11_fits (d n : Nat) (I L : mm_I) (P : mm_P) (x0 : Option Nat) (x1 : Int) : mm_rn (d + 1) 127 [.inr (.inr x0), .inl x1] n I L P = mm_E d 127 0 [.inr (.inr x0), .inl x1] [] [] n I L P := rfl

set_option maxRecDepth 20000 in
set_option maxHeartbeats 8000000 in
theorem kX11_ask (d n : Nat) (I L : mm_I) (P : mm_P) :
  (∀ (st : List mm_V) z (l1 : mm_V), mm_E d 128 0 [(.inr (.inr z)), l1] [] st n I L P = mm_E d 128 1 [(.inr (.inr z)), l1] [] ((.inr (.inr z)) :: st) n I L P) ∧
  (∀ (lv : List mm_V) (st : List mm_V) a, (mm_ok n a 11) → mm_E d 128 1 lv [] (.inr (.inr (some a)) :: st) n I L P = mm_E d 128 4 lv [] (.inr (.inr (P a 2)) :: st) n I L P) ∧
  (∀ (st : List mm_V) z (l0 : mm_V), mm_E d 128 4 [l0, (.inl z)] [] st n I L P = mm_E d 128 5 [l0, (.inl z)] [] ((.inl z) :: st) n I L P) ∧
  (∀ (lv : List mm_V) a x0, (mm_ok n a 9) → mm_E d 128 5 lv [] (.inl x0 :: .inr (.inr (some a)) :: []) n I L P = mm_kr d 128 8 lv [] [] n (mm_rn d 63 [.inr (.inr (some a)), .inl x0] n I L P)) ∧
  (∀ (lv : List mm_V) (st : List mm_V) a, mm_E d 128 8 lv [] (.inl a :: st) n I L P = if a = 0 then mm_E d 128 30 lv [] st n I L P else mm_E d 128 11 lv [] st n I L P) ∧
  (∀ (st : List mm_V) z (l1 : mm_V), mm_E d 128 11 [(.inr (.inr z)), l1] [] st n I L P = mm_E d 128 12 [(.inr (.inr z)), l1] [] ((.inr (.inr z)) :: st) n I L P) ∧
  (∀ (lv : List mm_V) (st : List mm_V) a, (mm_ok n a 11) → mm_E d 128 12 lv [] (.inr (.inr (some a)) :: st) n I L P = mm_E d 128 15 lv [] (.inr (.inr (P a 14)) :: st) n I L P) ∧
  (∀ (st : List mm_V) z (l1 : mm_V), mm_E d 128 15 [(.inr (.inr z)), l1] [] st n I L P = mm_E d 128 16 [(.inr (.inr z)), l1] [] ((.inr (.inr z)) :: st) n I L P) ∧
  (∀ (lv : List mm_V) (st : List mm_V) a, (mm_ok n a 11) → mm_E d 128 16 lv [] (.inr (.inr (some a)) :: st) n I L P = mm_E d 128 19 lv [] (.inr (.inr (P a 2)) :: st) n I L P) ∧
  (∀ (st : List mm_V) z (l1 : mm_V), mm_E d 128 19 [(.inr (.inr z)), l1] [] st n I L P = mm_E d 128 20 [(.inr (.inr z)), l1] [] ((.inr (.inr z)) :: st) n I L P) ∧
  (∀ (lv : List mm_V) a w0 w1, (mm_ok n a 11) → mm_E d 128 20 lv [] (.inr (.inr (some a)) :: [.inr (.inr w0), .inr (.inr w1)]) n I L P = mm_kr d 128 23 lv [] [.inr (.inr w0), .inr (.inr w1)] n (mm_rn d 96 [.inr (.inr (some a))] n I L P)) ∧
  (∀ (st : List mm_V) z (l0 : mm_V), mm_E d 128 23 [l0, (.inl z)] [] st n I L P = mm_E d 128 24 [l0, (.inl z)] [] ((.inl z) :: st) n I L P) ∧
  (∀ (lv : List mm_V) a x0 x1 x2, (mm_ok n a 2) → mm_E d 128 24 lv [] (.inl x2 :: .inr (.inr x1) :: .inr (.inr x0) :: .inr (.inr (some a)) :: []) n I L P = mm_kr d 128 27 lv [] [] n (mm_rn d 17 [.inr (.inr (some a)), .inr (.inr x0), .inr (.inr x1), .inl x2] n I L P)) ∧
  (∀ (lv : List mm_V) (st : List mm_V), mm_E d 128 27 lv [] st n I L P = mm_E d 128 31 lv [] st n I L P) ∧
  (∀ (lv : List mm_V) (st : List mm_V), mm_E d 128 30 lv [] st n I L P = mm_E d 128 31 lv [] (.inl (-1) :: st) n I L P) ∧
  (∀ (lv : List mm_V) z, mm_E d 128 31 lv [] [.inl z] n I L P = some (some (.inl z), n, I, L, P)) :=
  ⟨fun _ _ _ => mq_al (i := 0) rfl rfl,
   fun _ _ _ h0 => mq_getR rfl h0,
   fun _ _ _ => mq_il (i := 1) rfl rfl,
   fun _ _ _ h0 => mq_cVr (na := 1) rfl rfl (Nat.le_of_ble_eq_true rfl) (Nat.le_of_ble_eq_true rfl) h0,
   fun _ _ _ => mq_if_eq rfl,
   fun _ _ _ => mq_al (i := 0) rfl rfl,
   fun _ _ _ h0 => mq_getR rfl h0,
   fun _ _ _ => mq_al (i := 0) rfl rfl,
   fun _ _ _ h0 => mq_getR rfl h0,
   fun _ _ _ => mq_al (i := 0) rfl rfl,
   fun _ _ _ _ h0 => mq_cVr (na := 0) rfl rfl (Nat.le_of_ble_eq_true rfl) (Nat.le_of_ble_eq_true rfl) h0,
   fun _ _ _ => mq_il (i := 1) rfl rfl,
   fun _ _ _ _ _ h0 => mq_cVr (na := 3) rfl rfl (Nat.le_of_ble_eq_true rfl) (Nat.le_of_ble_eq_true rfl) h0,
   fun _ _ => mq_go rfl,
   fun _ _ => mq_push rfl,
   fun _ _ => mq_ri rfl⟩
theorem eX11_ask (d n : Nat) (I L : mm_I) (P : mm_P) (x0 : Option Nat) (x1 : Int) : mm_rn (d + 1) 128 [.inr (.inr x0), .inl x1] n I L P = mm_E d 128 0 [.inr (.inr x0), .inl x1] [] [] n I L P := rfl

set_option maxRecDepth 20000 in
set_option maxHeartbeats 8000000 in
theorem kX11_game (d n : Nat) (I L : mm_I) (P : mm_P) :
  (∀ (st : List mm_V) z (l1 : mm_V) (l2 : mm_V) (l3 : mm_V) (l4 : mm_V) (l5 : mm_V), mm_E d 129 0 [(.inr (.inr z)), l1, l2, l3, l4, l5] [] st n I L P = mm_E d 129 1 [(.inr (.inr z)), l1, l2, l3, l4, l5] [] ((.inr (.inr z)) :: st) n I L P) ∧
  (∀ (st : List mm_V) z (l0 : mm_V) (l2 : mm_V) (l3 : mm_V) (l4 : mm_V) (l5 : mm_V), mm_E d 129 1 [l0, (.inl z), l2, l3, l4, l5] [] st n I L P = mm_E d 129 2 [l0, (.inl z), l2, l3, l4, l5] [] ((.inl z) :: st) n I L P) ∧
  (∀ (st : List mm_V) z (l0 : mm_V) (l1 : mm_V) (l3 : mm_V) (l4 : mm_V) (l5 : mm_V), mm_E d 129 2 [l0, l1, (.inl z), l3, l4, l5] [] st n I L P = mm_E d 129 3 [l0, l1, (.inl z), l3, l4, l5] [] ((.inl z) :: st) n I L P) ∧
  (∀ (lv : List mm_V) a x0 x1, (mm_ok n a 11) → mm_E d 129 3 lv [] (.inl x1 :: .inl x0 :: .inr (.inr (some a)) :: []) n I L P = mm_kr d 129 6 lv [] [] n (mm_rn d 130 [.inr (.inr (some a)), .inl x0, .inl x1] n I L P)) ∧
  (∀ (lv : List mm_V) (st : List mm_V) a, mm_E d 129 6 lv [] (.inl a :: st) n I L P = if a = 0 then mm_E d 129 40 lv [] st n I L P else mm_E d 129 9 lv [] st n I L P) ∧
  (∀ (st : List mm_V) z (l0 : mm_V) (l1 : mm_V) (l2 : mm_V) (l4 : mm_V) (l5 : mm_V), mm_E d 129 9 [l0, l1, l2, (.inl z), l4, l5] [] st n I L P = mm_E d 129 10 [l0, l1, l2, (.inl z), l4, l5] [] ((.inl z) :: st) n I L P) ∧
  (∀ (lv : List mm_V) (st : List mm_V) a, mm_E d 129 10 lv [] (.inl a :: st) n I L P = if a < 0 then mm_E d 129 40 lv [] st n I L P else mm_E d 129 13 lv [] st n I L P) ∧
  (∀ (st : List mm_V) z (l0 : mm_V) (l1 : mm_V) (l2 : mm_V) (l4 : mm_V) (l5 : mm_V), mm_E d 129 13 [l0, l1, l2, (.inl z), l4, l5] [] st n I L P = mm_E d 129 14 [l0, l1, l2, (.inl z), l4, l5] [] ((.inl z) :: st) n I L P) ∧
  (∀ (lv : List mm_V) (st : List mm_V), mm_E d 129 14 lv [] st n I L P = mm_E d 129 15 lv [] (.inl 1 :: st) n I L P) ∧
  (∀ (lv : List mm_V) (st : List mm_V) a b, mm_E d 129 15 lv [] (.inl b :: .inl a :: st) n I L P = if b < a then mm_E d 129 40 lv [] st n I L P else mm_E d 129 18 lv [] st n I L P) ∧
  (∀ (st : List mm_V) z (l0 : mm_V) (l1 : mm_V) (l2 : mm_V) (l3 : mm_V) (l5 : mm_V), mm_E d 129 18 [l0, l1, l2, l3, (.inl z), l5] [] st n I L P = mm_E d 129 20 [l0, l1, l2, l3, (.inl z), l5] [] ((.inl z) :: st) n I L P) ∧
  (∀ (lv : List mm_V) (st : List mm_V) a, mm_E d 129 20 lv [] (.inl a :: st) n I L P = if a < 0 then mm_E d 129 40 lv [] st n I L P else mm_E d 129 23 lv [] st n I L P) ∧
  (∀ (st : List mm_V) z (l0 : mm_V) (l1 : mm_V) (l2 : mm_V) (l3 : mm_V) (l5 : mm_V), mm_E d 129 23 [l0, l1, l2, l3, (.inl z), l5] [] st n I L P = mm_E d 129 25 [l0, l1, l2, l3, (.inl z), l5] [] ((.inl z) :: st) n I L P) ∧
  (∀ (lv : List mm_V) (st : List mm_V), mm_E d 129 25 lv [] st n I L P = mm_E d 129 26 lv [] (.inl 1 :: st) n I L P) ∧
  (∀ (lv : List mm_V) (st : List mm_V) a b, mm_E d 129 26 lv [] (.inl b :: .inl a :: st) n I L P = if b < a then mm_E d 129 40 lv [] st n I L P else mm_E d 129 29 lv [] st n I L P) ∧
  (∀ (st : List mm_V) z (l0 : mm_V) (l1 : mm_V) (l2 : mm_V) (l3 : mm_V) (l4 : mm_V), mm_E d 129 29 [l0, l1, l2, l3, l4, (.inl z)] [] st n I L P = mm_E d 129 31 [l0, l1, l2, l3, l4, (.inl z)] [] ((.inl z) :: st) n I L P) ∧
  (∀ (lv : List mm_V) (st : List mm_V) a, mm_E d 129 31 lv [] (.inl a :: st) n I L P = if a < 0 then mm_E d 129 40 lv [] st n I L P else mm_E d 129 34 lv [] st n I L P) ∧
  (∀ (st : List mm_V) z (l0 : mm_V) (l1 : mm_V) (l2 : mm_V) (l3 : mm_V) (l4 : mm_V), mm_E d 129 34 [l0, l1, l2, l3, l4, (.inl z)] [] st n I L P = mm_E d 129 36 [l0, l1, l2, l3, l4, (.inl z)] [] ((.inl z) :: st) n I L P) ∧
  (∀ (lv : List mm_V) (st : List mm_V), mm_E d 129 36 lv [] st n I L P = mm_E d 129 37 lv [] (.inl 1 :: st) n I L P) ∧
  (∀ (lv : List mm_V) (st : List mm_V) a b, mm_E d 129 37 lv [] (.inl b :: .inl a :: st) n I L P = if a ≤ b then mm_E d 129 44 lv [] st n I L P else mm_E d 129 40 lv [] st n I L P) ∧
  (∀ (lv : List mm_V) (st : List mm_V), mm_E d 129 40 lv [] st n I L P = mm_E d 129 43 lv [] (.inl (-1000000) :: st) n I L P) ∧
  (∀ (lv : List mm_V) z, mm_E d 129 43 lv [] [.inl z] n I L P = some (some (.inl z), n, I, L, P)) ∧
  (∀ (st : List mm_V) z (l0 : mm_V) (l1 : mm_V) (l2 : mm_V) (l3 : mm_V) (l4 : mm_V), mm_E d 129 44 [l0, l1, l2, l3, l4, (.inl z)] [] st n I L P = mm_E d 129 46 [l0, l1, l2, l3, l4, (.inl z)] [] ((.inl z) :: st) n I L P) ∧
  (∀ (lv : List mm_V) (st : List mm_V) a, mm_E d 129 46 lv [] (.inl a :: st) n I L P = if a = 0 then mm_E d 129 49 lv [] st n I L P else mm_E d 129 61 lv [] st n I L P) ∧
  (∀ (st : List mm_V) z (l1 : mm_V) (l2 : mm_V) (l3 : mm_V) (l4 : mm_V) (l5 : mm_V), mm_E d 129 49 [(.inr (.inr z)), l1, l2, l3, l4, l5] [] st n I L P = mm_E d 129 50 [(.inr (.inr z)), l1, l2, l3, l4, l5] [] ((.inr (.inr z)) :: st) n I L P) ∧
  (∀ (st : List mm_V) z (l0 : mm_V) (l2 : mm_V) (l3 : mm_V) (l4 : mm_V) (l5 : mm_V), mm_E d 129 50 [l0, (.inl z), l2, l3, l4, l5] [] st n I L P = mm_E d 129 51 [l0, (.inl z), l2, l3, l4, l5] [] ((.inl z) :: st) n I L P) ∧
  (∀ (st : List mm_V) z (l0 : mm_V) (l1 : mm_V) (l3 : mm_V) (l4 : mm_V) (l5 : mm_V), mm_E d 129 51 [l0, l1, (.inl z), l3, l4, l5] [] st n I L P = mm_E d 129 52 [l0, l1, (.inl z), l3, l4, l5] [] ((.inl z) :: st) n I L P) ∧
  (∀ (st : List mm_V) z (l0 : mm_V) (l1 : mm_V) (l2 : mm_V) (l4 : mm_V) (l5 : mm_V), mm_E d 129 52 [l0, l1, l2, (.inl z), l4, l5] [] st n I L P = mm_E d 129 53 [l0, l1, l2, (.inl z), l4, l5] [] ((.inl z) :: st) n I L P) ∧
  (∀ (st : List mm_V) z (l0 : mm_V) (l1 : mm_V) (l2 : mm_V) (l3 : mm_V) (l5 : mm_V), mm_E d 129 53 [l0, l1, l2, l3, (.inl z), l5] [] st n I L P = mm_E d 129 55 [l0, l1, l2, l3, (.inl z), l5] [] ((.inl z) :: st) n I L P) ∧
  (∀ (lv : List mm_V) a x0 x1 x2 x3, (mm_ok n a 11) → mm_E d 129 55 lv [] (.inl x3 :: .inl x2 :: .inl x1 :: .inl x0 :: .inr (.inr (some a)) :: []) n I L P = mm_kr d 129 58 lv [] [] n (mm_rn d 132 [.inr (.inr (some a)), .inl x0, .inl x1, .inl x2, .inl x3] n I L P)) ∧
  (∀ (lv : List mm_V) (st : List mm_V), mm_E d 129 58 lv [] st n I L P = mm_E d 129 70 lv [] st n I L P) ∧
  (∀ (st : List mm_V) z (l1 : mm_V) (l2 : mm_V) (l3 : mm_V) (l4 : mm_V) (l5 : mm_V), mm_E d 129 61 [(.inr (.inr z)), l1, l2, l3, l4, l5] [] st n I L P = mm_E d 129 62 [(.inr (.inr z)), l1, l2, l3, l4, l5] [] ((.inr (.inr z)) :: st) n I L P) ∧
  (∀ (st : List mm_V) z (l0 : mm_V) (l2 : mm_V) (l3 : mm_V) (l4 : mm_V) (l5 : mm_V), mm_E d 129 62 [l0, (.inl z), l2, l3, l4, l5] [] st n I L P = mm_E d 129 63 [l0, (.inl z), l2, l3, l4, l5] [] ((.inl z) :: st) n I L P) ∧
  (∀ (st : List mm_V) z (l0 : mm_V) (l1 : mm_V) (l3 : mm_V) (l4 : mm_V) (l5 : mm_V), mm_E d 129 63 [l0, l1, (.inl z), l3, l4, l5] [] st n I L P = mm_E d 129 64 [l0, l1, (.inl z), l3, l4, l5] [] ((.inl z) :: st) n I L P) ∧
  (∀ (st : List mm_V) z (l0 : mm_V) (l1 : mm_V) (l2 : mm_V) (l4 : mm_V) (l5 : mm_V), mm_E d 129 64 [l0, l1, l2, (.inl z), l4, l5] [] st n I L P = mm_E d 129 65 [l0, l1, l2, (.inl z), l4, l5] [] ((.inl z) :: st) n I L P) ∧
  (∀ (st : List mm_V) z (l0 : mm_V) (l1 : mm_V) (l2 : mm_V) (l3 : mm_V) (l5 : mm_V), mm_E d 129 65 [l0, l1, l2, l3, (.inl z), l5] [] st n I L P = mm_E d 129 67 [l0, l1, l2, l3, (.inl z), l5] [] ((.inl z) :: st) n I L P) ∧
  (∀ (lv : List mm_V) a x0 x1 x2 x3, (mm_ok n a 11) → mm_E d 129 67 lv [] (.inl x3 :: .inl x2 :: .inl x1 :: .inl x0 :: .inr (.inr (some a)) :: []) n I L P = mm_kr d 129 70 lv [] [] n (mm_rn d 131 [.inr (.inr (some a)), .inl x0, .inl x1, .inl x2, .inl x3] n I L P)) ∧
  (∀ (lv : List mm_V) z, mm_E d 129 70 lv [] [.inl z] n I L P = some (some (.inl z), n, I, L, P)) :=
  ⟨fun _ _ _ _ _ _ _ => mq_al (i := 0) rfl rfl,
   fun _ _ _ _ _ _ _ => mq_il (i := 1) rfl rfl,
   fun _ _ _ _ _ _ _ => mq_il (i := 2) rfl rfl,
   fun _ _ _ _ h0 => mq_cVr (na := 2) rfl rfl (Nat.le_of_ble_eq_true rfl) (Nat.le_of_ble_eq_true rfl) h0,
   fun _ _ _ => mq_if_eq rfl,
   fun _ _ _ _ _ _ _ => mq_il (i := 3) rfl rfl,
   fun _ _ _ => mq_if_lt rfl,
   fun _ _ _ _ _ _ _ => mq_il (i := 3) rfl rfl,
   fun _ _ => mq_push rfl,
   fun _ _ _ _ => mq_ic_gt rfl,
   fun _ _ _ _ _ _ _ => mq_il (i := 4) rfl rfl,
   fun _ _ _ => mq_if_lt rfl,
   fun _ _ _ _ _ _ _ => mq_il (i := 4) rfl rfl,
   fun _ _ => mq_push rfl,
   fun _ _ _ _ => mq_ic_gt rfl,
   fun _ _ _ _ _ _ _ => mq_il (i := 5) rfl rfl,
   fun _ _ _ => mq_if_lt rfl,
   fun _ _ _ _ _ _ _ => mq_il (i := 5) rfl rfl,
   fun _ _ => mq_push rfl,
   fun _ _ _ _ => mq_ic_le rfl,
   fun _ _ => mq_push rfl,
   fun _ _ => mq_ri rfl,
   fun _ _ _ _ _ _ _ => mq_il (i := 5) rfl rfl,
   fun _ _ _ => mq_if_ne rfl,
   fun _ _ _ _ _ _ _ => mq_al (i := 0) rfl rfl,
   fun _ _ _ _ _ _ _ => mq_il (i := 1) rfl rfl,
   fun _ _ _ _ _ _ _ => mq_il (i := 2) rfl rfl,
   fun _ _ _ _ _ _ _ => mq_il (i := 3) rfl rfl,
   fun _ _ _ _ _ _ _ => mq_il (i := 4) rfl rfl,
   fun _ _ _ _ _ _ h0 => mq_cVr (na := 4) rfl rfl (Nat.le_of_ble_eq_true rfl) (Nat.le_of_ble_eq_true rfl) h0,
   fun _ _ => mq_go rfl,
   fun _ _ _ _ _ _ _ => mq_al (i := 0) rfl rfl,
   fun _ _ _ _ _ _ _ => mq_il (i := 1) rfl rfl,
   fun _ _ _ _ _ _ _ => mq_il (i := 2) rfl rfl,
   fun _ _ _ _ _ _ _ => mq_il (i := 3) rfl rfl,
   fun _ _ _ _ _ _ _ => mq_il (i := 4) rfl rfl,
   fun _ _ _ _ _ _ h0 => mq_cVr (na := 4) rfl rfl (Nat.le_of_ble_eq_true rfl) (Nat.le_of_ble_eq_true rfl) h0,
   fun _ _ => mq_ri rfl⟩
theorem eX11_game (d n : Nat) (I L : mm_I) (P : mm_P) (x0 : Option Nat) (x1 : Int) (x2 : Int) (x3 : Int) (x4 : Int) (x5 : Int) : mm_rn (d + 1) 129 [.inr (.inr x0), .inl x1, .inl x2, .inl x3, .inl x4, .inl x5] n I L P = mm_E d 129 0 [.inr (.inr x0), .inl x1, .inl x2, .inl x3, .inl x4, .inl x5] [] [] n I L P := rfl

set_option maxRecDepth 20000 in
set_option maxHeartbeats 8000000 in
theorem kX11_isPair (d n : Nat) (I L : mm_I) (P : mm_P) :
  (∀ (st : List mm_V) z (l1 : mm_V) (l2 : mm_V), mm_E d 130 0 [(.inr (.inr z)), l1, l2] [] st n I L P = mm_E d 130 1 [(.inr (.inr z)), l1, l2] [] ((.inr (.inr z)) :: st) n I L P) ∧
  (∀ (lv : List mm_V) (st : List mm_V) a, (mm_ok n a 11) → mm_E d 130 1 lv [] (.inr (.inr (some a)) :: st) n I L P = mm_E d 130 4 lv [] (.inr (.inr (P a 2)) :: st) n I L P) ∧
  (∀ (st : List mm_V) z (l0 : mm_V) (l2 : mm_V), mm_E d 130 4 [l0, (.inl z), l2] [] st n I L P = mm_E d 130 5 [l0, (.inl z), l2] [] ((.inl z) :: st) n I L P) ∧
  (∀ (lv : List mm_V) a x0, (mm_ok n a 9) → mm_E d 130 5 lv [] (.inl x0 :: .inr (.inr (some a)) :: []) n I L P = mm_kr d 130 8 lv [] [] n (mm_rn d 63 [.inr (.inr (some a)), .inl x0] n I L P)) ∧
  (∀ (lv : List mm_V) (st : List mm_V) a, mm_E d 130 8 lv [] (.inl a :: st) n I L P = if a = 0 then mm_E d 130 31 lv [] st n I L P else mm_E d 130 11 lv [] st n I L P) ∧
  (∀ (st : List mm_V) z (l1 : mm_V) (l2 : mm_V), mm_E d 130 11 [(.inr (.inr z)), l1, l2] [] st n I L P = mm_E d 130 12 [(.inr (.inr z)), l1, l2] [] ((.inr (.inr z)) :: st) n I L P) ∧
  (∀ (lv : List mm_V) (st : List mm_V) a, (mm_ok n a 11) → mm_E d 130 12 lv [] (.inr (.inr (some a)) :: st) n I L P = mm_E d 130 15 lv [] (.inr (.inr (P a 2)) :: st) n I L P) ∧
  (∀ (st : List mm_V) z (l0 : mm_V) (l1 : mm_V), mm_E d 130 15 [l0, l1, (.inl z)] [] st n I L P = mm_E d 130 16 [l0, l1, (.inl z)] [] ((.inl z) :: st) n I L P) ∧
  (∀ (lv : List mm_V) a x0, (mm_ok n a 9) → mm_E d 130 16 lv [] (.inl x0 :: .inr (.inr (some a)) :: []) n I L P = mm_kr d 130 19 lv [] [] n (mm_rn d 63 [.inr (.inr (some a)), .inl x0] n I L P)) ∧
  (∀ (lv : List mm_V) (st : List mm_V) a, mm_E d 130 19 lv [] (.inl a :: st) n I L P = if a = 0 then mm_E d 130 31 lv [] st n I L P else mm_E d 130 22 lv [] st n I L P) ∧
  (∀ (st : List mm_V) z (l0 : mm_V) (l2 : mm_V), mm_E d 130 22 [l0, (.inl z), l2] [] st n I L P = mm_E d 130 23 [l0, (.inl z), l2] [] ((.inl z) :: st) n I L P) ∧
  (∀ (st : List mm_V) z (l0 : mm_V) (l1 : mm_V), mm_E d 130 23 [l0, l1, (.inl z)] [] st n I L P = mm_E d 130 24 [l0, l1, (.inl z)] [] ((.inl z) :: st) n I L P) ∧
  (∀ (lv : List mm_V) (st : List mm_V) a b, mm_E d 130 24 lv [] (.inl b :: .inl a :: st) n I L P = if a = b then mm_E d 130 31 lv [] st n I L P else mm_E d 130 27 lv [] st n I L P) ∧
  (∀ (lv : List mm_V) (st : List mm_V), mm_E d 130 27 lv [] st n I L P = mm_E d 130 28 lv [] (.inl 1 :: st) n I L P) ∧
  (∀ (lv : List mm_V) (st : List mm_V), mm_E d 130 28 lv [] st n I L P = mm_E d 130 32 lv [] st n I L P) ∧
  (∀ (lv : List mm_V) (st : List mm_V), mm_E d 130 31 lv [] st n I L P = mm_E d 130 32 lv [] (.inl 0 :: st) n I L P) ∧
  (∀ (lv : List mm_V) z, (0 ≤ z ∧ z < 2) → mm_E d 130 32 lv [] [.inl z] n I L P = some (some (.inl z), n, I, L, P)) :=
  ⟨fun _ _ _ _ => mq_al (i := 0) rfl rfl,
   fun _ _ _ h0 => mq_getR rfl h0,
   fun _ _ _ _ => mq_il (i := 1) rfl rfl,
   fun _ _ _ h0 => mq_cVr (na := 1) rfl rfl (Nat.le_of_ble_eq_true rfl) (Nat.le_of_ble_eq_true rfl) h0,
   fun _ _ _ => mq_if_eq rfl,
   fun _ _ _ _ => mq_al (i := 0) rfl rfl,
   fun _ _ _ h0 => mq_getR rfl h0,
   fun _ _ _ _ => mq_il (i := 2) rfl rfl,
   fun _ _ _ h0 => mq_cVr (na := 1) rfl rfl (Nat.le_of_ble_eq_true rfl) (Nat.le_of_ble_eq_true rfl) h0,
   fun _ _ _ => mq_if_eq rfl,
   fun _ _ _ _ => mq_il (i := 1) rfl rfl,
   fun _ _ _ _ => mq_il (i := 2) rfl rfl,
   fun _ _ _ _ => mq_ic_eq rfl,
   fun _ _ => mq_push rfl,
   fun _ _ => mq_go rfl,
   fun _ _ => mq_push rfl,
   fun _ _ h0 => mq_rz rfl h0⟩
theorem eX11_isPair (d n : Nat) (I L : mm_I) (P : mm_P) (x0 : Option Nat) (x1 : Int) (x2 : Int) : mm_rn (d + 1) 130 [.inr (.inr x0), .inl x1, .inl x2] n I L P = mm_E d 130 0 [.inr (.inr x0), .inl x1, .inl x2] [] [] n I L P := rfl

set_option maxRecDepth 20000 in
set_option maxHeartbeats 8000000 in
theorem kX11_thiefHas (d n : Nat) (I L : mm_I) (P : mm_P) :
  (∀ (st : List mm_V) z (l0 : mm_V) (l1 : mm_V) (l2 : mm_V) (l4 : mm_V), mm_E d 131 0 [l0, l1, l2, (.inl z), l4] [] st n I L P = mm_E d 131 1 [l0, l1, l2, (.inl z), l4] [] ((.inl z) :: st) n I L P) ∧
  (∀ (st : List mm_V) z (l0 : mm_V) (l1 : mm_V) (l2 : mm_V) (l3 : mm_V), mm_E d 131 1 [l0, l1, l2, l3, (.inl z)] [] st n I L P = mm_E d 131 3 [l0, l1, l2, l3, (.inl z)] [] ((.inl z) :: st) n I L P) ∧
  (∀ (lv : List mm_V) (st : List mm_V) a b, mm_E d 131 3 lv [] (.inl b :: .inl a :: st) n I L P = if a = b then mm_E d 131 6 lv [] st n I L P else mm_E d 131 11 lv [] st n I L P) ∧
  (∀ (lv : List mm_V) (st : List mm_V), mm_E d 131 6 lv [] st n I L P = mm_E d 131 8 lv [] (.inl (-3) :: st) n I L P) ∧
  (∀ (lv : List mm_V) (st : List mm_V), mm_E d 131 8 lv [] st n I L P = mm_E d 131 34 lv [] st n I L P) ∧
  (∀ (st : List mm_V) z (l1 : mm_V) (l2 : mm_V) (l3 : mm_V) (l4 : mm_V), mm_E d 131 11 [(.inr (.inr z)), l1, l2, l3, l4] [] st n I L P = mm_E d 131 12 [(.inr (.inr z)), l1, l2, l3, l4] [] ((.inr (.inr z)) :: st) n I L P) ∧
  (∀ (lv : List mm_V) (st : List mm_V) a, (mm_ok n a 11) → mm_E d 131 12 lv [] (.inr (.inr (some a)) :: st) n I L P = mm_E d 131 15 lv [] (.inr (.inr (P a 8)) :: st) n I L P) ∧
  (∀ (lv : List mm_V) (st : List mm_V) a, (mm_ok n a 5) → mm_E d 131 15 lv [] (.inr (.inr (some a)) :: st) n I L P = mm_E d 131 18 lv [] (.inr (.inr (P a 0)) :: st) n I L P) ∧
  (∀ (st : List mm_V) z (l0 : mm_V) (l1 : mm_V) (l2 : mm_V) (l3 : mm_V), mm_E d 131 18 [l0, l1, l2, l3, (.inl z)] [] st n I L P = mm_E d 131 20 [l0, l1, l2, l3, (.inl z)] [] ((.inl z) :: st) n I L P) ∧
  (∀ (lv : List mm_V) (st : List mm_V) a, mm_E d 131 20 lv [] (.inl a :: st) n I L P = if a = 0 then mm_E d 131 23 lv [] st n I L P else mm_E d 131 27 lv [] st n I L P) ∧
  (∀ (st : List mm_V) z (l0 : mm_V) (l2 : mm_V) (l3 : mm_V) (l4 : mm_V), mm_E d 131 23 [l0, (.inl z), l2, l3, l4] [] st n I L P = mm_E d 131 24 [l0, (.inl z), l2, l3, l4] [] ((.inl z) :: st) n I L P) ∧
  (∀ (lv : List mm_V) (st : List mm_V), mm_E d 131 24 lv [] st n I L P = mm_E d 131 28 lv [] st n I L P) ∧
  (∀ (st : List mm_V) z (l0 : mm_V) (l1 : mm_V) (l3 : mm_V) (l4 : mm_V), mm_E d 131 27 [l0, l1, (.inl z), l3, l4] [] st n I L P = mm_E d 131 28 [l0, l1, (.inl z), l3, l4] [] ((.inl z) :: st) n I L P) ∧
  (∀ (lv : List mm_V) (st : List mm_V) a i, (mm_ix n a 20 i) → mm_E d 131 28 lv [] (.inl i :: .inr (.inr (some a)) :: st) n I L P = mm_E d 131 29 lv [] (.inl (I a i.toNat) :: st) n I L P) ∧
  (∀ (lv : List mm_V) (st : List mm_V), mm_E d 131 29 lv [] st n I L P = mm_E d 131 31 lv [] (.inl 10 :: st) n I L P) ∧
  (∀ (lv : List mm_V) (st : List mm_V) a b, (¬ b = 0) → mm_E d 131 31 lv [] (.inl b :: .inl a :: st) n I L P = mm_E d 131 32 lv [] (.inl (mm_w (Int.tdiv a b)) :: st) n I L P) ∧
  (∀ (lv : List mm_V) (st : List mm_V), mm_E d 131 32 lv [] st n I L P = mm_E d 131 33 lv [] (.inl 1 :: st) n I L P) ∧
  (∀ (lv : List mm_V) (st : List mm_V) a b, mm_E d 131 33 lv [] (.inl b :: .inl a :: st) n I L P = mm_E d 131 34 lv [] (.inl (mm_add a b) :: st) n I L P) ∧
  (∀ (lv : List mm_V) z, mm_E d 131 34 lv [] [.inl z] n I L P = some (some (.inl z), n, I, L, P)) :=
  ⟨fun _ _ _ _ _ _ => mq_il (i := 3) rfl rfl,
   fun _ _ _ _ _ _ => mq_il (i := 4) rfl rfl,
   fun _ _ _ _ => mq_ic_ne rfl,
   fun _ _ => mq_push rfl,
   fun _ _ => mq_go rfl,
   fun _ _ _ _ _ _ => mq_al (i := 0) rfl rfl,
   fun _ _ _ h0 => mq_getR rfl h0,
   fun _ _ _ h0 => mq_getR rfl h0,
   fun _ _ _ _ _ _ => mq_il (i := 4) rfl rfl,
   fun _ _ _ => mq_if_ne rfl,
   fun _ _ _ _ _ _ => mq_il (i := 1) rfl rfl,
   fun _ _ => mq_go rfl,
   fun _ _ _ _ _ _ => mq_il (i := 2) rfl rfl,
   fun _ _ _ _ h0 => mq_iald rfl h0,
   fun _ _ => mq_push rfl,
   fun _ _ _ _ h0 => mq_di rfl h0,
   fun _ _ => mq_push rfl,
   fun _ _ _ _ => mq_bi rfl,
   fun _ _ => mq_ri rfl⟩
theorem eX11_thiefHas (d n : Nat) (I L : mm_I) (P : mm_P) (x0 : Option Nat) (x1 : Int) (x2 : Int) (x3 : Int) (x4 : Int) : mm_rn (d + 1) 131 [.inr (.inr x0), .inl x1, .inl x2, .inl x3, .inl x4] n I L P = mm_E d 131 0 [.inr (.inr x0), .inl x1, .inl x2, .inl x3, .inl x4] [] [] n I L P := rfl

set_option maxRecDepth 20000 in
set_option maxHeartbeats 8000000 in
theorem kX11_watchmanHas (d n : Nat) (I L : mm_I) (P : mm_P) :
  (∀ (st : List mm_V) z (l1 : mm_V) (l2 : mm_V) (l3 : mm_V) (l4 : mm_V), mm_E d 132 0 [(.inr (.inr z)), l1, l2, l3, l4] [] st n I L P = mm_E d 132 1 [(.inr (.inr z)), l1, l2, l3, l4] [] ((.inr (.inr z)) :: st) n I L P) ∧
  (∀ (st : List mm_V) z (l0 : mm_V) (l2 : mm_V) (l3 : mm_V) (l4 : mm_V), mm_E d 132 1 [l0, (.inl z), l2, l3, l4] [] st n I L P = mm_E d 132 2 [l0, (.inl z), l2, l3, l4] [] ((.inl z) :: st) n I L P) ∧
  (∀ (st : List mm_V) z (l0 : mm_V) (l1 : mm_V) (l3 : mm_V) (l4 : mm_V), mm_E d 132 2 [l0, l1, (.inl z), l3, l4] [] st n I L P = mm_E d 132 3 [l0, l1, (.inl z), l3, l4] [] ((.inl z) :: st) n I L P) ∧
  (∀ (st : List mm_V) z (l0 : mm_V) (l1 : mm_V) (l2 : mm_V) (l4 : mm_V), mm_E d 132 3 [l0, l1, l2, (.inl z), l4] [] st n I L P = mm_E d 132 4 [l0, l1, l2, (.inl z), l4] [] ((.inl z) :: st) n I L P) ∧
  (∀ (st : List mm_V) z (l0 : mm_V) (l1 : mm_V) (l2 : mm_V) (l3 : mm_V), mm_E d 132 4 [l0, l1, l2, l3, (.inl z)] [] st n I L P = mm_E d 132 6 [l0, l1, l2, l3, (.inl z)] [] ((.inl z) :: st) n I L P) ∧
  (∀ (lv : List mm_V) a x0 x1 x2 x3, (mm_ok n a 11) → mm_E d 132 6 lv [] (.inl x3 :: .inl x2 :: .inl x1 :: .inl x0 :: .inr (.inr (some a)) :: []) n I L P = mm_kr d 132 9 lv [] [] n (mm_rn d 131 [.inr (.inr (some a)), .inl x0, .inl x1, .inl x2, .inl x3] n I L P)) ∧
  (∀ (lv : List mm_V) (st : List mm_V) a, mm_E d 132 9 lv [] (.inl a :: st) n I L P = mm_E d 132 10 lv [] (.inl (mm_neg a) :: st) n I L P) ∧
  (∀ (st : List mm_V) z (l1 : mm_V) (l2 : mm_V) (l3 : mm_V) (l4 : mm_V), mm_E d 132 10 [(.inr (.inr z)), l1, l2, l3, l4] [] st n I L P = mm_E d 132 11 [(.inr (.inr z)), l1, l2, l3, l4] [] ((.inr (.inr z)) :: st) n I L P) ∧
  (∀ (lv : List mm_V) (st : List mm_V) a, (mm_ok n a 11) → mm_E d 132 11 lv [] (.inr (.inr (some a)) :: st) n I L P = mm_E d 132 14 lv [] (.inr (.inr (P a 2)) :: st) n I L P) ∧
  (∀ (st : List mm_V) z (l1 : mm_V) (l2 : mm_V) (l3 : mm_V) (l4 : mm_V), mm_E d 132 14 [(.inr (.inr z)), l1, l2, l3, l4] [] st n I L P = mm_E d 132 15 [(.inr (.inr z)), l1, l2, l3, l4] [] ((.inr (.inr z)) :: st) n I L P) ∧
  (∀ (lv : List mm_V) (st : List mm_V) a, (mm_ok n a 11) → mm_E d 132 15 lv [] (.inr (.inr (some a)) :: st) n I L P = mm_E d 132 18 lv [] (.inr (.inr (P a 8)) :: st) n I L P) ∧
  (∀ (lv : List mm_V) (st : List mm_V) a, (mm_ok n a 5) → mm_E d 132 18 lv [] (.inr (.inr (some a)) :: st) n I L P = mm_E d 132 21 lv [] (.inl (I a 3) :: st) n I L P) ∧
  (∀ (st : List mm_V) z (l0 : mm_V) (l1 : mm_V) (l2 : mm_V) (l4 : mm_V), mm_E d 132 21 [l0, l1, l2, (.inl z), l4] [] st n I L P = mm_E d 132 22 [l0, l1, l2, (.inl z), l4] [] ((.inl z) :: st) n I L P) ∧
  (∀ (lv : List mm_V) (st : List mm_V) a, mm_E d 132 22 lv [] (.inl a :: st) n I L P = if a = 0 then mm_E d 132 25 lv [] st n I L P else mm_E d 132 29 lv [] st n I L P) ∧
  (∀ (st : List mm_V) z (l0 : mm_V) (l2 : mm_V) (l3 : mm_V) (l4 : mm_V), mm_E d 132 25 [l0, (.inl z), l2, l3, l4] [] st n I L P = mm_E d 132 26 [l0, (.inl z), l2, l3, l4] [] ((.inl z) :: st) n I L P) ∧
  (∀ (lv : List mm_V) (st : List mm_V), mm_E d 132 26 lv [] st n I L P = mm_E d 132 30 lv [] st n I L P) ∧
  (∀ (st : List mm_V) z (l0 : mm_V) (l1 : mm_V) (l3 : mm_V) (l4 : mm_V), mm_E d 132 29 [l0, l1, (.inl z), l3, l4] [] st n I L P = mm_E d 132 30 [l0, l1, (.inl z), l3, l4] [] ((.inl z) :: st) n I L P) ∧
  (∀ (lv : List mm_V) a x0 x1 w0, (mm_ok n a 9) → mm_E d 132 30 lv [] (.inl x1 :: .inl x0 :: .inr (.inr (some a)) :: [.inl w0]) n I L P = mm_kr d 132 33 lv [] [.inl w0] n (mm_rn d 64 [.inr (.inr (some a)), .inl x0, .inl x1] n I L P)) ∧
  (∀ (lv : List mm_V) (st : List mm_V) a b, mm_E d 132 33 lv [] (.inl b :: .inl a :: st) n I L P = mm_E d 132 34 lv [] (.inl (mm_sub a b) :: st) n I L P) ∧
  (∀ (lv : List mm_V) z, mm_E d 132 34 lv [] [.inl z] n I L P = some (some (.inl z), n, I, L, P)) :=
  ⟨fun _ _ _ _ _ _ => mq_al (i := 0) rfl rfl,
   fun _ _ _ _ _ _ => mq_il (i := 1) rfl rfl,
   fun _ _ _ _ _ _ => mq_il (i := 2) rfl rfl,
   fun _ _ _ _ _ _ => mq_il (i := 3) rfl rfl,
   fun _ _ _ _ _ _ => mq_il (i := 4) rfl rfl,
   fun _ _ _ _ _ _ h0 => mq_cVr (na := 4) rfl rfl (Nat.le_of_ble_eq_true rfl) (Nat.le_of_ble_eq_true rfl) h0,
   fun _ _ _ => mq_un rfl,
   fun _ _ _ _ _ _ => mq_al (i := 0) rfl rfl,
   fun _ _ _ h0 => mq_getR rfl h0,
   fun _ _ _ _ _ _ => mq_al (i := 0) rfl rfl,
   fun _ _ _ h0 => mq_getR rfl h0,
   fun _ _ _ h0 => mq_getI rfl h0,
   fun _ _ _ _ _ _ => mq_il (i := 3) rfl rfl,
   fun _ _ _ => mq_if_ne rfl,
   fun _ _ _ _ _ _ => mq_il (i := 1) rfl rfl,
   fun _ _ => mq_go rfl,
   fun _ _ _ _ _ _ => mq_il (i := 2) rfl rfl,
   fun _ _ _ _ _ h0 => mq_cVr (na := 2) rfl rfl (Nat.le_of_ble_eq_true rfl) (Nat.le_of_ble_eq_true rfl) h0,
   fun _ _ _ _ => mq_bi rfl,
   fun _ _ => mq_ri rfl⟩
theorem eX11_watchmanHas (d n : Nat) (I L : mm_I) (P : mm_P) (x0 : Option Nat) (x1 : Int) (x2 : Int) (x3 : Int) (x4 : Int) : mm_rn (d + 1) 132 [.inr (.inr x0), .inl x1, .inl x2, .inl x3, .inl x4] n I L P = mm_E d 132 0 [.inr (.inr x0), .inl x1, .inl x2, .inl x3, .inl x4] [] [] n I L P := rfl

set_option maxRecDepth 20000 in
set_option maxHeartbeats 8000000 in
theorem kX11_rests (d n : Nat) (I L : mm_I) (P : mm_P) :
  (∀ (st : List mm_V) z (l1 : mm_V) (l2 : mm_V) (l3 : mm_V) (l4 : mm_V) (l5 : mm_V) (l6 : mm_V), mm_E d 133 0 [(.inr (.inr z)), l1, l2, l3, l4, l5, l6] [] st n I L P = mm_E d 133 1 [(.inr (.inr z)), l1, l2, l3, l4, l5, l6] [] ((.inr (.inr z)) :: st) n I L P) ∧
  (∀ (st : List mm_V) z (l0 : mm_V) (l2 : mm_V) (l3 : mm_V) (l4 : mm_V) (l5 : mm_V) (l6 : mm_V), mm_E d 133 1 [l0, (.inl z), l2, l3, l4, l5, l6] [] st n I L P = mm_E d 133 2 [l0, (.inl z), l2, l3, l4, l5, l6] [] ((.inl z) :: st) n I L P) ∧
  (∀ (st : List mm_V) z (l0 : mm_V) (l1 : mm_V) (l3 : mm_V) (l4 : mm_V) (l5 : mm_V) (l6 : mm_V), mm_E d 133 2 [l0, l1, (.inl z), l3, l4, l5, l6] [] st n I L P = mm_E d 133 3 [l0, l1, (.inl z), l3, l4, l5, l6] [] ((.inl z) :: st) n I L P) ∧
  (∀ (lv : List mm_V) a x0 x1, (mm_ok n a 11) → mm_E d 133 3 lv [] (.inl x1 :: .inl x0 :: .inr (.inr (some a)) :: []) n I L P = mm_kr d 133 6 lv [] [] n (mm_rn d 130 [.inr (.inr (some a)), .inl x0, .inl x1] n I L P)) ∧
  (∀ (lv : List mm_V) (st : List mm_V) a, mm_E d 133 6 lv [] (.inl a :: st) n I L P = if a = 0 then mm_E d 133 9 lv [] st n I L P else mm_E d 133 11 lv [] st n I L P) ∧
  (∀ (lv : List mm_V) (st : List mm_V), mm_E d 133 9 lv [] st n I L P = mm_E d 133 10 lv [] (.inl (-1) :: st) n I L P) ∧
  (∀ (lv : List mm_V) z, mm_E d 133 10 lv [] [.inl z] n I L P = some (some (.inl z), n, I, L, P)) ∧
  (∀ (lv : List mm_V) (st : List mm_V), mm_E d 133 11 lv [] st n I L P = mm_E d 133 12 lv [] (.inl 0 :: st) n I L P) ∧
  (∀ (st : List mm_V) z (l0 : mm_V) (l1 : mm_V) (l2 : mm_V) (l3 : mm_V) (l4 : mm_V) (l5 : mm_V) (l6 : mm_V), mm_E d 133 12 [l0, l1, l2, l3, l4, l5, l6] [] ((.inl z) :: st) n I L P = mm_E d 133 14 [l0, l1, l2, l3, (.inl z), l5, l6] [] st n I L P) ∧
  (∀ (lv : List mm_V) (st : List mm_V), mm_E d 133 14 lv [] st n I L P = mm_E d 133 15 lv [] (.inl 0 :: st) n I L P) ∧
  (∀ (st : List mm_V) z (l0 : mm_V) (l1 : mm_V) (l2 : mm_V) (l3 : mm_V) (l4 : mm_V) (l5 : mm_V) (l6 : mm_V), mm_E d 133 15 [l0, l1, l2, l3, l4, l5, l6] [] ((.inl z) :: st) n I L P = mm_E d 133 17 [l0, l1, l2, l3, l4, (.inl z), l6] [] st n I L P) ∧
  (∀ (lv : List mm_V) (st : List mm_V), mm_E d 133 19 lv [] st n I L P = mm_E d 133 20 lv [] (.inl 1 :: st) n I L P) ∧
  (∀ (lv : List mm_V) (st : List mm_V) a b, mm_E d 133 20 lv [] (.inl b :: .inl a :: st) n I L P = if b < a then mm_E d 133 78 lv [] st n I L P else mm_E d 133 23 lv [] st n I L P) ∧
  (∀ (lv : List mm_V) (st : List mm_V), mm_E d 133 23 lv [] st n I L P = mm_E d 133 24 lv [] (.inl 0 :: st) n I L P) ∧
  (∀ (st : List mm_V) z (l0 : mm_V) (l1 : mm_V) (l2 : mm_V) (l3 : mm_V) (l4 : mm_V) (l5 : mm_V) (l6 : mm_V), mm_E d 133 24 [l0, l1, l2, l3, l4, l5, l6] [] ((.inl z) :: st) n I L P = mm_E d 133 26 [l0, l1, l2, l3, l4, l5, (.inl z)] [] st n I L P) ∧
  (∀ (lv : List mm_V) (st : List mm_V), mm_E d 133 28 lv [] st n I L P = mm_E d 133 29 lv [] (.inl 1 :: st) n I L P) ∧
  (∀ (lv : List mm_V) (st : List mm_V) a b, mm_E d 133 29 lv [] (.inl b :: .inl a :: st) n I L P = if b < a then mm_E d 133 72 lv [] st n I L P else mm_E d 133 32 lv [] st n I L P) ∧
  (∀ (st : List mm_V) z (l1 : mm_V) (l2 : mm_V) (l3 : mm_V) (l4 : mm_V) (l5 : mm_V) (l6 : mm_V), mm_E d 133 32 [(.inr (.inr z)), l1, l2, l3, l4, l5, l6] [] st n I L P = mm_E d 133 33 [(.inr (.inr z)), l1, l2, l3, l4, l5, l6] [] ((.inr (.inr z)) :: st) n I L P) ∧
  (∀ (st : List mm_V) z (l0 : mm_V) (l2 : mm_V) (l3 : mm_V) (l4 : mm_V) (l5 : mm_V) (l6 : mm_V), mm_E d 133 33 [l0, (.inl z), l2, l3, l4, l5, l6] [] st n I L P = mm_E d 133 34 [l0, (.inl z), l2, l3, l4, l5, l6] [] ((.inl z) :: st) n I L P) ∧
  (∀ (st : List mm_V) z (l0 : mm_V) (l1 : mm_V) (l3 : mm_V) (l4 : mm_V) (l5 : mm_V) (l6 : mm_V), mm_E d 133 34 [l0, l1, (.inl z), l3, l4, l5, l6] [] st n I L P = mm_E d 133 35 [l0, l1, (.inl z), l3, l4, l5, l6] [] ((.inl z) :: st) n I L P) ∧
  (∀ (st : List mm_V) z (l0 : mm_V) (l1 : mm_V) (l2 : mm_V) (l3 : mm_V) (l4 : mm_V) (l6 : mm_V), mm_E d 133 35 [l0, l1, l2, l3, l4, (.inl z), l6] [] st n I L P = mm_E d 133 37 [l0, l1, l2, l3, l4, (.inl z), l6] [] ((.inl z) :: st) n I L P) ∧
  (∀ (st : List mm_V) z (l0 : mm_V) (l1 : mm_V) (l2 : mm_V) (l3 : mm_V) (l4 : mm_V) (l5 : mm_V), mm_E d 133 37 [l0, l1, l2, l3, l4, l5, (.inl z)] [] st n I L P = mm_E d 133 39 [l0, l1, l2, l3, l4, l5, (.inl z)] [] ((.inl z) :: st) n I L P) ∧
  (∀ (lv : List mm_V) a x0 x1 x2 x3, (mm_ok n a 11) → mm_E d 133 39 lv [] (.inl x3 :: .inl x2 :: .inl x1 :: .inl x0 :: .inr (.inr (some a)) :: []) n I L P = mm_kr d 133 42 lv [] [] n (mm_rn d 134 [.inr (.inr (some a)), .inl x0, .inl x1, .inl x2, .inl x3] n I L P)) ∧
  (∀ (lv : List mm_V) (st : List mm_V) a, mm_E d 133 42 lv [] (.inl a :: st) n I L P = if a = 0 then mm_E d 133 45 lv [] st n I L P else mm_E d 133 48 lv [] st n I L P) ∧
  (∀ (lv : List mm_V) (st : List mm_V), mm_E d 133 45 lv [] st n I L P = mm_E d 133 66 lv [] st n I L P) ∧
  (∀ (st : List mm_V) z (l0 : mm_V) (l1 : mm_V) (l2 : mm_V) (l3 : mm_V) (l5 : mm_V) (l6 : mm_V), mm_E d 133 48 [l0, l1, l2, l3, (.inl z), l5, l6] [] st n I L P = mm_E d 133 50 [l0, l1, l2, l3, (.inl z), l5, l6] [] ((.inl z) :: st) n I L P) ∧
  (∀ (st : List mm_V) z (l0 : mm_V) (l1 : mm_V) (l2 : mm_V) (l4 : mm_V) (l5 : mm_V) (l6 : mm_V), mm_E d 133 50 [l0, l1, l2, (.inl z), l4, l5, l6] [] st n I L P = mm_E d 133 51 [l0, l1, l2, (.inl z), l4, l5, l6] [] ((.inl z) :: st) n I L P) ∧
  (∀ (lv : List mm_V) (st : List mm_V) a b, mm_E d 133 51 lv [] (.inl b :: .inl a :: st) n I L P = if a = b then mm_E d 133 54 lv [] st n I L P else mm_E d 133 63 lv [] st n I L P) ∧
  (∀ (lv : List mm_V) (st : List mm_V), mm_E d 133 54 lv [] st n I L P = mm_E d 133 56 lv [] (.inl 10 :: st) n I L P) ∧
  (∀ (st : List mm_V) z (l0 : mm_V) (l1 : mm_V) (l2 : mm_V) (l3 : mm_V) (l4 : mm_V) (l6 : mm_V), mm_E d 133 56 [l0, l1, l2, l3, l4, (.inl z), l6] [] st n I L P = mm_E d 133 58 [l0, l1, l2, l3, l4, (.inl z), l6] [] ((.inl z) :: st) n I L P) ∧
  (∀ (lv : List mm_V) (st : List mm_V) a b, mm_E d 133 58 lv [] (.inl b :: .inl a :: st) n I L P = mm_E d 133 59 lv [] (.inl (mm_mul a b) :: st) n I L P) ∧
  (∀ (st : List mm_V) z (l0 : mm_V) (l1 : mm_V) (l2 : mm_V) (l3 : mm_V) (l4 : mm_V) (l5 : mm_V), mm_E d 133 59 [l0, l1, l2, l3, l4, l5, (.inl z)] [] st n I L P = mm_E d 133 61 [l0, l1, l2, l3, l4, l5, (.inl z)] [] ((.inl z) :: st) n I L P) ∧
  (∀ (lv : List mm_V) (st : List mm_V) a b, mm_E d 133 61 lv [] (.inl b :: .inl a :: st) n I L P = mm_E d 133 62 lv [] (.inl (mm_add a b) :: st) n I L P) ∧
  (∀ (lv : List mm_V) z, mm_E d 133 62 lv [] [.inl z] n I L P = some (some (.inl z), n, I, L, P)) ∧
  (∀ (st : List mm_V) z (l0 : mm_V) (l1 : mm_V) (l2 : mm_V) (l3 : mm_V) (l5 : mm_V) (l6 : mm_V), mm_E d 133 63 [l0, l1, l2, l3, (.inl z), l5, l6] [] st n I L P = mm_E d 133 66 [l0, l1, l2, l3, (.inl (mm_add z 1)), l5, l6] [] st n I L P) ∧
  (∀ (st : List mm_V) z (l0 : mm_V) (l1 : mm_V) (l2 : mm_V) (l3 : mm_V) (l4 : mm_V) (l5 : mm_V), mm_E d 133 66 [l0, l1, l2, l3, l4, l5, (.inl z)] [] st n I L P = mm_E d 133 69 [l0, l1, l2, l3, l4, l5, (.inl (mm_add z 1))] [] st n I L P) ∧
  (∀ (lv : List mm_V) (st : List mm_V), mm_E d 133 69 lv [] st n I L P = mm_E d 133 26 lv [] st n I L P) ∧
  (∀ (st : List mm_V) z (l0 : mm_V) (l1 : mm_V) (l2 : mm_V) (l3 : mm_V) (l4 : mm_V) (l6 : mm_V), mm_E d 133 72 [l0, l1, l2, l3, l4, (.inl z), l6] [] st n I L P = mm_E d 133 75 [l0, l1, l2, l3, l4, (.inl (mm_add z 1)), l6] [] st n I L P) ∧
  (∀ (lv : List mm_V) (st : List mm_V), mm_E d 133 75 lv [] st n I L P = mm_E d 133 17 lv [] st n I L P) ∧
  (∀ (st : List mm_V) z (l0 : mm_V) (l1 : mm_V) (l2 : mm_V) (l4 : mm_V) (l5 : mm_V) (l6 : mm_V), mm_E d 133 78 [l0, l1, l2, (.inl z), l4, l5, l6] [] st n I L P = mm_E d 133 79 [l0, l1, l2, (.inl z), l4, l5, l6] [] ((.inl z) :: st) n I L P) ∧
  (∀ (lv : List mm_V) (st : List mm_V), mm_E d 133 79 lv [] st n I L P = mm_E d 133 80 lv [] (.inl (-1) :: st) n I L P) ∧
  (∀ (lv : List mm_V) (st : List mm_V) a b, mm_E d 133 80 lv [] (.inl b :: .inl a :: st) n I L P = if a = b then mm_E d 133 83 lv [] st n I L P else mm_E d 133 88 lv [] st n I L P) ∧
  (∀ (st : List mm_V) z (l0 : mm_V) (l1 : mm_V) (l2 : mm_V) (l3 : mm_V) (l5 : mm_V) (l6 : mm_V), mm_E d 133 83 [l0, l1, l2, l3, (.inl z), l5, l6] [] st n I L P = mm_E d 133 85 [l0, l1, l2, l3, (.inl z), l5, l6] [] ((.inl z) :: st) n I L P) ∧
  (∀ (lv : List mm_V) (st : List mm_V), mm_E d 133 85 lv [] st n I L P = mm_E d 133 89 lv [] st n I L P) ∧
  (∀ (lv : List mm_V) (st : List mm_V), mm_E d 133 88 lv [] st n I L P = mm_E d 133 89 lv [] (.inl (-1) :: st) n I L P) ∧
  (∀ (lv : List mm_V) z, mm_E d 133 89 lv [] [.inl z] n I L P = some (some (.inl z), n, I, L, P)) :=
  ⟨fun _ _ _ _ _ _ _ _ => mq_al (i := 0) rfl rfl,
   fun _ _ _ _ _ _ _ _ => mq_il (i := 1) rfl rfl,
   fun _ _ _ _ _ _ _ _ => mq_il (i := 2) rfl rfl,
   fun _ _ _ _ h0 => mq_cVr (na := 2) rfl rfl (Nat.le_of_ble_eq_true rfl) (Nat.le_of_ble_eq_true rfl) h0,
   fun _ _ _ => mq_if_ne rfl,
   fun _ _ => mq_push rfl,
   fun _ _ => mq_ri rfl,
   fun _ _ => mq_push rfl,
   fun _ _ _ _ _ _ _ _ _ => mq_is (i := 4) rfl rfl rfl,
   fun _ _ => mq_push rfl,
   fun _ _ _ _ _ _ _ _ _ => mq_is (i := 5) rfl rfl rfl,
   fun _ _ => mq_push rfl,
   fun _ _ _ _ => mq_ic_gt rfl,
   fun _ _ => mq_push rfl,
   fun _ _ _ _ _ _ _ _ _ => mq_is (i := 6) rfl rfl rfl,
   fun _ _ => mq_push rfl,
   fun _ _ _ _ => mq_ic_gt rfl,
   fun _ _ _ _ _ _ _ _ => mq_al (i := 0) rfl rfl,
   fun _ _ _ _ _ _ _ _ => mq_il (i := 1) rfl rfl,
   fun _ _ _ _ _ _ _ _ => mq_il (i := 2) rfl rfl,
   fun _ _ _ _ _ _ _ _ => mq_il (i := 5) rfl rfl,
   fun _ _ _ _ _ _ _ _ => mq_il (i := 6) rfl rfl,
   fun _ _ _ _ _ _ h0 => mq_cVr (na := 4) rfl rfl (Nat.le_of_ble_eq_true rfl) (Nat.le_of_ble_eq_true rfl) h0,
   fun _ _ _ => mq_if_ne rfl,
   fun _ _ => mq_go rfl,
   fun _ _ _ _ _ _ _ _ => mq_il (i := 4) rfl rfl,
   fun _ _ _ _ _ _ _ _ => mq_il (i := 3) rfl rfl,
   fun _ _ _ _ => mq_ic_ne rfl,
   fun _ _ => mq_push rfl,
   fun _ _ _ _ _ _ _ _ => mq_il (i := 5) rfl rfl,
   fun _ _ _ _ => mq_bi rfl,
   fun _ _ _ _ _ _ _ _ => mq_il (i := 6) rfl rfl,
   fun _ _ _ _ => mq_bi rfl,
   fun _ _ => mq_ri rfl,
   fun _ _ _ _ _ _ _ _ => mq_iinc (i := 4) rfl rfl rfl rfl,
   fun _ _ _ _ _ _ _ _ => mq_iinc (i := 6) rfl rfl rfl rfl,
   fun _ _ => mq_go rfl,
   fun _ _ _ _ _ _ _ _ => mq_iinc (i := 5) rfl rfl rfl rfl,
   fun _ _ => mq_go rfl,
   fun _ _ _ _ _ _ _ _ => mq_il (i := 3) rfl rfl,
   fun _ _ => mq_push rfl,
   fun _ _ _ _ => mq_ic_ne rfl,
   fun _ _ _ _ _ _ _ _ => mq_il (i := 4) rfl rfl,
   fun _ _ => mq_go rfl,
   fun _ _ => mq_push rfl,
   fun _ _ => mq_ri rfl⟩
theorem hX11_rests_17 (d n : Nat) (I L : mm_I) (P : mm_P) : ∀ (st : List mm_V) z (l0 : mm_V) (l1 : mm_V) (l2 : mm_V) (l3 : mm_V) (l4 : mm_V) (l6 : mm_V), mm_E d 133 17 [l0, l1, l2, l3, l4, (.inl z), l6] [] st n I L P = mm_E d 133 19 [l0, l1, l2, l3, l4, (.inl z), l6] [] ((.inl z) :: st) n I L P := fun _ _ _ _ _ _ _ _ => mq_il (i := 5) rfl rfl
theorem hX11_rests_26 (d n : Nat) (I L : mm_I) (P : mm_P) : ∀ (st : List mm_V) z (l0 : mm_V) (l1 : mm_V) (l2 : mm_V) (l3 : mm_V) (l4 : mm_V) (l5 : mm_V), mm_E d 133 26 [l0, l1, l2, l3, l4, l5, (.inl z)] [] st n I L P = mm_E d 133 28 [l0, l1, l2, l3, l4, l5, (.inl z)] [] ((.inl z) :: st) n I L P := fun _ _ _ _ _ _ _ _ => mq_il (i := 6) rfl rfl
theorem eX11_rests (d n : Nat) (I L : mm_I) (P : mm_P) (x0 : Option Nat) (x1 : Int) (x2 : Int) (x3 : Int) : mm_rn (d + 1) 133 [.inr (.inr x0), .inl x1, .inl x2, .inl x3] n I L P = mm_E d 133 0 [.inr (.inr x0), .inl x1, .inl x2, .inl x3, mm_junk, mm_junk, mm_junk] [] [] n I L P := rfl

set_option maxRecDepth 20000 in
set_option maxHeartbeats 8000000 in
theorem kX11_isRest (d n : Nat) (I L : mm_I) (P : mm_P) :
  (∀ (st : List mm_V) z (l1 : mm_V) (l2 : mm_V) (l3 : mm_V) (l4 : mm_V), mm_E d 134 0 [(.inr (.inr z)), l1, l2, l3, l4] [] st n I L P = mm_E d 134 1 [(.inr (.inr z)), l1, l2, l3, l4] [] ((.inr (.inr z)) :: st) n I L P) ∧
  (∀ (st : List mm_V) z (l0 : mm_V) (l2 : mm_V) (l3 : mm_V) (l4 : mm_V), mm_E d 134 1 [l0, (.inl z), l2, l3, l4] [] st n I L P = mm_E d 134 2 [l0, (.inl z), l2, l3, l4] [] ((.inl z) :: st) n I L P) ∧
  (∀ (st : List mm_V) z (l0 : mm_V) (l1 : mm_V) (l3 : mm_V) (l4 : mm_V), mm_E d 134 2 [l0, l1, (.inl z), l3, l4] [] st n I L P = mm_E d 134 3 [l0, l1, (.inl z), l3, l4] [] ((.inl z) :: st) n I L P) ∧
  (∀ (st : List mm_V) z (l0 : mm_V) (l1 : mm_V) (l2 : mm_V) (l4 : mm_V), mm_E d 134 3 [l0, l1, l2, (.inl z), l4] [] st n I L P = mm_E d 134 4 [l0, l1, l2, (.inl z), l4] [] ((.inl z) :: st) n I L P) ∧
  (∀ (st : List mm_V) z (l0 : mm_V) (l1 : mm_V) (l2 : mm_V) (l3 : mm_V), mm_E d 134 4 [l0, l1, l2, l3, (.inl z)] [] st n I L P = mm_E d 134 6 [l0, l1, l2, l3, (.inl z)] [] ((.inl z) :: st) n I L P) ∧
  (∀ (lv : List mm_V) a x0 x1 x2 x3, (mm_ok n a 11) → mm_E d 134 6 lv [] (.inl x3 :: .inl x2 :: .inl x1 :: .inl x0 :: .inr (.inr (some a)) :: []) n I L P = mm_kr d 134 9 lv [] [] n (mm_rn d 132 [.inr (.inr (some a)), .inl x0, .inl x1, .inl x2, .inl x3] n I L P)) ∧
  (∀ (st : List mm_V) z (l1 : mm_V) (l2 : mm_V) (l3 : mm_V) (l4 : mm_V), mm_E d 134 9 [(.inr (.inr z)), l1, l2, l3, l4] [] st n I L P = mm_E d 134 10 [(.inr (.inr z)), l1, l2, l3, l4] [] ((.inr (.inr z)) :: st) n I L P) ∧
  (∀ (st : List mm_V) z (l0 : mm_V) (l2 : mm_V) (l3 : mm_V) (l4 : mm_V), mm_E d 134 10 [l0, (.inl z), l2, l3, l4] [] st n I L P = mm_E d 134 11 [l0, (.inl z), l2, l3, l4] [] ((.inl z) :: st) n I L P) ∧
  (∀ (st : List mm_V) z (l0 : mm_V) (l1 : mm_V) (l3 : mm_V) (l4 : mm_V), mm_E d 134 11 [l0, l1, (.inl z), l3, l4] [] st n I L P = mm_E d 134 12 [l0, l1, (.inl z), l3, l4] [] ((.inl z) :: st) n I L P) ∧
  (∀ (lv : List mm_V) (st : List mm_V), mm_E d 134 12 lv [] st n I L P = mm_E d 134 13 lv [] (.inl 1 :: st) n I L P) ∧
  (∀ (st : List mm_V) z (l0 : mm_V) (l1 : mm_V) (l2 : mm_V) (l4 : mm_V), mm_E d 134 13 [l0, l1, l2, (.inl z), l4] [] st n I L P = mm_E d 134 14 [l0, l1, l2, (.inl z), l4] [] ((.inl z) :: st) n I L P) ∧
  (∀ (lv : List mm_V) (st : List mm_V) a b, mm_E d 134 14 lv [] (.inl b :: .inl a :: st) n I L P = mm_E d 134 15 lv [] (.inl (mm_sub a b) :: st) n I L P) ∧
  (∀ (st : List mm_V) z (l0 : mm_V) (l1 : mm_V) (l2 : mm_V) (l3 : mm_V), mm_E d 134 15 [l0, l1, l2, l3, (.inl z)] [] st n I L P = mm_E d 134 17 [l0, l1, l2, l3, (.inl z)] [] ((.inl z) :: st) n I L P) ∧
  (∀ (lv : List mm_V) a x0 x1 x2 x3 w0, (mm_ok n a 11) → mm_E d 134 17 lv [] (.inl x3 :: .inl x2 :: .inl x1 :: .inl x0 :: .inr (.inr (some a)) :: [.inl w0]) n I L P = mm_kr d 134 20 lv [] [.inl w0] n (mm_rn d 132 [.inr (.inr (some a)), .inl x0, .inl x1, .inl x2, .inl x3] n I L P)) ∧
  (∀ (lv : List mm_V) (st : List mm_V) a b, mm_E d 134 20 lv [] (.inl b :: .inl a :: st) n I L P = if a < b then mm_E d 134 50 lv [] st n I L P else mm_E d 134 23 lv [] st n I L P) ∧
  (∀ (st : List mm_V) z (l1 : mm_V) (l2 : mm_V) (l3 : mm_V) (l4 : mm_V), mm_E d 134 23 [(.inr (.inr z)), l1, l2, l3, l4] [] st n I L P = mm_E d 134 24 [(.inr (.inr z)), l1, l2, l3, l4] [] ((.inr (.inr z)) :: st) n I L P) ∧
  (∀ (st : List mm_V) z (l0 : mm_V) (l2 : mm_V) (l3 : mm_V) (l4 : mm_V), mm_E d 134 24 [l0, (.inl z), l2, l3, l4] [] st n I L P = mm_E d 134 25 [l0, (.inl z), l2, l3, l4] [] ((.inl z) :: st) n I L P) ∧
  (∀ (st : List mm_V) z (l0 : mm_V) (l1 : mm_V) (l3 : mm_V) (l4 : mm_V), mm_E d 134 25 [l0, l1, (.inl z), l3, l4] [] st n I L P = mm_E d 134 26 [l0, l1, (.inl z), l3, l4] [] ((.inl z) :: st) n I L P) ∧
  (∀ (st : List mm_V) z (l0 : mm_V) (l1 : mm_V) (l2 : mm_V) (l4 : mm_V), mm_E d 134 26 [l0, l1, l2, (.inl z), l4] [] st n I L P = mm_E d 134 27 [l0, l1, l2, (.inl z), l4] [] ((.inl z) :: st) n I L P) ∧
  (∀ (st : List mm_V) z (l0 : mm_V) (l1 : mm_V) (l2 : mm_V) (l3 : mm_V), mm_E d 134 27 [l0, l1, l2, l3, (.inl z)] [] st n I L P = mm_E d 134 29 [l0, l1, l2, l3, (.inl z)] [] ((.inl z) :: st) n I L P) ∧
  (∀ (lv : List mm_V) a x0 x1 x2 x3, (mm_ok n a 11) → mm_E d 134 29 lv [] (.inl x3 :: .inl x2 :: .inl x1 :: .inl x0 :: .inr (.inr (some a)) :: []) n I L P = mm_kr d 134 32 lv [] [] n (mm_rn d 131 [.inr (.inr (some a)), .inl x0, .inl x1, .inl x2, .inl x3] n I L P)) ∧
  (∀ (st : List mm_V) z (l1 : mm_V) (l2 : mm_V) (l3 : mm_V) (l4 : mm_V), mm_E d 134 32 [(.inr (.inr z)), l1, l2, l3, l4] [] st n I L P = mm_E d 134 33 [(.inr (.inr z)), l1, l2, l3, l4] [] ((.inr (.inr z)) :: st) n I L P) ∧
  (∀ (st : List mm_V) z (l0 : mm_V) (l2 : mm_V) (l3 : mm_V) (l4 : mm_V), mm_E d 134 33 [l0, (.inl z), l2, l3, l4] [] st n I L P = mm_E d 134 34 [l0, (.inl z), l2, l3, l4] [] ((.inl z) :: st) n I L P) ∧
  (∀ (st : List mm_V) z (l0 : mm_V) (l1 : mm_V) (l3 : mm_V) (l4 : mm_V), mm_E d 134 34 [l0, l1, (.inl z), l3, l4] [] st n I L P = mm_E d 134 35 [l0, l1, (.inl z), l3, l4] [] ((.inl z) :: st) n I L P) ∧
  (∀ (st : List mm_V) z (l0 : mm_V) (l1 : mm_V) (l2 : mm_V) (l4 : mm_V), mm_E d 134 35 [l0, l1, l2, (.inl z), l4] [] st n I L P = mm_E d 134 36 [l0, l1, l2, (.inl z), l4] [] ((.inl z) :: st) n I L P) ∧
  (∀ (lv : List mm_V) (st : List mm_V), mm_E d 134 36 lv [] st n I L P = mm_E d 134 37 lv [] (.inl 1 :: st) n I L P) ∧
  (∀ (st : List mm_V) z (l0 : mm_V) (l1 : mm_V) (l2 : mm_V) (l3 : mm_V), mm_E d 134 37 [l0, l1, l2, l3, (.inl z)] [] st n I L P = mm_E d 134 39 [l0, l1, l2, l3, (.inl z)] [] ((.inl z) :: st) n I L P) ∧
  (∀ (lv : List mm_V) (st : List mm_V) a b, mm_E d 134 39 lv [] (.inl b :: .inl a :: st) n I L P = mm_E d 134 40 lv [] (.inl (mm_sub a b) :: st) n I L P) ∧
  (∀ (lv : List mm_V) a x0 x1 x2 x3 w0, (mm_ok n a 11) → mm_E d 134 40 lv [] (.inl x3 :: .inl x2 :: .inl x1 :: .inl x0 :: .inr (.inr (some a)) :: [.inl w0]) n I L P = mm_kr d 134 43 lv [] [.inl w0] n (mm_rn d 131 [.inr (.inr (some a)), .inl x0, .inl x1, .inl x2, .inl x3] n I L P)) ∧
  (∀ (lv : List mm_V) (st : List mm_V) a b, mm_E d 134 43 lv [] (.inl b :: .inl a :: st) n I L P = if a < b then mm_E d 134 50 lv [] st n I L P else mm_E d 134 46 lv [] st n I L P) ∧
  (∀ (lv : List mm_V) (st : List mm_V), mm_E d 134 46 lv [] st n I L P = mm_E d 134 47 lv [] (.inl 1 :: st) n I L P) ∧
  (∀ (lv : List mm_V) (st : List mm_V), mm_E d 134 47 lv [] st n I L P = mm_E d 134 51 lv [] st n I L P) ∧
  (∀ (lv : List mm_V) (st : List mm_V), mm_E d 134 50 lv [] st n I L P = mm_E d 134 51 lv [] (.inl 0 :: st) n I L P) ∧
  (∀ (lv : List mm_V) z, (0 ≤ z ∧ z < 2) → mm_E d 134 51 lv [] [.inl z] n I L P = some (some (.inl z), n, I, L, P)) :=
  ⟨fun _ _ _ _ _ _ => mq_al (i := 0) rfl rfl,
   fun _ _ _ _ _ _ => mq_il (i := 1) rfl rfl,
   fun _ _ _ _ _ _ => mq_il (i := 2) rfl rfl,
   fun _ _ _ _ _ _ => mq_il (i := 3) rfl rfl,
   fun _ _ _ _ _ _ => mq_il (i := 4) rfl rfl,
   fun _ _ _ _ _ _ h0 => mq_cVr (na := 4) rfl rfl (Nat.le_of_ble_eq_true rfl) (Nat.le_of_ble_eq_true rfl) h0,
   fun _ _ _ _ _ _ => mq_al (i := 0) rfl rfl,
   fun _ _ _ _ _ _ => mq_il (i := 1) rfl rfl,
   fun _ _ _ _ _ _ => mq_il (i := 2) rfl rfl,
   fun _ _ => mq_push rfl,
   fun _ _ _ _ _ _ => mq_il (i := 3) rfl rfl,
   fun _ _ _ _ => mq_bi rfl,
   fun _ _ _ _ _ _ => mq_il (i := 4) rfl rfl,
   fun _ _ _ _ _ _ _ h0 => mq_cVr (na := 4) rfl rfl (Nat.le_of_ble_eq_true rfl) (Nat.le_of_ble_eq_true rfl) h0,
   fun _ _ _ _ => mq_ic_lt rfl,
   fun _ _ _ _ _ _ => mq_al (i := 0) rfl rfl,
   fun _ _ _ _ _ _ => mq_il (i := 1) rfl rfl,
   fun _ _ _ _ _ _ => mq_il (i := 2) rfl rfl,
   fun _ _ _ _ _ _ => mq_il (i := 3) rfl rfl,
   fun _ _ _ _ _ _ => mq_il (i := 4) rfl rfl,
   fun _ _ _ _ _ _ h0 => mq_cVr (na := 4) rfl rfl (Nat.le_of_ble_eq_true rfl) (Nat.le_of_ble_eq_true rfl) h0,
   fun _ _ _ _ _ _ => mq_al (i := 0) rfl rfl,
   fun _ _ _ _ _ _ => mq_il (i := 1) rfl rfl,
   fun _ _ _ _ _ _ => mq_il (i := 2) rfl rfl,
   fun _ _ _ _ _ _ => mq_il (i := 3) rfl rfl,
   fun _ _ => mq_push rfl,
   fun _ _ _ _ _ _ => mq_il (i := 4) rfl rfl,
   fun _ _ _ _ => mq_bi rfl,
   fun _ _ _ _ _ _ _ h0 => mq_cVr (na := 4) rfl rfl (Nat.le_of_ble_eq_true rfl) (Nat.le_of_ble_eq_true rfl) h0,
   fun _ _ _ _ => mq_ic_lt rfl,
   fun _ _ => mq_push rfl,
   fun _ _ => mq_go rfl,
   fun _ _ => mq_push rfl,
   fun _ _ h0 => mq_rz rfl h0⟩
theorem eX11_isRest (d n : Nat) (I L : mm_I) (P : mm_P) (x0 : Option Nat) (x1 : Int) (x2 : Int) (x3 : Int) (x4 : Int) : mm_rn (d + 1) 134 [.inr (.inr x0), .inl x1, .inl x2, .inl x3, .inl x4] n I L P = mm_E d 134 0 [.inr (.inr x0), .inl x1, .inl x2, .inl x3, .inl x4] [] [] n I L P := rfl

set_option maxRecDepth 20000 in
set_option maxHeartbeats 8000000 in
theorem kX11_odds (d n : Nat) (I L : mm_I) (P : mm_P) :
  (∀ (ll : List (Option Int)) (st : List mm_V) z (l1 : mm_V) (l2 : mm_V) (l3 : mm_V) (l4 : mm_V) (l5 : mm_V) (l6 : mm_V) (l7 : mm_V) (l8 : mm_V) (l9 : mm_V), mm_E d 135 0 [(.inr (.inr z)), l1, l2, l3, l4, l5, l6, l7, l8, l9] ll st n I L P = mm_E d 135 1 [(.inr (.inr z)), l1, l2, l3, l4, l5, l6, l7, l8, l9] ll ((.inr (.inr z)) :: st) n I L P) ∧
  (∀ (lv : List mm_V) (ll : List (Option Int)) (st : List mm_V) a, (mm_ok n a 11) → mm_E d 135 1 lv ll (.inr (.inr (some a)) :: st) n I L P = mm_E d 135 4 lv ll (.inr (.inr (P a 2)) :: st) n I L P) ∧
  (∀ (ll : List (Option Int)) (st : List mm_V) z (l0 : mm_V) (l2 : mm_V) (l3 : mm_V) (l4 : mm_V) (l5 : mm_V) (l6 : mm_V) (l7 : mm_V) (l8 : mm_V) (l9 : mm_V), mm_E d 135 4 [l0, (.inl z), l2, l3, l4, l5, l6, l7, l8, l9] ll st n I L P = mm_E d 135 5 [l0, (.inl z), l2, l3, l4, l5, l6, l7, l8, l9] ll ((.inl z) :: st) n I L P) ∧
  (∀ (lv : List mm_V) (ll : List (Option Int)) a x0, (mm_ok n a 9) → mm_E d 135 5 lv ll (.inl x0 :: .inr (.inr (some a)) :: []) n I L P = mm_kr d 135 8 lv ll [] n (mm_rn d 63 [.inr (.inr (some a)), .inl x0] n I L P)) ∧
  (∀ (lv : List mm_V) (ll : List (Option Int)) (st : List mm_V) a, mm_E d 135 8 lv ll (.inl a :: st) n I L P = if a = 0 then mm_E d 135 44 lv ll st n I L P else mm_E d 135 11 lv ll st n I L P) ∧
  (∀ (ll : List (Option Int)) (st : List mm_V) z (l0 : mm_V) (l1 : mm_V) (l3 : mm_V) (l4 : mm_V) (l5 : mm_V) (l6 : mm_V) (l7 : mm_V) (l8 : mm_V) (l9 : mm_V), mm_E d 135 11 [l0, l1, (.inl z), l3, l4, l5, l6, l7, l8, l9] ll st n I L P = mm_E d 135 12 [l0, l1, (.inl z), l3, l4, l5, l6, l7, l8, l9] ll ((.inl z) :: st) n I L P) ∧
  (∀ (lv : List mm_V) (ll : List (Option Int)) (st : List mm_V) a, mm_E d 135 12 lv ll (.inl a :: st) n I L P = if a < 0 then mm_E d 135 44 lv ll st n I L P else mm_E d 135 15 lv ll st n I L P) ∧
  (∀ (ll : List (Option Int)) (st : List mm_V) z (l0 : mm_V) (l1 : mm_V) (l3 : mm_V) (l4 : mm_V) (l5 : mm_V) (l6 : mm_V) (l7 : mm_V) (l8 : mm_V) (l9 : mm_V), mm_E d 135 15 [l0, l1, (.inl z), l3, l4, l5, l6, l7, l8, l9] ll st n I L P = mm_E d 135 16 [l0, l1, (.inl z), l3, l4, l5, l6, l7, l8, l9] ll ((.inl z) :: st) n I L P) ∧
  (∀ (ll : List (Option Int)) (lv : List mm_V) (st : List mm_V), mm_E d 135 16 lv ll st n I L P = mm_E d 135 18 lv ll (.inl 6 :: st) n I L P) ∧
  (∀ (lv : List mm_V) (ll : List (Option Int)) (st : List mm_V) a b, mm_E d 135 18 lv ll (.inl b :: .inl a :: st) n I L P = if b < a then mm_E d 135 44 lv ll st n I L P else mm_E d 135 21 lv ll st n I L P) ∧
  (∀ (ll : List (Option Int)) (st : List mm_V) z (l0 : mm_V) (l1 : mm_V) (l2 : mm_V) (l4 : mm_V) (l5 : mm_V) (l6 : mm_V) (l7 : mm_V) (l8 : mm_V) (l9 : mm_V), mm_E d 135 21 [l0, l1, l2, (.inl z), l4, l5, l6, l7, l8, l9] ll st n I L P = mm_E d 135 22 [l0, l1, l2, (.inl z), l4, l5, l6, l7, l8, l9] ll ((.inl z) :: st) n I L P) ∧
  (∀ (lv : List mm_V) (ll : List (Option Int)) (st : List mm_V) a, mm_E d 135 22 lv ll (.inl a :: st) n I L P = if a < 0 then mm_E d 135 44 lv ll st n I L P else mm_E d 135 25 lv ll st n I L P) ∧
  (∀ (ll : List (Option Int)) (st : List mm_V) z (l0 : mm_V) (l1 : mm_V) (l2 : mm_V) (l4 : mm_V) (l5 : mm_V) (l6 : mm_V) (l7 : mm_V) (l8 : mm_V) (l9 : mm_V), mm_E d 135 25 [l0, l1, l2, (.inl z), l4, l5, l6, l7, l8, l9] ll st n I L P = mm_E d 135 26 [l0, l1, l2, (.inl z), l4, l5, l6, l7, l8, l9] ll ((.inl z) :: st) n I L P) ∧
  (∀ (ll : List (Option Int)) (lv : List mm_V) (st : List mm_V), mm_E d 135 26 lv ll st n I L P = mm_E d 135 29 lv ll (.inl 999 :: st) n I L P) ∧
  (∀ (lv : List mm_V) (ll : List (Option Int)) (st : List mm_V) a b, mm_E d 135 29 lv ll (.inl b :: .inl a :: st) n I L P = if b < a then mm_E d 135 44 lv ll st n I L P else mm_E d 135 32 lv ll st n I L P) ∧
  (∀ (ll : List (Option Int)) (st : List mm_V) z (l0 : mm_V) (l1 : mm_V) (l2 : mm_V) (l3 : mm_V) (l5 : mm_V) (l6 : mm_V) (l7 : mm_V) (l8 : mm_V) (l9 : mm_V), mm_E d 135 32 [l0, l1, l2, l3, (.inl z), l5, l6, l7, l8, l9] ll st n I L P = mm_E d 135 34 [l0, l1, l2, l3, (.inl z), l5, l6, l7, l8, l9] ll ((.inl z) :: st) n I L P) ∧
  (∀ (lv : List mm_V) (ll : List (Option Int)) (st : List mm_V) a, mm_E d 135 34 lv ll (.inl a :: st) n I L P = if a < 0 then mm_E d 135 44 lv ll st n I L P else mm_E d 135 37 lv ll st n I L P) ∧
  (∀ (ll : List (Option Int)) (st : List mm_V) z (l0 : mm_V) (l1 : mm_V) (l2 : mm_V) (l3 : mm_V) (l5 : mm_V) (l6 : mm_V) (l7 : mm_V) (l8 : mm_V) (l9 : mm_V), mm_E d 135 37 [l0, l1, l2, l3, (.inl z), l5, l6, l7, l8, l9] ll st n I L P = mm_E d 135 39 [l0, l1, l2, l3, (.inl z), l5, l6, l7, l8, l9] ll ((.inl z) :: st) n I L P) ∧
  (∀ (ll : List (Option Int)) (lv : List mm_V) (st : List mm_V), mm_E d 135 39 lv ll st n I L P = mm_E d 135 41 lv ll (.inl 100 :: st) n I L P) ∧
  (∀ (lv : List mm_V) (ll : List (Option Int)) (st : List mm_V) a b, mm_E d 135 41 lv ll (.inl b :: .inl a :: st) n I L P = if a ≤ b then mm_E d 135 46 lv ll st n I L P else mm_E d 135 44 lv ll st n I L P) ∧
  (∀ (ll : List (Option Int)) (lv : List mm_V) (st : List mm_V), mm_E d 135 44 lv ll st n I L P = mm_E d 135 45 lv ll (.inl (-1) :: st) n I L P) ∧
  (∀ (lv : List mm_V) (ll : List (Option Int)) z, mm_E d 135 45 lv ll [.inl z] n I L P = some (some (.inl z), n, I, L, P)) ∧
  (∀ (ll : List (Option Int)) (lv : List mm_V) (st : List mm_V), mm_E d 135 46 lv ll st n I L P = mm_E d 135 47 lv ll (.inr (.inl 0) :: st) n I L P) ∧
  (∀ (st : List mm_V) z (l0 : mm_V) (l1 : mm_V) (l2 : mm_V) (l3 : mm_V) (l4 : mm_V) (l5 : mm_V) (l6 : mm_V) (l7 : mm_V) (l8 : mm_V) (l9 : mm_V) (g0 : Option Int) (g1 : Option Int) (g2 : Option Int) (g3 : Option Int) (g4 : Option Int) (g5 : Option Int) (g6 : Option Int) (g7 : Option Int) (g8 : Option Int) (g9 : Option Int), mm_E d 135 47 [l0, l1, l2, l3, l4, l5, l6, l7, l8, l9] [g0, g1, g2, g3, g4, g5, g6, g7, g8, g9] (.inr (.inl z) :: st) n I L P = mm_E d 135 49 [l0, l1, l2, l3, l4, mm_junk, mm_junk, l7, l8, l9] [g0, g1, g2, g3, none, (some z), none, g7, g8, g9] st n I L P) ∧
  (∀ (ll : List (Option Int)) (lv : List mm_V) (st : List mm_V), mm_E d 135 49 lv ll st n I L P = mm_E d 135 50 lv ll (.inl 0 :: st) n I L P) ∧
  (∀ (st : List mm_V) z (l0 : mm_V) (l1 : mm_V) (l2 : mm_V) (l3 : mm_V) (l4 : mm_V) (l5 : mm_V) (l6 : mm_V) (l7 : mm_V) (l8 : mm_V) (l9 : mm_V) (g0 : Option Int) (g1 : Option Int) (g2 : Option Int) (g3 : Option Int) (g4 : Option Int) (g5 : Option Int) (g6 : Option Int) (g7 : Option Int) (g8 : Option Int) (g9 : Option Int), mm_E d 135 50 [l0, l1, l2, l3, l4, l5, l6, l7, l8, l9] [g0, g1, g2, g3, g4, g5, g6, g7, g8, g9] ((.inl z) :: st) n I L P = mm_E d 135 52 [l0, l1, l2, l3, l4, l5, l6, (.inl z), l8, l9] [g0, g1, g2, g3, g4, g5, none, none, g8, g9] st n I L P) ∧
  (∀ (ll : List (Option Int)) (lv : List mm_V) (st : List mm_V), mm_E d 135 54 lv ll st n I L P = mm_E d 135 55 lv ll (.inl 1 :: st) n I L P) ∧
  (∀ (ll : List (Option Int)) (st : List mm_V) z (l0 : mm_V) (l1 : mm_V) (l3 : mm_V) (l4 : mm_V) (l5 : mm_V) (l6 : mm_V) (l7 : mm_V) (l8 : mm_V) (l9 : mm_V), mm_E d 135 55 [l0, l1, (.inl z), l3, l4, l5, l6, l7, l8, l9] ll st n I L P = mm_E d 135 56 [l0, l1, (.inl z), l3, l4, l5, l6, l7, l8, l9] ll ((.inl z) :: st) n I L P) ∧
  (∀ (lv : List mm_V) (ll : List (Option Int)) (st : List mm_V) a b, mm_E d 135 56 lv ll (.inl b :: .inl a :: st) n I L P = mm_E d 135 57 lv ll (.inl (mm_shl a b) :: st) n I L P) ∧
  (∀ (lv : List mm_V) (ll : List (Option Int)) (st : List mm_V) a b, mm_E d 135 57 lv ll (.inl b :: .inl a :: st) n I L P = if b ≤ a then mm_E d 135 117 lv ll st n I L P else mm_E d 135 60 lv ll st n I L P) ∧
  (∀ (ll : List (Option Int)) (st : List mm_V) z (l0 : mm_V) (l1 : mm_V) (l2 : mm_V) (l3 : mm_V) (l4 : mm_V) (l5 : mm_V) (l6 : mm_V) (l8 : mm_V) (l9 : mm_V), mm_E d 135 60 [l0, l1, l2, l3, l4, l5, l6, (.inl z), l8, l9] ll st n I L P = mm_E d 135 62 [l0, l1, l2, l3, l4, l5, l6, (.inl z), l8, l9] ll ((.inl z) :: st) n I L P) ∧
  (∀ (ll : List (Option Int)) (st : List mm_V) z (l0 : mm_V) (l1 : mm_V) (l3 : mm_V) (l4 : mm_V) (l5 : mm_V) (l6 : mm_V) (l7 : mm_V) (l8 : mm_V) (l9 : mm_V), mm_E d 135 62 [l0, l1, (.inl z), l3, l4, l5, l6, l7, l8, l9] ll st n I L P = mm_E d 135 63 [l0, l1, (.inl z), l3, l4, l5, l6, l7, l8, l9] ll ((.inl z) :: st) n I L P) ∧
  (∀ (ll : List (Option Int)) (st : List mm_V) z (l0 : mm_V) (l1 : mm_V) (l2 : mm_V) (l3 : mm_V) (l5 : mm_V) (l6 : mm_V) (l7 : mm_V) (l8 : mm_V) (l9 : mm_V), mm_E d 135 63 [l0, l1, l2, l3, (.inl z), l5, l6, l7, l8, l9] ll st n I L P = mm_E d 135 65 [l0, l1, l2, l3, (.inl z), l5, l6, l7, l8, l9] ll ((.inl z) :: st) n I L P) ∧
  (∀ (lv : List mm_V) (ll : List (Option Int)) x0 x1 x2, mm_E d 135 65 lv ll (.inl x2 :: .inl x1 :: .inl x0 :: []) n I L P = mm_kr d 135 68 lv ll [] n (mm_rn d 136 [.inl x0, .inl x1, .inl x2] n I L P)) ∧
  (∀ (st : List mm_V) z (l0 : mm_V) (l1 : mm_V) (l2 : mm_V) (l3 : mm_V) (l4 : mm_V) (l5 : mm_V) (l6 : mm_V) (l7 : mm_V) (l8 : mm_V) (l9 : mm_V) (g0 : Option Int) (g1 : Option Int) (g2 : Option Int) (g3 : Option Int) (g4 : Option Int) (g5 : Option Int) (g6 : Option Int) (g7 : Option Int) (g8 : Option Int) (g9 : Option Int), mm_E d 135 68 [l0, l1, l2, l3, l4, l5, l6, l7, l8, l9] [g0, g1, g2, g3, g4, g5, g6, g7, g8, g9] (.inr (.inl z) :: st) n I L P = mm_E d 135 70 [l0, l1, l2, l3, l4, l5, l6, l7, mm_junk, mm_junk] [g0, g1, g2, g3, g4, g5, g6, none, (some z), none] st n I L P) ∧
  (∀ (lv : List mm_V) (st : List mm_V) z (g0 : Option Int) (g1 : Option Int) (g2 : Option Int) (g3 : Option Int) (g4 : Option Int) (g5 : Option Int) (g6 : Option Int) (g7 : Option Int) (g9 : Option Int), mm_E d 135 70 lv [g0, g1, g2, g3, g4, g5, g6, g7, (some z), g9] st n I L P = mm_E d 135 72 lv [g0, g1, g2, g3, g4, g5, g6, g7, (some z), g9] (.inr (.inl z) :: st) n I L P) ∧
  (∀ (ll : List (Option Int)) (lv : List mm_V) (st : List mm_V), mm_E d 135 72 lv ll st n I L P = mm_E d 135 73 lv ll (.inr (.inl 0) :: st) n I L P) ∧
  (∀ (lv : List mm_V) (ll : List (Option Int)) (st : List mm_V) a b, mm_E d 135 73 lv ll (.inr (.inl b) :: .inr (.inl a) :: st) n I L P = mm_E d 135 74 lv ll (.inl (if a < b then -1 else if a = b then 0 else 1) :: st) n I L P) ∧
  (∀ (lv : List mm_V) (ll : List (Option Int)) (st : List mm_V) a, mm_E d 135 74 lv ll (.inl a :: st) n I L P = if a ≤ 0 then mm_E d 135 111 lv ll st n I L P else mm_E d 135 77 lv ll st n I L P) ∧
  (∀ (ll : List (Option Int)) (st : List mm_V) z (l1 : mm_V) (l2 : mm_V) (l3 : mm_V) (l4 : mm_V) (l5 : mm_V) (l6 : mm_V) (l7 : mm_V) (l8 : mm_V) (l9 : mm_V), mm_E d 135 77 [(.inr (.inr z)), l1, l2, l3, l4, l5, l6, l7, l8, l9] ll st n I L P = mm_E d 135 78 [(.inr (.inr z)), l1, l2, l3, l4, l5, l6, l7, l8, l9] ll ((.inr (.inr z)) :: st) n I L P) ∧
  (∀ (lv : List mm_V) (ll : List (Option Int)) (st : List mm_V) a, (mm_ok n a 11) → mm_E d 135 78 lv ll (.inr (.inr (some a)) :: st) n I L P = mm_E d 135 81 lv ll (.inr (.inr (P a 15)) :: st) n I L P) ∧
  (∀ (ll : List (Option Int)) (st : List mm_V) z (l1 : mm_V) (l2 : mm_V) (l3 : mm_V) (l4 : mm_V) (l5 : mm_V) (l6 : mm_V) (l7 : mm_V) (l8 : mm_V) (l9 : mm_V), mm_E d 135 81 [(.inr (.inr z)), l1, l2, l3, l4, l5, l6, l7, l8, l9] ll st n I L P = mm_E d 135 82 [(.inr (.inr z)), l1, l2, l3, l4, l5, l6, l7, l8, l9] ll ((.inr (.inr z)) :: st) n I L P) ∧
  (∀ (lv : List mm_V) (ll : List (Option Int)) (st : List mm_V) a, (mm_ok n a 11) → mm_E d 135 82 lv ll (.inr (.inr (some a)) :: st) n I L P = mm_E d 135 85 lv ll (.inr (.inr (P a 8)) :: st) n I L P) ∧
  (∀ (ll : List (Option Int)) (st : List mm_V) z (l1 : mm_V) (l2 : mm_V) (l3 : mm_V) (l4 : mm_V) (l5 : mm_V) (l6 : mm_V) (l7 : mm_V) (l8 : mm_V) (l9 : mm_V), mm_E d 135 85 [(.inr (.inr z)), l1, l2, l3, l4, l5, l6, l7, l8, l9] ll st n I L P = mm_E d 135 86 [(.inr (.inr z)), l1, l2, l3, l4, l5, l6, l7, l8, l9] ll ((.inr (.inr z)) :: st) n I L P) ∧
  (∀ (lv : List mm_V) (ll : List (Option Int)) (st : List mm_V) a, (mm_ok n a 11) → mm_E d 135 86 lv ll (.inr (.inr (some a)) :: st) n I L P = mm_E d 135 89 lv ll (.inr (.inr (P a 2)) :: st) n I L P) ∧
  (∀ (ll : List (Option Int)) (st : List mm_V) z (l1 : mm_V) (l2 : mm_V) (l3 : mm_V) (l4 : mm_V) (l5 : mm_V) (l6 : mm_V) (l7 : mm_V) (l8 : mm_V) (l9 : mm_V), mm_E d 135 89 [(.inr (.inr z)), l1, l2, l3, l4, l5, l6, l7, l8, l9] ll st n I L P = mm_E d 135 90 [(.inr (.inr z)), l1, l2, l3, l4, l5, l6, l7, l8, l9] ll ((.inr (.inr z)) :: st) n I L P) ∧
  (∀ (lv : List mm_V) (ll : List (Option Int)) a w0 w1 w2, (mm_ok n a 11) → mm_E d 135 90 lv ll (.inr (.inr (some a)) :: [.inr (.inr w0), .inr (.inr w1), .inr (.inr w2)]) n I L P = mm_kr d 135 93 lv ll [.inr (.inr w0), .inr (.inr w1), .inr (.inr w2)] n (mm_rn d 96 [.inr (.inr (some a))] n I L P)) ∧
  (∀ (ll : List (Option Int)) (st : List mm_V) z (l0 : mm_V) (l2 : mm_V) (l3 : mm_V) (l4 : mm_V) (l5 : mm_V) (l6 : mm_V) (l7 : mm_V) (l8 : mm_V) (l9 : mm_V), mm_E d 135 93 [l0, (.inl z), l2, l3, l4, l5, l6, l7, l8, l9] ll st n I L P = mm_E d 135 94 [l0, (.inl z), l2, l3, l4, l5, l6, l7, l8, l9] ll ((.inl z) :: st) n I L P) ∧
  (∀ (ll : List (Option Int)) (st : List mm_V) z (l0 : mm_V) (l1 : mm_V) (l3 : mm_V) (l4 : mm_V) (l5 : mm_V) (l6 : mm_V) (l7 : mm_V) (l8 : mm_V) (l9 : mm_V), mm_E d 135 94 [l0, l1, (.inl z), l3, l4, l5, l6, l7, l8, l9] ll st n I L P = mm_E d 135 95 [l0, l1, (.inl z), l3, l4, l5, l6, l7, l8, l9] ll ((.inl z) :: st) n I L P) ∧
  (∀ (ll : List (Option Int)) (st : List mm_V) z (l0 : mm_V) (l1 : mm_V) (l2 : mm_V) (l3 : mm_V) (l4 : mm_V) (l5 : mm_V) (l6 : mm_V) (l8 : mm_V) (l9 : mm_V), mm_E d 135 95 [l0, l1, l2, l3, l4, l5, l6, (.inl z), l8, l9] ll st n I L P = mm_E d 135 97 [l0, l1, l2, l3, l4, l5, l6, (.inl z), l8, l9] ll ((.inl z) :: st) n I L P) ∧
  (∀ (lv : List mm_V) (ll : List (Option Int)) a x0 x1 x2 x3 x4 x5, (mm_ok n a 0) → mm_E d 135 97 lv ll (.inl x5 :: .inl x4 :: .inl x3 :: .inr (.inr x2) :: .inr (.inr x1) :: .inr (.inr x0) :: .inr (.inr (some a)) :: []) n I L P = mm_kr d 135 100 lv ll [] n (mm_rn d 6 [.inr (.inr (some a)), .inr (.inr x0), .inr (.inr x1), .inr (.inr x2), .inl x3, .inl x4, .inl x5] n I L P)) ∧
  (∀ (ll : List (Option Int)) (st : List mm_V) z (l0 : mm_V) (l1 : mm_V) (l2 : mm_V) (l4 : mm_V) (l5 : mm_V) (l6 : mm_V) (l7 : mm_V) (l8 : mm_V) (l9 : mm_V), mm_E d 135 100 [l0, l1, l2, (.inl z), l4, l5, l6, l7, l8, l9] ll st n I L P = mm_E d 135 101 [l0, l1, l2, (.inl z), l4, l5, l6, l7, l8, l9] ll ((.inl z) :: st) n I L P) ∧
  (∀ (lv : List mm_V) (ll : List (Option Int)) (st : List mm_V) a b, mm_E d 135 101 lv ll (.inl b :: .inl a :: st) n I L P = if a < b then mm_E d 135 111 lv ll st n I L P else mm_E d 135 104 lv ll st n I L P) ∧
  (∀ (lv : List mm_V) (st : List mm_V) z (g0 : Option Int) (g1 : Option Int) (g2 : Option Int) (g3 : Option Int) (g4 : Option Int) (g6 : Option Int) (g7 : Option Int) (g8 : Option Int) (g9 : Option Int), mm_E d 135 104 lv [g0, g1, g2, g3, g4, (some z), g6, g7, g8, g9] st n I L P = mm_E d 135 106 lv [g0, g1, g2, g3, g4, (some z), g6, g7, g8, g9] (.inr (.inl z) :: st) n I L P) ∧
  (∀ (lv : List mm_V) (st : List mm_V) z (g0 : Option Int) (g1 : Option Int) (g2 : Option Int) (g3 : Option Int) (g4 : Option Int) (g5 : Option Int) (g6 : Option Int) (g7 : Option Int) (g9 : Option Int), mm_E d 135 106 lv [g0, g1, g2, g3, g4, g5, g6, g7, (some z), g9] st n I L P = mm_E d 135 108 lv [g0, g1, g2, g3, g4, g5, g6, g7, (some z), g9] (.inr (.inl z) :: st) n I L P) ∧
  (∀ (lv : List mm_V) (ll : List (Option Int)) (st : List mm_V) a b, mm_E d 135 108 lv ll (.inr (.inl b) :: .inr (.inl a) :: st) n I L P = mm_E d 135 109 lv ll (.inr (.inl (mm_laddl a b)) :: st) n I L P) ∧
  (∀ (st : List mm_V) z (l0 : mm_V) (l1 : mm_V) (l2 : mm_V) (l3 : mm_V) (l4 : mm_V) (l5 : mm_V) (l6 : mm_V) (l7 : mm_V) (l8 : mm_V) (l9 : mm_V) (g0 : Option Int) (g1 : Option Int) (g2 : Option Int) (g3 : Option Int) (g4 : Option Int) (g5 : Option Int) (g6 : Option Int) (g7 : Option Int) (g8 : Option Int) (g9 : Option Int), mm_E d 135 109 [l0, l1, l2, l3, l4, l5, l6, l7, l8, l9] [g0, g1, g2, g3, g4, g5, g6, g7, g8, g9] (.inr (.inl z) :: st) n I L P = mm_E d 135 111 [l0, l1, l2, l3, l4, mm_junk, mm_junk, l7, l8, l9] [g0, g1, g2, g3, none, (some z), none, g7, g8, g9] st n I L P) ∧
  (∀ (st : List mm_V) z (l0 : mm_V) (l1 : mm_V) (l2 : mm_V) (l3 : mm_V) (l4 : mm_V) (l5 : mm_V) (l6 : mm_V) (l8 : mm_V) (l9 : mm_V) (g0 : Option Int) (g1 : Option Int) (g2 : Option Int) (g3 : Option Int) (g4 : Option Int) (g5 : Option Int) (g6 : Option Int) (g7 : Option Int) (g8 : Option Int) (g9 : Option Int), mm_E d 135 111 [l0, l1, l2, l3, l4, l5, l6, (.inl z), l8, l9] [g0, g1, g2, g3, g4, g5, g6, g7, g8, g9] st n I L P = mm_E d 135 114 [l0, l1, l2, l3, l4, l5, l6, (.inl (mm_add z 1)), l8, l9] [g0, g1, g2, g3, g4, g5, none, none, g8, g9] st n I L P) ∧
  (∀ (lv : List mm_V) (ll : List (Option Int)) (st : List mm_V), mm_E d 135 114 lv ll st n I L P = mm_E d 135 52 lv ll st n I L P) ∧
  (∀ (lv : List mm_V) (st : List mm_V) z (g0 : Option Int) (g1 : Option Int) (g2 : Option Int) (g3 : Option Int) (g4 : Option Int) (g6 : Option Int) (g7 : Option Int) (g8 : Option Int) (g9 : Option Int), mm_E d 135 117 lv [g0, g1, g2, g3, g4, (some z), g6, g7, g8, g9] st n I L P = mm_E d 135 119 lv [g0, g1, g2, g3, g4, (some z), g6, g7, g8, g9] (.inr (.inl z) :: st) n I L P) ∧
  (∀ (lv : List mm_V) (ll : List (Option Int)) (st : List mm_V) a, mm_E d 135 119 lv ll (.inr (.inl a) :: st) n I L P = mm_E d 135 120 lv ll (.inl (mm_w a) :: st) n I L P) ∧
  (∀ (lv : List mm_V) (ll : List (Option Int)) z, mm_E d 135 120 lv ll [.inl z] n I L P = some (some (.inl z), n, I, L, P)) :=
  ⟨fun _ _ _ _ _ _ _ _ _ _ _ _ => mq_al (i := 0) rfl rfl,
   fun _ _ _ _ h0 => mq_getR rfl h0,
   fun _ _ _ _ _ _ _ _ _ _ _ _ => mq_il (i := 1) rfl rfl,
   fun _ _ _ _ h0 => mq_cVr (na := 1) rfl rfl (Nat.le_of_ble_eq_true rfl) (Nat.le_of_ble_eq_true rfl) h0,
   fun _ _ _ _ => mq_if_eq rfl,
   fun _ _ _ _ _ _ _ _ _ _ _ _ => mq_il (i := 2) rfl rfl,
   fun _ _ _ _ => mq_if_lt rfl,
   fun _ _ _ _ _ _ _ _ _ _ _ _ => mq_il (i := 2) rfl rfl,
   fun _ _ _ => mq_push rfl,
   fun _ _ _ _ _ => mq_ic_gt rfl,
   fun _ _ _ _ _ _ _ _ _ _ _ _ => mq_il (i := 3) rfl rfl,
   fun _ _ _ _ => mq_if_lt rfl,
   fun _ _ _ _ _ _ _ _ _ _ _ _ => mq_il (i := 3) rfl rfl,
   fun _ _ _ => mq_push rfl,
   fun _ _ _ _ _ => mq_ic_gt rfl,
   fun _ _ _ _ _ _ _ _ _ _ _ _ => mq_il (i := 4) rfl rfl,
   fun _ _ _ _ => mq_if_lt rfl,
   fun _ _ _ _ _ _ _ _ _ _ _ _ => mq_il (i := 4) rfl rfl,
   fun _ _ _ => mq_push rfl,
   fun _ _ _ _ _ => mq_ic_le rfl,
   fun _ _ _ => mq_push rfl,
   fun _ _ _ => mq_ri rfl,
   fun _ _ _ => mq_push rfl,
   fun _ _ _ _ _ _ _ _ _ _ _ _ _ _ _ _ _ _ _ _ _ _ => mq_ls (i := 5) rfl rfl rfl,
   fun _ _ _ => mq_push rfl,
   fun _ _ _ _ _ _ _ _ _ _ _ _ _ _ _ _ _ _ _ _ _ _ => mq_is (i := 7) rfl rfl rfl,
   fun _ _ _ => mq_push rfl,
   fun _ _ _ _ _ _ _ _ _ _ _ _ => mq_il (i := 2) rfl rfl,
   fun _ _ _ _ _ => mq_bi rfl,
   fun _ _ _ _ _ => mq_ic_ge rfl,
   fun _ _ _ _ _ _ _ _ _ _ _ _ => mq_il (i := 7) rfl rfl,
   fun _ _ _ _ _ _ _ _ _ _ _ _ => mq_il (i := 2) rfl rfl,
   fun _ _ _ _ _ _ _ _ _ _ _ _ => mq_il (i := 4) rfl rfl,
   fun _ _ _ _ _ => mq_cSr (na := 3) rfl (Nat.le_of_ble_eq_true rfl) (Nat.le_of_ble_eq_true rfl),
   fun _ _ _ _ _ _ _ _ _ _ _ _ _ _ _ _ _ _ _ _ _ _ => mq_ls (i := 8) rfl rfl rfl,
   fun _ _ _ _ _ _ _ _ _ _ _ _ => mq_ll (i := 8) rfl rfl,
   fun _ _ _ => mq_push rfl,
   fun _ _ _ _ _ => mq_lcmp rfl,
   fun _ _ _ _ => mq_if_le rfl,
   fun _ _ _ _ _ _ _ _ _ _ _ _ => mq_al (i := 0) rfl rfl,
   fun _ _ _ _ h0 => mq_getR rfl h0,
   fun _ _ _ _ _ _ _ _ _ _ _ _ => mq_al (i := 0) rfl rfl,
   fun _ _ _ _ h0 => mq_getR rfl h0,
   fun _ _ _ _ _ _ _ _ _ _ _ _ => mq_al (i := 0) rfl rfl,
   fun _ _ _ _ h0 => mq_getR rfl h0,
   fun _ _ _ _ _ _ _ _ _ _ _ _ => mq_al (i := 0) rfl rfl,
   fun _ _ _ _ _ _ h0 => mq_cVr (na := 0) rfl rfl (Nat.le_of_ble_eq_true rfl) (Nat.le_of_ble_eq_true rfl) h0,
   fun _ _ _ _ _ _ _ _ _ _ _ _ => mq_il (i := 1) rfl rfl,
   fun _ _ _ _ _ _ _ _ _ _ _ _ => mq_il (i := 2) rfl rfl,
   fun _ _ _ _ _ _ _ _ _ _ _ _ => mq_il (i := 7) rfl rfl,
   fun _ _ _ _ _ _ _ _ _ h0 => mq_cVr (na := 6) rfl rfl (Nat.le_of_ble_eq_true rfl) (Nat.le_of_ble_eq_true rfl) h0,
   fun _ _ _ _ _ _ _ _ _ _ _ _ => mq_il (i := 3) rfl rfl,
   fun _ _ _ _ _ => mq_ic_lt rfl,
   fun _ _ _ _ _ _ _ _ _ _ _ _ => mq_ll (i := 5) rfl rfl,
   fun _ _ _ _ _ _ _ _ _ _ _ _ => mq_ll (i := 8) rfl rfl,
   fun _ _ _ _ _ => mq_bl rfl,
   fun _ _ _ _ _ _ _ _ _ _ _ _ _ _ _ _ _ _ _ _ _ _ => mq_ls (i := 5) rfl rfl rfl,
   fun _ _ _ _ _ _ _ _ _ _ _ _ _ _ _ _ _ _ _ _ _ => mq_iinc (i := 7) rfl rfl rfl rfl,
   fun _ _ _ => mq_go rfl,
   fun _ _ _ _ _ _ _ _ _ _ _ _ => mq_ll (i := 5) rfl rfl,
   fun _ _ _ _ => mq_l2i rfl,
   fun _ _ _ => mq_ri rfl⟩
theorem hX11_odds_52 (d n : Nat) (I L : mm_I) (P : mm_P) : ∀ (ll : List (Option Int)) (st : List mm_V) z (l0 : mm_V) (l1 : mm_V) (l2 : mm_V) (l3 : mm_V) (l4 : mm_V) (l5 : mm_V) (l6 : mm_V) (l8 : mm_V) (l9 : mm_V), mm_E d 135 52 [l0, l1, l2, l3, l4, l5, l6, (.inl z), l8, l9] ll st n I L P = mm_E d 135 54 [l0, l1, l2, l3, l4, l5, l6, (.inl z), l8, l9] ll ((.inl z) :: st) n I L P := fun _ _ _ _ _ _ _ _ _ _ _ _ => mq_il (i := 7) rfl rfl
theorem eX11_odds (d n : Nat) (I L : mm_I) (P : mm_P) (x0 : Option Nat) (x1 : Int) (x2 : Int) (x3 : Int) (x4 : Int) : mm_rn (d + 1) 135 [.inr (.inr x0), .inl x1, .inl x2, .inl x3, .inl x4] n I L P = mm_E d 135 0 [.inr (.inr x0), .inl x1, .inl x2, .inl x3, .inl x4, mm_junk, mm_junk, mm_junk, mm_junk, mm_junk] [none, none, none, none, none, none, none, none, none, none] [] n I L P := rfl

set_option maxRecDepth 20000 in
set_option maxHeartbeats 8000000 in
theorem kX11_partOf (d n : Nat) (I L : mm_I) (P : mm_P) :
  (∀ (ll : List (Option Int)) (lv : List mm_V) (st : List mm_V), mm_E d 136 0 lv ll st n I L P = mm_E d 136 3 lv ll (.inr (.inl 1000000000) :: st) n I L P) ∧
  (∀ (st : List mm_V) z (l0 : mm_V) (l1 : mm_V) (l2 : mm_V) (l3 : mm_V) (l4 : mm_V) (l5 : mm_V) (l6 : mm_V) (l7 : mm_V) (g0 : Option Int) (g1 : Option Int) (g2 : Option Int) (g3 : Option Int) (g4 : Option Int) (g5 : Option Int) (g6 : Option Int) (g7 : Option Int), mm_E d 136 3 [l0, l1, l2, l3, l4, l5, l6, l7] [g0, g1, g2, g3, g4, g5, g6, g7] (.inr (.inl z) :: st) n I L P = mm_E d 136 4 [l0, l1, l2, mm_junk, mm_junk, l5, l6, l7] [g0, g1, none, (some z), none, g5, g6, g7] st n I L P) ∧
  (∀ (ll : List (Option Int)) (lv : List mm_V) (st : List mm_V), mm_E d 136 4 lv ll st n I L P = mm_E d 136 5 lv ll (.inl 0 :: st) n I L P) ∧
  (∀ (st : List mm_V) z (l0 : mm_V) (l1 : mm_V) (l2 : mm_V) (l3 : mm_V) (l4 : mm_V) (l5 : mm_V) (l6 : mm_V) (l7 : mm_V) (g0 : Option Int) (g1 : Option Int) (g2 : Option Int) (g3 : Option Int) (g4 : Option Int) (g5 : Option Int) (g6 : Option Int) (g7 : Option Int), mm_E d 136 5 [l0, l1, l2, l3, l4, l5, l6, l7] [g0, g1, g2, g3, g4, g5, g6, g7] ((.inl z) :: st) n I L P = mm_E d 136 7 [l0, l1, l2, l3, l4, (.inl z), l6, l7] [g0, g1, g2, g3, none, none, g6, g7] st n I L P) ∧
  (∀ (ll : List (Option Int)) (st : List mm_V) z (l0 : mm_V) (l2 : mm_V) (l3 : mm_V) (l4 : mm_V) (l5 : mm_V) (l6 : mm_V) (l7 : mm_V), mm_E d 136 9 [l0, (.inl z), l2, l3, l4, l5, l6, l7] ll st n I L P = mm_E d 136 10 [l0, (.inl z), l2, l3, l4, l5, l6, l7] ll ((.inl z) :: st) n I L P) ∧
  (∀ (lv : List mm_V) (ll : List (Option Int)) (st : List mm_V) a b, mm_E d 136 10 lv ll (.inl b :: .inl a :: st) n I L P = if b ≤ a then mm_E d 136 49 lv ll st n I L P else mm_E d 136 13 lv ll st n I L P) ∧
  (∀ (lv : List mm_V) (st : List mm_V) z (g0 : Option Int) (g1 : Option Int) (g2 : Option Int) (g4 : Option Int) (g5 : Option Int) (g6 : Option Int) (g7 : Option Int), mm_E d 136 13 lv [g0, g1, g2, (some z), g4, g5, g6, g7] st n I L P = mm_E d 136 14 lv [g0, g1, g2, (some z), g4, g5, g6, g7] (.inr (.inl z) :: st) n I L P) ∧
  (∀ (ll : List (Option Int)) (st : List mm_V) z (l0 : mm_V) (l1 : mm_V) (l3 : mm_V) (l4 : mm_V) (l5 : mm_V) (l6 : mm_V) (l7 : mm_V), mm_E d 136 14 [l0, l1, (.inl z), l3, l4, l5, l6, l7] ll st n I L P = mm_E d 136 15 [l0, l1, (.inl z), l3, l4, l5, l6, l7] ll ((.inl z) :: st) n I L P) ∧
  (∀ (lv : List mm_V) (ll : List (Option Int)) (st : List mm_V) a, mm_E d 136 15 lv ll (.inl a :: st) n I L P = mm_E d 136 16 lv ll (.inr (.inl a) :: st) n I L P) ∧
  (∀ (lv : List mm_V) (ll : List (Option Int)) (st : List mm_V) a b, mm_E d 136 16 lv ll (.inr (.inl b) :: .inr (.inl a) :: st) n I L P = mm_E d 136 17 lv ll (.inr (.inl (mm_lmull a b)) :: st) n I L P) ∧
  (∀ (ll : List (Option Int)) (lv : List mm_V) (st : List mm_V), mm_E d 136 17 lv ll st n I L P = mm_E d 136 20 lv ll (.inr (.inl 100) :: st) n I L P) ∧
  (∀ (lv : List mm_V) (ll : List (Option Int)) (st : List mm_V) a b, (¬ b = 0) → mm_E d 136 20 lv ll (.inr (.inl b) :: .inr (.inl a) :: st) n I L P = mm_E d 136 21 lv ll (.inr (.inl (mm_wl (Int.tdiv a b))) :: st) n I L P) ∧
  (∀ (st : List mm_V) z (l0 : mm_V) (l1 : mm_V) (l2 : mm_V) (l3 : mm_V) (l4 : mm_V) (l5 : mm_V) (l6 : mm_V) (l7 : mm_V) (g0 : Option Int) (g1 : Option Int) (g2 : Option Int) (g3 : Option Int) (g4 : Option Int) (g5 : Option Int) (g6 : Option Int) (g7 : Option Int), mm_E d 136 21 [l0, l1, l2, l3, l4, l5, l6, l7] [g0, g1, g2, g3, g4, g5, g6, g7] (.inr (.inl z) :: st) n I L P = mm_E d 136 23 [l0, l1, l2, l3, l4, l5, mm_junk, mm_junk] [g0, g1, g2, g3, g4, none, (some z), none] st n I L P) ∧
  (∀ (ll : List (Option Int)) (st : List mm_V) z (l1 : mm_V) (l2 : mm_V) (l3 : mm_V) (l4 : mm_V) (l5 : mm_V) (l6 : mm_V) (l7 : mm_V), mm_E d 136 23 [(.inl z), l1, l2, l3, l4, l5, l6, l7] ll st n I L P = mm_E d 136 24 [(.inl z), l1, l2, l3, l4, l5, l6, l7] ll ((.inl z) :: st) n I L P) ∧
  (∀ (ll : List (Option Int)) (st : List mm_V) z (l0 : mm_V) (l1 : mm_V) (l2 : mm_V) (l3 : mm_V) (l4 : mm_V) (l6 : mm_V) (l7 : mm_V), mm_E d 136 24 [l0, l1, l2, l3, l4, (.inl z), l6, l7] ll st n I L P = mm_E d 136 26 [l0, l1, l2, l3, l4, (.inl z), l6, l7] ll ((.inl z) :: st) n I L P) ∧
  (∀ (lv : List mm_V) (ll : List (Option Int)) (st : List mm_V) a b, mm_E d 136 26 lv ll (.inl b :: .inl a :: st) n I L P = mm_E d 136 27 lv ll (.inl (mm_shr a b) :: st) n I L P) ∧
  (∀ (ll : List (Option Int)) (lv : List mm_V) (st : List mm_V), mm_E d 136 27 lv ll st n I L P = mm_E d 136 28 lv ll (.inl 1 :: st) n I L P) ∧
  (∀ (lv : List mm_V) (ll : List (Option Int)) (st : List mm_V) a b, mm_E d 136 28 lv ll (.inl b :: .inl a :: st) n I L P = mm_E d 136 29 lv ll (.inl (mm_and a b) :: st) n I L P) ∧
  (∀ (ll : List (Option Int)) (lv : List mm_V) (st : List mm_V), mm_E d 136 29 lv ll st n I L P = mm_E d 136 30 lv ll (.inl 1 :: st) n I L P) ∧
  (∀ (lv : List mm_V) (ll : List (Option Int)) (st : List mm_V) a b, mm_E d 136 30 lv ll (.inl b :: .inl a :: st) n I L P = if a = b then mm_E d 136 33 lv ll st n I L P else mm_E d 136 38 lv ll st n I L P) ∧
  (∀ (lv : List mm_V) (st : List mm_V) z (g0 : Option Int) (g1 : Option Int) (g2 : Option Int) (g3 : Option Int) (g4 : Option Int) (g5 : Option Int) (g7 : Option Int), mm_E d 136 33 lv [g0, g1, g2, g3, g4, g5, (some z), g7] st n I L P = mm_E d 136 35 lv [g0, g1, g2, g3, g4, g5, (some z), g7] (.inr (.inl z) :: st) n I L P) ∧
  (∀ (lv : List mm_V) (ll : List (Option Int)) (st : List mm_V), mm_E d 136 35 lv ll st n I L P = mm_E d 136 42 lv ll st n I L P) ∧
  (∀ (lv : List mm_V) (st : List mm_V) z (g0 : Option Int) (g1 : Option Int) (g2 : Option Int) (g4 : Option Int) (g5 : Option Int) (g6 : Option Int) (g7 : Option Int), mm_E d 136 38 lv [g0, g1, g2, (some z), g4, g5, g6, g7] st n I L P = mm_E d 136 39 lv [g0, g1, g2, (some z), g4, g5, g6, g7] (.inr (.inl z) :: st) n I L P) ∧
  (∀ (lv : List mm_V) (st : List mm_V) z (g0 : Option Int) (g1 : Option Int) (g2 : Option Int) (g3 : Option Int) (g4 : Option Int) (g5 : Option Int) (g7 : Option Int), mm_E d 136 39 lv [g0, g1, g2, g3, g4, g5, (some z), g7] st n I L P = mm_E d 136 41 lv [g0, g1, g2, g3, g4, g5, (some z), g7] (.inr (.inl z) :: st) n I L P) ∧
  (∀ (lv : List mm_V) (ll : List (Option Int)) (st : List mm_V) a b, mm_E d 136 41 lv ll (.inr (.inl b) :: .inr (.inl a) :: st) n I L P = mm_E d 136 42 lv ll (.inr (.inl (mm_lsubl a b)) :: st) n I L P) ∧
  (∀ (st : List mm_V) z (l0 : mm_V) (l1 : mm_V) (l2 : mm_V) (l3 : mm_V) (l4 : mm_V) (l5 : mm_V) (l6 : mm_V) (l7 : mm_V) (g0 : Option Int) (g1 : Option Int) (g2 : Option Int) (g3 : Option Int) (g4 : Option Int) (g5 : Option Int) (g6 : Option Int) (g7 : Option Int), mm_E d 136 42 [l0, l1, l2, l3, l4, l5, l6, l7] [g0, g1, g2, g3, g4, g5, g6, g7] (.inr (.inl z) :: st) n I L P = mm_E d 136 43 [l0, l1, l2, mm_junk, mm_junk, l5, l6, l7] [g0, g1, none, (some z), none, g5, g6, g7] st n I L P) ∧
  (∀ (st : List mm_V) z (l0 : mm_V) (l1 : mm_V) (l2 : mm_V) (l3 : mm_V) (l4 : mm_V) (l6 : mm_V) (l7 : mm_V) (g0 : Option Int) (g1 : Option Int) (g2 : Option Int) (g3 : Option Int) (g4 : Option Int) (g5 : Option Int) (g6 : Option Int) (g7 : Option Int), mm_E d 136 43 [l0, l1, l2, l3, l4, (.inl z), l6, l7] [g0, g1, g2, g3, g4, g5, g6, g7] st n I L P = mm_E d 136 46 [l0, l1, l2, l3, l4, (.inl (mm_add z 1)), l6, l7] [g0, g1, g2, g3, none, none, g6, g7] st n I L P) ∧
  (∀ (lv : List mm_V) (ll : List (Option Int)) (st : List mm_V), mm_E d 136 46 lv ll st n I L P = mm_E d 136 7 lv ll st n I L P) ∧
  (∀ (lv : List mm_V) (st : List mm_V) z (g0 : Option Int) (g1 : Option Int) (g2 : Option Int) (g4 : Option Int) (g5 : Option Int) (g6 : Option Int) (g7 : Option Int), mm_E d 136 49 lv [g0, g1, g2, (some z), g4, g5, g6, g7] st n I L P = mm_E d 136 50 lv [g0, g1, g2, (some z), g4, g5, g6, g7] (.inr (.inl z) :: st) n I L P) ∧
  (∀ (lv : List mm_V) (ll : List (Option Int)) z, mm_E d 136 50 lv ll [.inr (.inl z)] n I L P = some (some (.inr (.inl z)), n, I, L, P)) :=
  ⟨fun _ _ _ => mq_push rfl,
   fun _ _ _ _ _ _ _ _ _ _ _ _ _ _ _ _ _ _ => mq_ls (i := 3) rfl rfl rfl,
   fun _ _ _ => mq_push rfl,
   fun _ _ _ _ _ _ _ _ _ _ _ _ _ _ _ _ _ _ => mq_is (i := 5) rfl rfl rfl,
   fun _ _ _ _ _ _ _ _ _ _ => mq_il (i := 1) rfl rfl,
   fun _ _ _ _ _ => mq_ic_ge rfl,
   fun _ _ _ _ _ _ _ _ _ _ => mq_ll (i := 3) rfl rfl,
   fun _ _ _ _ _ _ _ _ _ _ => mq_il (i := 2) rfl rfl,
   fun _ _ _ _ => mq_i2l rfl,
   fun _ _ _ _ _ => mq_bl rfl,
   fun _ _ _ => mq_push rfl,
   fun _ _ _ _ _ h0 => mq_dl rfl h0,
   fun _ _ _ _ _ _ _ _ _ _ _ _ _ _ _ _ _ _ => mq_ls (i := 6) rfl rfl rfl,
   fun _ _ _ _ _ _ _ _ _ _ => mq_il (i := 0) rfl rfl,
   fun _ _ _ _ _ _ _ _ _ _ => mq_il (i := 5) rfl rfl,
   fun _ _ _ _ _ => mq_bi rfl,
   fun _ _ _ => mq_push rfl,
   fun _ _ _ _ _ => mq_bi rfl,
   fun _ _ _ => mq_push rfl,
   fun _ _ _ _ _ => mq_ic_ne rfl,
   fun _ _ _ _ _ _ _ _ _ _ => mq_ll (i := 6) rfl rfl,
   fun _ _ _ => mq_go rfl,
   fun _ _ _ _ _ _ _ _ _ _ => mq_ll (i := 3) rfl rfl,
   fun _ _ _ _ _ _ _ _ _ _ => mq_ll (i := 6) rfl rfl,
   fun _ _ _ _ _ => mq_bl rfl,
   fun _ _ _ _ _ _ _ _ _ _ _ _ _ _ _ _ _ _ => mq_ls (i := 3) rfl rfl rfl,
   fun _ _ _ _ _ _ _ _ _ _ _ _ _ _ _ _ _ => mq_iinc (i := 5) rfl rfl rfl rfl,
   fun _ _ _ => mq_go rfl,
   fun _ _ _ _ _ _ _ _ _ _ => mq_ll (i := 3) rfl rfl,
   fun _ _ _ => mq_rl rfl⟩
theorem hX11_partOf_7 (d n : Nat) (I L : mm_I) (P : mm_P) : ∀ (ll : List (Option Int)) (st : List mm_V) z (l0 : mm_V) (l1 : mm_V) (l2 : mm_V) (l3 : mm_V) (l4 : mm_V) (l6 : mm_V) (l7 : mm_V), mm_E d 136 7 [l0, l1, l2, l3, l4, (.inl z), l6, l7] ll st n I L P = mm_E d 136 9 [l0, l1, l2, l3, l4, (.inl z), l6, l7] ll ((.inl z) :: st) n I L P := fun _ _ _ _ _ _ _ _ _ _ => mq_il (i := 5) rfl rfl
theorem eX11_partOf (d n : Nat) (I L : mm_I) (P : mm_P) (x0 : Int) (x1 : Int) (x2 : Int) : mm_rn (d + 1) 136 [.inl x0, .inl x1, .inl x2] n I L P = mm_E d 136 0 [.inl x0, .inl x1, .inl x2, mm_junk, mm_junk, mm_junk, mm_junk, mm_junk] [none, none, none, none, none, none, none, none] [] n I L P := rfl

set_option maxRecDepth 20000 in
set_option maxHeartbeats 8000000 in
theorem kX11_shares (d n : Nat) (I L : mm_I) (P : mm_P) :
  (∀ (st : List mm_V) z (l1 : mm_V) (l2 : mm_V) (l3 : mm_V), mm_E d 137 0 [(.inr (.inr z)), l1, l2, l3] [] st n I L P = mm_E d 137 1 [(.inr (.inr z)), l1, l2, l3] [] ((.inr (.inr z)) :: st) n I L P) ∧
  (∀ (lv : List mm_V) (st : List mm_V) a, (mm_ok n a 11) → mm_E d 137 1 lv [] (.inr (.inr (some a)) :: st) n I L P = mm_E d 137 4 lv [] (.inr (.inr (P a 2)) :: st) n I L P) ∧
  (∀ (st : List mm_V) z (l0 : mm_V) (l2 : mm_V) (l3 : mm_V), mm_E d 137 4 [l0, (.inl z), l2, l3] [] st n I L P = mm_E d 137 5 [l0, (.inl z), l2, l3] [] ((.inl z) :: st) n I L P) ∧
  (∀ (lv : List mm_V) a x0, (mm_ok n a 9) → mm_E d 137 5 lv [] (.inl x0 :: .inr (.inr (some a)) :: []) n I L P = mm_kr d 137 8 lv [] [] n (mm_rn d 63 [.inr (.inr (some a)), .inl x0] n I L P)) ∧
  (∀ (lv : List mm_V) (st : List mm_V) a, mm_E d 137 8 lv [] (.inl a :: st) n I L P = if a = 0 then mm_E d 137 22 lv [] st n I L P else mm_E d 137 11 lv [] st n I L P) ∧
  (∀ (st : List mm_V) z (l0 : mm_V) (l1 : mm_V) (l3 : mm_V), mm_E d 137 11 [l0, l1, (.inl z), l3] [] st n I L P = mm_E d 137 12 [l0, l1, (.inl z), l3] [] ((.inl z) :: st) n I L P) ∧
  (∀ (lv : List mm_V) (st : List mm_V) a, mm_E d 137 12 lv [] (.inl a :: st) n I L P = if a < 0 then mm_E d 137 22 lv [] st n I L P else mm_E d 137 15 lv [] st n I L P) ∧
  (∀ (st : List mm_V) z (l0 : mm_V) (l1 : mm_V) (l3 : mm_V), mm_E d 137 15 [l0, l1, (.inl z), l3] [] st n I L P = mm_E d 137 16 [l0, l1, (.inl z), l3] [] ((.inl z) :: st) n I L P) ∧
  (∀ (lv : List mm_V) (st : List mm_V), mm_E d 137 16 lv [] st n I L P = mm_E d 137 19 lv [] (.inl 999 :: st) n I L P) ∧
  (∀ (lv : List mm_V) (st : List mm_V) a b, mm_E d 137 19 lv [] (.inl b :: .inl a :: st) n I L P = if a ≤ b then mm_E d 137 24 lv [] st n I L P else mm_E d 137 22 lv [] st n I L P) ∧
  (∀ (lv : List mm_V) (st : List mm_V), mm_E d 137 22 lv [] st n I L P = mm_E d 137 23 lv [] (.inl (-1) :: st) n I L P) ∧
  (∀ (lv : List mm_V) z, mm_E d 137 23 lv [] [.inl z] n I L P = some (some (.inl z), n, I, L, P)) ∧
  (∀ (st : List mm_V) z (l1 : mm_V) (l2 : mm_V) (l3 : mm_V), mm_E d 137 24 [(.inr (.inr z)), l1, l2, l3] [] st n I L P = mm_E d 137 25 [(.inr (.inr z)), l1, l2, l3] [] ((.inr (.inr z)) :: st) n I L P) ∧
  (∀ (lv : List mm_V) (st : List mm_V) a, (mm_ok n a 11) → mm_E d 137 25 lv [] (.inr (.inr (some a)) :: st) n I L P = mm_E d 137 28 lv [] (.inr (.inr (P a 8)) :: st) n I L P) ∧
  (∀ (lv : List mm_V) a, (mm_ok n a 5) → mm_E d 137 28 lv [] (.inr (.inr (some a)) :: []) n I L P = mm_kr d 137 31 lv [] [] n (mm_rn d 44 [.inr (.inr (some a))] n I L P)) ∧
  (∀ (st : List mm_V) z (l0 : mm_V) (l1 : mm_V) (l2 : mm_V) (l3 : mm_V), mm_E d 137 31 [l0, l1, l2, l3] [] ((.inl z) :: st) n I L P = mm_E d 137 32 [l0, l1, l2, (.inl z)] [] st n I L P) ∧
  (∀ (st : List mm_V) z (l0 : mm_V) (l1 : mm_V) (l2 : mm_V), mm_E d 137 32 [l0, l1, l2, (.inl z)] [] st n I L P = mm_E d 137 33 [l0, l1, l2, (.inl z)] [] ((.inl z) :: st) n I L P) ∧
  (∀ (lv : List mm_V) (st : List mm_V) a, mm_E d 137 33 lv [] (.inl a :: st) n I L P = if a ≤ 0 then mm_E d 137 52 lv [] st n I L P else mm_E d 137 36 lv [] st n I L P) ∧
  (∀ (st : List mm_V) z (l0 : mm_V) (l1 : mm_V) (l3 : mm_V), mm_E d 137 36 [l0, l1, (.inl z), l3] [] st n I L P = mm_E d 137 37 [l0, l1, (.inl z), l3] [] ((.inl z) :: st) n I L P) ∧
  (∀ (st : List mm_V) z (l1 : mm_V) (l2 : mm_V) (l3 : mm_V), mm_E d 137 37 [(.inr (.inr z)), l1, l2, l3] [] st n I L P = mm_E d 137 38 [(.inr (.inr z)), l1, l2, l3] [] ((.inr (.inr z)) :: st) n I L P) ∧
  (∀ (lv : List mm_V) (st : List mm_V) a, (mm_ok n a 11) → mm_E d 137 38 lv [] (.inr (.inr (some a)) :: st) n I L P = mm_E d 137 41 lv [] (.inr (.inr (P a 8)) :: st) n I L P) ∧
  (∀ (lv : List mm_V) (st : List mm_V) a, (mm_ok n a 5) → mm_E d 137 41 lv [] (.inr (.inr (some a)) :: st) n I L P = mm_E d 137 44 lv [] (.inr (.inr (P a 0)) :: st) n I L P) ∧
  (∀ (st : List mm_V) z (l0 : mm_V) (l2 : mm_V) (l3 : mm_V), mm_E d 137 44 [l0, (.inl z), l2, l3] [] st n I L P = mm_E d 137 45 [l0, (.inl z), l2, l3] [] ((.inl z) :: st) n I L P) ∧
  (∀ (lv : List mm_V) (st : List mm_V) a i, (mm_ix n a 20 i) → mm_E d 137 45 lv [] (.inl i :: .inr (.inr (some a)) :: st) n I L P = mm_E d 137 46 lv [] (.inl (I a i.toNat) :: st) n I L P) ∧
  (∀ (lv : List mm_V) (st : List mm_V) a b, mm_E d 137 46 lv [] (.inl b :: .inl a :: st) n I L P = mm_E d 137 47 lv [] (.inl (mm_mul a b) :: st) n I L P) ∧
  (∀ (st : List mm_V) z (l0 : mm_V) (l1 : mm_V) (l2 : mm_V), mm_E d 137 47 [l0, l1, l2, (.inl z)] [] st n I L P = mm_E d 137 48 [l0, l1, l2, (.inl z)] [] ((.inl z) :: st) n I L P) ∧
  (∀ (lv : List mm_V) (st : List mm_V) a b, (¬ b = 0) → mm_E d 137 48 lv [] (.inl b :: .inl a :: st) n I L P = mm_E d 137 49 lv [] (.inl (mm_w (Int.tdiv a b)) :: st) n I L P) ∧
  (∀ (lv : List mm_V) (st : List mm_V), mm_E d 137 49 lv [] st n I L P = mm_E d 137 53 lv [] st n I L P) ∧
  (∀ (lv : List mm_V) (st : List mm_V), mm_E d 137 52 lv [] st n I L P = mm_E d 137 53 lv [] (.inl 0 :: st) n I L P) ∧
  (∀ (lv : List mm_V) z, mm_E d 137 53 lv [] [.inl z] n I L P = some (some (.inl z), n, I, L, P)) :=
  ⟨fun _ _ _ _ _ => mq_al (i := 0) rfl rfl,
   fun _ _ _ h0 => mq_getR rfl h0,
   fun _ _ _ _ _ => mq_il (i := 1) rfl rfl,
   fun _ _ _ h0 => mq_cVr (na := 1) rfl rfl (Nat.le_of_ble_eq_true rfl) (Nat.le_of_ble_eq_true rfl) h0,
   fun _ _ _ => mq_if_eq rfl,
   fun _ _ _ _ _ => mq_il (i := 2) rfl rfl,
   fun _ _ _ => mq_if_lt rfl,
   fun _ _ _ _ _ => mq_il (i := 2) rfl rfl,
   fun _ _ => mq_push rfl,
   fun _ _ _ _ => mq_ic_le rfl,
   fun _ _ => mq_push rfl,
   fun _ _ => mq_ri rfl,
   fun _ _ _ _ _ => mq_al (i := 0) rfl rfl,
   fun _ _ _ h0 => mq_getR rfl h0,
   fun _ _ h0 => mq_cVr (na := 0) rfl rfl (Nat.le_of_ble_eq_true rfl) (Nat.le_of_ble_eq_true rfl) h0,
   fun _ _ _ _ _ _ => mq_is (i := 3) rfl rfl rfl,
   fun _ _ _ _ _ => mq_il (i := 3) rfl rfl,
   fun _ _ _ => mq_if_le rfl,
   fun _ _ _ _ _ => mq_il (i := 2) rfl rfl,
   fun _ _ _ _ _ => mq_al (i := 0) rfl rfl,
   fun _ _ _ h0 => mq_getR rfl h0,
   fun _ _ _ h0 => mq_getR rfl h0,
   fun _ _ _ _ _ => mq_il (i := 1) rfl rfl,
   fun _ _ _ _ h0 => mq_iald rfl h0,
   fun _ _ _ _ => mq_bi rfl,
   fun _ _ _ _ _ => mq_il (i := 3) rfl rfl,
   fun _ _ _ _ h0 => mq_di rfl h0,
   fun _ _ => mq_go rfl,
   fun _ _ => mq_push rfl,
   fun _ _ => mq_ri rfl⟩
theorem eX11_shares (d n : Nat) (I L : mm_I) (P : mm_P) (x0 : Option Nat) (x1 : Int) (x2 : Int) : mm_rn (d + 1) 137 [.inr (.inr x0), .inl x1, .inl x2] n I L P = mm_E d 137 0 [.inr (.inr x0), .inl x1, .inl x2, mm_junk] [] [] n I L P := rfl

set_option maxRecDepth 20000 in
set_option maxHeartbeats 8000000 in
theorem kX11_most (d n : Nat) (I L : mm_I) (P : mm_P) :
  (∀ (st : List mm_V) z (l1 : mm_V), mm_E d 138 0 [(.inr (.inr z)), l1] [] st n I L P = mm_E d 138 1 [(.inr (.inr z)), l1] [] ((.inr (.inr z)) :: st) n I L P) ∧
  (∀ (lv : List mm_V) a, (mm_ok n a 11) → mm_E d 138 1 lv [] (.inr (.inr (some a)) :: []) n I L P = mm_kr d 138 4 lv [] [] n (mm_rn d 92 [.inr (.inr (some a))] n I L P)) ∧
  (∀ (lv : List mm_V) (st : List mm_V) a, mm_E d 138 4 lv [] (.inl a :: st) n I L P = if a = 0 then mm_E d 138 9 lv [] st n I L P else mm_E d 138 7 lv [] st n I L P) ∧
  (∀ (lv : List mm_V) (st : List mm_V), mm_E d 138 7 lv [] st n I L P = mm_E d 138 8 lv [] (.inl (-1) :: st) n I L P) ∧
  (∀ (lv : List mm_V) z, mm_E d 138 8 lv [] [.inl z] n I L P = some (some (.inl z), n, I, L, P)) ∧
  (∀ (st : List mm_V) z (l0 : mm_V), mm_E d 138 9 [l0, (.inl z)] [] st n I L P = mm_E d 138 10 [l0, (.inl z)] [] ((.inl z) :: st) n I L P) ∧
  (∀ (lv : List mm_V) (st : List mm_V) a, mm_E d 138 10 lv [] (.inl a :: st) n I L P = if a = 0 then mm_E d 138 76 lv [] st n I L P else if a = 1 then mm_E d 138 82 lv [] st n I L P else if a = 2 then mm_E d 138 88 lv [] st n I L P else if a = 3 then mm_E d 138 94 lv [] st n I L P else if a = 4 then mm_E d 138 100 lv [] st n I L P else if a = 5 then mm_E d 138 108 lv [] st n I L P else if a = 6 then mm_E d 138 123 lv [] st n I L P else if a = 7 then mm_E d 138 132 lv [] st n I L P else if a = 8 then mm_E d 138 141 lv [] st n I L P else if a = 9 then mm_E d 138 150 lv [] st n I L P else if a = 10 then mm_E d 138 155 lv [] st n I L P else if a = 11 then mm_E d 138 176 lv [] st n I L P else if a = 12 then mm_E d 138 184 lv [] st n I L P else mm_E d 138 192 lv [] st n I L P) ∧
  (∀ (st : List mm_V) z (l1 : mm_V), mm_E d 138 76 [(.inr (.inr z)), l1] [] st n I L P = mm_E d 138 77 [(.inr (.inr z)), l1] [] ((.inr (.inr z)) :: st) n I L P) ∧
  (∀ (lv : List mm_V) (st : List mm_V), mm_E d 138 77 lv [] st n I L P = mm_E d 138 78 lv [] (.inl 0 :: st) n I L P) ∧
  (∀ (lv : List mm_V) a x0, (mm_ok n a 11) → mm_E d 138 78 lv [] (.inl x0 :: .inr (.inr (some a)) :: []) n I L P = mm_kr d 138 81 lv [] [] n (mm_rn d 139 [.inr (.inr (some a)), .inl x0] n I L P)) ∧
  (∀ (lv : List mm_V) z, mm_E d 138 81 lv [] [.inl z] n I L P = some (some (.inl z), n, I, L, P)) ∧
  (∀ (st : List mm_V) z (l1 : mm_V), mm_E d 138 82 [(.inr (.inr z)), l1] [] st n I L P = mm_E d 138 83 [(.inr (.inr z)), l1] [] ((.inr (.inr z)) :: st) n I L P) ∧
  (∀ (lv : List mm_V) (st : List mm_V), mm_E d 138 83 lv [] st n I L P = mm_E d 138 84 lv [] (.inl 1 :: st) n I L P) ∧
  (∀ (lv : List mm_V) a x0, (mm_ok n a 11) → mm_E d 138 84 lv [] (.inl x0 :: .inr (.inr (some a)) :: []) n I L P = mm_kr d 138 87 lv [] [] n (mm_rn d 139 [.inr (.inr (some a)), .inl x0] n I L P)) ∧
  (∀ (lv : List mm_V) z, mm_E d 138 87 lv [] [.inl z] n I L P = some (some (.inl z), n, I, L, P)) ∧
  (∀ (st : List mm_V) z (l1 : mm_V), mm_E d 138 88 [(.inr (.inr z)), l1] [] st n I L P = mm_E d 138 89 [(.inr (.inr z)), l1] [] ((.inr (.inr z)) :: st) n I L P) ∧
  (∀ (lv : List mm_V) (st : List mm_V), mm_E d 138 89 lv [] st n I L P = mm_E d 138 90 lv [] (.inl 2 :: st) n I L P) ∧
  (∀ (lv : List mm_V) a x0, (mm_ok n a 11) → mm_E d 138 90 lv [] (.inl x0 :: .inr (.inr (some a)) :: []) n I L P = mm_kr d 138 93 lv [] [] n (mm_rn d 139 [.inr (.inr (some a)), .inl x0] n I L P)) ∧
  (∀ (lv : List mm_V) z, mm_E d 138 93 lv [] [.inl z] n I L P = some (some (.inl z), n, I, L, P)) ∧
  (∀ (st : List mm_V) z (l1 : mm_V), mm_E d 138 94 [(.inr (.inr z)), l1] [] st n I L P = mm_E d 138 95 [(.inr (.inr z)), l1] [] ((.inr (.inr z)) :: st) n I L P) ∧
  (∀ (lv : List mm_V) (st : List mm_V), mm_E d 138 95 lv [] st n I L P = mm_E d 138 96 lv [] (.inl 3 :: st) n I L P) ∧
  (∀ (lv : List mm_V) a x0, (mm_ok n a 11) → mm_E d 138 96 lv [] (.inl x0 :: .inr (.inr (some a)) :: []) n I L P = mm_kr d 138 99 lv [] [] n (mm_rn d 139 [.inr (.inr (some a)), .inl x0] n I L P)) ∧
  (∀ (lv : List mm_V) z, mm_E d 138 99 lv [] [.inl z] n I L P = some (some (.inl z), n, I, L, P)) ∧
  (∀ (st : List mm_V) z (l1 : mm_V), mm_E d 138 100 [(.inr (.inr z)), l1] [] st n I L P = mm_E d 138 101 [(.inr (.inr z)), l1] [] ((.inr (.inr z)) :: st) n I L P) ∧
  (∀ (lv : List mm_V) (st : List mm_V) a, (mm_ok n a 11) → mm_E d 138 101 lv [] (.inr (.inr (some a)) :: st) n I L P = mm_E d 138 104 lv [] (.inr (.inr (P a 8)) :: st) n I L P) ∧
  (∀ (lv : List mm_V) a, (mm_ok n a 5) → mm_E d 138 104 lv [] (.inr (.inr (some a)) :: []) n I L P = mm_kr d 138 107 lv [] [] n (mm_rn d 42 [.inr (.inr (some a))] n I L P)) ∧
  (∀ (lv : List mm_V) z, mm_E d 138 107 lv [] [.inl z] n I L P = some (some (.inl z), n, I, L, P)) ∧
  (∀ (st : List mm_V) z (l1 : mm_V), mm_E d 138 108 [(.inr (.inr z)), l1] [] st n I L P = mm_E d 138 109 [(.inr (.inr z)), l1] [] ((.inr (.inr z)) :: st) n I L P) ∧
  (∀ (lv : List mm_V) (st : List mm_V) a, (mm_ok n a 11) → mm_E d 138 109 lv [] (.inr (.inr (some a)) :: st) n I L P = mm_E d 138 112 lv [] (.inr (.inr (P a 2)) :: st) n I L P) ∧
  (∀ (st : List mm_V) z (l1 : mm_V), mm_E d 138 112 [(.inr (.inr z)), l1] [] st n I L P = mm_E d 138 113 [(.inr (.inr z)), l1] [] ((.inr (.inr z)) :: st) n I L P) ∧
  (∀ (lv : List mm_V) (st : List mm_V) a, (mm_ok n a 11) → mm_E d 138 113 lv [] (.inr (.inr (some a)) :: st) n I L P = mm_E d 138 116 lv [] (.inr (.inr (P a 8)) :: st) n I L P) ∧
  (∀ (lv : List mm_V) (st : List mm_V) a, (mm_ok n a 5) → mm_E d 138 116 lv [] (.inr (.inr (some a)) :: st) n I L P = mm_E d 138 119 lv [] (.inl (I a 3) :: st) n I L P) ∧
  (∀ (lv : List mm_V) a x0, (mm_ok n a 9) → mm_E d 138 119 lv [] (.inl x0 :: .inr (.inr (some a)) :: []) n I L P = mm_kr d 138 122 lv [] [] n (mm_rn d 288 [.inr (.inr (some a)), .inl x0] n I L P)) ∧
  (∀ (lv : List mm_V) z, mm_E d 138 122 lv [] [.inl z] n I L P = some (some (.inl z), n, I, L, P)) ∧
  (∀ (st : List mm_V) z (l1 : mm_V), mm_E d 138 123 [(.inr (.inr z)), l1] [] st n I L P = mm_E d 138 124 [(.inr (.inr z)), l1] [] ((.inr (.inr z)) :: st) n I L P) ∧
  (∀ (lv : List mm_V) (st : List mm_V) a, (mm_ok n a 11) → mm_E d 138 124 lv [] (.inr (.inr (some a)) :: st) n I L P = mm_E d 138 127 lv [] (.inr (.inr (P a 8)) :: st) n I L P) ∧
  (∀ (lv : List mm_V) (st : List mm_V), mm_E d 138 127 lv [] st n I L P = mm_E d 138 128 lv [] (.inl 0 :: st) n I L P) ∧
  (∀ (lv : List mm_V) a x0, (mm_ok n a 5) → mm_E d 138 128 lv [] (.inl x0 :: .inr (.inr (some a)) :: []) n I L P = mm_kr d 138 131 lv [] [] n (mm_rn d 43 [.inr (.inr (some a)), .inl x0] n I L P)) ∧
  (∀ (lv : List mm_V) z, mm_E d 138 131 lv [] [.inl z] n I L P = some (some (.inl z), n, I, L, P)) ∧
  (∀ (st : List mm_V) z (l1 : mm_V), mm_E d 138 132 [(.inr (.inr z)), l1] [] st n I L P = mm_E d 138 133 [(.inr (.inr z)), l1] [] ((.inr (.inr z)) :: st) n I L P) ∧
  (∀ (lv : List mm_V) (st : List mm_V) a, (mm_ok n a 11) → mm_E d 138 133 lv [] (.inr (.inr (some a)) :: st) n I L P = mm_E d 138 136 lv [] (.inr (.inr (P a 8)) :: st) n I L P) ∧
  (∀ (lv : List mm_V) (st : List mm_V), mm_E d 138 136 lv [] st n I L P = mm_E d 138 137 lv [] (.inl 1 :: st) n I L P) ∧
  (∀ (lv : List mm_V) a x0, (mm_ok n a 5) → mm_E d 138 137 lv [] (.inl x0 :: .inr (.inr (some a)) :: []) n I L P = mm_kr d 138 140 lv [] [] n (mm_rn d 43 [.inr (.inr (some a)), .inl x0] n I L P)) ∧
  (∀ (lv : List mm_V) z, mm_E d 138 140 lv [] [.inl z] n I L P = some (some (.inl z), n, I, L, P)) ∧
  (∀ (st : List mm_V) z (l1 : mm_V), mm_E d 138 141 [(.inr (.inr z)), l1] [] st n I L P = mm_E d 138 142 [(.inr (.inr z)), l1] [] ((.inr (.inr z)) :: st) n I L P) ∧
  (∀ (lv : List mm_V) (st : List mm_V) a, (mm_ok n a 11) → mm_E d 138 142 lv [] (.inr (.inr (some a)) :: st) n I L P = mm_E d 138 145 lv [] (.inr (.inr (P a 8)) :: st) n I L P) ∧
  (∀ (lv : List mm_V) (st : List mm_V), mm_E d 138 145 lv [] st n I L P = mm_E d 138 146 lv [] (.inl 2 :: st) n I L P) ∧
  (∀ (lv : List mm_V) a x0, (mm_ok n a 5) → mm_E d 138 146 lv [] (.inl x0 :: .inr (.inr (some a)) :: []) n I L P = mm_kr d 138 149 lv [] [] n (mm_rn d 43 [.inr (.inr (some a)), .inl x0] n I L P)) ∧
  (∀ (lv : List mm_V) z, mm_E d 138 149 lv [] [.inl z] n I L P = some (some (.inl z), n, I, L, P)) ∧
  (∀ (st : List mm_V) z (l1 : mm_V), mm_E d 138 150 [(.inr (.inr z)), l1] [] st n I L P = mm_E d 138 151 [(.inr (.inr z)), l1] [] ((.inr (.inr z)) :: st) n I L P) ∧
  (∀ (lv : List mm_V) a, (mm_ok n a 11) → mm_E d 138 151 lv [] (.inr (.inr (some a)) :: []) n I L P = mm_kr d 138 154 lv [] [] n (mm_rn d 141 [.inr (.inr (some a))] n I L P)) ∧
  (∀ (lv : List mm_V) z, mm_E d 138 154 lv [] [.inl z] n I L P = some (some (.inl z), n, I, L, P)) ∧
  (∀ (st : List mm_V) z (l1 : mm_V), mm_E d 138 155 [(.inr (.inr z)), l1] [] st n I L P = mm_E d 138 156 [(.inr (.inr z)), l1] [] ((.inr (.inr z)) :: st) n I L P) ∧
  (∀ (lv : List mm_V) (st : List mm_V) a, (mm_ok n a 11) → mm_E d 138 156 lv [] (.inr (.inr (some a)) :: st) n I L P = mm_E d 138 159 lv [] (.inr (.inr (P a 8)) :: st) n I L P) ∧
  (∀ (lv : List mm_V) a, (mm_ok n a 5) → mm_E d 138 159 lv [] (.inr (.inr (some a)) :: []) n I L P = mm_kr d 138 162 lv [] [] n (mm_rn d 42 [.inr (.inr (some a))] n I L P)) ∧
  (∀ (lv : List mm_V) (st : List mm_V) a, mm_E d 138 162 lv [] (.inl a :: st) n I L P = if a = 0 then mm_E d 138 165 lv [] st n I L P else mm_E d 138 169 lv [] st n I L P) ∧
  (∀ (lv : List mm_V) (st : List mm_V), mm_E d 138 165 lv [] st n I L P = mm_E d 138 166 lv [] (.inl (-1) :: st) n I L P) ∧
  (∀ (lv : List mm_V) (st : List mm_V), mm_E d 138 166 lv [] st n I L P = mm_E d 138 175 lv [] st n I L P) ∧
  (∀ (st : List mm_V) z (l1 : mm_V), mm_E d 138 169 [(.inr (.inr z)), l1] [] st n I L P = mm_E d 138 170 [(.inr (.inr z)), l1] [] ((.inr (.inr z)) :: st) n I L P) ∧
  (∀ (lv : List mm_V) (st : List mm_V), mm_E d 138 170 lv [] st n I L P = mm_E d 138 172 lv [] (.inl 10 :: st) n I L P) ∧
  (∀ (lv : List mm_V) a x0, (mm_ok n a 11) → mm_E d 138 172 lv [] (.inl x0 :: .inr (.inr (some a)) :: []) n I L P = mm_kr d 138 175 lv [] [] n (mm_rn d 139 [.inr (.inr (some a)), .inl x0] n I L P)) ∧
  (∀ (lv : List mm_V) z, mm_E d 138 175 lv [] [.inl z] n I L P = some (some (.inl z), n, I, L, P)) ∧
  (∀ (st : List mm_V) z (l1 : mm_V), mm_E d 138 176 [(.inr (.inr z)), l1] [] st n I L P = mm_E d 138 177 [(.inr (.inr z)), l1] [] ((.inr (.inr z)) :: st) n I L P) ∧
  (∀ (lv : List mm_V) (st : List mm_V) a, (mm_ok n a 11) → mm_E d 138 177 lv [] (.inr (.inr (some a)) :: st) n I L P = mm_E d 138 180 lv [] (.inr (.inr (P a 8)) :: st) n I L P) ∧
  (∀ (lv : List mm_V) a, (mm_ok n a 5) → mm_E d 138 180 lv [] (.inr (.inr (some a)) :: []) n I L P = mm_kr d 138 183 lv [] [] n (mm_rn d 44 [.inr (.inr (some a))] n I L P)) ∧
  (∀ (lv : List mm_V) z, mm_E d 138 183 lv [] [.inl z] n I L P = some (some (.inl z), n, I, L, P)) ∧
  (∀ (st : List mm_V) z (l1 : mm_V), mm_E d 138 184 [(.inr (.inr z)), l1] [] st n I L P = mm_E d 138 185 [(.inr (.inr z)), l1] [] ((.inr (.inr z)) :: st) n I L P) ∧
  (∀ (lv : List mm_V) (st : List mm_V) a, (mm_ok n a 11) → mm_E d 138 185 lv [] (.inr (.inr (some a)) :: st) n I L P = mm_E d 138 188 lv [] (.inr (.inr (P a 2)) :: st) n I L P) ∧
  (∀ (lv : List mm_V) a, (mm_ok n a 9) → mm_E d 138 188 lv [] (.inr (.inr (some a)) :: []) n I L P = mm_kr d 138 191 lv [] [] n (mm_rn d 70 [.inr (.inr (some a))] n I L P)) ∧
  (∀ (lv : List mm_V) z, mm_E d 138 191 lv [] [.inl z] n I L P = some (some (.inl z), n, I, L, P)) ∧
  (∀ (lv : List mm_V) (st : List mm_V), mm_E d 138 192 lv [] st n I L P = mm_E d 138 193 lv [] (.inl (-1) :: st) n I L P) ∧
  (∀ (lv : List mm_V) z, mm_E d 138 193 lv [] [.inl z] n I L P = some (some (.inl z), n, I, L, P)) :=
  ⟨fun _ _ _ => mq_al (i := 0) rfl rfl,
   fun _ _ h0 => mq_cVr (na := 0) rfl rfl (Nat.le_of_ble_eq_true rfl) (Nat.le_of_ble_eq_true rfl) h0,
   fun _ _ _ => mq_if_eq rfl,
   fun _ _ => mq_push rfl,
   fun _ _ => mq_ri rfl,
   fun _ _ _ => mq_il (i := 1) rfl rfl,
   fun _ _ _ => mq_sw (l := [(0, 76), (1, 82), (2, 88), (3, 94), (4, 100), (5, 108), (6, 123), (7, 132), (8, 141), (9, 150), (10, 155), (11, 176), (12, 184)]) (df := 192) rfl,
   fun _ _ _ => mq_al (i := 0) rfl rfl,
   fun _ _ => mq_push rfl,
   fun _ _ _ h0 => mq_cVr (na := 1) rfl rfl (Nat.le_of_ble_eq_true rfl) (Nat.le_of_ble_eq_true rfl) h0,
   fun _ _ => mq_ri rfl,
   fun _ _ _ => mq_al (i := 0) rfl rfl,
   fun _ _ => mq_push rfl,
   fun _ _ _ h0 => mq_cVr (na := 1) rfl rfl (Nat.le_of_ble_eq_true rfl) (Nat.le_of_ble_eq_true rfl) h0,
   fun _ _ => mq_ri rfl,
   fun _ _ _ => mq_al (i := 0) rfl rfl,
   fun _ _ => mq_push rfl,
   fun _ _ _ h0 => mq_cVr (na := 1) rfl rfl (Nat.le_of_ble_eq_true rfl) (Nat.le_of_ble_eq_true rfl) h0,
   fun _ _ => mq_ri rfl,
   fun _ _ _ => mq_al (i := 0) rfl rfl,
   fun _ _ => mq_push rfl,
   fun _ _ _ h0 => mq_cVr (na := 1) rfl rfl (Nat.le_of_ble_eq_true rfl) (Nat.le_of_ble_eq_true rfl) h0,
   fun _ _ => mq_ri rfl,
   fun _ _ _ => mq_al (i := 0) rfl rfl,
   fun _ _ _ h0 => mq_getR rfl h0,
   fun _ _ h0 => mq_cVr (na := 0) rfl rfl (Nat.le_of_ble_eq_true rfl) (Nat.le_of_ble_eq_true rfl) h0,
   fun _ _ => mq_ri rfl,
   fun _ _ _ => mq_al (i := 0) rfl rfl,
   fun _ _ _ h0 => mq_getR rfl h0,
   fun _ _ _ => mq_al (i := 0) rfl rfl,
   fun _ _ _ h0 => mq_getR rfl h0,
   fun _ _ _ h0 => mq_getI rfl h0,
   fun _ _ _ h0 => mq_cVr (na := 1) rfl rfl (Nat.le_of_ble_eq_true rfl) (Nat.le_of_ble_eq_true rfl) h0,
   fun _ _ => mq_ri rfl,
   fun _ _ _ => mq_al (i := 0) rfl rfl,
   fun _ _ _ h0 => mq_getR rfl h0,
   fun _ _ => mq_push rfl,
   fun _ _ _ h0 => mq_cVr (na := 1) rfl rfl (Nat.le_of_ble_eq_true rfl) (Nat.le_of_ble_eq_true rfl) h0,
   fun _ _ => mq_ri rfl,
   fun _ _ _ => mq_al (i := 0) rfl rfl,
   fun _ _ _ h0 => mq_getR rfl h0,
   fun _ _ => mq_push rfl,
   fun _ _ _ h0 => mq_cVr (na := 1) rfl rfl (Nat.le_of_ble_eq_true rfl) (Nat.le_of_ble_eq_true rfl) h0,
   fun _ _ => mq_ri rfl,
   fun _ _ _ => mq_al (i := 0) rfl rfl,
   fun _ _ _ h0 => mq_getR rfl h0,
   fun _ _ => mq_push rfl,
   fun _ _ _ h0 => mq_cVr (na := 1) rfl rfl (Nat.le_of_ble_eq_true rfl) (Nat.le_of_ble_eq_true rfl) h0,
   fun _ _ => mq_ri rfl,
   fun _ _ _ => mq_al (i := 0) rfl rfl,
   fun _ _ h0 => mq_cVr (na := 0) rfl rfl (Nat.le_of_ble_eq_true rfl) (Nat.le_of_ble_eq_true rfl) h0,
   fun _ _ => mq_ri rfl,
   fun _ _ _ => mq_al (i := 0) rfl rfl,
   fun _ _ _ h0 => mq_getR rfl h0,
   fun _ _ h0 => mq_cVr (na := 0) rfl rfl (Nat.le_of_ble_eq_true rfl) (Nat.le_of_ble_eq_true rfl) h0,
   fun _ _ _ => mq_if_ne rfl,
   fun _ _ => mq_push rfl,
   fun _ _ => mq_go rfl,
   fun _ _ _ => mq_al (i := 0) rfl rfl,
   fun _ _ => mq_push rfl,
   fun _ _ _ h0 => mq_cVr (na := 1) rfl rfl (Nat.le_of_ble_eq_true rfl) (Nat.le_of_ble_eq_true rfl) h0,
   fun _ _ => mq_ri rfl,
   fun _ _ _ => mq_al (i := 0) rfl rfl,
   fun _ _ _ h0 => mq_getR rfl h0,
   fun _ _ h0 => mq_cVr (na := 0) rfl rfl (Nat.le_of_ble_eq_true rfl) (Nat.le_of_ble_eq_true rfl) h0,
   fun _ _ => mq_ri rfl,
   fun _ _ _ => mq_al (i := 0) rfl rfl,
   fun _ _ _ h0 => mq_getR rfl h0,
   fun _ _ h0 => mq_cVr (na := 0) rfl rfl (Nat.le_of_ble_eq_true rfl) (Nat.le_of_ble_eq_true rfl) h0,
   fun _ _ => mq_ri rfl,
   fun _ _ => mq_push rfl,
   fun _ _ => mq_ri rfl⟩
theorem eX11_most (d n : Nat) (I L : mm_I) (P : mm_P) (x0 : Option Nat) (x1 : Int) : mm_rn (d + 1) 138 [.inr (.inr x0), .inl x1] n I L P = mm_E d 138 0 [.inr (.inr x0), .inl x1] [] [] n I L P := rfl

set_option maxRecDepth 20000 in
set_option maxHeartbeats 8000000 in
theorem kX11_topPlace (d n : Nat) (I L : mm_I) (P : mm_P) :
  (∀ (lv : List mm_V) (st : List mm_V), mm_E d 139 0 lv [] st n I L P = mm_E d 139 1 lv [] (.inl 0 :: st) n I L P) ∧
  (∀ (st : List mm_V) z (l0 : mm_V) (l1 : mm_V) (l2 : mm_V) (l3 : mm_V), mm_E d 139 1 [l0, l1, l2, l3] [] ((.inl z) :: st) n I L P = mm_E d 139 2 [l0, l1, (.inl z), l3] [] st n I L P) ∧
  (∀ (lv : List mm_V) (st : List mm_V), mm_E d 139 2 lv [] st n I L P = mm_E d 139 3 lv [] (.inl 1 :: st) n I L P) ∧
  (∀ (st : List mm_V) z (l0 : mm_V) (l1 : mm_V) (l2 : mm_V) (l3 : mm_V), mm_E d 139 3 [l0, l1, l2, l3] [] ((.inl z) :: st) n I L P = mm_E d 139 4 [l0, l1, l2, (.inl z)] [] st n I L P) ∧
  (∀ (st : List mm_V) z (l1 : mm_V) (l2 : mm_V) (l3 : mm_V), mm_E d 139 5 [(.inr (.inr z)), l1, l2, l3] [] st n I L P = mm_E d 139 6 [(.inr (.inr z)), l1, l2, l3] [] ((.inr (.inr z)) :: st) n I L P) ∧
  (∀ (lv : List mm_V) (st : List mm_V) a, (mm_ok n a 11) → mm_E d 139 6 lv [] (.inr (.inr (some a)) :: st) n I L P = mm_E d 139 9 lv [] (.inr (.inr (P a 2)) :: st) n I L P) ∧
  (∀ (lv : List mm_V) (st : List mm_V) a, (mm_ok n a 9) → mm_E d 139 9 lv [] (.inr (.inr (some a)) :: st) n I L P = mm_E d 139 12 lv [] (.inl (I a 0) :: st) n I L P) ∧
  (∀ (lv : List mm_V) (st : List mm_V) a b, mm_E d 139 12 lv [] (.inl b :: .inl a :: st) n I L P = if b ≤ a then mm_E d 139 38 lv [] st n I L P else mm_E d 139 15 lv [] st n I L P) ∧
  (∀ (st : List mm_V) z (l1 : mm_V) (l2 : mm_V) (l3 : mm_V), mm_E d 139 15 [(.inr (.inr z)), l1, l2, l3] [] st n I L P = mm_E d 139 16 [(.inr (.inr z)), l1, l2, l3] [] ((.inr (.inr z)) :: st) n I L P) ∧
  (∀ (st : List mm_V) z (l0 : mm_V) (l2 : mm_V) (l3 : mm_V), mm_E d 139 16 [l0, (.inl z), l2, l3] [] st n I L P = mm_E d 139 17 [l0, (.inl z), l2, l3] [] ((.inl z) :: st) n I L P) ∧
  (∀ (st : List mm_V) z (l0 : mm_V) (l1 : mm_V) (l2 : mm_V), mm_E d 139 17 [l0, l1, l2, (.inl z)] [] st n I L P = mm_E d 139 18 [l0, l1, l2, (.inl z)] [] ((.inl z) :: st) n I L P) ∧
  (∀ (lv : List mm_V) a x0 x1, (mm_ok n a 11) → mm_E d 139 18 lv [] (.inl x1 :: .inl x0 :: .inr (.inr (some a)) :: []) n I L P = mm_kr d 139 21 lv [] [] n (mm_rn d 140 [.inr (.inr (some a)), .inl x0, .inl x1] n I L P)) ∧
  (∀ (st : List mm_V) z (l1 : mm_V) (l2 : mm_V) (l3 : mm_V), mm_E d 139 21 [(.inr (.inr z)), l1, l2, l3] [] st n I L P = mm_E d 139 22 [(.inr (.inr z)), l1, l2, l3] [] ((.inr (.inr z)) :: st) n I L P) ∧
  (∀ (st : List mm_V) z (l0 : mm_V) (l2 : mm_V) (l3 : mm_V), mm_E d 139 22 [l0, (.inl z), l2, l3] [] st n I L P = mm_E d 139 23 [l0, (.inl z), l2, l3] [] ((.inl z) :: st) n I L P) ∧
  (∀ (st : List mm_V) z (l0 : mm_V) (l1 : mm_V) (l3 : mm_V), mm_E d 139 23 [l0, l1, (.inl z), l3] [] st n I L P = mm_E d 139 24 [l0, l1, (.inl z), l3] [] ((.inl z) :: st) n I L P) ∧
  (∀ (lv : List mm_V) a x0 x1 w0, (mm_ok n a 11) → mm_E d 139 24 lv [] (.inl x1 :: .inl x0 :: .inr (.inr (some a)) :: [.inl w0]) n I L P = mm_kr d 139 27 lv [] [.inl w0] n (mm_rn d 140 [.inr (.inr (some a)), .inl x0, .inl x1] n I L P)) ∧
  (∀ (lv : List mm_V) (st : List mm_V) a b, mm_E d 139 27 lv [] (.inl b :: .inl a :: st) n I L P = if a ≤ b then mm_E d 139 32 lv [] st n I L P else mm_E d 139 30 lv [] st n I L P) ∧
  (∀ (st : List mm_V) z (l0 : mm_V) (l1 : mm_V) (l2 : mm_V), mm_E d 139 30 [l0, l1, l2, (.inl z)] [] st n I L P = mm_E d 139 31 [l0, l1, l2, (.inl z)] [] ((.inl z) :: st) n I L P) ∧
  (∀ (st : List mm_V) z (l0 : mm_V) (l1 : mm_V) (l2 : mm_V) (l3 : mm_V), mm_E d 139 31 [l0, l1, l2, l3] [] ((.inl z) :: st) n I L P = mm_E d 139 32 [l0, l1, (.inl z), l3] [] st n I L P) ∧
  (∀ (st : List mm_V) z (l0 : mm_V) (l1 : mm_V) (l2 : mm_V), mm_E d 139 32 [l0, l1, l2, (.inl z)] [] st n I L P = mm_E d 139 35 [l0, l1, l2, (.inl (mm_add z 1))] [] st n I L P) ∧
  (∀ (lv : List mm_V) (st : List mm_V), mm_E d 139 35 lv [] st n I L P = mm_E d 139 4 lv [] st n I L P) ∧
  (∀ (st : List mm_V) z (l0 : mm_V) (l1 : mm_V) (l3 : mm_V), mm_E d 139 38 [l0, l1, (.inl z), l3] [] st n I L P = mm_E d 139 39 [l0, l1, (.inl z), l3] [] ((.inl z) :: st) n I L P) ∧
  (∀ (lv : List mm_V) z, mm_E d 139 39 lv [] [.inl z] n I L P = some (some (.inl z), n, I, L, P)) :=
  ⟨fun _ _ => mq_push rfl,
   fun _ _ _ _ _ _ => mq_is (i := 2) rfl rfl rfl,
   fun _ _ => mq_push rfl,
   fun _ _ _ _ _ _ => mq_is (i := 3) rfl rfl rfl,
   fun _ _ _ _ _ => mq_al (i := 0) rfl rfl,
   fun _ _ _ h0 => mq_getR rfl h0,
   fun _ _ _ h0 => mq_getI rfl h0,
   fun _ _ _ _ => mq_ic_ge rfl,
   fun _ _ _ _ _ => mq_al (i := 0) rfl rfl,
   fun _ _ _ _ _ => mq_il (i := 1) rfl rfl,
   fun _ _ _ _ _ => mq_il (i := 3) rfl rfl,
   fun _ _ _ _ h0 => mq_cVr (na := 2) rfl rfl (Nat.le_of_ble_eq_true rfl) (Nat.le_of_ble_eq_true rfl) h0,
   fun _ _ _ _ _ => mq_al (i := 0) rfl rfl,
   fun _ _ _ _ _ => mq_il (i := 1) rfl rfl,
   fun _ _ _ _ _ => mq_il (i := 2) rfl rfl,
   fun _ _ _ _ _ h0 => mq_cVr (na := 2) rfl rfl (Nat.le_of_ble_eq_true rfl) (Nat.le_of_ble_eq_true rfl) h0,
   fun _ _ _ _ => mq_ic_le rfl,
   fun _ _ _ _ _ => mq_il (i := 3) rfl rfl,
   fun _ _ _ _ _ _ => mq_is (i := 2) rfl rfl rfl,
   fun _ _ _ _ _ => mq_iinc (i := 3) rfl rfl rfl rfl,
   fun _ _ => mq_go rfl,
   fun _ _ _ _ _ => mq_il (i := 2) rfl rfl,
   fun _ _ => mq_ri rfl⟩
theorem hX11_topPlace_4 (d n : Nat) (I L : mm_I) (P : mm_P) : ∀ (st : List mm_V) z (l0 : mm_V) (l1 : mm_V) (l2 : mm_V), mm_E d 139 4 [l0, l1, l2, (.inl z)] [] st n I L P = mm_E d 139 5 [l0, l1, l2, (.inl z)] [] ((.inl z) :: st) n I L P := fun _ _ _ _ _ => mq_il (i := 3) rfl rfl
theorem eX11_topPlace (d n : Nat) (I L : mm_I) (P : mm_P) (x0 : Option Nat) (x1 : Int) : mm_rn (d + 1) 139 [.inr (.inr x0), .inl x1] n I L P = mm_E d 139 0 [.inr (.inr x0), .inl x1, mm_junk, mm_junk] [] [] n I L P := rfl

set_option maxRecDepth 20000 in
set_option maxHeartbeats 8000000 in
theorem kX11_rankOf (d n : Nat) (I L : mm_I) (P : mm_P) :
  (∀ (st : List mm_V) z (l0 : mm_V) (l2 : mm_V), mm_E d 140 0 [l0, (.inl z), l2] [] st n I L P = mm_E d 140 1 [l0, (.inl z), l2] [] ((.inl z) :: st) n I L P) ∧
  (∀ (lv : List mm_V) (st : List mm_V) a, mm_E d 140 1 lv [] (.inl a :: st) n I L P = if a = 0 then mm_E d 140 32 lv [] st n I L P else if a = 1 then mm_E d 140 42 lv [] st n I L P else if a = 2 then mm_E d 140 52 lv [] st n I L P else if a = 3 then mm_E d 140 65 lv [] st n I L P else mm_E d 140 81 lv [] st n I L P) ∧
  (∀ (st : List mm_V) z (l1 : mm_V) (l2 : mm_V), mm_E d 140 32 [(.inr (.inr z)), l1, l2] [] st n I L P = mm_E d 140 33 [(.inr (.inr z)), l1, l2] [] ((.inr (.inr z)) :: st) n I L P) ∧
  (∀ (lv : List mm_V) (st : List mm_V) a, (mm_ok n a 11) → mm_E d 140 33 lv [] (.inr (.inr (some a)) :: st) n I L P = mm_E d 140 36 lv [] (.inr (.inr (P a 8)) :: st) n I L P) ∧
  (∀ (lv : List mm_V) (st : List mm_V) a, (mm_ok n a 5) → mm_E d 140 36 lv [] (.inr (.inr (some a)) :: st) n I L P = mm_E d 140 39 lv [] (.inr (.inr (P a 0)) :: st) n I L P) ∧
  (∀ (st : List mm_V) z (l0 : mm_V) (l1 : mm_V), mm_E d 140 39 [l0, l1, (.inl z)] [] st n I L P = mm_E d 140 40 [l0, l1, (.inl z)] [] ((.inl z) :: st) n I L P) ∧
  (∀ (lv : List mm_V) (st : List mm_V) a i, (mm_ix n a 20 i) → mm_E d 140 40 lv [] (.inl i :: .inr (.inr (some a)) :: st) n I L P = mm_E d 140 41 lv [] (.inl (I a i.toNat) :: st) n I L P) ∧
  (∀ (lv : List mm_V) z, mm_E d 140 41 lv [] [.inl z] n I L P = some (some (.inl z), n, I, L, P)) ∧
  (∀ (st : List mm_V) z (l1 : mm_V) (l2 : mm_V), mm_E d 140 42 [(.inr (.inr z)), l1, l2] [] st n I L P = mm_E d 140 43 [(.inr (.inr z)), l1, l2] [] ((.inr (.inr z)) :: st) n I L P) ∧
  (∀ (lv : List mm_V) (st : List mm_V) a, (mm_ok n a 11) → mm_E d 140 43 lv [] (.inr (.inr (some a)) :: st) n I L P = mm_E d 140 46 lv [] (.inr (.inr (P a 2)) :: st) n I L P) ∧
  (∀ (lv : List mm_V) (st : List mm_V) a, (mm_ok n a 9) → mm_E d 140 46 lv [] (.inr (.inr (some a)) :: st) n I L P = mm_E d 140 49 lv [] (.inr (.inr (P a 5)) :: st) n I L P) ∧
  (∀ (st : List mm_V) z (l0 : mm_V) (l1 : mm_V), mm_E d 140 49 [l0, l1, (.inl z)] [] st n I L P = mm_E d 140 50 [l0, l1, (.inl z)] [] ((.inl z) :: st) n I L P) ∧
  (∀ (lv : List mm_V) (st : List mm_V) a i, (mm_ix n a 20 i) → mm_E d 140 50 lv [] (.inl i :: .inr (.inr (some a)) :: st) n I L P = mm_E d 140 51 lv [] (.inl (I a i.toNat) :: st) n I L P) ∧
  (∀ (lv : List mm_V) z, mm_E d 140 51 lv [] [.inl z] n I L P = some (some (.inl z), n, I, L, P)) ∧
  (∀ (st : List mm_V) z (l1 : mm_V) (l2 : mm_V), mm_E d 140 52 [(.inr (.inr z)), l1, l2] [] st n I L P = mm_E d 140 53 [(.inr (.inr z)), l1, l2] [] ((.inr (.inr z)) :: st) n I L P) ∧
  (∀ (lv : List mm_V) (st : List mm_V) a, (mm_ok n a 11) → mm_E d 140 53 lv [] (.inr (.inr (some a)) :: st) n I L P = mm_E d 140 56 lv [] (.inr (.inr (P a 2)) :: st) n I L P) ∧
  (∀ (lv : List mm_V) (st : List mm_V) a, (mm_ok n a 9) → mm_E d 140 56 lv [] (.inr (.inr (some a)) :: st) n I L P = mm_E d 140 59 lv [] (.inr (.inr (P a 6)) :: st) n I L P) ∧
  (∀ (st : List mm_V) z (l0 : mm_V) (l1 : mm_V), mm_E d 140 59 [l0, l1, (.inl z)] [] st n I L P = mm_E d 140 60 [l0, l1, (.inl z)] [] ((.inl z) :: st) n I L P) ∧
  (∀ (lv : List mm_V) (st : List mm_V) a i, (mm_ix n a 20 i) → mm_E d 140 60 lv [] (.inl i :: .inr (.inr (some a)) :: st) n I L P = mm_E d 140 61 lv [] (.inl (I a i.toNat) :: st) n I L P) ∧
  (∀ (lv : List mm_V) x0, mm_E d 140 61 lv [] (.inl x0 :: []) n I L P = mm_kr d 140 64 lv [] [] n (mm_rn d 263 [.inl x0] n I L P)) ∧
  (∀ (lv : List mm_V) z, mm_E d 140 64 lv [] [.inl z] n I L P = some (some (.inl z), n, I, L, P)) ∧
  (∀ (st : List mm_V) z (l1 : mm_V) (l2 : mm_V), mm_E d 140 65 [(.inr (.inr z)), l1, l2] [] st n I L P = mm_E d 140 66 [(.inr (.inr z)), l1, l2] [] ((.inr (.inr z)) :: st) n I L P) ∧
  (∀ (lv : List mm_V) (st : List mm_V) a, (mm_ok n a 11) → mm_E d 140 66 lv [] (.inr (.inr (some a)) :: st) n I L P = mm_E d 140 69 lv [] (.inr (.inr (P a 2)) :: st) n I L P) ∧
  (∀ (st : List mm_V) z (l1 : mm_V) (l2 : mm_V), mm_E d 140 69 [(.inr (.inr z)), l1, l2] [] st n I L P = mm_E d 140 70 [(.inr (.inr z)), l1, l2] [] ((.inr (.inr z)) :: st) n I L P) ∧
  (∀ (lv : List mm_V) (st : List mm_V) a, (mm_ok n a 11) → mm_E d 140 70 lv [] (.inr (.inr (some a)) :: st) n I L P = mm_E d 140 73 lv [] (.inr (.inr (P a 8)) :: st) n I L P) ∧
  (∀ (lv : List mm_V) (st : List mm_V) a, (mm_ok n a 5) → mm_E d 140 73 lv [] (.inr (.inr (some a)) :: st) n I L P = mm_E d 140 76 lv [] (.inl (I a 3) :: st) n I L P) ∧
  (∀ (st : List mm_V) z (l0 : mm_V) (l1 : mm_V), mm_E d 140 76 [l0, l1, (.inl z)] [] st n I L P = mm_E d 140 77 [l0, l1, (.inl z)] [] ((.inl z) :: st) n I L P) ∧
  (∀ (lv : List mm_V) a x0 x1, (mm_ok n a 9) → mm_E d 140 77 lv [] (.inl x1 :: .inl x0 :: .inr (.inr (some a)) :: []) n I L P = mm_kr d 140 80 lv [] [] n (mm_rn d 64 [.inr (.inr (some a)), .inl x0, .inl x1] n I L P)) ∧
  (∀ (lv : List mm_V) z, mm_E d 140 80 lv [] [.inl z] n I L P = some (some (.inl z), n, I, L, P)) ∧
  (∀ (st : List mm_V) z (l1 : mm_V) (l2 : mm_V), mm_E d 140 81 [(.inr (.inr z)), l1, l2] [] st n I L P = mm_E d 140 82 [(.inr (.inr z)), l1, l2] [] ((.inr (.inr z)) :: st) n I L P) ∧
  (∀ (lv : List mm_V) (st : List mm_V) a, (mm_ok n a 11) → mm_E d 140 82 lv [] (.inr (.inr (some a)) :: st) n I L P = mm_E d 140 85 lv [] (.inr (.inr (P a 8)) :: st) n I L P) ∧
  (∀ (lv : List mm_V) (st : List mm_V) a, (mm_ok n a 5) → mm_E d 140 85 lv [] (.inr (.inr (some a)) :: st) n I L P = mm_E d 140 88 lv [] (.inr (.inr (P a 2)) :: st) n I L P) ∧
  (∀ (st : List mm_V) z (l0 : mm_V) (l1 : mm_V), mm_E d 140 88 [l0, l1, (.inl z)] [] st n I L P = mm_E d 140 89 [l0, l1, (.inl z)] [] ((.inl z) :: st) n I L P) ∧
  (∀ (lv : List mm_V) (st : List mm_V) a i, (mm_ix n a 20 i) → mm_E d 140 89 lv [] (.inl i :: .inr (.inr (some a)) :: st) n I L P = mm_E d 140 90 lv [] (.inl (I a i.toNat) :: st) n I L P) ∧
  (∀ (lv : List mm_V) z, mm_E d 140 90 lv [] [.inl z] n I L P = some (some (.inl z), n, I, L, P)) :=
  ⟨fun _ _ _ _ => mq_il (i := 1) rfl rfl,
   fun _ _ _ => mq_sw (l := [(0, 32), (1, 42), (2, 52), (3, 65)]) (df := 81) rfl,
   fun _ _ _ _ => mq_al (i := 0) rfl rfl,
   fun _ _ _ h0 => mq_getR rfl h0,
   fun _ _ _ h0 => mq_getR rfl h0,
   fun _ _ _ _ => mq_il (i := 2) rfl rfl,
   fun _ _ _ _ h0 => mq_iald rfl h0,
   fun _ _ => mq_ri rfl,
   fun _ _ _ _ => mq_al (i := 0) rfl rfl,
   fun _ _ _ h0 => mq_getR rfl h0,
   fun _ _ _ h0 => mq_getR rfl h0,
   fun _ _ _ _ => mq_il (i := 2) rfl rfl,
   fun _ _ _ _ h0 => mq_iald rfl h0,
   fun _ _ => mq_ri rfl,
   fun _ _ _ _ => mq_al (i := 0) rfl rfl,
   fun _ _ _ h0 => mq_getR rfl h0,
   fun _ _ _ h0 => mq_getR rfl h0,
   fun _ _ _ _ => mq_il (i := 2) rfl rfl,
   fun _ _ _ _ h0 => mq_iald rfl h0,
   fun _ _ => mq_cSr (na := 1) rfl (Nat.le_of_ble_eq_true rfl) (Nat.le_of_ble_eq_true rfl),
   fun _ _ => mq_ri rfl,
   fun _ _ _ _ => mq_al (i := 0) rfl rfl,
   fun _ _ _ h0 => mq_getR rfl h0,
   fun _ _ _ _ => mq_al (i := 0) rfl rfl,
   fun _ _ _ h0 => mq_getR rfl h0,
   fun _ _ _ h0 => mq_getI rfl h0,
   fun _ _ _ _ => mq_il (i := 2) rfl rfl,
   fun _ _ _ _ h0 => mq_cVr (na := 2) rfl rfl (Nat.le_of_ble_eq_true rfl) (Nat.le_of_ble_eq_true rfl) h0,
   fun _ _ => mq_ri rfl,
   fun _ _ _ _ => mq_al (i := 0) rfl rfl,
   fun _ _ _ h0 => mq_getR rfl h0,
   fun _ _ _ h0 => mq_getR rfl h0,
   fun _ _ _ _ => mq_il (i := 2) rfl rfl,
   fun _ _ _ _ h0 => mq_iald rfl h0,
   fun _ _ => mq_ri rfl⟩
theorem eX11_rankOf (d n : Nat) (I L : mm_I) (P : mm_P) (x0 : Option Nat) (x1 : Int) (x2 : Int) : mm_rn (d + 1) 140 [.inr (.inr x0), .inl x1, .inl x2] n I L P = mm_E d 140 0 [.inr (.inr x0), .inl x1, .inl x2] [] [] n I L P := rfl

set_option maxRecDepth 20000 in
set_option maxHeartbeats 8000000 in
theorem kX11_ruins (d n : Nat) (I L : mm_I) (P : mm_P) :
  (∀ (lv : List mm_V) (st : List mm_V), mm_E d 141 0 lv [] st n I L P = mm_E d 141 1 lv [] (.inl 0 :: st) n I L P) ∧
  (∀ (st : List mm_V) z (l0 : mm_V) (l1 : mm_V) (l2 : mm_V), mm_E d 141 1 [l0, l1, l2] [] ((.inl z) :: st) n I L P = mm_E d 141 2 [l0, (.inl z), l2] [] st n I L P) ∧
  (∀ (lv : List mm_V) (st : List mm_V), mm_E d 141 2 lv [] st n I L P = mm_E d 141 3 lv [] (.inl 0 :: st) n I L P) ∧
  (∀ (st : List mm_V) z (l0 : mm_V) (l1 : mm_V) (l2 : mm_V), mm_E d 141 3 [l0, l1, l2] [] ((.inl z) :: st) n I L P = mm_E d 141 4 [l0, l1, (.inl z)] [] st n I L P) ∧
  (∀ (st : List mm_V) z (l1 : mm_V) (l2 : mm_V), mm_E d 141 5 [(.inr (.inr z)), l1, l2] [] st n I L P = mm_E d 141 6 [(.inr (.inr z)), l1, l2] [] ((.inr (.inr z)) :: st) n I L P) ∧
  (∀ (lv : List mm_V) (st : List mm_V) a, (mm_ok n a 11) → mm_E d 141 6 lv [] (.inr (.inr (some a)) :: st) n I L P = mm_E d 141 9 lv [] (.inr (.inr (P a 2)) :: st) n I L P) ∧
  (∀ (lv : List mm_V) (st : List mm_V) a, (mm_ok n a 9) → mm_E d 141 9 lv [] (.inr (.inr (some a)) :: st) n I L P = mm_E d 141 12 lv [] (.inl (I a 0) :: st) n I L P) ∧
  (∀ (lv : List mm_V) (st : List mm_V) a b, mm_E d 141 12 lv [] (.inl b :: .inl a :: st) n I L P = if b ≤ a then mm_E d 141 39 lv [] st n I L P else mm_E d 141 15 lv [] st n I L P) ∧
  (∀ (st : List mm_V) z (l1 : mm_V) (l2 : mm_V), mm_E d 141 15 [(.inr (.inr z)), l1, l2] [] st n I L P = mm_E d 141 16 [(.inr (.inr z)), l1, l2] [] ((.inr (.inr z)) :: st) n I L P) ∧
  (∀ (lv : List mm_V) (st : List mm_V) a, (mm_ok n a 11) → mm_E d 141 16 lv [] (.inr (.inr (some a)) :: st) n I L P = mm_E d 141 19 lv [] (.inr (.inr (P a 8)) :: st) n I L P) ∧
  (∀ (lv : List mm_V) (st : List mm_V) a, (mm_ok n a 5) → mm_E d 141 19 lv [] (.inr (.inr (some a)) :: st) n I L P = mm_E d 141 22 lv [] (.inr (.inr (P a 0)) :: st) n I L P) ∧
  (∀ (st : List mm_V) z (l0 : mm_V) (l1 : mm_V), mm_E d 141 22 [l0, l1, (.inl z)] [] st n I L P = mm_E d 141 23 [l0, l1, (.inl z)] [] ((.inl z) :: st) n I L P) ∧
  (∀ (lv : List mm_V) (st : List mm_V) a i, (mm_ix n a 20 i) → mm_E d 141 23 lv [] (.inl i :: .inr (.inr (some a)) :: st) n I L P = mm_E d 141 24 lv [] (.inl (I a i.toNat) :: st) n I L P) ∧
  (∀ (lv : List mm_V) (st : List mm_V) a, mm_E d 141 24 lv [] (.inl a :: st) n I L P = if a = 0 then mm_E d 141 27 lv [] st n I L P else mm_E d 141 33 lv [] st n I L P) ∧
  (∀ (st : List mm_V) z (l0 : mm_V) (l2 : mm_V), mm_E d 141 27 [l0, (.inl z), l2] [] st n I L P = mm_E d 141 28 [l0, (.inl z), l2] [] ((.inl z) :: st) n I L P) ∧
  (∀ (lv : List mm_V) (st : List mm_V), mm_E d 141 28 lv [] st n I L P = mm_E d 141 29 lv [] (.inl 1 :: st) n I L P) ∧
  (∀ (st : List mm_V) z (l0 : mm_V) (l1 : mm_V), mm_E d 141 29 [l0, l1, (.inl z)] [] st n I L P = mm_E d 141 30 [l0, l1, (.inl z)] [] ((.inl z) :: st) n I L P) ∧
  (∀ (lv : List mm_V) (st : List mm_V) a b, mm_E d 141 30 lv [] (.inl b :: .inl a :: st) n I L P = mm_E d 141 31 lv [] (.inl (mm_shl a b) :: st) n I L P) ∧
  (∀ (lv : List mm_V) (st : List mm_V) a b, mm_E d 141 31 lv [] (.inl b :: .inl a :: st) n I L P = mm_E d 141 32 lv [] (.inl (mm_or a b) :: st) n I L P) ∧
  (∀ (st : List mm_V) z (l0 : mm_V) (l1 : mm_V) (l2 : mm_V), mm_E d 141 32 [l0, l1, l2] [] ((.inl z) :: st) n I L P = mm_E d 141 33 [l0, (.inl z), l2] [] st n I L P) ∧
  (∀ (st : List mm_V) z (l0 : mm_V) (l1 : mm_V), mm_E d 141 33 [l0, l1, (.inl z)] [] st n I L P = mm_E d 141 36 [l0, l1, (.inl (mm_add z 1))] [] st n I L P) ∧
  (∀ (lv : List mm_V) (st : List mm_V), mm_E d 141 36 lv [] st n I L P = mm_E d 141 4 lv [] st n I L P) ∧
  (∀ (st : List mm_V) z (l0 : mm_V) (l2 : mm_V), mm_E d 141 39 [l0, (.inl z), l2] [] st n I L P = mm_E d 141 40 [l0, (.inl z), l2] [] ((.inl z) :: st) n I L P) ∧
  (∀ (lv : List mm_V) z, mm_E d 141 40 lv [] [.inl z] n I L P = some (some (.inl z), n, I, L, P)) :=
  ⟨fun _ _ => mq_push rfl,
   fun _ _ _ _ _ => mq_is (i := 1) rfl rfl rfl,
   fun _ _ => mq_push rfl,
   fun _ _ _ _ _ => mq_is (i := 2) rfl rfl rfl,
   fun _ _ _ _ => mq_al (i := 0) rfl rfl,
   fun _ _ _ h0 => mq_getR rfl h0,
   fun _ _ _ h0 => mq_getI rfl h0,
   fun _ _ _ _ => mq_ic_ge rfl,
   fun _ _ _ _ => mq_al (i := 0) rfl rfl,
   fun _ _ _ h0 => mq_getR rfl h0,
   fun _ _ _ h0 => mq_getR rfl h0,
   fun _ _ _ _ => mq_il (i := 2) rfl rfl,
   fun _ _ _ _ h0 => mq_iald rfl h0,
   fun _ _ _ => mq_if_ne rfl,
   fun _ _ _ _ => mq_il (i := 1) rfl rfl,
   fun _ _ => mq_push rfl,
   fun _ _ _ _ => mq_il (i := 2) rfl rfl,
   fun _ _ _ _ => mq_bi rfl,
   fun _ _ _ _ => mq_bi rfl,
   fun _ _ _ _ _ => mq_is (i := 1) rfl rfl rfl,
   fun _ _ _ _ => mq_iinc (i := 2) rfl rfl rfl rfl,
   fun _ _ => mq_go rfl,
   fun _ _ _ _ => mq_il (i := 1) rfl rfl,
   fun _ _ => mq_ri rfl⟩
theorem hX11_ruins_4 (d n : Nat) (I L : mm_I) (P : mm_P) : ∀ (st : List mm_V) z (l0 : mm_V) (l1 : mm_V), mm_E d 141 4 [l0, l1, (.inl z)] [] st n I L P = mm_E d 141 5 [l0, l1, (.inl z)] [] ((.inl z) :: st) n I L P := fun _ _ _ _ => mq_il (i := 2) rfl rfl
theorem eX11_ruins (d n : Nat) (I L : mm_I) (P : mm_P) (x0 : Option Nat) : mm_rn (d + 1) 141 [.inr (.inr x0)] n I L P = mm_E d 141 0 [.inr (.inr x0), mm_junk, mm_junk] [] [] n I L P := rfl

set_option maxRecDepth 20000 in
set_option maxHeartbeats 8000000 in
theorem kX11_image (d n : Nat) (I L : mm_I) (P : mm_P) :
  (∀ (st : List mm_V) z, mm_E d 142 0 [(.inr (.inr z))] [] st n I L P = mm_E d 142 1 [(.inr (.inr z))] [] ((.inr (.inr z)) :: st) n I L P) ∧
  (∀ (lv : List mm_V) a, (mm_ok n a 11) → mm_E d 142 1 lv [] (.inr (.inr (some a)) :: []) n I L P = mm_kr d 142 4 lv [] [] n (mm_rn d 92 [.inr (.inr (some a))] n I L P)) ∧
  (∀ (lv : List mm_V) (st : List mm_V) a, mm_E d 142 4 lv [] (.inl a :: st) n I L P = if a = 0 then mm_E d 142 9 lv [] st n I L P else mm_E d 142 7 lv [] st n I L P) ∧
  (∀ (lv : List mm_V) (st : List mm_V), mm_E d 142 7 lv [] st n I L P = mm_E d 142 8 lv [] (.inl (-1) :: st) n I L P) ∧
  (∀ (lv : List mm_V) z, mm_E d 142 8 lv [] [.inl z] n I L P = some (some (.inl z), n, I, L, P)) ∧
  (∀ (st : List mm_V) z, mm_E d 142 9 [(.inr (.inr z))] [] st n I L P = mm_E d 142 10 [(.inr (.inr z))] [] ((.inr (.inr z)) :: st) n I L P) ∧
  (∀ (lv : List mm_V) (st : List mm_V) a, (mm_ok n a 11) → mm_E d 142 10 lv [] (.inr (.inr (some a)) :: st) n I L P = mm_E d 142 13 lv [] (.inr (.inr (P a 11)) :: st) n I L P) ∧
  (∀ (st : List mm_V) z, mm_E d 142 13 [(.inr (.inr z))] [] st n I L P = mm_E d 142 14 [(.inr (.inr z))] [] ((.inr (.inr z)) :: st) n I L P) ∧
  (∀ (lv : List mm_V) (st : List mm_V) a, (mm_ok n a 11) → mm_E d 142 14 lv [] (.inr (.inr (some a)) :: st) n I L P = mm_E d 142 17 lv [] (.inr (.inr (P a 8)) :: st) n I L P) ∧
  (∀ (lv : List mm_V) a x0, (mm_ok n a 5) → mm_E d 142 17 lv [] (.inr (.inr x0) :: .inr (.inr (some a)) :: []) n I L P = mm_kv d 142 20 lv [] [] n (mm_rn d 41 [.inr (.inr (some a)), .inr (.inr x0)] n I L P)) ∧
  (∀ (st : List mm_V) z, mm_E d 142 20 [(.inr (.inr z))] [] st n I L P = mm_E d 142 21 [(.inr (.inr z))] [] ((.inr (.inr z)) :: st) n I L P) ∧
  (∀ (lv : List mm_V) (st : List mm_V) a, (mm_ok n a 11) → mm_E d 142 21 lv [] (.inr (.inr (some a)) :: st) n I L P = mm_E d 142 24 lv [] (.inr (.inr (P a 12)) :: st) n I L P) ∧
  (∀ (st : List mm_V) z, mm_E d 142 24 [(.inr (.inr z))] [] st n I L P = mm_E d 142 25 [(.inr (.inr z))] [] ((.inr (.inr z)) :: st) n I L P) ∧
  (∀ (lv : List mm_V) (st : List mm_V) a, (mm_ok n a 11) → mm_E d 142 25 lv [] (.inr (.inr (some a)) :: st) n I L P = mm_E d 142 28 lv [] (.inr (.inr (P a 9)) :: st) n I L P) ∧
  (∀ (lv : List mm_V) a x0, (mm_ok n a 1) → mm_E d 142 28 lv [] (.inr (.inr x0) :: .inr (.inr (some a)) :: []) n I L P = mm_kv d 142 31 lv [] [] n (mm_rn d 10 [.inr (.inr (some a)), .inr (.inr x0)] n I L P)) ∧
  (∀ (st : List mm_V) z, mm_E d 142 31 [(.inr (.inr z))] [] st n I L P = mm_E d 142 32 [(.inr (.inr z))] [] ((.inr (.inr z)) :: st) n I L P) ∧
  (∀ (lv : List mm_V) (st : List mm_V), mm_E d 142 32 lv [] st n I L P = mm_E d 142 33 lv [] (.inl 1 :: st) n I L P) ∧
  (∀ (lv : List mm_V) (st : List mm_V) a z, (mm_ok n a 11) → (z = 0 ∨ z = 1) → mm_E d 142 33 lv [] (.inl z :: .inr (.inr (some a)) :: st) n I L P = mm_E d 142 36 lv [] st n (mm_ui I a 13 z) L P) ∧
  (∀ (st : List mm_V) z, mm_E d 142 36 [(.inr (.inr z))] [] st n I L P = mm_E d 142 37 [(.inr (.inr z))] [] ((.inr (.inr z)) :: st) n I L P) ∧
  (∀ (lv : List mm_V) (st : List mm_V) a, (mm_ok n a 11) → mm_E d 142 37 lv [] (.inr (.inr (some a)) :: st) n I L P = mm_E d 142 40 lv [] (.inr (.inr (P a 8)) :: st) n I L P) ∧
  (∀ (lv : List mm_V) (st : List mm_V) a, (mm_ok n a 5) → mm_E d 142 40 lv [] (.inr (.inr (some a)) :: st) n I L P = mm_E d 142 43 lv [] (.inl (I a 8) :: st) n I L P) ∧
  (∀ (lv : List mm_V) z, mm_E d 142 43 lv [] [.inl z] n I L P = some (some (.inl z), n, I, L, P)) :=
  ⟨fun _ _ => mq_al (i := 0) rfl rfl,
   fun _ _ h0 => mq_cVr (na := 0) rfl rfl (Nat.le_of_ble_eq_true rfl) (Nat.le_of_ble_eq_true rfl) h0,
   fun _ _ _ => mq_if_eq rfl,
   fun _ _ => mq_push rfl,
   fun _ _ => mq_ri rfl,
   fun _ _ => mq_al (i := 0) rfl rfl,
   fun _ _ _ h0 => mq_getR rfl h0,
   fun _ _ => mq_al (i := 0) rfl rfl,
   fun _ _ _ h0 => mq_getR rfl h0,
   fun _ _ _ h0 => mq_cVv (na := 1) rfl rfl (Nat.le_of_ble_eq_true rfl) (Nat.le_of_ble_eq_true rfl) h0,
   fun _ _ => mq_al (i := 0) rfl rfl,
   fun _ _ _ h0 => mq_getR rfl h0,
   fun _ _ => mq_al (i := 0) rfl rfl,
   fun _ _ _ h0 => mq_getR rfl h0,
   fun _ _ _ h0 => mq_cVv (na := 1) rfl rfl (Nat.le_of_ble_eq_true rfl) (Nat.le_of_ble_eq_true rfl) h0,
   fun _ _ => mq_al (i := 0) rfl rfl,
   fun _ _ => mq_push rfl,
   fun _ _ _ _ h0 h1 => mq_putZ rfl h0 h1,
   fun _ _ => mq_al (i := 0) rfl rfl,
   fun _ _ _ h0 => mq_getR rfl h0,
   fun _ _ _ h0 => mq_getI rfl h0,
   fun _ _ => mq_ri rfl⟩
theorem eX11_image (d n : Nat) (I L : mm_I) (P : mm_P) (x0 : Option Nat) : mm_rn (d + 1) 142 [.inr (.inr x0)] n I L P = mm_E d 142 0 [.inr (.inr x0)] [] [] n I L P := rfl

set_option maxRecDepth 20000 in
set_option maxHeartbeats 8000000 in
theorem kX11_back (d n : Nat) (I L : mm_I) (P : mm_P) :
  (∀ (st : List mm_V) z, mm_E d 143 0 [(.inr (.inr z))] [] st n I L P = mm_E d 143 1 [(.inr (.inr z))] [] ((.inr (.inr z)) :: st) n I L P) ∧
  (∀ (lv : List mm_V) (st : List mm_V) a, (mm_ok n a 11) → mm_E d 143 1 lv [] (.inr (.inr (some a)) :: st) n I L P = mm_E d 143 4 lv [] (.inl (I a 13) :: st) n I L P) ∧
  (∀ (lv : List mm_V) (st : List mm_V) a, mm_E d 143 4 lv [] (.inl a :: st) n I L P = if a = 0 then mm_E d 143 7 lv [] st n I L P else mm_E d 143 9 lv [] st n I L P) ∧
  (∀ (lv : List mm_V) (st : List mm_V), mm_E d 143 7 lv [] st n I L P = mm_E d 143 8 lv [] (.inl (-1) :: st) n I L P) ∧
  (∀ (lv : List mm_V) z, mm_E d 143 8 lv [] [.inl z] n I L P = some (some (.inl z), n, I, L, P)) ∧
  (∀ (st : List mm_V) z, mm_E d 143 9 [(.inr (.inr z))] [] st n I L P = mm_E d 143 10 [(.inr (.inr z))] [] ((.inr (.inr z)) :: st) n I L P) ∧
  (∀ (lv : List mm_V) (st : List mm_V) a, (mm_ok n a 11) → mm_E d 143 10 lv [] (.inr (.inr (some a)) :: st) n I L P = mm_E d 143 13 lv [] (.inr (.inr (P a 8)) :: st) n I L P) ∧
  (∀ (st : List mm_V) z, mm_E d 143 13 [(.inr (.inr z))] [] st n I L P = mm_E d 143 14 [(.inr (.inr z))] [] ((.inr (.inr z)) :: st) n I L P) ∧
  (∀ (lv : List mm_V) (st : List mm_V) a, (mm_ok n a 11) → mm_E d 143 14 lv [] (.inr (.inr (some a)) :: st) n I L P = mm_E d 143 17 lv [] (.inr (.inr (P a 11)) :: st) n I L P) ∧
  (∀ (lv : List mm_V) a x0, (mm_ok n a 5) → mm_E d 143 17 lv [] (.inr (.inr x0) :: .inr (.inr (some a)) :: []) n I L P = mm_kv d 143 20 lv [] [] n (mm_rn d 41 [.inr (.inr (some a)), .inr (.inr x0)] n I L P)) ∧
  (∀ (st : List mm_V) z, mm_E d 143 20 [(.inr (.inr z))] [] st n I L P = mm_E d 143 21 [(.inr (.inr z))] [] ((.inr (.inr z)) :: st) n I L P) ∧
  (∀ (lv : List mm_V) (st : List mm_V) a, (mm_ok n a 11) → mm_E d 143 21 lv [] (.inr (.inr (some a)) :: st) n I L P = mm_E d 143 24 lv [] (.inr (.inr (P a 9)) :: st) n I L P) ∧
  (∀ (st : List mm_V) z, mm_E d 143 24 [(.inr (.inr z))] [] st n I L P = mm_E d 143 25 [(.inr (.inr z))] [] ((.inr (.inr z)) :: st) n I L P) ∧
  (∀ (lv : List mm_V) (st : List mm_V) a, (mm_ok n a 11) → mm_E d 143 25 lv [] (.inr (.inr (some a)) :: st) n I L P = mm_E d 143 28 lv [] (.inr (.inr (P a 12)) :: st) n I L P) ∧
  (∀ (lv : List mm_V) a x0, (mm_ok n a 1) → mm_E d 143 28 lv [] (.inr (.inr x0) :: .inr (.inr (some a)) :: []) n I L P = mm_kv d 143 31 lv [] [] n (mm_rn d 10 [.inr (.inr (some a)), .inr (.inr x0)] n I L P)) ∧
  (∀ (st : List mm_V) z, mm_E d 143 31 [(.inr (.inr z))] [] st n I L P = mm_E d 143 32 [(.inr (.inr z))] [] ((.inr (.inr z)) :: st) n I L P) ∧
  (∀ (lv : List mm_V) (st : List mm_V) a, (mm_ok n a 11) → mm_E d 143 32 lv [] (.inr (.inr (some a)) :: st) n I L P = mm_E d 143 35 lv [] (.inr (.inr (P a 10)) :: st) n I L P) ∧
  (∀ (lv : List mm_V) (st : List mm_V), mm_E d 143 35 lv [] st n I L P = mm_E d 143 36 lv [] (.inl 0 :: st) n I L P) ∧
  (∀ (lv : List mm_V) (st : List mm_V) a z, (mm_ok n a 6) → mm_E d 143 36 lv [] (.inl z :: .inr (.inr (some a)) :: st) n I L P = mm_E d 143 39 lv [] st n (mm_ui I a 2 z) L P) ∧
  (∀ (st : List mm_V) z, mm_E d 143 39 [(.inr (.inr z))] [] st n I L P = mm_E d 143 40 [(.inr (.inr z))] [] ((.inr (.inr z)) :: st) n I L P) ∧
  (∀ (lv : List mm_V) (st : List mm_V) a, (mm_ok n a 11) → mm_E d 143 40 lv [] (.inr (.inr (some a)) :: st) n I L P = mm_E d 143 43 lv [] (.inr (.inr (P a 8)) :: st) n I L P) ∧
  (∀ (lv : List mm_V) (st : List mm_V) a, (mm_ok n a 5) → mm_E d 143 43 lv [] (.inr (.inr (some a)) :: st) n I L P = mm_E d 143 46 lv [] (.inl (I a 8) :: st) n I L P) ∧
  (∀ (lv : List mm_V) z, mm_E d 143 46 lv [] [.inl z] n I L P = some (some (.inl z), n, I, L, P)) :=
  ⟨fun _ _ => mq_al (i := 0) rfl rfl,
   fun _ _ _ h0 => mq_getI rfl h0,
   fun _ _ _ => mq_if_ne rfl,
   fun _ _ => mq_push rfl,
   fun _ _ => mq_ri rfl,
   fun _ _ => mq_al (i := 0) rfl rfl,
   fun _ _ _ h0 => mq_getR rfl h0,
   fun _ _ => mq_al (i := 0) rfl rfl,
   fun _ _ _ h0 => mq_getR rfl h0,
   fun _ _ _ h0 => mq_cVv (na := 1) rfl rfl (Nat.le_of_ble_eq_true rfl) (Nat.le_of_ble_eq_true rfl) h0,
   fun _ _ => mq_al (i := 0) rfl rfl,
   fun _ _ _ h0 => mq_getR rfl h0,
   fun _ _ => mq_al (i := 0) rfl rfl,
   fun _ _ _ h0 => mq_getR rfl h0,
   fun _ _ _ h0 => mq_cVv (na := 1) rfl rfl (Nat.le_of_ble_eq_true rfl) (Nat.le_of_ble_eq_true rfl) h0,
   fun _ _ => mq_al (i := 0) rfl rfl,
   fun _ _ _ h0 => mq_getR rfl h0,
   fun _ _ => mq_push rfl,
   fun _ _ _ _ h0 => mq_putI rfl h0,
   fun _ _ => mq_al (i := 0) rfl rfl,
   fun _ _ _ h0 => mq_getR rfl h0,
   fun _ _ _ h0 => mq_getI rfl h0,
   fun _ _ => mq_ri rfl⟩
theorem eX11_back (d n : Nat) (I L : mm_I) (P : mm_P) (x0 : Option Nat) : mm_rn (d + 1) 143 [.inr (.inr x0)] n I L P = mm_E d 143 0 [.inr (.inr x0)] [] [] n I L P := rfl

set_option maxRecDepth 20000 in
set_option maxHeartbeats 8000000 in
theorem kX11_count (d n : Nat) (I L : mm_I) (P : mm_P) :
  (∀ (st : List mm_V) z (l0 : mm_V), mm_E d 144 0 [l0, (.inl z)] [] st n I L P = mm_E d 144 1 [l0, (.inl z)] [] ((.inl z) :: st) n I L P) ∧
  (∀ (lv : List mm_V) (st : List mm_V) a, mm_E d 144 1 lv [] (.inl a :: st) n I L P = if a = 0 then mm_E d 144 52 lv [] st n I L P else if a = 1 then mm_E d 144 60 lv [] st n I L P else if a = 2 then mm_E d 144 65 lv [] st n I L P else if a = 3 then mm_E d 144 73 lv [] st n I L P else if a = 4 then mm_E d 144 78 lv [] st n I L P else if a = 5 then mm_E d 144 86 lv [] st n I L P else if a = 6 then mm_E d 144 91 lv [] st n I L P else if a = 7 then mm_E d 144 99 lv [] st n I L P else if a = 8 then mm_E d 144 104 lv [] st n I L P else mm_E d 144 112 lv [] st n I L P) ∧
  (∀ (st : List mm_V) z (l1 : mm_V), mm_E d 144 52 [(.inr (.inr z)), l1] [] st n I L P = mm_E d 144 53 [(.inr (.inr z)), l1] [] ((.inr (.inr z)) :: st) n I L P) ∧
  (∀ (lv : List mm_V) (st : List mm_V) a, (mm_ok n a 11) → mm_E d 144 53 lv [] (.inr (.inr (some a)) :: st) n I L P = mm_E d 144 56 lv [] (.inr (.inr (P a 2)) :: st) n I L P) ∧
  (∀ (lv : List mm_V) (st : List mm_V) a, (mm_ok n a 9) → mm_E d 144 56 lv [] (.inr (.inr (some a)) :: st) n I L P = mm_E d 144 59 lv [] (.inl (I a 0) :: st) n I L P) ∧
  (∀ (lv : List mm_V) z, mm_E d 144 59 lv [] [.inl z] n I L P = some (some (.inl z), n, I, L, P)) ∧
  (∀ (st : List mm_V) z (l1 : mm_V), mm_E d 144 60 [(.inr (.inr z)), l1] [] st n I L P = mm_E d 144 61 [(.inr (.inr z)), l1] [] ((.inr (.inr z)) :: st) n I L P) ∧
  (∀ (lv : List mm_V) (st : List mm_V) a, (mm_ok n a 11) → mm_E d 144 61 lv [] (.inr (.inr (some a)) :: st) n I L P = mm_E d 144 64 lv [] (.inl (I a 5) :: st) n I L P) ∧
  (∀ (lv : List mm_V) z, mm_E d 144 64 lv [] [.inl z] n I L P = some (some (.inl z), n, I, L, P)) ∧
  (∀ (st : List mm_V) z (l1 : mm_V), mm_E d 144 65 [(.inr (.inr z)), l1] [] st n I L P = mm_E d 144 66 [(.inr (.inr z)), l1] [] ((.inr (.inr z)) :: st) n I L P) ∧
  (∀ (lv : List mm_V) (st : List mm_V) a, (mm_ok n a 11) → mm_E d 144 66 lv [] (.inr (.inr (some a)) :: st) n I L P = mm_E d 144 69 lv [] (.inr (.inr (P a 0)) :: st) n I L P) ∧
  (∀ (lv : List mm_V) (st : List mm_V) a, (mm_ok n a 8) → mm_E d 144 69 lv [] (.inr (.inr (some a)) :: st) n I L P = mm_E d 144 72 lv [] (.inl (I a 1) :: st) n I L P) ∧
  (∀ (lv : List mm_V) z, mm_E d 144 72 lv [] [.inl z] n I L P = some (some (.inl z), n, I, L, P)) ∧
  (∀ (st : List mm_V) z (l1 : mm_V), mm_E d 144 73 [(.inr (.inr z)), l1] [] st n I L P = mm_E d 144 74 [(.inr (.inr z)), l1] [] ((.inr (.inr z)) :: st) n I L P) ∧
  (∀ (lv : List mm_V) (st : List mm_V) a, (mm_ok n a 11) → mm_E d 144 74 lv [] (.inr (.inr (some a)) :: st) n I L P = mm_E d 144 77 lv [] (.inl (I a 6) :: st) n I L P) ∧
  (∀ (lv : List mm_V) z, mm_E d 144 77 lv [] [.inl z] n I L P = some (some (.inl z), n, I, L, P)) ∧
  (∀ (st : List mm_V) z (l1 : mm_V), mm_E d 144 78 [(.inr (.inr z)), l1] [] st n I L P = mm_E d 144 79 [(.inr (.inr z)), l1] [] ((.inr (.inr z)) :: st) n I L P) ∧
  (∀ (lv : List mm_V) (st : List mm_V) a, (mm_ok n a 11) → mm_E d 144 79 lv [] (.inr (.inr (some a)) :: st) n I L P = mm_E d 144 82 lv [] (.inr (.inr (P a 8)) :: st) n I L P) ∧
  (∀ (lv : List mm_V) (st : List mm_V) a, (mm_ok n a 5) → mm_E d 144 82 lv [] (.inr (.inr (some a)) :: st) n I L P = mm_E d 144 85 lv [] (.inl (I a 8) :: st) n I L P) ∧
  (∀ (lv : List mm_V) z, mm_E d 144 85 lv [] [.inl z] n I L P = some (some (.inl z), n, I, L, P)) ∧
  (∀ (st : List mm_V) z (l1 : mm_V), mm_E d 144 86 [(.inr (.inr z)), l1] [] st n I L P = mm_E d 144 87 [(.inr (.inr z)), l1] [] ((.inr (.inr z)) :: st) n I L P) ∧
  (∀ (lv : List mm_V) (st : List mm_V) a, (mm_ok n a 11) → mm_E d 144 87 lv [] (.inr (.inr (some a)) :: st) n I L P = mm_E d 144 90 lv [] (.inl (I a 7) :: st) n I L P) ∧
  (∀ (lv : List mm_V) z, mm_E d 144 90 lv [] [.inl z] n I L P = some (some (.inl z), n, I, L, P)) ∧
  (∀ (st : List mm_V) z (l1 : mm_V), mm_E d 144 91 [(.inr (.inr z)), l1] [] st n I L P = mm_E d 144 92 [(.inr (.inr z)), l1] [] ((.inr (.inr z)) :: st) n I L P) ∧
  (∀ (lv : List mm_V) (st : List mm_V) a, (mm_ok n a 11) → mm_E d 144 92 lv [] (.inr (.inr (some a)) :: st) n I L P = mm_E d 144 95 lv [] (.inr (.inr (P a 14)) :: st) n I L P) ∧
  (∀ (lv : List mm_V) (st : List mm_V) a, (mm_ok n a 2) → mm_E d 144 95 lv [] (.inr (.inr (some a)) :: st) n I L P = mm_E d 144 98 lv [] (.inl (I a 4) :: st) n I L P) ∧
  (∀ (lv : List mm_V) z, mm_E d 144 98 lv [] [.inl z] n I L P = some (some (.inl z), n, I, L, P)) ∧
  (∀ (st : List mm_V) z (l1 : mm_V), mm_E d 144 99 [(.inr (.inr z)), l1] [] st n I L P = mm_E d 144 100 [(.inr (.inr z)), l1] [] ((.inr (.inr z)) :: st) n I L P) ∧
  (∀ (lv : List mm_V) a, (mm_ok n a 11) → mm_E d 144 100 lv [] (.inr (.inr (some a)) :: []) n I L P = mm_kr d 144 103 lv [] [] n (mm_rn d 115 [.inr (.inr (some a))] n I L P)) ∧
  (∀ (lv : List mm_V) z, mm_E d 144 103 lv [] [.inl z] n I L P = some (some (.inl z), n, I, L, P)) ∧
  (∀ (st : List mm_V) z (l1 : mm_V), mm_E d 144 104 [(.inr (.inr z)), l1] [] st n I L P = mm_E d 144 105 [(.inr (.inr z)), l1] [] ((.inr (.inr z)) :: st) n I L P) ∧
  (∀ (lv : List mm_V) (st : List mm_V) a, (mm_ok n a 11) → mm_E d 144 105 lv [] (.inr (.inr (some a)) :: st) n I L P = mm_E d 144 108 lv [] (.inr (.inr (P a 10)) :: st) n I L P) ∧
  (∀ (lv : List mm_V) (st : List mm_V) a, (mm_ok n a 6) → mm_E d 144 108 lv [] (.inr (.inr (some a)) :: st) n I L P = mm_E d 144 111 lv [] (.inl (I a 2) :: st) n I L P) ∧
  (∀ (lv : List mm_V) z, mm_E d 144 111 lv [] [.inl z] n I L P = some (some (.inl z), n, I, L, P)) ∧
  (∀ (lv : List mm_V) (st : List mm_V), mm_E d 144 112 lv [] st n I L P = mm_E d 144 115 lv [] (.inl (-1000000) :: st) n I L P) ∧
  (∀ (lv : List mm_V) z, mm_E d 144 115 lv [] [.inl z] n I L P = some (some (.inl z), n, I, L, P)) :=
  ⟨fun _ _ _ => mq_il (i := 1) rfl rfl,
   fun _ _ _ => mq_sw (l := [(0, 52), (1, 60), (2, 65), (3, 73), (4, 78), (5, 86), (6, 91), (7, 99), (8, 104)]) (df := 112) rfl,
   fun _ _ _ => mq_al (i := 0) rfl rfl,
   fun _ _ _ h0 => mq_getR rfl h0,
   fun _ _ _ h0 => mq_getI rfl h0,
   fun _ _ => mq_ri rfl,
   fun _ _ _ => mq_al (i := 0) rfl rfl,
   fun _ _ _ h0 => mq_getI rfl h0,
   fun _ _ => mq_ri rfl,
   fun _ _ _ => mq_al (i := 0) rfl rfl,
   fun _ _ _ h0 => mq_getR rfl h0,
   fun _ _ _ h0 => mq_getI rfl h0,
   fun _ _ => mq_ri rfl,
   fun _ _ _ => mq_al (i := 0) rfl rfl,
   fun _ _ _ h0 => mq_getI rfl h0,
   fun _ _ => mq_ri rfl,
   fun _ _ _ => mq_al (i := 0) rfl rfl,
   fun _ _ _ h0 => mq_getR rfl h0,
   fun _ _ _ h0 => mq_getI rfl h0,
   fun _ _ => mq_ri rfl,
   fun _ _ _ => mq_al (i := 0) rfl rfl,
   fun _ _ _ h0 => mq_getI rfl h0,
   fun _ _ => mq_ri rfl,
   fun _ _ _ => mq_al (i := 0) rfl rfl,
   fun _ _ _ h0 => mq_getR rfl h0,
   fun _ _ _ h0 => mq_getI rfl h0,
   fun _ _ => mq_ri rfl,
   fun _ _ _ => mq_al (i := 0) rfl rfl,
   fun _ _ h0 => mq_cVr (na := 0) rfl rfl (Nat.le_of_ble_eq_true rfl) (Nat.le_of_ble_eq_true rfl) h0,
   fun _ _ => mq_ri rfl,
   fun _ _ _ => mq_al (i := 0) rfl rfl,
   fun _ _ _ h0 => mq_getR rfl h0,
   fun _ _ _ h0 => mq_getI rfl h0,
   fun _ _ => mq_ri rfl,
   fun _ _ => mq_push rfl,
   fun _ _ => mq_ri rfl⟩
theorem eX11_count (d n : Nat) (I L : mm_I) (P : mm_P) (x0 : Option Nat) (x1 : Int) : mm_rn (d + 1) 144 [.inr (.inr x0), .inl x1] n I L P = mm_E d 144 0 [.inr (.inr x0), .inl x1] [] [] n I L P := rfl

set_option maxRecDepth 20000 in
set_option maxHeartbeats 8000000 in
theorem kX11_nextLaw (d n : Nat) (I L : mm_I) (P : mm_P) :
  (∀ (st : List mm_V) z, mm_E d 289 0 [(.inr (.inr z))] [] st n I L P = mm_E d 289 1 [(.inr (.inr z))] [] ((.inr (.inr z)) :: st) n I L P) ∧
  (∀ (lv : List mm_V) (st : List mm_V) a, (mm_ok n a 11) → mm_E d 289 1 lv [] (.inr (.inr (some a)) :: st) n I L P = mm_E d 289 4 lv [] (.inr (.inr (P a 4)) :: st) n I L P) ∧
  (∀ (st : List mm_V) z, mm_E d 289 4 [(.inr (.inr z))] [] st n I L P = mm_E d 289 5 [(.inr (.inr z))] [] ((.inr (.inr z)) :: st) n I L P) ∧
  (∀ (lv : List mm_V) (st : List mm_V) a, (mm_ok n a 11) → mm_E d 289 5 lv [] (.inr (.inr (some a)) :: st) n I L P = mm_E d 289 8 lv [] (.inl (I a 5) :: st) n I L P) ∧
  (∀ (lv : List mm_V) (st : List mm_V), mm_E d 289 8 lv [] st n I L P = mm_E d 289 9 lv [] (.inl 4 :: st) n I L P) ∧
  (∀ (lv : List mm_V) x0 x1 w0, mm_E d 289 9 lv [] (.inl x1 :: .inl x0 :: [.inr (.inr w0)]) n I L P = mm_kr d 289 12 lv [] [.inr (.inr w0)] n (mm_rn d 267 [.inl x0, .inl x1] n I L P)) ∧
  (∀ (lv : List mm_V) (st : List mm_V) a i, (mm_ix n a 24 i) → mm_E d 289 12 lv [] (.inl i :: .inr (.inr (some a)) :: st) n I L P = mm_E d 289 13 lv [] (.inr (.inr (P a i.toNat)) :: st) n I L P) ∧
  (∀ (lv : List mm_V) z, mm_E d 289 13 lv [] [.inr (.inr z)] n I L P = some (some (.inr (.inr z)), n, I, L, P)) :=
  ⟨fun _ _ => mq_al (i := 0) rfl rfl,
   fun _ _ _ h0 => mq_getR rfl h0,
   fun _ _ => mq_al (i := 0) rfl rfl,
   fun _ _ _ h0 => mq_getI rfl h0,
   fun _ _ => mq_push rfl,
   fun _ _ _ _ => mq_cSr (na := 2) rfl (Nat.le_of_ble_eq_true rfl) (Nat.le_of_ble_eq_true rfl),
   fun _ _ _ _ h0 => mq_aald rfl h0,
   fun _ _ => mq_ra rfl⟩
theorem eX11_nextLaw (d n : Nat) (I L : mm_I) (P : mm_P) (x0 : Option Nat) : mm_rn (d + 1) 289 [.inr (.inr x0)] n I L P = mm_E d 289 0 [.inr (.inr x0)] [] [] n I L P := rfl
