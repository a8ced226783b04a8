/-! towns: the items of one clause, both readers at once -/
abbrev zio : Type := Sum Nat (Nat × (Nat → Int))
def zcn (b : Nat) : Nat := (if Nat.testBit b 0 = true then 1 else 0) + (if Nat.testBit b 1 = true then 1 else 0) + (if Nat.testBit b 2 = true then 1 else 0)
theorem zcn_up : ∀ q, q < 3 → ∀ b, b < 2 ^ zM q → zcn b ≤ zM q ∧ b < 8 ∧ ∀ k, k < zM q → Nat.testBit b k = false → b + 2 ^ k < 2 ^ zM q ∧ zcn (b + 2 ^ k) = zcn b + 1 := by decide +kernel
theorem zcn_bt : ∀ q, q < 3 → ∀ b, b < 8 → ∀ k, k < 3 → mm_and (mm_shr ((b * 2 ^ zF q : Nat) : Int) ((zF q + k : Nat) : Int)) 1 = (if Nat.testBit b k = true then 1 else 0) ∧ (Nat.testBit b k = false → mm_or ((b * 2 ^ zF q : Nat) : Int) (mm_shl 1 ((zF q + k : Nat) : Int)) = (((b + 2 ^ k) * 2 ^ zF q : Nat) : Int)) := by decide +kernel
def zir : zio → Int
  | .inl _ => 0
  | .inr _ => 1
def zig (T : Nat → Int) (S q i : Nat) : zio → Prop
  | .inl p => p ≤ S
  | .inr r => i ≤ r.1 ∧ zk T S r.1 r.1 ∧ zi q (zp T S r.1) = -1 ∧ ∀ k, k < zM q → zql q k ≤ r.2 k ∧ r.2 k ≤ zqh q k
def zic (q : Nat) (I' : mm_I) : zio → Prop
  | .inl p => I' 1 2 = (p : Int)
  | .inr r => I' 1 2 = (r.1 : Int) ∧ ∀ k, k < zM q → I' 4 (zF q + k) = r.2 k
def ziF (I I' : mm_I) : Prop := (∀ b, b ≠ 1 → b ≠ 4 → I' b = I b) ∧ (∀ k, k ≠ 2 → I' 1 k = I 1 k)
theorem ziF.refl (I : mm_I) : ziF I I := ⟨fun _ _ _ => rfl, fun _ _ => rfl⟩
theorem ziF.tr {I J K : mm_I} (h : ziF I J) (h2 : ziF J K) : ziF I K := ⟨fun b h3 h4 => by rw [h2.1 b h3 h4, h.1 b h3 h4], fun k hk => by rw [h2.2 k hk, h.2 k hk]⟩
theorem ziF.at {I J : mm_I} {z : Int} (h : ziF I J) : ziF I (mm_ui J 1 2 z) := ⟨fun b h3 h4 => by rw [nb_ui_r h3]; exact h.1 b h3 h4, fun k hk => by rw [nb_ui_k hk]; exact h.2 k hk⟩
theorem ziF.it {I J : mm_I} {k : Nat} {z : Int} (h : ziF I J) : ziF I (mm_ui J 4 k z) := ⟨fun b h3 h4 => by rw [nb_ui_r h4]; exact h.1 b h3 h4, fun k hk => by rw [nb_ui_a (by decide)]; exact h.2 k hk⟩
theorem ziF.zc {n : Nat} {P : mm_P} {S : Nat} {T : Nat → Int} {I J : mm_I} (h : ziF I J) (hz : zc n P I T S) : zc n P J T S := by
  obtain ⟨a1, a2, a3, a4, a5, a6⟩ := hz
  exact ⟨a1, a2, by rw [h.2 1 (by decide)]; exact a3, a4, fun i hi => by rw [h.1 2 (by decide) (by decide)]; exact a5 i hi, a6⟩
theorem ziF.zS {I J : mm_I} (h : ziF I J) (hz : zS I) : zS J := hz.fr (fun b h1 h2 => h.1 b (by omega) (by omega))
def zjF (ρ f m : Nat) (I I' : mm_I) : Prop := (∀ b, b ≠ 239 → b ≠ ρ → I' b = I b) ∧ (∀ k, k ≠ 3 → k ≠ 4 → I' 239 k = I 239 k) ∧ (∀ k, (k < f ∨ f + m ≤ k) → I' ρ k = I ρ k)
theorem zjF.refl (ρ f m : Nat) (I : mm_I) : zjF ρ f m I I := ⟨fun _ _ _ => rfl, fun _ _ _ => rfl, fun _ _ => rfl⟩
theorem zjF.tr {ρ f m : Nat} {I J K : mm_I} (h : zjF ρ f m I J) (h2 : zjF ρ f m J K) : zjF ρ f m I K := ⟨fun b h3 h4 => by rw [h2.1 b h3 h4, h.1 b h3 h4], fun k hk h4 => by rw [h2.2.1 k hk h4, h.2.1 k hk h4], fun k hk => by rw [h2.2.2 k hk, h.2.2 k hk]⟩
theorem zjF.at {ρ f m k : Nat} {I J : mm_I} {z : Int} (hr : 250 ≤ ρ) (h : zjF ρ f m I J) (hk : k = 3 ∨ k = 4) : zjF ρ f m I (mm_ui J 239 k z) := ⟨fun b h3 h4 => by rw [nb_ui_r h3]; exact h.1 b h3 h4, fun k h3 h4 => by rw [nb_ui_k (by omega)]; exact h.2.1 k h3 h4, fun k hk => by rw [nb_ui_a (by omega)]; exact h.2.2 k hk⟩
theorem zjF.it {ρ f m k : Nat} {I J : mm_I} {z : Int} (hr : 250 ≤ ρ) (h : zjF ρ f m I J) (hk : k < m) : zjF ρ f m I (mm_ui J ρ (f + k) z) := ⟨fun b h3 h4 => by rw [nb_ui_r h4]; exact h.1 b h3 h4, fun k h3 h4 => by rw [nb_ui_a (by omega)]; exact h.2.1 k h3 h4, fun k hk => by rw [nb_ui_k (by omega)]; exact h.2.2 k hk⟩
theorem zjF.zm {n : Nat} {P : mm_P} {ρ f m S : Nat} {T : Nat → Int} {I J : mm_I} (hr : 250 ≤ ρ) (h : zjF ρ f m I J) (hz : zm n P I T S) : zm n P J T S := by
  obtain ⟨a1, a3, a4, a5, a6⟩ := hz
  exact ⟨a1, by rw [h.2.1 2 (by decide) (by decide)]; exact a3, a4, fun i hi => by rw [h.1 240 (by decide) (by omega)]; exact a5 i hi, a6⟩
def zim (T : Nat → Int) (S q ρ f : Nat) (I' : mm_I) : zio → Prop
  | .inl p => (I' 239 4 = (p : Int) ∧ ∃ t : Nat, t ≤ S ∧ I' 239 3 = (t : Int)) ∨ (I' 239 4 = -1 ∧ I' 239 3 = (p : Int) ∧ zk T S p p ∧ zp T S p ≠ 59 ∧ zp T S p ≠ -1)
  | .inr r => I' 239 3 = (r.1 : Int) ∧ I' 239 4 = -1 ∧ ∀ k, k < zM q → I' ρ (f + k) = r.2 k
section IT
variable {n S : Nat} {P : mm_P} {T : Nat → Int}
set_option maxHeartbeats 8000000 in
theorem zJ_itl {q : Nat} (hq : q < 3) (hS : S ≤ 240) (p3 : P 3 0 = some 4) : ∀ (m i j b : Nat) (u : Nat → Int), S - i < m → zk T S i j → b < 2 ^ zM q → (∀ k, k < zM q → zql q k ≤ u k ∧ u k ≤ zqh q k) → ∃ o : zio, zig T S q i o ∧
    (∀ (d : Nat) (I L : mm_I) (x : mm_V), 5 ≤ d → zS I → zc n P I T S → I 1 2 = (i : Int) → (∀ k, k < zM q → I 4 (zF q + k) = u k) → sq_X (some (.inl (zir o))) n L P (fun I' => ziF I I' ∧ zic q I' o) (mm_E d 77 6 [.inr (.inr (some 3)), .inr (.inr (some 1)), .inl ((zF q : Int)), .inl (((zF q + zM q : Nat) : Int)), .inl (((b * 2 ^ zF q : Nat) : Int)), .inl (((zF q + zcn b : Nat) : Int)), x] [] [] n I L P)) ∧
    (∀ (d : Nat) (P : mm_P) (I L : mm_I) (ρ f N : Nat), 5 ≤ d → zm n P I T S → I 239 3 = (j : Int) → I 239 4 = -1 → 250 ≤ ρ → ρ < n → mm_ty ρ = (20, N) → f + zM q ≤ N → N ≤ 24 → (∀ k, k < zM q → I ρ (f + k) = u k) → sq_X none n L P (fun I' => zjF ρ f (zM q) I I' ∧ zim T S q ρ f I' o) (mm_E d 183 41 [.inr (.inr (some 239)), .inl (zqc q), .inr (.inr (some ρ)), .inl ((f : Int)), .inl ((zM q : Int)), .inl ((b : Int)), .inl (zi q (zp T S j))] [] [] n I L P)) := by
  intro m
  induction m with
  | zero => intro i j b u h; omega
  | succ m ih =>
    intro i j b u hm hk hb hu
    have hFM := zFM hq
    obtain ⟨b1, b2, b3⟩ := zcn_up q hq b hb
    have hjS := hk.2.1
    have hij := hk.1
    by_cases hz : zi q (zp T S j) = -1
    · refine ⟨.inr (j, u), ⟨hij, zk_self hk, hz, hu⟩, fun d I L x hd hs hc hi h4 => ?_, fun d P I L ρ f N hd hzm hi hw r1 r2 r3 r4 r5 hu2 => ?_⟩
      · obtain ⟨e, rfl⟩ : ∃ e, d = e + 5 := ⟨d - 5, by omega⟩
        have hn := hc.1
        have hp := zc_peek (d := e + 4) (L := L) hc hk hi
        have hs := zt_items (d := e + 1) (n := n) (L := L) (P := P) (I := mm_ui I 1 2 (j : Int)) hq (zp T S j)
        rw [if_pos hz] at hs
        have c1 : ¬ ((zF q + zM q : Nat) : Int) < ((zF q + zcn b : Nat) : Int) := by omega
        rw [hX10_readItems_6]
        simp (disch := (first | assumption | omega | exact nb_ix (by omega) (by assumption) (by omega) (by omega) | exact nb_ix (by omega) rfl (by omega) (by omega) | exact nb_ok (by omega) rfl | decide)) only [kX10_readItems, hp, hs, ↓if_pos, ↓if_neg, nb_add, nb_sub, nb_mul, Int.toNat_natCast, mm_kr_s, mm_kv_s, if_pos, if_neg, sq_tn, Int.toNat_zero, Int.reduceToNat, Int.reduceNeg, Nat.reduceAdd, Int.reduceAdd, Int.reduceEq, Int.reduceLT, Int.reduceLE, Int.zero_add, nb_ui_s, nb_ui_k, nb_ui_a, sp_min, sp_max, sp_bits]
        refine sq_ret ⟨(ziF.refl I).at, ?_⟩
        exact ⟨by rw [nb_ui_s], fun k hk => by rw [nb_ui_a (by decide)]; exact h4 k hk⟩
      · have ok := hzm.1.ok
        rw [hz, hX12_items_41]
        simp (disch := (first | assumption | omega | exact nb_ix (by omega) (by assumption) (by omega) (by omega) | exact nb_ix (by omega) rfl (by omega) (by omega) | exact nb_ok (by omega) rfl | decide)) only [kX12_items, hw, ↓if_pos, ↓if_neg, nb_add, nb_sub, nb_mul, Int.toNat_natCast, mm_kr_s, mm_kv_s, if_pos, if_neg, sq_tn, Int.toNat_zero, Int.reduceToNat, Int.reduceNeg, Nat.reduceAdd, Int.reduceAdd, Int.reduceEq, Int.reduceLT, Int.reduceLE, Int.zero_add, nb_ui_s, nb_ui_k, nb_ui_a, sp_min, sp_max, sp_bits]
        exact sq_ret ⟨zjF.refl _ _ _ I, hi, hw, hu2⟩
    · obtain ⟨k, hkM, hzk⟩ := zi_lt hq _ hz
      have hno := zi_no hz
      obtain ⟨bt1, bt2⟩ := zcn_bt q hq b b2 k (by omega)
      have hjlt : j < S := zp_S rfl hno.2.1
      by_cases htb : Nat.testBit b k = true
      · rw [if_pos htb] at bt1
        refine ⟨.inl j, hjS, fun d I L x hd hs hc hi h4 => ?_, fun d P I L ρ f N hd hzm hi hw r1 r2 r3 r4 r5 hu2 => ?_⟩
        · obtain ⟨e, rfl⟩ : ∃ e, d = e + 5 := ⟨d - 5, by omega⟩
          have hn := hc.1
          have hp := zc_peek (d := e + 4) (L := L) hc hk hi
          have hs := zt_items (d := e + 1) (n := n) (L := L) (P := P) (I := mm_ui I 1 2 (j : Int)) hq (zp T S j)
          rw [if_neg hz, hzk, show (zF q : Int) + (k : Int) = ((zF q + k : Nat) : Int) by omega] at hs
          have c1 : ¬ ((zF q + zM q : Nat) : Int) < ((zF q + zcn b : Nat) : Int) := by omega
          have c2 : ¬ ((zF q + k : Nat) : Int) = -1 := by omega
          rw [hX10_readItems_6]
          simp (disch := (first | assumption | omega | exact nb_ix (by omega) (by assumption) (by omega) (by omega) | exact nb_ix (by omega) rfl (by omega) (by omega) | exact nb_ok (by omega) rfl | decide)) only [kX10_readItems, hp, hs, bt1, ↓if_pos, ↓if_neg, nb_add, nb_sub, nb_mul, Int.toNat_natCast, mm_kr_s, mm_kv_s, if_pos, if_neg, sq_tn, Int.toNat_zero, Int.reduceToNat, Int.reduceNeg, Nat.reduceAdd, Int.reduceAdd, Int.reduceEq, Int.reduceLT, Int.reduceLE, Int.zero_add, nb_ui_s, nb_ui_k, nb_ui_a, sp_min, sp_max, sp_bits]
          refine sq_ret ⟨(ziF.refl I).at, ?_⟩
          exact nb_ui_s
        · obtain ⟨e, rfl⟩ : ∃ e, d = e + 5 := ⟨d - 5, by omega⟩
          have ok := hzm.1.ok
          have hh : mm_rn (e + 5) 146 [.inl ((b : Int)), .inl ((k : Int))] n I L P = _ := sp_mhas (by omega) (by omega)
          rw [if_pos htb] at hh
          have c2 : ¬ (k : Int) = -1 := by omega
          rw [hzk, hX12_items_41]
          simp (disch := (first | assumption | omega | exact nb_ix (by omega) (by assumption) (by omega) (by omega) | exact nb_ix (by omega) rfl (by omega) (by omega) | exact nb_ok (by omega) rfl | decide)) only [kX12_items, hw, hh, ↓if_pos, ↓if_neg, nb_add, nb_sub, nb_mul, Int.toNat_natCast, mm_kr_s, mm_kv_s, if_pos, if_neg, sq_tn, Int.toNat_zero, Int.reduceToNat, Int.reduceNeg, Nat.reduceAdd, Int.reduceAdd, Int.reduceEq, Int.reduceLT, Int.reduceLE, Int.zero_add, nb_ui_s, nb_ui_k, nb_ui_a, sp_min, sp_max, sp_bits]
          exact sq_ret ⟨zjF.refl _ _ _ I, Or.inr ⟨hw, hi, zk_self hk, hno.1, hno.2.1⟩⟩
      · have htb2 : Nat.testBit b k = false := by simpa using htb
        rw [if_neg htb] at bt1
        have bt3 := bt2 htb2
        obtain ⟨b4, b5⟩ := b3 k hkM htb2
        obtain ⟨j2, hk2⟩ := zk_ex (T := T) (S := S) (S - (j + 1)) (j + 1) rfl (by omega)
        obtain ⟨m2, hm2, hd2, hd3⟩ := zd_ex T S j2 2
        have hle := zn_le (lo := zql q k) (hi := zqh q k) hk2.2.1 hd2
        -- what both do up to the number
        have hcls : ∀ (d : Nat) (I L : mm_I) (x : mm_V), 5 ≤ d → zS I → zc n P I T S → I 1 2 = (i : Int) → mm_E d 77 6 [.inr (.inr (some 3)), .inr (.inr (some 1)), .inl ((zF q : Int)), .inl (((zF q + zM q : Nat) : Int)), .inl (((b * 2 ^ zF q : Nat) : Int)), .inl (((zF q + zcn b : Nat) : Int)), x] [] [] n I L P = mm_E d 77 72 [.inr (.inr (some 3)), .inr (.inr (some 1)), .inl ((zF q : Int)), .inl (((zF q + zM q : Nat) : Int)), .inl ((((b + 2 ^ k) * 2 ^ zF q : Nat) : Int)), .inl (((zF q + zcn b : Nat) : Int)), .inl (((zF q + k : Nat) : Int))] [] [.inl (znr (znum T S j2 m2 (zql q k) (zqh q k)))] n (znI (mm_ui I 1 2 ((j + 1 : Nat) : Int)) (zF q + k) (znum T S j2 m2 (zql q k) (zqh q k))) L P := by
          intro d I L x hd hs0 hc hi
          obtain ⟨e, rfl⟩ : ∃ e, d = e + 5 := ⟨d - 5, by omega⟩
          have hn := hc.1
          have hp := zc_peek (d := e + 4) (L := L) hc hk hi
          have hs := zt_items (d := e + 1) (n := n) (L := L) (P := P) (I := mm_ui I 1 2 (j : Int)) hq (zp T S j)
          rw [if_neg hz, hzk, show (zF q : Int) + (k : Int) = ((zF q + k : Nat) : Int) by omega] at hs
          have c1 : ¬ ((zF q + zM q : Nat) : Int) < ((zF q + zcn b : Nat) : Int) := by omega
          have c2 : ¬ ((zF q + k : Nat) : Int) = -1 := by omega
          have e1 : (j : Int) + 1 = ((j + 1 : Nat) : Int) := by omega
          have f1 : ziF I (mm_ui I 1 2 ((j + 1 : Nat) : Int)) := (ziF.refl I).at
          have hnum := zt_cnum (d := e + 2) (L := L) (f1.zS hs0) hq hkM (f1.zc hc) p3 hk2 (by rw [nb_ui_s]) hm2 hd2 hd3
          rw [hX10_readItems_6]
          simp (disch := (first | assumption | omega | exact nb_ix (by omega) (by assumption) (by omega) (by omega) | exact nb_ix (by omega) rfl (by omega) (by omega) | exact nb_ok (by omega) rfl | decide)) only [kX10_readItems, hp, hs, bt1, bt3, e1, nb_ui_2, hnum, ↓if_pos, ↓if_neg, nb_add, nb_sub, nb_mul, Int.toNat_natCast, mm_kr_s, mm_kv_s, if_pos, if_neg, sq_tn, Int.toNat_zero, Int.reduceToNat, Int.reduceNeg, Nat.reduceAdd, Int.reduceAdd, Int.reduceEq, Int.reduceLT, Int.reduceLE, Int.zero_add, nb_ui_s, nb_ui_k, nb_ui_a, sp_min, sp_max, sp_bits]
          done
        have hmod : ∀ (d : Nat) (P : mm_P) (I L : mm_I) (ρ f N : Nat), 5 ≤ d → zm n P I T S → I 239 3 = (j : Int) → I 239 4 = -1 → 250 ≤ ρ → ρ < n → mm_ty ρ = (20, N) → f + zM q ≤ N → N ≤ 24 → ∃ r : Int, (∀ p, znum T S j2 m2 (zql q k) (zqh q k) = .inr p → r = p.2) ∧ mm_E d 183 41 [.inr (.inr (some 239)), .inl (zqc q), .inr (.inr (some ρ)), .inl ((f : Int)), .inl ((zM q : Int)), .inl ((b : Int)), .inl (zi q (zp T S j))] [] [] n I L P = mm_E d 183 106 [.inr (.inr (some 239)), .inl (zqc q), .inr (.inr (some ρ)), .inl ((f : Int)), .inl ((zM q : Int)), .inl (((b + 2 ^ k : Nat) : Int)), .inl ((k : Int))] [] [] n (mm_ui (mm_ui (mm_ui I 239 3 (zna (znum T S j2 m2 (zql q k) (zqh q k)) : Int)) 239 4 (znw (znum T S j2 m2 (zql q k) (zqh q k)))) ρ (f + k) r) L P := by
          intro d P I L ρ f N hd hzm hi hw r1 r2 r3 r4 r5
          obtain ⟨e, rfl⟩ : ∃ e, d = e + 5 := ⟨d - 5, by omega⟩
          have ok := hzm.1.ok
          have hh : mm_rn (e + 5) 146 [.inl ((b : Int)), .inl ((k : Int))] n I L P = _ := sp_mhas (by omega) (by omega)
          rw [if_neg htb] at hh
          have c2 : ¬ (k : Int) = -1 := by omega
          have e1 : (j : Int) + 1 = ((j + 1 : Nat) : Int) := by omega
          have hor := nb_set0 b (by omega) k (by omega)
          rw [if_neg htb] at hor
          have hl1 : mm_rn (e + 5) 180 [.inl (zqc q), .inl ((k : Int))] n (mm_ui I 239 3 ((j + 1 : Nat) : Int)) L P = _ := zt_lowest hq hkM
          have hl2 : mm_rn (e + 5) 181 [.inl (zqc q), .inl ((k : Int))] n (mm_ui I 239 3 ((j + 1 : Nat) : Int)) L P = _ := zt_highest hq hkM
          have f1 : zjF ρ f (zM q) I (mm_ui I 239 3 ((j + 1 : Nat) : Int)) := (zjF.refl _ _ _ I).at r1 (Or.inl rfl)
          obtain ⟨r, hr1, hr2⟩ := zt_mnum (d := e + 2) (L := L) (lo := zql q k) (hi := zqh q k) (f1.zm r1 hzm) hk2 (by rw [nb_ui_s]) (by rw [nb_ui_k (by decide)]; exact hw) hm2 hd2 hd3
          rw [nb_ui_2] at hr1
          have e2 : (f : Int) + (k : Int) = ((f + k : Nat) : Int) := by omega
          have hix : mm_ix n ρ 20 ((f + k : Nat) : Int) := nb_ix r2 r3 (by omega) (by omega)
          refine ⟨r, hr2, ?_⟩
          rw [hzk, hX12_items_41]
          simp (disch := (first | assumption | omega | exact nb_ix (by omega) (by assumption) (by omega) (by omega) | exact nb_ix (by omega) rfl (by omega) (by omega) | exact nb_ok (by omega) rfl | decide)) only [kX12_items, hw, hh, hi, hor, e1, hl1, hl2, hr1, e2, ↓if_pos, ↓if_neg, nb_add, nb_sub, nb_mul, Int.toNat_natCast, mm_kr_s, mm_kv_s, if_pos, if_neg, sq_tn, Int.toNat_zero, Int.reduceToNat, Int.reduceNeg, Nat.reduceAdd, Int.reduceAdd, Int.reduceEq, Int.reduceLT, Int.reduceLE, Int.zero_add, nb_ui_s, nb_ui_k, nb_ui_a, sp_min, sp_max, sp_bits]
          done
        revert hcls hmod hle
        generalize ho2 : znum T S j2 m2 (zql q k) (zqh q k) = o2
        intro hle hcls hmod
        cases o2 with
        | inl p =>
          refine ⟨.inl p, hle, fun d I L x hd hs0 hc hi h4 => ?_, fun d P I L ρ f N hd hzm hi hw r1 r2 r3 r4 r5 hu2 => ?_⟩
          · rw [hcls d I L x hd hs0 hc hi]
            have e0 : znr (Sum.inl p : zno) = 0 := rfl
            simp (disch := (first | assumption | omega | exact nb_ix (by omega) (by assumption) (by omega) (by omega) | exact nb_ix (by omega) rfl (by omega) (by omega) | exact nb_ok (by omega) rfl | decide)) only [kX10_readItems, e0, ↓if_pos, ↓if_neg, nb_add, nb_sub, nb_mul, Int.toNat_natCast, mm_kr_s, mm_kv_s, if_pos, if_neg, sq_tn, Int.toNat_zero, Int.reduceToNat, Int.reduceNeg, Nat.reduceAdd, Int.reduceAdd, Int.reduceEq, Int.reduceLT, Int.reduceLE, Int.zero_add, nb_ui_s, nb_ui_k, nb_ui_a, sp_min, sp_max, sp_bits]
            exact sq_ret ⟨((ziF.refl I).at).at, nb_ui_s⟩
          · obtain ⟨r, -, hr⟩ := hmod d P I L ρ f N hd hzm hi hw r1 r2 r3 r4 r5
            rw [hr]
            have ok := hzm.1.ok
            have e0 : znw (Sum.inl p : zno) = (p : Int) := rfl
            have e1 : zna (Sum.inl p : zno) = p := rfl
            have c1 : ¬ (p : Int) = -1 := by omega
            rw [e0, e1]
            simp (disch := (first | assumption | omega | exact nb_ix (by omega) (by assumption) (by omega) (by omega) | exact nb_ix (by omega) rfl (by omega) (by omega) | exact nb_ok (by omega) rfl | decide)) only [kX12_items, ↓if_pos, ↓if_neg, nb_add, nb_sub, nb_mul, Int.toNat_natCast, mm_kr_s, mm_kv_s, if_pos, if_neg, sq_tn, Int.toNat_zero, Int.reduceToNat, Int.reduceNeg, Nat.reduceAdd, Int.reduceAdd, Int.reduceEq, Int.reduceLT, Int.reduceLE, Int.zero_add, nb_ui_s, nb_ui_k, nb_ui_a, sp_min, sp_max, sp_bits]
            rw [hX12_items_41]
            simp (disch := (first | assumption | omega | exact nb_ix (by omega) (by assumption) (by omega) (by omega) | exact nb_ix (by omega) rfl (by omega) (by omega) | exact nb_ok (by omega) rfl | decide)) only [kX12_items, ↓if_pos, ↓if_neg, nb_add, nb_sub, nb_mul, Int.toNat_natCast, mm_kr_s, mm_kv_s, if_pos, if_neg, sq_tn, Int.toNat_zero, Int.reduceToNat, Int.reduceNeg, Nat.reduceAdd, Int.reduceAdd, Int.reduceEq, Int.reduceLT, Int.reduceLE, Int.zero_add, nb_ui_s, nb_ui_k, nb_ui_a, sp_min, sp_max, sp_bits]
            refine sq_ret ⟨(((zjF.refl _ _ _ I).at r1 (Or.inl rfl)).at r1 (Or.inr rfl)).it r1 hkM, Or.inl ⟨?_, p, hle, ?_⟩⟩
            · rw [nb_ui_a (by omega), nb_ui_s]
            · rw [nb_ui_a (by omega), nb_ui_k (by decide), nb_ui_s]
        | inr pv =>
          obtain ⟨i2, v⟩ := pv
          have hv : i < i2 ∧ i2 ≤ S ∧ zql q k ≤ v ∧ v ≤ zqh q k := by
            have h1 := hk2.1
            have h2 : i2 ≤ S := hle
            unfold znum at ho2
            split at ho2
            · cases ho2
            · split at ho2
              · rename_i w
                cases ho2
                exact ⟨by omega, h2, w.1, w.2⟩
              · cases ho2
          obtain ⟨j3, hk3⟩ := zk_ex (T := T) (S := S) (S - i2) i2 rfl hv.2.1
          obtain ⟨o, og, oc, om⟩ := ih i2 j3 (b + 2 ^ k) (fun a => if a = k then v else u a) (by omega) hk3 b4 (fun a ha => by
            by_cases e : a = k
            · subst e; simp only [if_true]; exact hv.2.2
            · simp only [e, if_false]; exact hu a ha)
          refine ⟨o, ?_, fun d I L x hd hs0 hc hi h4 => ?_, fun d P I L ρ f N hd hzm hi hw r1 r2 r3 r4 r5 hu2 => ?_⟩
          · cases o with
            | inl p => exact og
            | inr r => exact ⟨by have := og.1; omega, og.2⟩
          · rw [hcls d I L x hd hs0 hc hi]
            have e0 : znr (Sum.inr (i2, v) : zno) = 1 := rfl
            have e1 : ((zF q + zcn b : Nat) : Int) + 1 = ((zF q + zcn (b + 2 ^ k) : Nat) : Int) := by rw [b5]; omega
            simp (disch := (first | assumption | omega | exact nb_ix (by omega) (by assumption) (by omega) (by omega) | exact nb_ix (by omega) rfl (by omega) (by omega) | exact nb_ok (by omega) rfl | decide)) only [kX10_readItems, e0, e1, ↓if_pos, ↓if_neg, nb_add, nb_sub, nb_mul, Int.toNat_natCast, mm_kr_s, mm_kv_s, if_pos, if_neg, sq_tn, Int.toNat_zero, Int.reduceToNat, Int.reduceNeg, Nat.reduceAdd, Int.reduceAdd, Int.reduceEq, Int.reduceLT, Int.reduceLE, Int.zero_add, nb_ui_s, nb_ui_k, nb_ui_a, sp_min, sp_max, sp_bits]
            have fr : ziF I (znI (mm_ui I 1 2 ((j + 1 : Nat) : Int)) (zF q + k) (Sum.inr (i2, v) : zno)) := (((ziF.refl I).at).at).it
            refine sq_mono (oc d _ L _ hd (fr.zS hs0) (fr.zc hc) ?_ ?_) (fun I' hI => ⟨fr.tr hI.1, hI.2⟩)
            · show mm_ui (mm_ui _ 1 2 (i2 : Int)) 4 _ _ 1 2 = _
              rw [nb_ui_a (by decide), nb_ui_s]
            · intro a ha
              show mm_ui (mm_ui (mm_ui I 1 2 _) 1 2 (i2 : Int)) 4 (zF q + k) v 4 (zF q + a) = _
              by_cases e : a = k
              · subst e; rw [nb_ui_s]; simp
              · rw [nb_ui_k (by omega), nb_ui_a (by decide), nb_ui_a (by decide), h4 a ha]; simp [e]
          · obtain ⟨r, hrv, hr⟩ := hmod d P I L ρ f N hd hzm hi hw r1 r2 r3 r4 r5
            rw [hr, hrv _ rfl]
            obtain ⟨e, rfl⟩ : ∃ e, d = e + 5 := ⟨d - 5, by omega⟩
            have ok := hzm.1.ok
            have e0 : znw (Sum.inr (i2, v) : zno) = -1 := rfl
            have e1 : zna (Sum.inr (i2, v) : zno) = i2 := rfl
            rw [e0, e1]
            show sq_X none n L P _ (mm_E (e + 5) 183 106 _ [] [] n (mm_ui (mm_ui (mm_ui I 239 3 (i2 : Int)) 239 4 (-1)) ρ (f + k) v) L P)
            have fr : zjF ρ f (zM q) I (mm_ui (mm_ui (mm_ui I 239 3 (i2 : Int)) 239 4 (-1)) ρ (f + k) v) := (((zjF.refl _ _ _ I).at r1 (Or.inl rfl)).at r1 (Or.inr rfl)).it r1 hkM
            have g4 : mm_ui (mm_ui (mm_ui I 239 3 (i2 : Int)) 239 4 (-1)) ρ (f + k) v 239 4 = -1 := by rw [nb_ui_a (by omega), nb_ui_s]
            have g3 : mm_ui (mm_ui (mm_ui I 239 3 (i2 : Int)) 239 4 (-1)) ρ (f + k) v 239 3 = (i2 : Int) := by rw [nb_ui_a (by omega), nb_ui_k (by decide), nb_ui_s]
            have gr : ∀ a, a < zM q → mm_ui (mm_ui (mm_ui I 239 3 (i2 : Int)) 239 4 (-1)) ρ (f + k) v ρ (f + a) = if a = k then v else u a := by
              intro a ha
              by_cases e : a = k
              · subst e; rw [nb_ui_s]; simp
              · rw [nb_ui_k (by omega), nb_ui_a (by omega), nb_ui_a (by omega), hu2 a ha]; simp [e]
            revert fr g4 g3 gr
            generalize mm_ui (mm_ui (mm_ui I 239 3 (i2 : Int)) 239 4 (-1)) ρ (f + k) v = J
            intro fr g4 g3 gr
            have hl := zm_look (d := e + 3) (L := L) (fr.zm r1 hzm) hk3 g3
            have ht : mm_rn (e + 5) 179 [.inl (zqc q), .inl (zp T S j3)] n (mm_ui J 239 3 (j3 : Int)) L P = _ := zt_itemOf hq _
            simp (disch := (first | assumption | omega | exact nb_ix (by omega) (by assumption) (by omega) (by omega) | exact nb_ix (by omega) rfl (by omega) (by omega) | exact nb_ok (by omega) rfl | decide)) only [kX12_items, g4, hl, ht, ↓if_pos, ↓if_neg, nb_add, nb_sub, nb_mul, Int.toNat_natCast, mm_kr_s, mm_kv_s, if_pos, if_neg, sq_tn, Int.toNat_zero, Int.reduceToNat, Int.reduceNeg, Nat.reduceAdd, Int.reduceAdd, Int.reduceEq, Int.reduceLT, Int.reduceLE, Int.zero_add, nb_ui_s, nb_ui_k, nb_ui_a, sp_min, sp_max, sp_bits]
            have fr2 : zjF ρ f (zM q) I (mm_ui J 239 3 (j3 : Int)) := fr.at r1 (Or.inl rfl)
            refine sq_mono (om (e + 5) P _ L ρ f N hd (fr2.zm r1 hzm) (by rw [nb_ui_s]) (by rw [nb_ui_k (by decide)]; exact g4) r1 r2 r3 r4 r5 (fun a ha => by rw [nb_ui_a (by omega)]; exact gr a ha)) (fun I' hI => ⟨fr2.tr hI.1, hI.2⟩)
end IT
