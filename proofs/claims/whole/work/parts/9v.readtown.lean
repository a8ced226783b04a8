/-! towns: both readers of a town come to one outcome -/
abbrev zro : Type := Sum Nat ((Nat → Int) × Nat × (Nat → Int) × Nat × (Nat → Int))
def zrr : zro → Int
  | .inl _ => 0
  | .inr _ => 1
def zrm : zro → Int
  | .inl p => (p : Int)
  | .inr _ => -1
def zrg : zro → Prop
  | .inl _ => True
  | .inr (ru, np, pl, nl, la) => zts ru 0 np pl nl la ∧ zwh np nl la
def zrc (t : Nat) (I' : mm_I) : zro → Prop
  | .inl p => I' 1 2 = (p : Int)
  | .inr (ru, np, pl, nl, la) => zTd t I' ru np pl nl la
def zrt (I' : mm_I) : zro → Prop
  | .inl _ => True
  | .inr (ru, np, pl, nl, la) => zTm I' ru np pl nl la
theorem zFc.fr {t : Nat} {I J K : mm_I} (ht : 7 ≤ t) (h : zFc t I J) (h2 : sq_fr [t + 3, t + 4, t + 5] J K) : zFc t I K := ⟨fun b hb => by
    unfold zUl at hb
    simp only [List.mem_cons, List.not_mem_nil, or_false, not_or] at hb
    rw [h2 b (by simp only [List.mem_cons, List.not_mem_nil, or_false, not_or]; omega)]
    exact h.1 b (by unfold zUl; simp only [List.mem_cons, List.not_mem_nil, or_false, not_or]; omega), fun k hk => by
    rw [h2 1 (by simp only [List.mem_cons, List.not_mem_nil, or_false, not_or]; omega)]
    exact h.2 k hk⟩
section RT
variable {n S t : Nat} {P : mm_P} {T : Nat → Int}
/-- the model behind a fault in a clause -/
theorem zU_mf {d p : Nat} {I L : mm_I} {w : Int} {y : mm_V} (hz : zm n P I T S) (hb : zub T S I p) : sq_X (some (.inl ((p : Int)))) n L P (fun I' => zFm I I') (mm_E (d + 4) 185 214 [.inr (.inr (some 239)), .inl w, .inl 1, y] [] [] n I L P) := by
  have ok := hz.1.ok
  have hS := hz.2.2.1
  rcases hb with ⟨h4, t0, ht, h3⟩ | ⟨h4, h3, hk, hc, hc2⟩
  · have c1 : ¬ (p : Int) = -1 := by omega
    have e0 : (t0 : Int) + 0 = (t0 : Int) := by omega
    simp (disch := (first | assumption | omega | exact nb_ix (by omega) (by assumption) (by omega) (by omega) | exact nb_ix (by omega) rfl (by omega) (by omega) | exact nb_ok (by omega) rfl | decide)) only [kX12_readTown, h4, h3, e0, ↓if_pos, ↓if_neg, nb_add, nb_sub, nb_mul, Int.toNat_natCast, mm_kr_s, mm_kv_s, if_pos, if_neg, sq_tn, Int.toNat_zero, Int.reduceToNat, Int.reduceNeg, Nat.reduceAdd, Int.reduceAdd, Int.reduceEq, Int.reduceLT, Int.reduceLE, Int.zero_add, nb_ui_s, nb_ui_k, nb_ui_a, sp_min, sp_max, sp_bits]
    rw [hX12_readTown_49]
    simp (disch := (first | assumption | omega | exact nb_ix (by omega) (by assumption) (by omega) (by omega) | exact nb_ix (by omega) rfl (by omega) (by omega) | exact nb_ok (by omega) rfl | decide)) only [kX12_readTown, h4, ↓if_pos, ↓if_neg, nb_add, nb_sub, nb_mul, Int.toNat_natCast, mm_kr_s, mm_kv_s, if_pos, if_neg, sq_tn, Int.toNat_zero, Int.reduceToNat, Int.reduceNeg, Nat.reduceAdd, Int.reduceAdd, Int.reduceEq, Int.reduceLT, Int.reduceLE, Int.zero_add, nb_ui_s, nb_ui_k, nb_ui_a, sp_min, sp_max, sp_bits]
    exact sq_ret ((zFm.refl I).up (Or.inl rfl))
  · have hpS := hk.2.1
    have hl := zm_look (d := d + 2) (L := L) hz hk h3
    rw [nb_ui_id h3] at hl
    have e0 : (p : Int) + 0 = (p : Int) := by omega
    have hbd := zm_bad (d := d + 3) (n := n) (L := L) (P := P) (I := I) (p := p) hz.1 h4 h3
    simp (disch := (first | assumption | omega | exact nb_ix (by omega) (by assumption) (by omega) (by omega) | exact nb_ix (by omega) rfl (by omega) (by omega) | exact nb_ok (by omega) rfl | decide)) only [kX12_readTown, h4, h3, hl, e0, ↓if_pos, ↓if_neg, nb_add, nb_sub, nb_mul, Int.toNat_natCast, mm_kr_s, mm_kv_s, if_pos, if_neg, sq_tn, Int.toNat_zero, Int.reduceToNat, Int.reduceNeg, Nat.reduceAdd, Int.reduceAdd, Int.reduceEq, Int.reduceLT, Int.reduceLE, Int.zero_add, nb_ui_s, nb_ui_k, nb_ui_a, sp_min, sp_max, sp_bits]
    rw [nb_ui_id h3, hX12_readTown_49]
    simp (disch := (first | assumption | omega | exact nb_ix (by omega) (by assumption) (by omega) (by omega) | exact nb_ix (by omega) rfl (by omega) (by omega) | exact nb_ok (by omega) rfl | decide)) only [kX12_readTown, h4, hl, hbd, ↓if_pos, ↓if_neg, nb_add, nb_sub, nb_mul, Int.toNat_natCast, mm_kr_s, mm_kv_s, if_pos, if_neg, sq_tn, Int.toNat_zero, Int.reduceToNat, Int.reduceNeg, Nat.reduceAdd, Int.reduceAdd, Int.reduceEq, Int.reduceLT, Int.reduceLE, Int.zero_add, nb_ui_s, nb_ui_k, nb_ui_a, sp_min, sp_max, sp_bits]
    exact sq_ret ((zFm.refl I).up (Or.inr (Or.inl rfl)))
set_option maxHeartbeats 8000000 in
theorem zU_loop (hT : sp_T n P t) (ht : 7 ≤ t) (ht2 : t ≤ 13) (p3 : P 3 0 = some 4 ∧ P 3 1 = some 5 ∧ P 3 2 = some 6) (hS : S ≤ 240) : ∀ (m i j : Nat) (ru pl la : Nat → Int) (rd np nl : Nat), S - i < m → zk T S i j → zts ru rd np pl nl la → ∃ o : zro, zrg o ∧
    (∀ (d : Nat) (I L : mm_I) (c : Nat), 10 ≤ d → zS I → zc n P I T S → I 1 2 = (i : Int) → c ≤ i → zTc t I ru rd np pl nl la → sq_X (some (.inl (zrr o))) n L P (fun I' => zFc t I I' ∧ zrc t I' o) (mm_E d 72 32 [.inr (.inr (some 3)), .inr (.inr (some 1)), .inr (.inr (some t)), .inl ((c : Int))] [] [] n I L P)) ∧
    (∀ (d : Nat) (P : mm_P) (I L : mm_I) (x : mm_V), 10 ≤ d → zm n P I T S → I 239 3 = (i : Int) → I 239 4 = -1 → zTm I ru np pl nl la → sq_X (some (.inl (zrm o))) n L P (fun I' => zFm I I' ∧ zrt I' o) (mm_E d 185 49 [.inr (.inr (some 239)), .inl ((rd : Int)), .inl 1, x] [] [] n I L P)) := by
  intro m
  induction m with
  | zero => intro i j ru pl la rd np nl h; omega
  | succ m ih =>
    intro i j ru pl la rd np nl hm hk hr
    have hi0 : i ≤ S := Nat.le_trans hk.1 hk.2.1
    obtain ⟨o1, og, oc, om⟩ := zU_clause (n := n) (t := t) hT ht ht2 p3 hS hk hr
    -- the class up to its clause
    have hcls : ∀ (d : Nat) (I L : mm_I) (c : Nat) (Q : mm_I → Prop) (r : Option mm_V), 10 ≤ d → zS I → zc n P I T S → I 1 2 = (i : Int) → c ≤ i → zTc t I ru rd np pl nl la → (∀ J, zFc t I J → zuc t J o1 → sq_X r n L P Q (mm_E d 72 45 [.inr (.inr (some 3)), .inr (.inr (some 1)), .inr (.inr (some t)), .inl ((c : Int))] [] [.inl (zur o1)] n J L P)) → sq_X r n L P Q (mm_E d 72 32 [.inr (.inr (some 3)), .inr (.inr (some 1)), .inr (.inr (some t)), .inl ((c : Int))] [] [] n I L P) := by
      intro d I L c Q r hd hs hc hi hci hTc nx
      have hn := hc.1
      have c1 : ¬ (240 : Int) < (c : Int) := by omega
      rw [hX10_readTown_32]
      simp (disch := (first | assumption | omega | exact nb_ix (by omega) (by assumption) (by omega) (by omega) | exact nb_ix (by omega) rfl (by omega) (by omega) | exact nb_ok (by omega) rfl | decide)) only [kX10_readTown, ↓if_pos, ↓if_neg, nb_add, nb_sub, nb_mul, Int.toNat_natCast, mm_kr_s, mm_kv_s, if_pos, if_neg, sq_tn, Int.toNat_zero, Int.reduceToNat, Int.reduceNeg, Nat.reduceAdd, Int.reduceAdd, Int.reduceEq, Int.reduceLT, Int.reduceLE, Int.zero_add, nb_ui_s, nb_ui_k, nb_ui_a, sp_min, sp_max, sp_bits]
      refine sq_kr (oc d I L (by omega) hs hc hi hTc) (fun J hJ => ?_)
      exact nx J hJ.1 hJ.2
    have hmod : ∀ (d : Nat) (P : mm_P) (I L : mm_I) (x : mm_V) (Q : mm_I → Prop) (r : Option mm_V), 10 ≤ d → zm n P I T S → I 239 3 = (i : Int) → I 239 4 = -1 → zTm I ru np pl nl la → (∀ (J : mm_I) (w : Int) (y : mm_V), zFm I J → zum T S J w o1 → sq_X r n L P Q (mm_E d 185 214 [.inr (.inr (some 239)), .inl w, .inl 1, y] [] [] n J L P)) → sq_X r n L P Q (mm_E d 185 49 [.inr (.inr (some 239)), .inl ((rd : Int)), .inl 1, x] [] [] n I L P) := by
      intro d P I L x Q r hd hz hi hw hTm nx
      have ok := hz.1.ok
      have st : mm_E d 185 49 [.inr (.inr (some 239)), .inl ((rd : Int)), .inl 1, x] [] [] n I L P = mm_E d 185 61 [.inr (.inr (some 239)), .inl ((rd : Int)), .inl 1, x] [] [] n I L P := by
        rw [hX12_readTown_49]
        simp (disch := (first | assumption | omega | exact nb_ix (by omega) (by assumption) (by omega) (by omega) | exact nb_ix (by omega) rfl (by omega) (by omega) | exact nb_ok (by omega) rfl | decide)) only [kX12_readTown, hw, ↓if_pos, ↓if_neg, nb_add, nb_sub, nb_mul, Int.toNat_natCast, mm_kr_s, mm_kv_s, if_pos, if_neg, sq_tn, Int.toNat_zero, Int.reduceToNat, Int.reduceNeg, Nat.reduceAdd, Int.reduceAdd, Int.reduceEq, Int.reduceLT, Int.reduceLE, Int.zero_add, nb_ui_s, nb_ui_k, nb_ui_a, sp_min, sp_max, sp_bits]
      rw [st]
      exact om d P I L x r Q (by omega) hz hi hw hTm nx
    cases o1 with
    | inl p =>
      refine ⟨.inl p, trivial, fun d I L c hd hs hc hi hci hTc => ?_, fun d P I L x hd hz hi hw hTm => ?_⟩
      · have hn := hc.1
        refine hcls d I L c _ _ hd hs hc hi hci hTc (fun J f hJ => ?_)
        have e0 : zur (Sum.inl p : zuo) = 0 := rfl
        simp (disch := (first | assumption | omega | exact nb_ix (by omega) (by assumption) (by omega) (by omega) | exact nb_ix (by omega) rfl (by omega) (by omega) | exact nb_ok (by omega) rfl | decide)) only [kX10_readTown, e0, ↓if_pos, ↓if_neg, nb_add, nb_sub, nb_mul, Int.toNat_natCast, mm_kr_s, mm_kv_s, if_pos, if_neg, sq_tn, Int.toNat_zero, Int.reduceToNat, Int.reduceNeg, Nat.reduceAdd, Int.reduceAdd, Int.reduceEq, Int.reduceLT, Int.reduceLE, Int.zero_add, nb_ui_s, nb_ui_k, nb_ui_a, sp_min, sp_max, sp_bits]
        exact sq_ret ⟨f, hJ⟩
      · refine hmod d P I L x _ _ hd hz hi hw hTm (fun J w y f hJ => ?_)
        obtain ⟨e, rfl⟩ : ∃ e, d = e + 4 := ⟨d - 4, by omega⟩
        exact sq_mono (zU_mf (f.zm hz) hJ) (fun K hK => ⟨f.tr hK, trivial⟩)
    | inr st =>
      obtain ⟨j1, ru', rd', np', pl', nl', la'⟩ := st
      obtain ⟨g1, g2, g3⟩ := og
      have hj1S := g2.2.1
      -- three ways on
      by_cases c59 : zp T S j1 = 59
      · have hlt : j1 < S := zp_S c59 (by decide)
        obtain ⟨j2, hk2⟩ := zk_ex (T := T) (S := S) (S - (j1 + 1)) (j1 + 1) rfl (by omega)
        obtain ⟨o, qg, qc, qm⟩ := ih (j1 + 1) j2 ru' pl' la' rd' np' nl' (by omega) hk2 g3
        refine ⟨o, qg, fun d I L c hd hs hc hi hci hTc => ?_, fun d P I L x hd hz hi hw hTm => ?_⟩
        · have hn := hc.1
          refine hcls d I L c _ _ hd hs hc hi hci hTc (fun J f hJ => ?_)
          obtain ⟨e, rfl⟩ : ∃ e, d = e + 4 := ⟨d - 4, by omega⟩
          obtain ⟨h1, h2⟩ := hJ
          have e0 : zur (Sum.inr (j1, ru', rd', np', pl', nl', la') : zuo) = 1 := rfl
          have hz1 := f.zc ht hc
          have hp := zc_peek (d := e + 3) (L := L) hz1 g2 h1
          rw [nb_ui_id h1, c59] at hp
          have hps := zc_pass1 (d := e + 2) (L := L) hz1 g2 h1 c59
          have c1 : ¬ (59 : Int) = -1 := by decide
          have e1 : (c : Int) + 1 = ((c + 1 : Nat) : Int) := by omega
          simp (disch := (first | assumption | omega | exact nb_ix (by omega) (by assumption) (by omega) (by omega) | exact nb_ix (by omega) rfl (by omega) (by omega) | exact nb_ok (by omega) rfl | decide)) only [kX10_readTown, e0, hp, hps, e1, ↓if_pos, ↓if_neg, nb_add, nb_sub, nb_mul, Int.toNat_natCast, mm_kr_s, mm_kv_s, if_pos, if_neg, sq_tn, Int.toNat_zero, Int.reduceToNat, Int.reduceNeg, Nat.reduceAdd, Int.reduceAdd, Int.reduceEq, Int.reduceLT, Int.reduceLE, Int.zero_add, nb_ui_s, nb_ui_k, nb_ui_a, sp_min, sp_max, sp_bits]
          have f2 : zFc t I (mm_ui J 1 2 ((j1 + 1 : Nat) : Int)) := f.at
          refine sq_mono (qc (e + 4) _ L (c + 1) hd (f2.zS ht2 hs) (f2.zc ht hc) nb_ui_s (by omega) ?_) (fun K hK => ⟨f2.tr hK.1, hK.2⟩)
          obtain ⟨k1, k2, k3, k4, k5, k6, k7, k8⟩ := h2
          refine ⟨?_, ?_, ?_, ?_, ?_, ?_, fun p hp => ?_, fun l hl => ?_⟩
          · rw [nb_ui_a (by decide)]; exact k1
          · rw [nb_ui_a (by decide)]; exact k2
          · rw [nb_ui_a (by omega)]; exact k3
          · rw [nb_ui_a (by omega)]; exact k4
          · rw [nb_ui_a (by omega)]; exact k5
          · rw [nb_ui_a (by omega)]; exact k6
          · rw [nb_ui_a (by omega), nb_ui_a (by omega), nb_ui_a (by omega)]; exact k7 p hp
          · rw [nb_ui_a (by omega), nb_ui_a (by omega)]; exact k8 l hl
        · refine hmod d P I L x _ _ hd hz hi hw hTm (fun J w y f hJ => ?_)
          obtain ⟨e, rfl⟩ : ∃ e, d = e + 4 := ⟨d - 4, by omega⟩
          obtain ⟨h3, h4, h5, h6⟩ := hJ
          subst h5
          have hz1 := f.zm hz
          have ok := hz1.1.ok
          have hl := zm_look (d := e + 2) (L := L) hz1 g2 h3
          rw [nb_ui_id h3, c59] at hl
          have e1 : (j1 : Int) + 1 = ((j1 + 1 : Nat) : Int) := by omega
          simp (disch := (first | assumption | omega | exact nb_ix (by omega) (by assumption) (by omega) (by omega) | exact nb_ix (by omega) rfl (by omega) (by omega) | exact nb_ok (by omega) rfl | decide)) only [kX12_readTown, h4, hl, h3, e1, ↓if_pos, ↓if_neg, nb_add, nb_sub, nb_mul, Int.toNat_natCast, mm_kr_s, mm_kv_s, if_pos, if_neg, sq_tn, Int.toNat_zero, Int.reduceToNat, Int.reduceNeg, Nat.reduceAdd, Int.reduceAdd, Int.reduceEq, Int.reduceLT, Int.reduceLE, Int.zero_add, nb_ui_s, nb_ui_k, nb_ui_a, sp_min, sp_max, sp_bits]
          have f2 : zFm I (mm_ui J 239 3 ((j1 + 1 : Nat) : Int)) := f.up (Or.inl rfl)
          refine sq_mono (qm (e + 4) P _ L _ hd (f2.zm hz) nb_ui_s (by rw [nb_ui_k (by decide)]; exact h4) ?_) (fun K hK => ⟨f2.tr hK.1, hK.2⟩)
          obtain ⟨k1, k2, k3, k4, k5⟩ := h6
          exact ⟨by rw [nb_ui_k (by decide)]; exact k1, by rw [nb_ui_k (by decide)]; exact k2, fun k hk => by rw [nb_ui_a (by decide)]; exact k3 k hk, fun k hk => by rw [nb_ui_a (by decide)]; exact k4 k hk, fun k hk => by rw [nb_ui_a (by decide)]; exact k5 k hk⟩
      · by_cases cout : zp T S j1 = -1
        · by_cases hwh : zwh np' nl' la'
          · refine ⟨.inr (ru', np', pl', nl', la'), ⟨⟨Nat.zero_le 1, g3.2⟩, hwh⟩, fun d I L c hd hs hc hi hci hTc => ?_, fun d P I L x hd hz hi hw hTm => ?_⟩
            · have hn := hc.1
              refine hcls d I L c _ _ hd hs hc hi hci hTc (fun J f hJ => ?_)
              obtain ⟨e, rfl⟩ : ∃ e, d = e + 6 := ⟨d - 6, by omega⟩
              obtain ⟨h1, h2⟩ := hJ
              have e0 : zur (Sum.inr (j1, ru', rd', np', pl', nl', la') : zuo) = 1 := rfl
              have hz1 := f.zc ht hc
              have hp := zc_peek (d := e + 5) (L := L) hz1 g2 h1
              rw [nb_ui_id h1, cout] at hp
              simp (disch := (first | assumption | omega | exact nb_ix (by omega) (by assumption) (by omega) (by omega) | exact nb_ix (by omega) rfl (by omega) (by omega) | exact nb_ok (by omega) rfl | decide)) only [kX10_readTown, e0, hp, ↓if_pos, ↓if_neg, nb_add, nb_sub, nb_mul, Int.toNat_natCast, mm_kr_s, mm_kv_s, if_pos, if_neg, sq_tn, Int.toNat_zero, Int.reduceToNat, Int.reduceNeg, Nat.reduceAdd, Int.reduceAdd, Int.reduceEq, Int.reduceLT, Int.reduceLE, Int.zero_add, nb_ui_s, nb_ui_k, nb_ui_a, sp_min, sp_max, sp_bits]
              refine sq_kr (zU_joins1 (d := e + 1) (L := L) hT ht hn p3 g3 h2 hwh) (fun K hK => ?_)
              simp (disch := (first | assumption | omega | exact nb_ix (by omega) (by assumption) (by omega) (by omega) | exact nb_ix (by omega) rfl (by omega) (by omega) | exact nb_ok (by omega) rfl | decide)) only [kX10_readTown, ↓if_pos, ↓if_neg, nb_add, nb_sub, nb_mul, Int.toNat_natCast, mm_kr_s, mm_kv_s, if_pos, if_neg, sq_tn, Int.toNat_zero, Int.reduceToNat, Int.reduceNeg, Nat.reduceAdd, Int.reduceAdd, Int.reduceEq, Int.reduceLT, Int.reduceLE, Int.zero_add, nb_ui_s, nb_ui_k, nb_ui_a, sp_min, sp_max, sp_bits]
              exact sq_ret ⟨f.fr ht hK.1, hK.2⟩
            · refine hmod d P I L x _ _ hd hz hi hw hTm (fun J w y f hJ => ?_)
              obtain ⟨e, rfl⟩ : ∃ e, d = e + 4 := ⟨d - 4, by omega⟩
              obtain ⟨h3, h4, h5, h6⟩ := hJ
              have hz1 := f.zm hz
              have ok := hz1.1.ok
              have hl := zm_look (d := e + 2) (L := L) hz1 g2 h3
              rw [nb_ui_id h3, cout] at hl
              have e1 : (j1 : Int) + 0 = (j1 : Int) := by omega
              obtain ⟨w', hw1, hw2⟩ := zU_whole (d := e + 3) (L := L) hz1.1 g3 h6
              have hw3 : w' = 1 := by
                rcases hw1 with q | q
                · exact q.1
                · exact absurd hwh q.2
              rw [hw3] at hw2
              simp (disch := (first | assumption | omega | exact nb_ix (by omega) (by assumption) (by omega) (by omega) | exact nb_ix (by omega) rfl (by omega) (by omega) | exact nb_ok (by omega) rfl | decide)) only [kX12_readTown, h4, hl, h3, e1, ↓if_pos, ↓if_neg, nb_add, nb_sub, nb_mul, Int.toNat_natCast, mm_kr_s, mm_kv_s, if_pos, if_neg, sq_tn, Int.toNat_zero, Int.reduceToNat, Int.reduceNeg, Nat.reduceAdd, Int.reduceAdd, Int.reduceEq, Int.reduceLT, Int.reduceLE, Int.zero_add, nb_ui_s, nb_ui_k, nb_ui_a, sp_min, sp_max, sp_bits]
              rw [nb_ui_id h3, hX12_readTown_49]
              simp (disch := (first | assumption | omega | exact nb_ix (by omega) (by assumption) (by omega) (by omega) | exact nb_ix (by omega) rfl (by omega) (by omega) | exact nb_ok (by omega) rfl | decide)) only [kX12_readTown, h4, hl, hw2, ↓if_pos, ↓if_neg, nb_add, nb_sub, nb_mul, Int.toNat_natCast, mm_kr_s, mm_kv_s, if_pos, if_neg, sq_tn, Int.toNat_zero, Int.reduceToNat, Int.reduceNeg, Nat.reduceAdd, Int.reduceAdd, Int.reduceEq, Int.reduceLT, Int.reduceLE, Int.zero_add, nb_ui_s, nb_ui_k, nb_ui_a, sp_min, sp_max, sp_bits]
              exact sq_ret ⟨f, h6⟩
          · refine ⟨.inl j1, trivial, fun d I L c hd hs hc hi hci hTc => ?_, fun d P I L x hd hz hi hw hTm => ?_⟩
            · have hn := hc.1
              refine hcls d I L c _ _ hd hs hc hi hci hTc (fun J f hJ => ?_)
              obtain ⟨e, rfl⟩ : ∃ e, d = e + 4 := ⟨d - 4, by omega⟩
              obtain ⟨h1, h2⟩ := hJ
              have e0 : zur (Sum.inr (j1, ru', rd', np', pl', nl', la') : zuo) = 1 := rfl
              have hz1 := f.zc ht hc
              have hp := zc_peek (d := e + 3) (L := L) hz1 g2 h1
              rw [nb_ui_id h1, cout] at hp
              simp (disch := (first | assumption | omega | exact nb_ix (by omega) (by assumption) (by omega) (by omega) | exact nb_ix (by omega) rfl (by omega) (by omega) | exact nb_ok (by omega) rfl | decide)) only [kX10_readTown, e0, hp, ↓if_pos, ↓if_neg, nb_add, nb_sub, nb_mul, Int.toNat_natCast, mm_kr_s, mm_kv_s, if_pos, if_neg, sq_tn, Int.toNat_zero, Int.reduceToNat, Int.reduceNeg, Nat.reduceAdd, Int.reduceAdd, Int.reduceEq, Int.reduceLT, Int.reduceLE, Int.zero_add, nb_ui_s, nb_ui_k, nb_ui_a, sp_min, sp_max, sp_bits]
              refine sq_kr (zU_joins0 (d := e + 1) (L := L) hT ht hn p3 g3 h2 hwh) (fun K hK => ?_)
              simp (disch := (first | assumption | omega | exact nb_ix (by omega) (by assumption) (by omega) (by omega) | exact nb_ix (by omega) rfl (by omega) (by omega) | exact nb_ok (by omega) rfl | decide)) only [kX10_readTown, ↓if_pos, ↓if_neg, nb_add, nb_sub, nb_mul, Int.toNat_natCast, mm_kr_s, mm_kv_s, if_pos, if_neg, sq_tn, Int.toNat_zero, Int.reduceToNat, Int.reduceNeg, Nat.reduceAdd, Int.reduceAdd, Int.reduceEq, Int.reduceLT, Int.reduceLE, Int.zero_add, nb_ui_s, nb_ui_k, nb_ui_a, sp_min, sp_max, sp_bits]
              refine sq_ret ⟨f.fr ht hK, ?_⟩
              show K 1 2 = _
              rw [hK 1 (by simp)]
              exact h1
            · refine hmod d P I L x _ _ hd hz hi hw hTm (fun J w y f hJ => ?_)
              obtain ⟨e, rfl⟩ : ∃ e, d = e + 4 := ⟨d - 4, by omega⟩
              obtain ⟨h3, h4, h5, h6⟩ := hJ
              have hz1 := f.zm hz
              have ok := hz1.1.ok
              have hl := zm_look (d := e + 2) (L := L) hz1 g2 h3
              rw [nb_ui_id h3, cout] at hl
              have e1 : (j1 : Int) + 0 = (j1 : Int) := by omega
              obtain ⟨w', hw1, hw2⟩ := zU_whole (d := e + 3) (L := L) hz1.1 g3 h6
              have hw3 : w' = 0 := by
                rcases hw1 with q | q
                · exact absurd q.2 hwh
                · exact q.1
              rw [hw3] at hw2
              have hbd := zm_bad (d := e + 3) (n := n) (L := L) (P := P) (I := J) (p := j1) hz1.1 h4 h3
              simp (disch := (first | assumption | omega | exact nb_ix (by omega) (by assumption) (by omega) (by omega) | exact nb_ix (by omega) rfl (by omega) (by omega) | exact nb_ok (by omega) rfl | decide)) only [kX12_readTown, h4, hl, h3, e1, ↓if_pos, ↓if_neg, nb_add, nb_sub, nb_mul, Int.toNat_natCast, mm_kr_s, mm_kv_s, if_pos, if_neg, sq_tn, Int.toNat_zero, Int.reduceToNat, Int.reduceNeg, Nat.reduceAdd, Int.reduceAdd, Int.reduceEq, Int.reduceLT, Int.reduceLE, Int.zero_add, nb_ui_s, nb_ui_k, nb_ui_a, sp_min, sp_max, sp_bits]
              rw [nb_ui_id h3, hX12_readTown_49]
              simp (disch := (first | assumption | omega | exact nb_ix (by omega) (by assumption) (by omega) (by omega) | exact nb_ix (by omega) rfl (by omega) (by omega) | exact nb_ok (by omega) rfl | decide)) only [kX12_readTown, h4, hl, hw2, hbd, ↓if_pos, ↓if_neg, nb_add, nb_sub, nb_mul, Int.toNat_natCast, mm_kr_s, mm_kv_s, if_pos, if_neg, sq_tn, Int.toNat_zero, Int.reduceToNat, Int.reduceNeg, Nat.reduceAdd, Int.reduceAdd, Int.reduceEq, Int.reduceLT, Int.reduceLE, Int.zero_add, nb_ui_s, nb_ui_k, nb_ui_a, sp_min, sp_max, sp_bits]
              exact sq_ret ⟨f.up (Or.inr (Or.inl rfl)), trivial⟩
        · refine ⟨.inl j1, trivial, fun d I L c hd hs hc hi hci hTc => ?_, fun d P I L x hd hz hi hw hTm => ?_⟩
          · have hn := hc.1
            refine hcls d I L c _ _ hd hs hc hi hci hTc (fun J f hJ => ?_)
            obtain ⟨e, rfl⟩ : ∃ e, d = e + 4 := ⟨d - 4, by omega⟩
            obtain ⟨h1, h2⟩ := hJ
            have e0 : zur (Sum.inr (j1, ru', rd', np', pl', nl', la') : zuo) = 1 := rfl
            have hz1 := f.zc ht hc
            have hp := zc_peek (d := e + 3) (L := L) hz1 g2 h1
            rw [nb_ui_id h1] at hp
            have hps := zc_pass0 (d := e + 2) (L := L) hz1 g2 h1 c59
            rw [nb_ui_id h1] at hps
            simp (disch := (first | assumption | omega | exact nb_ix (by omega) (by assumption) (by omega) (by omega) | exact nb_ix (by omega) rfl (by omega) (by omega) | exact nb_ok (by omega) rfl | decide)) only [kX10_readTown, e0, hp, hps, ↓if_pos, ↓if_neg, nb_add, nb_sub, nb_mul, Int.toNat_natCast, mm_kr_s, mm_kv_s, if_pos, if_neg, sq_tn, Int.toNat_zero, Int.reduceToNat, Int.reduceNeg, Nat.reduceAdd, Int.reduceAdd, Int.reduceEq, Int.reduceLT, Int.reduceLE, Int.zero_add, nb_ui_s, nb_ui_k, nb_ui_a, sp_min, sp_max, sp_bits]
            exact sq_ret ⟨f, h1⟩
          · refine hmod d P I L x _ _ hd hz hi hw hTm (fun J w y f hJ => ?_)
            obtain ⟨e, rfl⟩ : ∃ e, d = e + 4 := ⟨d - 4, by omega⟩
            obtain ⟨h3, h4, h5, h6⟩ := hJ
            exact sq_mono (zU_mf (f.zm hz) (Or.inr ⟨h4, h3, g2, c59, cout⟩)) (fun K hK => ⟨f.tr hK, trivial⟩)
set_option maxHeartbeats 8000000 in
theorem zU_read (hT : sp_T n P t) (ht : 7 ≤ t) (ht2 : t ≤ 13) (p3 : P 3 0 = some 4 ∧ P 3 1 = some 5 ∧ P 3 2 = some 6) (hS : S ≤ 240) : ∃ o : zro, zrg o ∧
    (∀ (d : Nat) (I L : mm_I), 11 ≤ d → zS I → zc n P I T S → sq_X (some (.inl (zrr o))) n L P (fun I' => zFc t I I' ∧ zrc t I' o) (mm_rn d 72 [.inr (.inr (some 3)), .inr (.inr (some 1)), .inr (.inr (some t))] n I L P)) ∧
    (∀ (d : Nat) (P : mm_P) (I L : mm_I), 11 ≤ d → zm n P I T S → sq_X (some (.inl (zrm o))) n L P (fun I' => zFm I I' ∧ zrt I' o) (mm_rn d 185 [.inr (.inr (some 239))] n I L P)) := by
  obtain ⟨j, hk⟩ := zk_ex (T := T) (S := S) (S - 0) 0 rfl (Nat.zero_le S)
  have hr0 : zts (zqu 0) 0 0 (fun _ => 0) 0 (fun _ => 0) := ⟨by decide, by decide, by decide, by decide +kernel, fun p hp => by omega, fun p hp => by omega⟩
  obtain ⟨o, og, oc, om⟩ := zU_loop (n := n) hT ht ht2 p3 hS (S - 0 + 1) 0 j (zqu 0) (fun _ => 0) (fun _ => 0) 0 0 0 (by omega) hk hr0
  refine ⟨o, og, fun d I L hd hs hc => ?_, fun d P I L hd hz => ?_⟩
  · obtain ⟨e, rfl⟩ : ∃ e, d = e + 2 := ⟨d - 2, by omega⟩
    have hn := hc.1
    have okT := hT.ok
    have f1 : zFc t I (mm_ui (mm_ui (mm_ui (mm_ui I 1 2 0) 3 3 0) 3 4 0) t 0 0) := (((zFc.refl t I).at.up (by unfold zUl; simp) (by decide)).up (by unfold zUl; simp) (by decide)).up (by unfold zUl; simp) (by omega)
    rw [eX10_readTown]
    simp (disch := (first | assumption | omega | exact nb_ix (by omega) (by assumption) (by omega) (by omega) | exact nb_ix (by omega) rfl (by omega) (by omega) | exact nb_ok (by omega) rfl | decide)) only [kX10_readTown, ↓if_pos, ↓if_neg, nb_add, nb_sub, nb_mul, Int.toNat_natCast, mm_kr_s, mm_kv_s, if_pos, if_neg, sq_tn, Int.toNat_zero, Int.reduceToNat, Int.reduceNeg, Nat.reduceAdd, Int.reduceAdd, Int.reduceEq, Int.reduceLT, Int.reduceLE, Int.zero_add, nb_ui_s, nb_ui_k, nb_ui_a, sp_min, sp_max, sp_bits]
    refine sq_kv (zU_forget (q := 0) (L := L) (d := e) (by decide) (f1.zS ht2 hs) hn p3.1) (fun J hJ => ?_)
    obtain ⟨j1, j2, j3⟩ := hJ
    have hkr := zU_kr (d := e) (L := L) (I := J) hT ht hn p3.1
    simp (disch := (first | assumption | omega | exact nb_ix (by omega) (by assumption) (by omega) (by omega) | exact nb_ix (by omega) rfl (by omega) (by omega) | exact nb_ok (by omega) rfl | decide)) only [kX10_readTown, hkr, ↓if_pos, ↓if_neg, nb_add, nb_sub, nb_mul, Int.toNat_natCast, mm_kr_s, mm_kv_s, if_pos, if_neg, sq_tn, Int.toNat_zero, Int.reduceToNat, Int.reduceNeg, Nat.reduceAdd, Int.reduceAdd, Int.reduceEq, Int.reduceLT, Int.reduceLE, Int.zero_add, nb_ui_s, nb_ui_k, nb_ui_a, sp_min, sp_max, sp_bits]
    have f2 : zFc t I (mm_ui (mm_ui (mm_ui J t 1 (J 4 0)) t 2 (J 4 1)) t 3 (J 4 2)) := (((f1.tr j1.fc).up (by unfold zUl; simp) (by omega)).up (by unfold zUl; simp) (by omega)).up (by unfold zUl; simp) (by omega)
    refine sq_mono (oc (e + 1) _ L 0 (by omega) (f2.zS ht2 hs) (f2.zc ht hc) ?_ (Nat.le_refl 0) ⟨?_, ?_, ?_, ?_, ?_, ?_, fun p hp => by omega, fun p hp => by omega⟩) (fun K hK => ⟨f2.tr hK.1, hK.2⟩)
    · rw [nb_ui_a (by omega), nb_ui_a (by omega), nb_ui_a (by omega), j2, nb_ui_a (by omega), nb_ui_a (by omega), nb_ui_a (by omega), nb_ui_s]; rfl
    · rw [nb_ui_a (by omega), nb_ui_a (by omega), nb_ui_a (by omega), j1.1 3 (by decide) (by decide), nb_ui_a (by omega), nb_ui_k (by decide), nb_ui_s]; rfl
    · rw [nb_ui_a (by omega), nb_ui_a (by omega), nb_ui_a (by omega), j1.1 3 (by decide) (by decide), nb_ui_a (by omega), nb_ui_s]; rfl
    · rw [nb_ui_k (by decide), nb_ui_k (by decide), nb_ui_k (by decide), j1.1 t (by omega) (by omega), nb_ui_s]; rfl
    · rw [nb_ui_k (by decide), nb_ui_k (by decide), nb_ui_s]; exact j3 0 (by decide)
    · rw [nb_ui_k (by decide), nb_ui_s]; exact j3 1 (by decide)
    · rw [nb_ui_s]; exact j3 2 (by decide)
  · obtain ⟨e, rfl⟩ : ∃ e, d = e + 2 := ⟨d - 2, by omega⟩
    have ok := hz.1.ok
    have hM := hz.1
    obtain ⟨m0, m1, m2, m3, m4, m5, m6, m7, m8, m9, m10, m11, m12, m13, -⟩ := hM
    have f0 : zFm I (mm_ui (mm_ui (mm_ui (mm_ui I 239 3 0) 239 4 (-1)) 239 20 0) 239 21 0) := ((((zFm.refl I).up (Or.inl rfl)).up (Or.inr (Or.inl rfl))).up (Or.inr (Or.inr (Or.inl rfl)))).up (Or.inr (Or.inr (Or.inr rfl)))
    rw [eX12_readTown]
    simp (disch := (first | assumption | omega | exact nb_ix (by omega) (by assumption) (by omega) (by omega) | exact nb_ix (by omega) rfl (by omega) (by omega) | exact nb_ok (by omega) rfl | decide)) only [kX12_readTown, ↓if_pos, ↓if_neg, nb_add, nb_sub, nb_mul, Int.toNat_natCast, mm_kr_s, mm_kv_s, if_pos, if_neg, sq_tn, Int.toNat_zero, Int.reduceToNat, Int.reduceNeg, Nat.reduceAdd, Int.reduceAdd, Int.reduceEq, Int.reduceLT, Int.reduceLE, Int.zero_add, nb_ui_s, nb_ui_k, nb_ui_a, sp_min, sp_max, sp_bits]
    refine sq_loop (fun k (J : mm_I) => mm_E (e + 1) 185 24 [.inr (.inr (some 239)), .inl 0, .inl ((k : Int)), mm_junk] [] [] n J L P) (fun k J => zFm I J ∧ J 239 3 = 0 ∧ J 239 4 = -1 ∧ J 239 20 = 0 ∧ J 239 21 = 0 ∧ ∀ a, a < k → J 250 a = zqu 0 a) 3 ⟨f0, by rw [nb_ui_k (by decide), nb_ui_k (by decide), nb_ui_k (by decide), nb_ui_s], by rw [nb_ui_k (by decide), nb_ui_k (by decide), nb_ui_s], by rw [nb_ui_k (by decide), nb_ui_s], nb_ui_s, fun a ha => by omega⟩ (fun k J hk3 hJ nx => ?_) (fun J hJ => ?_)
    · obtain ⟨f, j1, j2, j3, j4, j5⟩ := hJ
      have c1 : ¬ (3 : Int) ≤ (k : Int) := by omega
      have hus : mm_rn (e + 1) 182 [.inl 115, .inl ((k : Int))] n J L P = _ := zt_usual (q := 0) (by decide) hk3
      have e2 : (k : Int) + 1 = ((k + 1 : Nat) : Int) := by omega
      rw [hX12_readTown_24]
      simp (disch := (first | assumption | omega | exact nb_ix (by omega) (by assumption) (by omega) (by omega) | exact nb_ix (by omega) rfl (by omega) (by omega) | exact nb_ok (by omega) rfl | decide)) only [kX12_readTown, hus, e2, m11, ↓if_pos, ↓if_neg, nb_add, nb_sub, nb_mul, Int.toNat_natCast, mm_kr_s, mm_kv_s, if_pos, if_neg, sq_tn, Int.toNat_zero, Int.reduceToNat, Int.reduceNeg, Nat.reduceAdd, Int.reduceAdd, Int.reduceEq, Int.reduceLT, Int.reduceLE, Int.zero_add, nb_ui_s, nb_ui_k, nb_ui_a, sp_min, sp_max, sp_bits]
      refine nx _ ⟨f.row (Or.inl rfl), by rw [nb_ui_a (by decide)]; exact j1, by rw [nb_ui_a (by decide)]; exact j2, by rw [nb_ui_a (by decide)]; exact j3, by rw [nb_ui_a (by decide)]; exact j4, fun a ha => ?_⟩
      by_cases ea : a = k
      · subst ea; rw [nb_ui_s]
      · rw [nb_ui_k ea]; exact j5 a (by omega)
    · obtain ⟨f, j1, j2, j3, j4, j5⟩ := hJ
      have c1 : (3 : Int) ≤ ((3 : Nat) : Int) := by decide
      rw [hX12_readTown_24]
      simp (disch := (first | assumption | omega | exact nb_ix (by omega) (by assumption) (by omega) (by omega) | exact nb_ix (by omega) rfl (by omega) (by omega) | exact nb_ok (by omega) rfl | decide)) only [kX12_readTown, ↓if_pos, ↓if_neg, nb_add, nb_sub, nb_mul, Int.toNat_natCast, mm_kr_s, mm_kv_s, if_pos, if_neg, sq_tn, Int.toNat_zero, Int.reduceToNat, Int.reduceNeg, Nat.reduceAdd, Int.reduceAdd, Int.reduceEq, Int.reduceLT, Int.reduceLE, Int.zero_add, nb_ui_s, nb_ui_k, nb_ui_a, sp_min, sp_max, sp_bits]
      exact sq_mono (om (e + 1) P J L mm_junk (by omega) (f.zm hz) j1 j2 ⟨j3, j4, j5, fun k hk => by omega, fun k hk => by omega⟩) (fun K hK => ⟨f.tr hK.1, hK.2⟩)
end RT
