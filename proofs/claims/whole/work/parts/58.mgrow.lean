set_option maxHeartbeats 2000000 in
theorem sq_mgrow {n c s p : Nat} {I L : mm_I} {P : mm_P} {ev : sv_E} {D : Nat → Int} {B : Nat → Nat} {g v : Int} {N : Nat → Int} {am : Nat} (d : Nat) (hM : sp_M n P) (hT : sq_MT I s D B g v) (hH : sq_MH n c P I ev) (hok : sv_ok s N) (hp : p < s) (ham : am < 256)
    (h16 : I 257 (16 + p) = N (16 + p)) (h8 : I 257 (8 + p) = N (8 + p)) (h0w : I 257 p = N p - sv_tk N p) (h24 : I 257 24 = N 24) (h29 : I 257 29 = N 29) (hame : am = sv_am N s) :
    sq_X (some (.inl (max (-9) (min 9 (sv_gr ev D B N s p))))) n L P (sq_fr [248, 249] I) (mm_rn (d + c + 3) 196 [.inr (.inr (some 239)), .inl ((p : Int)), .inl ((am : Int))] n I L P) := by
  have ok := hM.ok
  have hM2 := hM
  obtain ⟨hn, hP⟩ := hM
  obtain ⟨hs8, hs, hD, hB, hg, hv⟩ := hT
  obtain ⟨hok1, ⟨hok2, hok3⟩, _, _, _, _, hok4⟩ := hok
  obtain ⟨q, hq⟩ : ∃ q : Nat, N 24 = (q : Int) := ⟨(N 24).toNat, by omega⟩
  have hq8 : q < 8 := by omega
  obtain ⟨⟨w1, w2⟩, ⟨k1, k2⟩, ⟨z1, z2⟩, _⟩ := hok1 p (by omega)
  have tk : 0 ≤ sv_tk N p ∧ sv_tk N p ≤ N p := by unfold sv_tk; omega
  have hDp := hD (8 * q + p) (by omega)
  obtain ⟨b1, b2⟩ := hB p (by omega)
  have e1 := sp_steps (d := d + c + 1) (I := I) (L := L) hM2 hq8 (show p < 8 by omega)
  rw [eX12_growthOf]
  simp (disch := (first | assumption | omega | exact nb_ix (by omega) (by assumption) (by omega) (by omega) | exact nb_ix (by omega) rfl (by omega) (by omega) | exact ⟨by omega, rfl⟩ | decide)) only [kX12_growthOf, hP, h24, hq, e1, h8, h0w, nb_add, nb_sub, nb_mul, Int.toNat_natCast, mm_kr_s, mm_kv_s, if_pos, if_neg, sq_tn, Int.toNat_zero]
  sorry
