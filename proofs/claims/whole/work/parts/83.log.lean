/-! the log: spec of an hour with its log, of the past -/
def sl_sh (N : Nat → Int) : Nat → Int := fun j => if N 30 = 60 then (if j = 30 then 59 else if 31 ≤ j ∧ j < 208 then N (j + 3) else N j) else N j
def sl_add (X : Nat → Int) (a b e : Int) : Nat → Int := fun j => if j = 30 then X 30 + 1 else if j = 31 + 3 * (X 30).toNat then a else if j = 31 + 3 * (X 30).toNat + 1 then b else if j = 31 + 3 * (X 30).toNat + 2 then e else X j
def sl_hour (f : (Nat → Int) → Nat → Int) (s : Nat) (N : Nat → Int) : Nat → Int := sl_add (sl_sh (f N)) (sv_lost N s) (sv_am (f N) s) (N 24)
def sl_e (f : (Nat → Int) → Nat → Int) (s : Nat) (N : Nat → Int) (w : Nat) : Int := if w = 0 then sv_lost N s else if w = 1 then (sv_am (f N) s : Int) else N 24
def sl_up (f : (Nat → Int) → Nat → Int) (s : Nat) (Lg : Nat → Nat → Int) (N : Nat → Int) : Nat → Nat → Int := fun h w => if h = (N 29).toNat then sl_e f s N w else Lg h w
/-- a night's own log, by hours -/
def sl_ok (X : Nat → Int) (Lg : Nat → Nat → Int) : Prop := 0 ≤ X 29 ∧ X 30 = min 60 (X 29) ∧ ∀ k w, k < (X 30).toNat → w < 3 → X (31 + 3 * k + w) = Lg ((X 29 - X 30).toNat + k) w
theorem sl_ok_lo {X : Nat → Int} {Lg Lg' : Nat → Nat → Int} (h : sl_ok X Lg) (e : ∀ h w, h < (X 29).toNat → Lg' h w = Lg h w) : sl_ok X Lg' := by
  obtain ⟨h0, h1, h2⟩ := h
  refine ⟨h0, h1, fun k w hk hw => ?_⟩
  rw [h2 k w hk hw, e _ _ (by omega)]
theorem sl_ok_eq {X Y : Nat → Int} {Lg : Nat → Nat → Int} (h : sl_ok X Lg) (e29 : Y 29 = X 29) (e : ∀ j, 30 ≤ j → Y j = X j) : sl_ok Y Lg := by
  obtain ⟨h0, h1, h2⟩ := h
  unfold sl_ok
  rw [e29, e 30 (by omega)]
  refine ⟨h0, h1, fun k w hk hw => ?_⟩
  rw [e _ (by omega)]
  exact h2 k w hk hw
theorem sl_hour_lt {f : (Nat → Int) → Nat → Int} {s : Nat} {N : Nat → Int} {j : Nat} (hj : j < 30) (h30 : 0 ≤ f N 30) : sl_hour f s N j = f N j := by
  unfold sl_hour sl_add sl_sh
  rw [if_neg (by omega)]
  by_cases c : f N 30 = 60
  · simp only [c, if_true]
    rw [if_neg (by omega), if_neg (by omega), if_neg (by omega), if_neg (by omega), if_neg (by omega)]
  · simp only [c, if_false]
    rw [if_neg (by omega), if_neg (by omega), if_neg (by omega)]
section LG
variable {ev : sv_E} {D : Nat → Int} {B : Nat → Nat} {g : Int} {s : Nat} {N : Nat → Int} {Lg : Nat → Nat → Int}
theorem sl_hour_ok (hs : s ≤ 8) (h : sl_ok N Lg) : sl_ok (sl_hour (sw_live ev D B g s) s N) (sl_up (sw_live ev D B g s) s Lg N) := by
  obtain ⟨h0, h1, h2⟩ := h
  have e30 : sw_live ev D B g s N 30 = N 30 := sw_live_hi hs (by omega)
  have e29 := sw_live_29 (ev := ev) (D := D) (B := B) (g := g) (s := s) (N := N)
  have hhi : ∀ j, 30 ≤ j → sw_live ev D B g s N j = N j := fun j hj => sw_live_hi hs hj
  have x29 : sl_hour (sw_live ev D B g s) s N 29 = N 29 + 1 := by
    rw [sl_hour_lt (by omega) (by omega), e29]
  have x30 : sl_hour (sw_live ev D B g s) s N 30 = min 60 (N 29 + 1) := by
    unfold sl_hour sl_add sl_sh
    rw [if_pos rfl, e30]
    by_cases c : N 30 = 60
    · rw [if_pos c, if_pos rfl]; omega
    · rw [if_neg c]; omega
  refine ⟨by rw [x29]; omega, by rw [x30, x29], fun k w hk hw => ?_⟩
  rw [x30] at hk ⊢
  rw [x29]
  unfold sl_hour sl_add
  by_cases c : N 30 = 60
  · have y30 : sl_sh (sw_live ev D B g s N) 30 = 59 := by
      unfold sl_sh
      rw [e30, if_pos c, if_pos rfl]
    rw [y30]
    have et : (59 : Int).toNat = 59 := rfl
    rw [et, if_neg (by omega)]
    by_cases c59 : k = 59
    · subst c59
      have eU : sl_up (sw_live ev D B g s) s Lg N ((N 29 + 1 - min 60 (N 29 + 1)).toNat + 59) w = sl_e (sw_live ev D B g s) s N w := if_pos (by omega)
      rw [eU]
      unfold sl_e
      have : w = 0 ∨ w = 1 ∨ w = 2 := by omega
      rcases this with e | e | e <;> subst e <;> simp
    · rw [if_neg (by omega), if_neg (by omega), if_neg (by omega)]
      unfold sl_sh
      rw [e30, if_pos c, if_neg (by omega), if_pos (by omega), hhi _ (by omega)]
      have := h2 (k + 1) w (by omega) hw
      have e1 : 31 + 3 * k + w + 3 = 31 + 3 * (k + 1) + w := by omega
      rw [e1, this]
      unfold sl_up
      rw [if_neg (by omega)]
      congr 1
      omega
  · have ysh : ∀ j, sl_sh (sw_live ev D B g s N) j = sw_live ev D B g s N j := by
      intro j
      unfold sl_sh
      rw [e30, if_neg c]
    rw [ysh 30, e30, if_neg (by omega)]
    by_cases ck : k = (N 30).toNat
    · subst ck
      have eU : sl_up (sw_live ev D B g s) s Lg N ((N 29 + 1 - min 60 (N 29 + 1)).toNat + (N 30).toNat) w = sl_e (sw_live ev D B g s) s N w := if_pos (by omega)
      rw [eU]
      unfold sl_e
      have : w = 0 ∨ w = 1 ∨ w = 2 := by omega
      rcases this with e | e | e <;> subst e <;> simp
    · rw [if_neg (by omega), if_neg (by omega), if_neg (by omega), ysh, hhi _ (by omega), h2 k w (by omega) hw]
      unfold sl_up
      rw [if_neg (by omega)]
      congr 1
      omega
end LG
/-- time: the night, how many are kept, these, where the next goes, the log by hours -/
abbrev sT : Type := (Nat → Int) × Nat × (Nat → Nat → Int) × Nat × (Nat → Nat → Int)
def sh_st (f : (Nat → Int) → Nat → Int) (s : Nat) (x : sT) (N1 : Nat → Int) : sT := (sl_hour f s N1, sk_na x.2.1, sk_H x.2.1 x.2.2.1 x.1, sk_nx x.2.2.2.1, sl_up f s x.2.2.2.2 N1)
def sh_act (x : sT) (N' : Nat → Int) : sT := (N', sk_na x.2.1, sk_H x.2.1 x.2.2.1 x.1, sk_nx x.2.2.2.1, x.2.2.2.2)
def sl_old (x : sT) : Nat := if x.2.1 = 0 then (x.1 29).toNat else (x.2.2.1 0 29).toNat
def rs_T (s : Nat) (x : sT) : Prop := sv_ok s x.1 ∧ x.1 29 ≤ 9999 ∧ sl_ok x.1 x.2.2.2.2 ∧ x.2.1 ≤ 40 ∧ (∀ i, i < x.2.1 → sv_ok s (x.2.2.1 i) ∧ sl_ok (x.2.2.1 i) x.2.2.2.2 ∧ x.2.2.1 i 29 ≤ 9999) ∧ (∀ i, i < x.2.1 → x.2.2.1 i 29 ≤ (if i + 1 = x.2.1 then x.1 29 else x.2.2.1 (i + 1) 29) ∧ (if i + 1 = x.2.1 then x.1 29 else x.2.2.1 (i + 1) 29) ≤ x.2.2.1 i 29 + 1)
theorem rs_chain {s : Nat} {x : sT} (h : rs_T s x) : ∀ k i, i + k = x.2.1 → 0 < k → x.2.2.1 i 29 ≤ x.1 29 ∧ x.1 29 ≤ x.2.2.1 i 29 + k := by
  obtain ⟨_, _, _, _, _, h6⟩ := h
  intro k
  induction k with
  | zero => intro i _ h; omega
  | succ k ih =>
    intro i hi _
    have h1 := h6 i (by omega)
    by_cases c : i + 1 = x.2.1
    · rw [if_pos c] at h1
      omega
    · rw [if_neg c] at h1
      have h2 := ih (i + 1) (by omega) (by omega)
      omega
theorem rs_act {s : Nat} {x : sT} (h : rs_T s x) {N' : Nat → Int} {Lg' : Nat → Nat → Int} (ok : sv_ok s N') (h9 : N' 29 ≤ 9999) (hl : sl_ok N' Lg') (e29 : x.1 29 ≤ N' 29 ∧ N' 29 ≤ x.1 29 + 1) (hLg : ∀ h w, h < (x.1 29).toNat → Lg' h w = x.2.2.2.2 h w) : rs_T s (N', sk_na x.2.1, sk_H x.2.1 x.2.2.1 x.1, sk_nx x.2.2.2.1, Lg') := by
  have hch := rs_chain h
  obtain ⟨h1, h2, h3, h4, h5, h6⟩ := h
  obtain ⟨N, na, H, nx, Lg⟩ := x
  have hlN : sl_ok N Lg' := sl_ok_lo h3 hLg
  have hlH : ∀ i, i < na → sl_ok (H i) Lg' := by
    intro i hi
    refine sl_ok_lo (h5 i hi).2.1 (fun h w hh => hLg h w ?_)
    have := hch (na - i) i (by show i + (na - i) = na; omega) (by omega)
    show h < (N 29).toNat
    have h7 : H i 29 ≤ N 29 := this.1
    omega
  refine ⟨ok, h9, hl, ?_, ?_, ?_⟩
  · show sk_na na ≤ 40
    unfold sk_na
    have : na ≤ 40 := h4
    split <;> omega
  · intro i hi
    show sv_ok s (sk_H na H N i) ∧ sl_ok (sk_H na H N i) Lg' ∧ sk_H na H N i 29 ≤ 9999
    have hi2 : i < sk_na na := hi
    unfold sk_na at hi2
    unfold sk_H
    by_cases c40 : na = 40
    · rw [if_pos c40] at hi2 ⊢
      by_cases c : i = 39
      · rw [if_pos c]; exact ⟨h1, hlN, h2⟩
      · rw [if_neg c]
        exact ⟨(h5 (i + 1) (by show i + 1 < na; omega)).1, hlH (i + 1) (by omega), (h5 (i + 1) (by show i + 1 < na; omega)).2.2⟩
    · rw [if_neg c40] at hi2 ⊢
      by_cases c : i = na
      · rw [if_pos c]; exact ⟨h1, hlN, h2⟩
      · rw [if_neg c]
        exact ⟨(h5 i (by show i < na; omega)).1, hlH i (by omega), (h5 i (by show i < na; omega)).2.2⟩
  · intro i hi
    show sk_H na H N i 29 ≤ (if i + 1 = sk_na na then N' 29 else sk_H na H N (i + 1) 29) ∧ (if i + 1 = sk_na na then N' 29 else sk_H na H N (i + 1) 29) ≤ sk_H na H N i 29 + 1
    have hi2 : i < sk_na na := hi
    have e29' : N 29 ≤ N' 29 ∧ N' 29 ≤ N 29 + 1 := e29
    unfold sk_na at hi2 ⊢
    unfold sk_H
    by_cases c40 : na = 40
    · simp only [c40, if_true] at hi2 ⊢
      by_cases c : i = 39
      · subst c
        simp
        exact e29'
      · rw [if_neg c, if_neg (show ¬ i + 1 = 40 by omega)]
        have h7 := h6 (i + 1) (by show i + 1 < na; omega)
        by_cases c38 : i = 38
        · subst c38
          rw [if_pos (show 38 + 1 = 39 by omega)]
          rw [if_pos (show 38 + 1 + 1 = na by omega)] at h7
          exact h7
        · rw [if_neg (show ¬ i + 1 = 39 by omega)]
          rw [if_neg (show ¬ i + 1 + 1 = na by omega)] at h7
          exact h7
    · simp only [c40, if_false] at hi2 ⊢
      by_cases c : i = na
      · subst c
        simp
        exact e29'
      · rw [if_neg c, if_neg (show ¬ i + 1 = na + 1 by omega)]
        have h7 := h6 i (by show i < na; omega)
        by_cases c2 : i + 1 = na
        · rw [if_pos c2]
          rw [if_pos (show i + 1 = na from c2)] at h7
          exact h7
        · rw [if_neg c2]
          rw [if_neg (show ¬ i + 1 = na from c2)] at h7
          exact h7
theorem rs_undo {s : Nat} {x : sT} (h : rs_T s x) (h0 : 0 < x.2.1) (nx' : Nat) : rs_T s (x.2.2.1 (x.2.1 - 1), x.2.1 - 1, x.2.2.1, nx', x.2.2.2.2) := by
  obtain ⟨h1, h2, h3, h4, h5, h6⟩ := h
  obtain ⟨N, na, H, nx, Lg⟩ := x
  have h0' : 0 < na := h0
  have hl := h5 (na - 1) (by show na - 1 < na; omega)
  refine ⟨hl.1, hl.2.2, hl.2.1, ?_, fun i hi => h5 i ?_, fun i hi => ?_⟩
  · have : na ≤ 40 := h4
    show na - 1 ≤ 40
    omega
  · have : i < na - 1 := hi
    show i < na
    omega
  · have hi2 : i < na - 1 := hi
    have h7 := h6 i (by show i < na; omega)
    rw [if_neg (show ¬ i + 1 = na by omega)] at h7
    show H i 29 ≤ (if i + 1 = na - 1 then H (na - 1) 29 else H (i + 1) 29) ∧ (if i + 1 = na - 1 then H (na - 1) 29 else H (i + 1) 29) ≤ H i 29 + 1
    by_cases c : i + 1 = na - 1
    · rw [if_pos c, ← c]; exact h7
    · rw [if_neg c]; exact h7
/-- the ring of the class's log -/
def rc_ring (I : mm_I) (x : sT) : Prop := ∀ h w, sl_old x - 60 ≤ h → h < (x.1 29).toNat → w < 3 → I (45 + w) (h % 100) = x.2.2.2.2 h w
theorem sl_old_act {s : Nat} {x : sT} (h : rs_T s x) (N' : Nat → Int) (nx' : Nat) (Lg' : Nat → Nat → Int) : sl_old x ≤ sl_old (N', sk_na x.2.1, sk_H x.2.1 x.2.2.1 x.1, nx', Lg') ∧ sl_old (N', sk_na x.2.1, sk_H x.2.1 x.2.2.1 x.1, nx', Lg') ≤ (x.1 29).toNat ∧ (x.1 29).toNat ≤ sl_old (N', sk_na x.2.1, sk_H x.2.1 x.2.2.1 x.1, nx', Lg') + 39 := by
  have hch := rs_chain h
  obtain ⟨h1, h2, h3, h4, h5, h6⟩ := h
  obtain ⟨N, na, H, nx, Lg⟩ := x
  have h4' : na ≤ 40 := h4
  have hN0 : 0 ≤ N 29 := h3.1
  have e1 : sl_old (N', sk_na na, sk_H na H N, nx', Lg') = (sk_H na H N 0 29).toNat := by
    unfold sl_old
    show (if sk_na na = 0 then _ else _) = _
    rw [if_neg (by unfold sk_na; split <;> omega)]
  have e2 : sl_old (N, na, H, nx, Lg) = if na = 0 then (N 29).toNat else (H 0 29).toNat := rfl
  show sl_old (N, na, H, nx, Lg) ≤ sl_old (N', sk_na na, sk_H na H N, nx', Lg') ∧ sl_old (N', sk_na na, sk_H na H N, nx', Lg') ≤ (N 29).toNat ∧ (N 29).toNat ≤ sl_old (N', sk_na na, sk_H na H N, nx', Lg') + 39
  rw [e1, e2]
  unfold sk_H
  by_cases c0 : na = 0
  · rw [if_pos c0, if_neg (by omega), if_pos (by omega)]
    omega
  · rw [if_neg c0]
    have hc0 : H 0 29 ≤ N 29 ∧ N 29 ≤ H 0 29 + na := hch na 0 (by show 0 + na = na; omega) (by omega)
    have hp0 : 0 ≤ H 0 29 := (h5 0 (by show 0 < na; omega)).2.1.1
    by_cases c40 : na = 40
    · rw [if_pos c40, if_neg (by omega)]
      simp only [Nat.zero_add]
      have hc1 : H 1 29 ≤ N 29 ∧ N 29 ≤ H 1 29 + (na - 1 : Nat) := hch (na - 1) 1 (by show 1 + (na - 1) = na; omega) (by omega)
      have h7 := h6 0 (by show 0 < na; omega)
      rw [if_neg (show ¬ 0 + 1 = na by omega)] at h7
      have h8 : H 0 29 ≤ H 1 29 := h7.1
      omega
    · rw [if_neg c40, if_neg (by omega)]
      omega
