/-! rows of tokens behind one another; tails -/
theorem sx_ev_cons {l : Nat → Int} {t : Nat × Int} {r : List (Nat × Int)} {st : List Int} : sx_ev l (t :: r) st = (match sx_st l t.1 t.2 st with
    | some st' => sx_ev l r st'
    | none => none) := rfl
theorem sx_ev_app {l : Nat → Int} {t2 : List (Nat × Int)} : ∀ (t1 : List (Nat × Int)) (st st1 : List Int), sx_ev l t1 st = some st1 → sx_ev l (t1 ++ t2) st = sx_ev l t2 st1 := by
  intro t1
  induction t1 with
  | nil => intro st st1 h; cases h; rfl
  | cons t r ih =>
    intro st st1 h
    rw [List.cons_append, sx_ev_cons]
    rw [sx_ev_cons] at h
    cases hs : sx_st l t.1 t.2 st with
    | none => rw [hs] at h; cases h
    | some st' => rw [hs] at h; exact ih st' st1 h
theorem sx_at_app {f : Nat → Int} {t2 : List (Nat × Int)} : ∀ (t1 : List (Nat × Int)) (c : Nat), sx_at f c t1 → sx_at f (c + t1.length) t2 → sx_at f c (t1 ++ t2) := by
  intro t1
  induction t1 with
  | nil => intro c _ h2; exact h2
  | cons t r ih =>
    intro c h1 h2
    refine ⟨h1.1, ih (c + 1) h1.2 ?_⟩
    have e : c + 1 + r.length = c + (t :: r).length := by simp; omega
    rw [e]
    exact h2
theorem sx_at_keep {f g : Nat → Int} : ∀ (t1 : List (Nat × Int)) (c : Nat), sx_at f c t1 → (∀ k, c ≤ k → k < c + t1.length → g k = f k) → sx_at g c t1 := by
  intro t1
  induction t1 with
  | nil => intro c _ _; trivial
  | cons t r ih =>
    intro c h1 h2
    refine ⟨by rw [h2 c (Nat.le_refl _) (by simp)]; exact h1.1, ih (c + 1) h1.2 (fun k hk hk2 => h2 k (by omega) (by simp; omega))⟩
theorem sx_mt_app {I : mm_I} {t2 : List (Nat × Int)} : ∀ (t1 : List (Nat × Int)) (c : Nat), sx_mt I c t1 → sx_mt I (c + t1.length) t2 → sx_mt I c (t1 ++ t2) := by
  intro t1
  induction t1 with
  | nil => intro c _ h2; exact h2
  | cons t r ih =>
    intro c h1 h2
    refine ⟨h1.1, h1.2.1, ih (c + 1) h1.2.2 ?_⟩
    have e : c + 1 + r.length = c + (t :: r).length := by simp; omega
    rw [e]
    exact h2
theorem sx_mt_kp {I J : mm_I} : ∀ (t1 : List (Nat × Int)) (c : Nat), sx_mt I c t1 → (∀ k, c ≤ k → k < c + t1.length → J 241 k = I 241 k ∧ J 242 k = I 242 k) → sx_mt J c t1 := by
  intro t1
  induction t1 with
  | nil => intro c _ _; trivial
  | cons t r ih =>
    intro c h1 h2
    have h3 := h2 c (Nat.le_refl _) (by simp)
    refine ⟨by rw [h3.1]; exact h1.1, by rw [h3.2]; exact h1.2.1, ih (c + 1) h1.2.2 (fun k hk hk2 => h2 k (by omega) (by simp; omega))⟩
def zgt (S i : Nat) : zo → Prop
  | .inl p => p ≤ S
  | .inr q => i ≤ q.1 ∧ q.1 ≤ S ∧ q.2.length + i ≤ q.1
def sx_St (k : Nat) (toks : List (Nat × Int)) : Prop := ∀ l, sx_okl l → ∀ x, ∃ y, ∀ st : List Int, st.length + k ≤ 60 → sx_ev l toks (x :: st) = some (y :: st)
def zst (k : Nat) : zo → Prop
  | .inl _ => True
  | .inr q => sx_St k q.2
/-- what is behind a first: a fault stays, tokens come behind -/
def zj (t : List (Nat × Int)) : zo → zo
  | .inl p => .inl p
  | .inr q => .inr (q.1, t ++ q.2)
theorem zr_zj (t : List (Nat × Int)) (o : zo) : zr (zj t o) = zr o := by cases o <;> rfl
theorem sx_St_nil (k : Nat) : sx_St k [] := fun _ _ x => ⟨x, fun _ _ => rfl⟩
theorem sx_S_bin {k c : Nat} {t1 t2 : List (Nat × Int)} (hc : 2 ≤ c ∧ c ≤ 8) (h1 : sx_S k t1) (h2 : sx_St (k + 1) t2) : sx_St (k + 1) (t1 ++ [(c, 0)] ++ t2) := by
  intro l hl x
  obtain ⟨y1, e1⟩ := h1 l hl
  obtain ⟨y, e2⟩ := h2 l hl (sx_op c x y1)
  refine ⟨y, fun st hst => ?_⟩
  have e3 : sx_ev l (t1 ++ [(c, 0)]) (x :: st) = some (sx_op c x y1 :: st) := by
    rw [sx_ev_app t1 (x :: st) (y1 :: x :: st) (e1 (x :: st) (by simp; omega))]
    refine sx_ev_1 ?_
    show sx_st l c 0 (y1 :: x :: st) = _
    unfold sx_st
    rw [if_neg (by omega), if_neg (by omega), if_neg (by omega), if_pos (by omega)]
    show (if c ≤ 8 ∨ ((x = 0 ∨ x = 1) ∧ (y1 = 0 ∨ y1 = 1)) then some (sx_op c x y1 :: st) else none) = _
    rw [if_pos (Or.inl hc.2)]
  rw [sx_ev_app _ _ _ e3]
  exact e2 st hst
theorem sx_S_then {k : Nat} {t1 t2 : List (Nat × Int)} (h1 : sx_S k t1) (h2 : sx_St (k + 1) t2) : sx_S (k + 1) (t1 ++ t2) := by
  intro l hl
  obtain ⟨y1, e1⟩ := h1 l hl
  obtain ⟨y, e2⟩ := h2 l hl y1
  refine ⟨y, fun st hst => ?_⟩
  rw [sx_ev_app t1 st (y1 :: st) (e1 st (by omega))]
  exact e2 st hst
/-- the class: a first with its tokens, then the rest -/
theorem zcP_then {a c0 : Nat} {I J K : mm_I} {t : List (Nat × Int)} {o : zo} (hf : zcF a I J) (hk : ∀ k, k < c0 → J (a + 1) k = I (a + 1) k) (ht : sx_at (J (a + 1)) c0 t) (h : zcP a (c0 + t.length) J K o) : zcP a c0 I K (zj t o) := by
  cases o with
  | inl p => exact ⟨h.1, hf.tr h.2⟩
  | inr q =>
    obtain ⟨h1, h2, h3, h4, h5⟩ := h
    refine ⟨h1, ?_, ?_, fun k hk2 => ?_, hf.tr h5⟩
    · rw [h2]; show _ = ((c0 + (t ++ q.2).length : Nat) : Int); rw [List.length_append, Nat.add_assoc]
    · exact sx_at_app t c0 (sx_at_keep t c0 ht (fun k _ hk => h4 k hk)) h3
    · rw [h4 k (by omega), hk k hk2]
theorem zmP_then {x dp i i1 c0 S : Nat} {I J K : mm_I} {t : List (Nat × Int)} {o : zo} (hi : i + t.length ≤ i1) (hc : c0 + t.length ≤ 520) (hf : zmF x c0 I J) (ht : sx_mt J (520 * x + c0) t) (h : zmP x dp i1 (c0 + t.length) S J K o) : zmP x dp i c0 S I K (zj t o) := by
  cases o with
  | inl p =>
    obtain ⟨h1, h2, u, c, h3, h4, h5, h6, h7, h8⟩ := h
    exact ⟨h1, hf.tr h2 (by omega), u, c, h3, h4, by omega, h6, by omega, by omega⟩
  | inr q =>
    obtain ⟨h1, h2, h3, h4, h5, h6⟩ := h
    refine ⟨h1, h2, h3, ?_, ?_, hf.tr h6 (by omega)⟩
    · rw [h4]; show _ = ((c0 + (t ++ q.2).length : Nat) : Int); rw [List.length_append, Nat.add_assoc]
    · refine sx_mt_app t _ (sx_mt_kp t _ ht (fun k hk1 hk2 => h6.2.2.2 k (by omega))) ?_
      rw [Nat.add_assoc]
      exact h5
def zJt (n : Nat) (P : mm_P) (a x : Nat) (T : Nat → Int) (S dp k : Nat) (i : Nat) (m : Nat) (yc ym : Nat) : Prop := ∃ o : zo, zgt S i o ∧ zst k o ∧ (∀ (d q : Nat) (v : mm_V), m ≤ d → q < i → zcX n P a T S (fun I L => mm_E d yc 13 [.inr (.inr (some 1)), .inr (.inr (some a)), .inl ((dp : Int)), .inl ((q : Int)), v] [] [] n I L P) i o) ∧ (∀ d j, m ≤ d → zk T S i j → zmX n P x T S dp (fun I L => mm_E d ym 21 [.inr (.inr (some 239)), .inl (zp T S j)] [] [] n (mm_ui I 239 3 (j : Int)) L P) i o)
