theorem nb_ok {n a ci k : Nat} (h : a < n) (ht : mm_ty a = (ci, k)) : mm_ok n a ci := ⟨h, by rw [ht]⟩
/-! how runs are reasoned about: an answer that is known ahead, a heap of which something is known -/
def sq_X (r : Option mm_V) (n : Nat) (L : mm_I) (P : mm_P) (Q : mm_I → Prop) (x : Option mm_A) : Prop := ∃ I', x = some (r, n, I', L, P) ∧ Q I'
theorem sq_ret {r : Option mm_V} {n : Nat} {I L : mm_I} {P : mm_P} {Q : mm_I → Prop} (h : Q I) : sq_X r n L P Q (some (r, n, I, L, P)) := ⟨I, rfl, h⟩
theorem sq_ret2 {r r' : Option mm_V} {n : Nat} {I L : mm_I} {P : mm_P} {Q : mm_I → Prop} (e : r' = r) (h : Q I) : sq_X r n L P Q (some (r', n, I, L, P)) := ⟨I, by rw [e], h⟩
theorem sq_mono {r : Option mm_V} {n : Nat} {L : mm_I} {P : mm_P} {Q Q' : mm_I → Prop} {x : Option mm_A} (h : sq_X r n L P Q x) (h2 : ∀ I', Q I' → Q' I') : sq_X r n L P Q' x := by
  obtain ⟨I', e, q⟩ := h
  exact ⟨I', e, h2 I' q⟩
theorem sq_kr {d y nx : Nat} {lv : List mm_V} {ll : List (Option Int)} {st : List mm_V} {v : mm_V} {r : Option mm_V} {n : Nat} {L L0 : mm_I} {P P0 : mm_P} {Q Q1 : mm_I → Prop} {o : Option mm_A} (h : sq_X (some v) n L0 P0 Q1 o) (h2 : ∀ I', Q1 I' → sq_X r n L P Q (mm_E d y nx lv ll (v :: st) n I' L0 P0)) : sq_X r n L P Q (mm_kr d y nx lv ll st n o) := by
  obtain ⟨I', e, q⟩ := h
  rw [e, mm_kr_s]
  exact h2 I' q
theorem sq_kv {d y nx : Nat} {lv : List mm_V} {ll : List (Option Int)} {st : List mm_V} {r : Option mm_V} {n : Nat} {L L0 : mm_I} {P P0 : mm_P} {Q Q1 : mm_I → Prop} {o : Option mm_A} (h : sq_X none n L0 P0 Q1 o) (h2 : ∀ I', Q1 I' → sq_X r n L P Q (mm_E d y nx lv ll st n I' L0 P0)) : sq_X r n L P Q (mm_kv d y nx lv ll st n o) := by
  obtain ⟨I', e, q⟩ := h
  rw [e, mm_kv_s]
  exact h2 I' q
/-- a loop of N turns with what holds at each -/
theorem sq_loop {S : Type} {G : Option mm_A → Prop} (F : Nat → S → Option mm_A) (Inv : Nat → S → Prop) (N : Nat) {s0 : S} (h0 : Inv 0 s0) (step : ∀ k s, k < N → Inv k s → (∀ s', Inv (k + 1) s' → G (F (k + 1) s')) → G (F k s)) (fin : ∀ s, Inv N s → G (F N s)) : G (F 0 s0) := by
  have key : ∀ j, j ≤ N → ∀ s, Inv (N - j) s → G (F (N - j) s) := by
    intro j
    induction j with
    | zero => intro _ s hs; exact fin s hs
    | succ j ih =>
      intro hj s hs
      refine step (N - (j + 1)) s (by omega) hs ?_
      have e : N - (j + 1) + 1 = N - j := by omega
      rw [e]
      exact ih (by omega)
  have := key N (Nat.le_refl N) s0
  rw [Nat.sub_self] at this
  exact this h0
/-- a loop whose measure falls -/
theorem sq_while {S : Type} {G : Option mm_A → Prop} (F : S → Option mm_A) (Inv : S → Prop) (mu : S → Nat) (step : ∀ s, Inv s → (∀ s', Inv s' → mu s' < mu s → G (F s')) → G (F s)) {s0 : S} (h0 : Inv s0) : G (F s0) := by
  have key : ∀ m s, mu s < m → Inv s → G (F s) := by
    intro m
    induction m with
    | zero => intro s h; omega
    | succ m ih =>
      intro s h hs
      exact step s hs (fun s' hs' hm => ih s' (by omega) hs')
  exact key (mu s0 + 1) s0 (by omega) h0
/-- rows that stay -/
def sq_fr (l : List Nat) (I I' : mm_I) : Prop := ∀ b, b ∉ l → I' b = I b
theorem sq_fr_refl (l : List Nat) (I : mm_I) : sq_fr l I I := fun _ _ => rfl
theorem sq_fr_up {l : List Nat} {I I' : mm_I} {a k : Nat} {z : Int} (h : sq_fr l I I') (ha : a ∈ l) : sq_fr l I (mm_ui I' a k z) := by
  intro b hb
  have hne : b ≠ a := fun e => hb (by rw [e]; exact ha)
  rw [nb_ui_r hne]
  exact h b hb
theorem sq_fr_trans {l l1 l2 : List Nat} {I I1 I2 : mm_I} (h : sq_fr l1 I I1) (h2 : sq_fr l2 I1 I2) (s1 : ∀ b, b ∈ l1 → b ∈ l) (s2 : ∀ b, b ∈ l2 → b ∈ l) : sq_fr l I I2 := by
  intro b hb
  rw [h2 b (fun q => hb (s2 b q)), h b (fun q => hb (s1 b q))]
theorem sq_fr_sub {l l1 : List Nat} {I I1 : mm_I} (h : sq_fr l1 I I1) (s1 : ∀ b, b ∈ l1 → b ∈ l) : sq_fr l I I1 := fun b hb => h b (fun q => hb (s1 b q))
theorem sq_tn (p : Nat) (z : Int) (h : 0 ≤ z) : (z + (p : Int)).toNat = z.toNat + p := by omega
theorem sq_up1 (I : mm_I) (a k : Nat) (z : Int) : mm_ui I a k z a = fun j => if j = k then z else I a j := by
  funext j
  unfold mm_ui
  by_cases h : j = k
  · simp [h]
  · simp [h]
/-! the model's night -/
def sq_mN (I : mm_I) (N : Nat → Int) : Prop := ∀ j, j < 211 → I 257 j = N j
/-- the model's law by its contract: what worthOf answers -/
abbrev sq_Ev : Type := Int → Int → Int → Int → Int → Int → Int
def sq_ML (n c : Nat) (P : mm_P) (I : mm_I) (h : Int) (e : sq_Ev) : Prop := ∀ (d : Nat) (I0 L : mm_I), c ≤ d → (∀ b, 241 ≤ b → b ≤ 247 → I0 b = I b) → (∀ j, j < 6 → 0 ≤ I0 248 j ∧ I0 248 j ≤ 9999) → sq_X (some (.inl (e (I0 248 0) (I0 248 1) (I0 248 2) (I0 248 3) (I0 248 4) (I0 248 5)))) n L P (sq_fr [249] I0) (mm_rn d 177 [.inr (.inr (some 239)), .inl h] n I0 L P)
/-- the law that holds, in the model -/
def sq_MH (n c : Nat) (P : mm_P) (I : mm_I) (ev : sv_E) : Prop := match ev with
  | none => I 239 29 = -1
  | some e => I 239 29 ≠ -1 ∧ sq_ML n c P I (I 239 29) e
/-- the model's town: how many places, ways, who lies beside whom, legs, sight -/
def sq_MT (I : mm_I) (s : Nat) (D : Nat → Int) (B : Nat → Nat) (g v : Int) : Prop := s ≤ 8 ∧ I 239 26 = (s : Int) ∧ (∀ k, k < 64 → I 256 k = D k ∧ 0 ≤ D k ∧ D k ≤ 99) ∧ (∀ p, p < 8 → I 255 p = (B p : Int) ∧ B p < 256) ∧ I 253 0 = g ∧ I 253 1 = v
theorem sq_for {G : Option mm_A → Prop} (F : Nat → Option mm_A) (N : Nat) (h : ∀ k, k < N → F k = F (k + 1)) (fin : G (F N)) : G (F 0) := by
  rw [nb_loop F N h]
  exact fin
def sw_spk (w : Nat → Bool) (k : Nat) (N : Nat → Int) : Nat → Int := fun j => if 8 ≤ j ∧ j < 8 + k ∧ w (j - 8) = true then 0 else if 16 ≤ j ∧ j < 16 + k ∧ w (j - 16) = true then 1 else N j
theorem sw_spk_up {w : Nat → Bool} {k : Nat} {N : Nat → Int} (hk : k < 8) (j : Nat) : sw_spk w (k + 1) N j = if j = 8 + k ∧ w k = true then 0 else if j = 16 + k ∧ w k = true then 1 else sw_spk w k N j := by
  unfold sw_spk
  by_cases c1 : j = 8 + k
  · subst c1
    rw [show 8 + k - 8 = k by omega]
    cases hw : w k <;> grind
  · by_cases c2 : j = 16 + k
    · subst c2
      rw [show 16 + k - 16 = k by omega]
      cases hw : w k <;> grind
    · grind
theorem sq_loop2 {S T : Type} {G : Option mm_A → Prop} (F : Nat → S → T → Option mm_A) (Inv : Nat → S → T → Prop) (N : Nat) {s0 : S} {t0 : T} (h0 : Inv 0 s0 t0) (step : ∀ k s t, k < N → Inv k s t → (∀ s' t', Inv (k + 1) s' t' → G (F (k + 1) s' t')) → G (F k s t)) (fin : ∀ s t, Inv N s t → G (F N s t)) : G (F 0 s0 t0) :=
  sq_loop (S := S × T) (fun k s => F k s.1 s.2) (fun k s => Inv k s.1 s.2) N (s0 := (s0, t0)) h0 (fun k s hk hi ih => step k s.1 s.2 hk hi (fun s' t' q => ih (s', t') q)) (fun s hs => fin s.1 s.2 hs)
theorem sq_loop3 {S T U : Type} {G : Option mm_A → Prop} (F : Nat → S → T → U → Option mm_A) (Inv : Nat → S → T → U → Prop) (N : Nat) {s0 : S} {t0 : T} {u0 : U} (h0 : Inv 0 s0 t0 u0) (step : ∀ k s t u, k < N → Inv k s t u → (∀ s' t' u', Inv (k + 1) s' t' u' → G (F (k + 1) s' t' u')) → G (F k s t u)) (fin : ∀ s t u, Inv N s t u → G (F N s t u)) : G (F 0 s0 t0 u0) :=
  sq_loop (S := S × T × U) (fun k s => F k s.1 s.2.1 s.2.2) (fun k s => Inv k s.1 s.2.1 s.2.2) N (s0 := (s0, t0, u0)) h0 (fun k s hk hi ih => step k s.1 s.2.1 s.2.2 hk hi (fun s' t' u' q => ih (s', t', u') q)) (fun s hs => fin s.1 s.2.1 s.2.2 hs)
