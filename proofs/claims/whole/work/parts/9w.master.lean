/-! the relation between class and model, over one state -/
abbrev rL : Type := List (List (Nat × Int) × List (Nat × Int))
abbrev rS : Type := Nat × (Nat → Int) × (Nat → Nat) × Int × Int × (Nat → Int) × (Nat → Int) × Int × Nat × Int × (Nat → rL) × sT × Int × (Nat → Int) × (Nat → Nat → Int) × Nat × (Nat → Nat) × (Nat → Nat) × (Nat → Int) × (Nat → Int) × ((Nat → Int) × Nat) × Int × (Nat → Int)
def rc_town (I : mm_I) (t s : Nat) (D : Nat → Int) (B : Nat → Nat) (g v : Int) (W K : Nat → Int) (cn : Int) : Prop := sq_CT I t s D B g v ∧ (∀ p, p < s → I (t + 1) p = W p ∧ I (t + 2) p = K p) ∧ I t 3 = cn
def rm_town (I : mm_I) (s : Nat) (D : Nat → Int) (B : Nat → Nat) (g v : Int) (W K : Nat → Int) (cn : Int) : Prop := sq_MT I s D B g v ∧ (∀ p, p < s → I 254 (2 * p) = W p ∧ I 254 (2 * p + 1) = K p) ∧ I 253 2 = cn
def rs_town (s : Nat) (D : Nat → Int) (B : Nat → Nat) (g v : Int) (W K : Nat → Int) (cn : Int) : Prop := s ≤ 8 ∧ (∀ k, 0 ≤ D k ∧ D k ≤ 99) ∧ (∀ p, B p < 256) ∧ (0 ≤ g ∧ g ≤ 5) ∧ 0 ≤ v ∧ (∀ p, p < s → 0 ≤ W p ∧ W p ≤ 99) ∧ (∀ p, p < s → 0 ≤ K p ∧ K p ≤ 9) ∧ (0 ≤ cn ∧ cn ≤ 999) ∧ (∀ p q, p < s → q < s → D (8 * p + q) = D (8 * q + p)) ∧ (∀ p, p < s → D (8 * p + p) = 0)
def rc_laws (I : mm_I) (nl : Nat) (hl : Int) (es : Nat → rL) : Prop := I 0 5 = (nl : Int) ∧ I 0 6 = hl ∧ ∀ i, i < nl → rc_law I (20 + 4 * i) (es i)
def rm_laws (I : mm_I) (nl : Nat) (hl : Int) (es : Nat → rL) : Prop := I 239 13 = (nl : Int) ∧ I 239 29 = hl ∧ ∀ i, i < nl → rm_law I i (es i)
def rs_laws (nl : Nat) (hl : Int) : Prop := nl ≤ 4 ∧ -1 ≤ hl ∧ hl < (nl : Int)
def rs_img (s : Nat) (kf : Int) (NI : Nat → Int) (LgI : Nat → Nat → Int) : Prop := (kf = 0 ∨ kf = 1) ∧ (kf = 1 → sv_ok s NI ∧ NI 29 ≤ 9999 ∧ sl_ok NI LgI)
def RC (n : Nat) (P : mm_P) (I : mm_I) (t u : Nat) : rS → Prop
  | (s, D, B, g, v, W, K, cn, nl, hl, es, x, kf, NI, LgI, ck, cp, ch, cm, co, tp, pe, rf) => sq_P n P t u ∧ rc_town I t s D B g v W K cn ∧ rc_laws I nl hl es ∧ rc_T I x ∧ rc_img I kf NI LgI ∧ sq_CK I ck cp ch cm co ∧ rc_tape I tp ∧ I 0 7 = pe ∧ (∀ k, k < 5 → I 238 k = rf k)
def RM (n : Nat) (P : mm_P) (I : mm_I) : rS → Prop
  | (s, D, B, g, v, W, K, cn, nl, hl, es, x, kf, NI, LgI, ck, cp, ch, cm, co, tp, pe, rf) => sp_M n P ∧ rm_town I s D B g v W K cn ∧ rm_laws I nl hl es ∧ rm_T I x ∧ rm_img I kf NI ∧ sq_MK I ck cp ch cm co ∧ rm_tape I tp ∧ I 239 30 = pe ∧ (∀ k, k < 5 → I 258 k = rf k)
def RS : rS → Prop
  | (s, D, B, g, v, W, K, cn, nl, hl, es, x, kf, NI, LgI, ck, cp, ch, cm, co, tp, pe, rf) => rs_town s D B g v W K cn ∧ rs_laws nl hl ∧ rs_T s x ∧ rs_img s kf NI LgI ∧ sq_ck s ck cp ch cm co ∧ rs_tape tp
def RR (n : Nat) (P : mm_P) (I : mm_I) : Prop := ∃ (t u : Nat) (σ : rS), RC n P I t u σ ∧ RM n P I σ ∧ RS σ ∧ zS I
section KP
variable {n t u s nl : Nat} {P : mm_P} {I I' : mm_I} {D W K : Nat → Int} {B : Nat → Nat} {g v cn hl kf : Int} {es : Nat → rL} {x : sT} {NI : Nat → Int} {LgI : Nat → Nat → Int}
theorem rc_town_k (h : rc_town I t s D B g v W K cn) (f : ∀ b, t ≤ b → b ≤ t + 5 → I' b = I b) : rc_town I' t s D B g v W K cn := by
  obtain ⟨⟨a1, a2, a3, a4, a5, a6, a7, a8, a9⟩, b1, b2⟩ := h
  have e0 := f t (by omega) (by omega)
  have e1 := f (t + 1) (by omega) (by omega)
  have e2 := f (t + 2) (by omega) (by omega)
  have e3 := f (t + 3) (by omega) (by omega)
  have e4 := f (t + 4) (by omega) (by omega)
  have e5 := f (t + 5) (by omega) (by omega)
  refine ⟨⟨a1, a2, by rw [e0]; exact a3, fun p q hp hq => by rw [e5]; exact a4 p q hp hq, a5, fun p hp => by rw [e3]; exact a6 p hp, fun p hp => by rw [e4]; exact a7 p hp, by rw [e0]; exact a8, by rw [e0]; exact a9⟩, fun p hp => by rw [e1, e2]; exact b1 p hp, by rw [e0]; exact b2⟩
theorem rm_town_k (h : rm_town I s D B g v W K cn) (f : ∀ b, 253 ≤ b → b ≤ 256 → I' b = I b) (f2 : I' 239 26 = I 239 26) : rm_town I' s D B g v W K cn := by
  obtain ⟨⟨a1, a2, a3, a4, a5, a6⟩, b1, b2⟩ := h
  have e0 := f 253 (by decide) (by decide)
  have e1 := f 254 (by decide) (by decide)
  have e2 := f 255 (by decide) (by decide)
  have e3 := f 256 (by decide) (by decide)
  exact ⟨⟨a1, by rw [f2]; exact a2, fun k hk => by rw [e3]; exact a3 k hk, fun p hp => by rw [e2]; exact a4 p hp, by rw [e0]; exact a5, by rw [e0]; exact a6⟩, fun p hp => by rw [e1]; exact b1 p hp, by rw [e0]; exact b2⟩
theorem rc_law_k {a : Nat} {cls : rL} (h : rc_law I a cls) (f1 : I' a 1 = I a 1) (f2 : I' (a + 1) = I (a + 1)) : rc_law I' a cls := by
  obtain ⟨len, m1, m2, m3, m4⟩ := h
  exact ⟨len, m1, by rw [f1]; exact m2, by rw [f2]; exact m3, m4⟩
theorem rm_law_k {i : Nat} {cls : rL} (h : rm_law I i cls) (f : ∀ b, 241 ≤ b → b ≤ 247 → I' b = I b) : rm_law I' i cls := by
  obtain ⟨m1, m2, m3, m4⟩ := h
  exact ⟨by rw [f 244 (by decide) (by decide)]; exact m1, m2, sx_ml_keep f _ _ _ m3, m4⟩
theorem rc_laws_k (h : rc_laws I nl hl es) (f5 : I' 0 5 = I 0 5) (f6 : I' 0 6 = I 0 6) (f : ∀ i, i < nl → I' (20 + 4 * i) 1 = I (20 + 4 * i) 1 ∧ I' (21 + 4 * i) = I (21 + 4 * i)) : rc_laws I' nl hl es := ⟨by rw [f5]; exact h.1, by rw [f6]; exact h.2.1, fun i hi => rc_law_k (h.2.2 i hi) (f i hi).1 (by have := (f i hi).2; rw [show 20 + 4 * i + 1 = 21 + 4 * i by omega]; exact this)⟩
theorem rm_laws_k (h : rm_laws I nl hl es) (f5 : I' 239 13 = I 239 13) (f6 : I' 239 29 = I 239 29) (f : ∀ b, 241 ≤ b → b ≤ 247 → I' b = I b) : rm_laws I' nl hl es := ⟨by rw [f5]; exact h.1, by rw [f6]; exact h.2.1, fun i hi => rm_law_k (h.2.2 i hi) f⟩
theorem sq_cN_k {a : Nat} {N : Nat → Int} (h : sq_cN I a N) (f : ∀ b, a ≤ b → b ≤ a + 3 → I' b = I b) : sq_cN I' a N := by
  intro j hj
  have := h j hj
  unfold sq_rd at this ⊢
  rw [f a (by omega) (by omega), f (a + 1) (by omega) (by omega), f (a + 2) (by omega) (by omega), f (a + 3) (by omega) (by omega)]
  exact this
theorem rc_T_k (h : rc_T I x) (f : ∀ b, 40 ≤ b → b < 210 → I' b = I b) : rc_T I' x := by
  obtain ⟨a, ⟨b1, b2, b3, b4, b5⟩, c⟩ := h
  refine ⟨sq_cN_k a (fun b h1 h2 => f b h1 (by omega)), ⟨by rw [f 48 (by decide) (by decide)]; exact b1, b2, by rw [f 48 (by decide) (by decide)]; exact b3, b4, fun i hi => sq_cN_k (b5 i hi) (fun b h1 h2 => f b (by omega) (by omega))⟩, fun h w h1 h2 h3 => ?_⟩
  rw [f (45 + w) (by omega) (by omega)]
  exact c h w h1 h2 h3
theorem rm_T_k (h : rm_T I x) (f1 : ∀ j, j < 211 → I' 257 j = I 257 j) (f2 : I' 260 = I 260) (f3 : I' 239 33 = I 239 33) : rm_T I' x := by
  obtain ⟨a, b1, b2, b3⟩ := h
  exact ⟨fun j hj => by rw [f1 j hj]; exact a j hj, by rw [f3]; exact b1, b2, fun i hi j hj => by rw [f2]; exact b3 i hi j hj⟩
theorem rc_img_k (h : rc_img I kf NI LgI) (f0 : I' 0 13 = I 0 13) (f : ∀ b, 210 ≤ b → b ≤ 217 → I' b = I b) : rc_img I' kf NI LgI := by
  obtain ⟨a, b, c⟩ := h
  refine ⟨by rw [f0]; exact a, b, fun q => ⟨sq_cN_k (c q).1 (fun b h1 h2 => f b h1 (by omega)), fun h w h1 h2 h3 => ?_⟩⟩
  rw [f (215 + w) (by omega) (by omega)]
  exact (c q).2 h w h1 h2 h3
theorem rm_img_k (h : rm_img I kf NI) (f0 : I' 239 46 = I 239 46) (f : I' 268 = I 268) : rm_img I' kf NI := ⟨by rw [f0]; exact h.1, fun q j hj => by rw [f]; exact h.2 q j hj⟩
theorem sq_CK_k {ck : Nat} {cp ch : Nat → Nat} {cm co : Nat → Int} (h : sq_CK I ck cp ch cm co) (f : ∀ b, 218 ≤ b → b ≤ 222 → I' b = I b) : sq_CK I' ck cp ch cm co := ⟨by rw [f 218 (by decide) (by decide)]; exact h.1, fun i hi => by rw [f 219 (by decide) (by decide), f 220 (by decide) (by decide), f 221 (by decide) (by decide), f 222 (by decide) (by decide)]; exact h.2 i hi⟩
theorem sq_MK_k {ck : Nat} {cp ch : Nat → Nat} {cm co : Nat → Int} (h : sq_MK I ck cp ch cm co) (f0 : I' 239 42 = I 239 42) (f : ∀ b, 262 ≤ b → b ≤ 265 → I' b = I b) : sq_MK I' ck cp ch cm co := ⟨by rw [f0]; exact h.1, fun i hi => by rw [f 262 (by decide) (by decide), f 263 (by decide) (by decide), f 264 (by decide) (by decide), f 265 (by decide) (by decide)]; exact h.2 i hi⟩
theorem rc_tape_k {tp : (Nat → Int) × Nat} (h : rc_tape I tp) (f1 : I' 1 1 = I 1 1) (f2 : I' 2 = I 2) : rc_tape I' tp := ⟨by rw [f1]; exact h.1, fun i hi => by rw [f2]; exact h.2 i hi⟩
theorem rm_tape_k {tp : (Nat → Int) × Nat} (h : rm_tape I tp) (f1 : I' 239 2 = I 239 2) (f2 : I' 240 = I 240) : rm_tape I' tp := ⟨by rw [f1]; exact h.1, fun i hi => by rw [f2]; exact h.2 i hi⟩
/-- what a question of the class leaves as it was -/
def fC (t nl : Nat) (I I' : mm_I) : Prop := (∀ j, j ≤ 13 → I' 0 j = I 0 j) ∧ I' 1 1 = I 1 1 ∧ I' 2 = I 2 ∧ (∀ b, t ≤ b → b ≤ t + 5 → I' b = I b) ∧ (∀ i, i < nl → I' (20 + 4 * i) 1 = I (20 + 4 * i) 1 ∧ I' (21 + 4 * i) = I (21 + 4 * i)) ∧ (∀ b, 40 ≤ b → b ≤ 222 → I' b = I b) ∧ I' 238 = I 238
def fM (I I' : mm_I) : Prop := (∀ j, (j = 2 ∨ j = 13 ∨ j = 26 ∨ j = 29 ∨ j = 30 ∨ j = 33 ∨ j = 42 ∨ j = 46) → I' 239 j = I 239 j) ∧ (∀ b, 240 ≤ b → b ≤ 247 → I' b = I b) ∧ (∀ b, 253 ≤ b → b ≤ 258 → b ≠ 257 → I' b = I b) ∧ (∀ j, j < 211 → I' 257 j = I 257 j) ∧ I' 260 = I 260 ∧ (∀ b, 262 ≤ b → b ≤ 265 → I' b = I b) ∧ I' 268 = I 268
def rnl : rS → Nat
  | (s, D, B, g, v, W, K, cn, nl, _) => nl
theorem RC_fr {σ : rS} (h : RC n P I t u σ) (f : fC t (rnl σ) I I') : RC n P I' t u σ := by
  obtain ⟨s, D, B, g, v, W, K, cn, nl, hl, es, x, kf, NI, LgI, ck, cp, ch, cm, co, tp, pe, rf⟩ := σ
  obtain ⟨h1, h2, h3, h4, h5, h6, h7, h8, h9⟩ := h
  obtain ⟨f1, f2, f3, f4, f5, f6, f7⟩ := f
  exact ⟨h1, rc_town_k h2 f4, rc_laws_k h3 (f1 5 (by decide)) (f1 6 (by decide)) f5, rc_T_k h4 (fun b a1 a2 => f6 b a1 (by omega)), rc_img_k h5 (f1 13 (by decide)) (fun b a1 a2 => f6 b (by omega) (by omega)), sq_CK_k h6 (fun b a1 a2 => f6 b (by omega) (by omega)), rc_tape_k h7 f2 f3, by rw [f1 7 (by decide)]; exact h8, fun k hk => by rw [f7]; exact h9 k hk⟩
theorem RM_fr {σ : rS} (h : RM n P I σ) (f : fM I I') : RM n P I' σ := by
  obtain ⟨s, D, B, g, v, W, K, cn, nl, hl, es, x, kf, NI, LgI, ck, cp, ch, cm, co, tp, pe, rf⟩ := σ
  obtain ⟨h1, h2, h3, h4, h5, h6, h7, h8, h9⟩ := h
  obtain ⟨f1, f2, f3, f3b, f4, f5, f6⟩ := f
  exact ⟨h1, rm_town_k h2 (fun b a1 a2 => f3 b a1 (by omega) (by omega)) (f1 26 (by decide)), rm_laws_k h3 (f1 13 (by decide)) (f1 29 (by decide)) (fun b a1 a2 => f2 b (by omega) a2), rm_T_k h4 f3b f4 (f1 33 (by decide)), rm_img_k h5 (f1 46 (by decide)) f6, sq_MK_k h6 (f1 42 (by decide)) f5, rm_tape_k h7 (f1 2 (by decide)) (f2 240 (by decide) (by decide)), by rw [f1 30 (by decide)]; exact h8, fun k hk => by rw [f3 258 (by decide) (by decide) (by decide)]; exact h9 k hk⟩
theorem fM_hi (f : ∀ b, 239 ≤ b → I' b = I b) : fM I I' := ⟨fun j _ => by rw [f 239 (by decide)], fun b h1 h2 => f b (by omega), fun b h1 h2 _ => f b (by omega), fun j _ => by rw [f 257 (by decide)], f 260 (by decide), fun b h1 h2 => f b (by omega), f 268 (by decide)⟩
theorem RM_hi {σ : rS} (h : RM n P I σ) (f : ∀ b, 239 ≤ b → I' b = I b) : RM n P I' σ := RM_fr h (fM_hi f)
theorem RC_t {σ : rS} (h : RC n P I t u σ) : 7 ≤ t ∧ t ≤ 13 ∧ sq_P n P t u := by
  obtain ⟨s, D, B, g, v, W, K, cn, nl, hl, es, x, kf, NI, LgI, ck, cp, ch, cm, co, tp, pe, rf⟩ := σ
  have h1 : sq_P n P t u := h.1
  rcases h1.2.1 with e | e
  · exact ⟨by omega, by omega, h1⟩
  · exact ⟨by omega, by omega, h1⟩
theorem RS_nl {σ : rS} (h : RS σ) : rnl σ ≤ 4 := by
  obtain ⟨s, D, B, g, v, W, K, cn, nl, hl, es, x, kf, NI, LgI, ck, cp, ch, cm, co, tp, pe, rf⟩ := σ
  exact h.2.1.1
theorem RC_lo {σ : rS} (h : RC n P I t u σ) (hS : RS σ) (f : ∀ b, b < 239 → I' b = I b) : RC n P I' t u σ := by
  have ht := RC_t h
  have hn := RS_nl hS
  exact RC_fr h ⟨fun j _ => by rw [f 0 (by decide)], by rw [f 1 (by decide)], f 2 (by decide), fun b h1 h2 => f b (by omega), fun i hi => ⟨by rw [f _ (by omega)], f _ (by omega)⟩, fun b h1 h2 => f b (by omega), f 238 (by decide)⟩
/-- the law that holds, as both reckon it -/
def evo (hl : Int) (es : Nat → rL) : sv_E := if 0 ≤ hl then some (sx_le (es hl.toNat)) else none
theorem sq_CL_mono {l : Nat} {e : sq_Ev} (h : sq_CL n 2 P I l e) : sq_CL n 5 P I l e := fun d I0 L hd => h d I0 L (by omega)
/-- the frame of a question of the class -/
theorem fC_cf (ht : 7 ≤ t ∧ t ≤ 13) (hnl : nl ≤ 4) (h : sq_cf sq_SC I I') : fC t nl I I' := by
  have hx : ∀ b, (b < 20 ∨ b = 21 ∨ b = 25 ∨ b = 29 ∨ b = 33 ∨ (36 ≤ b ∧ b < 223) ∨ 238 ≤ b) → I' b = I b := fun b hb => h.1 b (by unfold sq_SC; simp only [List.mem_cons, List.not_mem_nil, or_false]; omega) (by unfold sq_LF; simp only [List.mem_cons, List.not_mem_nil, or_false]; omega)
  refine ⟨fun j _ => by rw [hx 0 (by omega)], by rw [hx 1 (by omega)], hx 2 (by omega), fun b h1 h2 => hx b (by omega), fun i hi => ⟨?_, hx _ (by omega)⟩, fun b h1 h2 => hx b (by omega), hx 238 (by omega)⟩
  have : i = 0 ∨ i = 1 ∨ i = 2 ∨ i = 3 := by omega
  rcases this with e | e | e | e <;> subst e
  · exact h.2 20 (by decide)
  · exact h.2 24 (by decide)
  · exact h.2 28 (by decide)
  · exact h.2 32 (by decide)
theorem sq_cf_hi {l : List Nat} (h : sq_cf l I I') (hl : ∀ b, b ∈ l → b < 239) : ∀ b, 239 ≤ b → I' b = I b := fun b hb => h.1 b (fun q => by have := hl b q; omega) (by unfold sq_LF; simp only [List.mem_cons, List.not_mem_nil, or_false]; omega)
end KP
section OF
variable {n t u s nl ck : Nat} {P : mm_P} {I : mm_I} {D W K NI cm co rf : Nat → Int} {B cp ch : Nat → Nat} {g v cn hl kf pe : Int} {es : Nat → rL} {x : sT} {LgI : Nat → Nat → Int} {tp : (Nat → Int) × Nat}
theorem CC_of (h : RC n P I t u (s, D, B, g, v, W, K, cn, nl, hl, es, x, kf, NI, LgI, ck, cp, ch, cm, co, tp, pe, rf)) (hS : RS (s, D, B, g, v, W, K, cn, nl, hl, es, x, kf, NI, LgI, ck, cp, ch, cm, co, tp, pe, rf)) : ∃ lw, sq_CC n 5 P I t u s D B g v lw (evo hl es) x.1 := by
  obtain ⟨h1, h2, h3, h4, h5, h6, h7, h8, h9⟩ := h
  obtain ⟨s1, s2, s3, s4, s5, s6⟩ := hS
  refine ⟨if 0 ≤ I 0 6 ∧ I 0 6 < I 0 5 then some (20 + 4 * (I 0 6).toNat) else none, h1, ⟨h1.2.2.2.1, h2.1, ?_, s1.2.2.2.1.1, s1.2.2.2.1.2⟩, ⟨by rw [h3.1]; have := s2.1; omega, rfl⟩, h4.1, s3.1, s3.2.1⟩
  have e5 := h3.1
  have e6 := h3.2.1
  have hl2 := s2.2
  have hl1 := s2.1
  rw [e5, e6]
  unfold evo
  by_cases c : 0 ≤ hl
  · rw [if_pos ⟨c, hl2.2⟩, if_pos c]
    have hi : hl.toNat < nl := by omega
    have hL := sq_P_L h1 (show hl.toNat < 5 by omega)
    refine ⟨?_, hL.ok, sq_CL_mono (rc_law_CL hL (h3.2.2 _ hi))⟩
    have : hl.toNat = 0 ∨ hl.toNat = 1 ∨ hl.toNat = 2 ∨ hl.toNat = 3 := by omega
    rcases this with e | e | e | e <;> rw [e] <;> decide
  · rw [if_neg (fun q => c q.1), if_neg c]
    trivial
theorem MM_of (h : RM n P I (s, D, B, g, v, W, K, cn, nl, hl, es, x, kf, NI, LgI, ck, cp, ch, cm, co, tp, pe, rf)) (hS : RS (s, D, B, g, v, W, K, cn, nl, hl, es, x, kf, NI, LgI, ck, cp, ch, cm, co, tp, pe, rf)) : sq_MM n 5 P I s D B g v (evo hl es) x.1 := by
  obtain ⟨h1, h2, h3, h4, h5, h6, h7, h8, h9⟩ := h
  obtain ⟨s1, s2, s3, s4, s5, s6⟩ := hS
  refine ⟨⟨h1, h2.1, ?_, s1.2.2.2.1.1, s1.2.2.2.1.2⟩, h4.1, s3.1, s3.2.1⟩
  have e6 := h3.2.1
  have hl2 := s2.2
  have hl1 := s2.1
  unfold evo
  by_cases c : 0 ≤ hl
  · rw [if_pos c]
    have hi : hl.toNat < nl := by omega
    refine ⟨by rw [e6]; omega, ?_⟩
    have := rm_law_ML h1 (show hl.toNat < 5 by omega) (h3.2.2 _ hi)
    rw [show ((hl.toNat : Nat) : Int) = hl by omega] at this
    rw [e6]
    exact this
  · rw [if_neg c]
    show I 239 29 = -1
    rw [e6]
    omega
end OF
/-- one call of both, and the relation again -/
def RJ (y1 y2 : Nat) (a : List mm_V) : Prop := ∀ (d n : Nat) (P : mm_P) (I L : mm_I), 60 ≤ d → RR n P I → ∃ (z : Int) (I1 I2 L2 : mm_I) (P1 : mm_P), mm_rn d y1 (.inr (.inr (some 0)) :: a) n I L P = some (some (.inl z), n, I1, L, P1) ∧ mm_rn d y2 (.inr (.inr (some 239)) :: a) n I1 L P1 = some (some (.inl z), n, I2, L2, P1) ∧ RR n P1 I2 ∧ (∀ b, 270 ≤ b → I1 b = I b ∧ I2 b = I b)
theorem RM_P {n : Nat} {P P1 : mm_P} {I : mm_I} {σ : rS} (h : RM n P I σ) (hP : P1 239 = P 239) : RM n P1 I σ := by
  obtain ⟨s, D, B, g, v, W, K, cn, nl, hl, es, x, kf, NI, LgI, ck, cp, ch, cm, co, tp, pe, rf⟩ := σ
  obtain ⟨h1, h2⟩ := h
  exact ⟨by unfold sp_M at h1 ⊢; rw [hP]; exact h1, h2⟩
theorem RJ_of {y1 y2 : Nat} {a : List mm_V} (H : ∀ (d n : Nat) (P : mm_P) (I L : mm_I) (t u : Nat) (σ : rS), 60 ≤ d → RC n P I t u σ → RM n P I σ → RS σ → zS I → ∃ (z : Int) (t' u' : Nat) (σ' : rS) (P1 : mm_P), P1 239 = P 239 ∧ RS σ' ∧ sq_X (some (.inl z)) n L P1 (fun I' => RC n P1 I' t' u' σ' ∧ ∀ b, 239 ≤ b → I' b = I b) (mm_rn d y1 (.inr (.inr (some 0)) :: a) n I L P) ∧ (∀ J, RM n P1 J σ → ∃ L2, sq_X (some (.inl z)) n L2 P1 (fun I' => RM n P1 I' σ' ∧ ∀ b, (b < 239 ∨ 270 ≤ b) → I' b = J b) (mm_rn d y2 (.inr (.inr (some 239)) :: a) n J L P1))) : RJ y1 y2 a := by
  intro d n P I L hd hR
  obtain ⟨t, u, σ, h1, h2, h3, h4⟩ := hR
  obtain ⟨z, t', u', σ', P1, hP, hs', hc, hm⟩ := H d n P I L t u σ hd h1 h2 h3 h4
  obtain ⟨I1, e1, c1, c2⟩ := hc
  obtain ⟨L2, I2, e2, m1, m2⟩ := hm I1 (RM_hi (RM_P h2 hP) c2)
  refine ⟨z, I1, I2, L2, P1, e1, e2, ⟨t', u', σ', RC_lo c1 hs' (fun b hb => m2 b (Or.inl hb)), m1, hs', ?_⟩, fun b hb => ?_⟩
  · exact h4.fr (fun b b1 b2 => by rw [m2 b (Or.inr (by omega)), c2 b (by omega)])
  · exact ⟨c2 b (by omega), by rw [m2 b (Or.inr hb), c2 b (by omega)]⟩
/-- questions: both leave the state as it is -/
theorem RJ_q {y1 y2 : Nat} {a : List mm_V} (H : ∀ (d n : Nat) (P : mm_P) (t u s : Nat) (D : Nat → Int) (B : Nat → Nat) (g v : Int) (W K : Nat → Int) (cn : Int) (nl : Nat) (hl : Int) (es : Nat → rL) (x : sT) (kf : Int) (NI : Nat → Int) (LgI : Nat → Nat → Int) (ck : Nat) (cp ch : Nat → Nat) (cm co : Nat → Int) (tp : (Nat → Int) × Nat) (pe : Int) (rf : Nat → Int), 40 ≤ d → RS (s, D, B, g, v, W, K, cn, nl, hl, es, x, kf, NI, LgI, ck, cp, ch, cm, co, tp, pe, rf) → ∃ z : Int,
    (∀ I L, RC n P I t u (s, D, B, g, v, W, K, cn, nl, hl, es, x, kf, NI, LgI, ck, cp, ch, cm, co, tp, pe, rf) → sq_X (some (.inl z)) n L P (sq_cf sq_SC I) (mm_rn (d + 14) y1 (.inr (.inr (some 0)) :: a) n I L P)) ∧
    (∀ I L, RM n P I (s, D, B, g, v, W, K, cn, nl, hl, es, x, kf, NI, LgI, ck, cp, ch, cm, co, tp, pe, rf) → sq_X (some (.inl z)) n L P (fun I' => fM I I' ∧ ∀ b, (b < 239 ∨ 270 ≤ b) → I' b = I b) (mm_rn (d + 14) y2 (.inr (.inr (some 239)) :: a) n I L P))) : RJ y1 y2 a := by
  refine RJ_of (fun d n P I L t u σ hd hc hm hs hz => ?_)
  obtain ⟨s, D, B, g, v, W, K, cn, nl, hl, es, x, kf, NI, LgI, ck, cp, ch, cm, co, tp, pe, rf⟩ := σ
  obtain ⟨e, rfl⟩ : ∃ e, d = e + 14 := ⟨d - 14, by omega⟩
  obtain ⟨z, h1, h2⟩ := H e n P t u s D B g v W K cn nl hl es x kf NI LgI ck cp ch cm co tp pe rf (by omega) hs
  refine ⟨z, t, u, _, P, rfl, hs, sq_mono (h1 I L hc) (fun I' hI => ⟨?_, sq_cf_hi hI (by decide)⟩), fun J hJ => ⟨L, sq_mono (h2 J L hJ) (fun I' hI => ⟨RM_fr hJ hI.1, hI.2⟩)⟩⟩
  have ht := RC_t hc
  exact RC_fr hc (fC_cf ⟨ht.1, ht.2.1⟩ (RS_nl hs) hI)
theorem fM_q {I I' : mm_I} {N : Nat → Int} (h1 : sq_mN I N) (h2 : sq_mN I' N) (h3 : sq_fr [248, 249, 257, 259, 261, 266, 267] I I') : fM I I' ∧ ∀ b, (b < 239 ∨ 270 ≤ b) → I' b = I b := by
  have hx : ∀ b, (b < 248 ∨ (250 ≤ b ∧ b < 257) ∨ b = 258 ∨ b = 260 ∨ (262 ≤ b ∧ b ≤ 265) ∨ 268 ≤ b) → I' b = I b := fun b hb => h3 b (by simp only [List.mem_cons, List.not_mem_nil, or_false]; omega)
  exact ⟨⟨fun j _ => by rw [hx 239 (by omega)], fun b a1 a2 => hx b (by omega), fun b a1 a2 a3 => hx b (by omega), fun j hj => by rw [h2 j hj, h1 j hj], hx 260 (by omega), fun b a1 a2 => hx b (by omega), hx 268 (by omega)⟩, fun b hb => hx b (by omega)⟩
theorem fM_id (I : mm_I) : fM I I ∧ ∀ b, (b < 239 ∨ 270 ≤ b) → I b = I b := ⟨fM_hi (fun _ _ => rfl), fun _ _ => rfl⟩
