/-! branches, switches, the stack -/
section SN3
variable {tab : sr_Tab} {cc : ByteArray} {mx : Nat} {own mnm : String} {pc : Nat}
theorem sn_if {f : Int → Bool} {tgt nx : Nat} (hk : ∀ (p : Program) (l : Launch) (e : Env) (R : Room) (s : State) (m : MethodId) (args : Array Value) (below : List Frame) (meth : Method) (c : Code) (Q : State → Prop) (H : Heap) (locs : List Loc) (cells slots : Nat) (ls : Array Slot) (rest : List Value) (x : Int), p.tables.exec = Jvm.exec → c.code = cc → mm_rg x → (f x = true → W p l e R s m args below meth c H locs cells slots Q (F0 m tgt ls rest)) → (f x = false → W p l e R s m args below meth c H locs cells slots Q (F0 m nx ls rest)) → W p l e R s m args below meth c H locs cells slots Q (F0 m pc ls (.int (Int32.ofInt x) :: rest))) : sr_Snd tab cc mx own mnm pc (mm_if f tgt nx) := by
  intro E d p l e R s m args below meth c Q n0 n1 H locs cells slots ls lv ll st n I L P pc' lv' ll' st' n' I' L' P' hC hnm hM hR h hn hn1 hb1 hb2 hb3 k
  unfold mm_if at h
  split at h
  · rename_i x r
    simp only [Option.some.injEq, Sum.inl.injEq, Prod.mk.injEq] at h
    obtain ⟨rfl, rfl, rfl, rfl, rfl, rfl, rfl, rfl⟩ := h
    have k2 := k H locs cells slots ls (hR.st hR.tl)
    refine hk p l e R s m args below meth c Q H locs cells slots ls _ x hC.1 hC.2.1 hR.hd (fun h1 => ?_) (fun h1 => ?_)
    · rw [if_pos h1] at k2
      exact k2
    · rw [if_neg (by rw [h1]; decide)] at k2
      exact k2
  · cases h
theorem sn_ic {f : Int → Int → Bool} {tgt nx : Nat} (hk : ∀ (p : Program) (l : Launch) (e : Env) (R : Room) (s : State) (m : MethodId) (args : Array Value) (below : List Frame) (meth : Method) (c : Code) (Q : State → Prop) (H : Heap) (locs : List Loc) (cells slots : Nat) (ls : Array Slot) (rest : List Value) (x y : Int), p.tables.exec = Jvm.exec → c.code = cc → mm_rg x → mm_rg y → (f x y = true → W p l e R s m args below meth c H locs cells slots Q (F0 m tgt ls rest)) → (f x y = false → W p l e R s m args below meth c H locs cells slots Q (F0 m nx ls rest)) → W p l e R s m args below meth c H locs cells slots Q (F0 m pc ls (.int (Int32.ofInt y) :: .int (Int32.ofInt x) :: rest))) : sr_Snd tab cc mx own mnm pc (mm_ic f tgt nx) := by
  intro E d p l e R s m args below meth c Q n0 n1 H locs cells slots ls lv ll st n I L P pc' lv' ll' st' n' I' L' P' hC hnm hM hR h hn hn1 hb1 hb2 hb3 k
  unfold mm_ic at h
  split at h
  · rename_i y x r
    simp only [Option.some.injEq, Sum.inl.injEq, Prod.mk.injEq] at h
    obtain ⟨rfl, rfl, rfl, rfl, rfl, rfl, rfl, rfl⟩ := h
    have hy : mm_rg y := hR.hd
    have hx : mm_rg x := hR.tl _ List.mem_cons_self
    have k2 := k H locs cells slots ls (hR.st (fun u hu => hR.tl u (List.mem_cons_of_mem _ hu)))
    refine hk p l e R s m args below meth c Q H locs cells slots ls _ x y hC.1 hC.2.1 hx hy (fun h1 => ?_) (fun h1 => ?_)
    · rw [if_pos h1] at k2
      exact k2
    · rw [if_neg (by rw [h1]; decide)] at k2
      exact k2
  · cases h
theorem sn_if_eq {off : Int} {tgt : Nat} (hd : decode cc pc = .ok (.ifCond .eq off, 3)) (ht : (pc : Int) + off = (tgt : Int)) : sr_Snd tab cc mx own mnm pc (mm_if (fun x => decide (x = 0)) tgt (pc + 3)) :=
  sn_if fun p l e R s m args below meth c Q H locs cells slots ls rest x hx hb hr k1 k2 => lv_if_eq hx hb hd ht (fun h => k1 (decide_eq_true ((so_eq hr so_r0).mp h))) (fun h => k2 (decide_eq_false (fun q => h ((so_eq hr so_r0).mpr q))))
theorem sn_ic_eq {off : Int} {tgt : Nat} (hd : decode cc pc = .ok (.if_icmp .eq off, 3)) (ht : (pc : Int) + off = (tgt : Int)) : sr_Snd tab cc mx own mnm pc (mm_ic (fun x y => decide (x = y)) tgt (pc + 3)) :=
  sn_ic fun p l e R s m args below meth c Q H locs cells slots ls rest x y hx hb hr hy k1 k2 => lv_icmp_eq hx hb hd ht (fun h => k1 (decide_eq_true ((so_eq hr hy).mp h))) (fun h => k2 (decide_eq_false (fun q => h ((so_eq hr hy).mpr q))))
theorem sn_if_ne {off : Int} {tgt : Nat} (hd : decode cc pc = .ok (.ifCond .ne off, 3)) (ht : (pc : Int) + off = (tgt : Int)) : sr_Snd tab cc mx own mnm pc (mm_if (fun x => decide (x ≠ 0)) tgt (pc + 3)) :=
  sn_if fun p l e R s m args below meth c Q H locs cells slots ls rest x hx hb hr k1 k2 => lv_if_ne hx hb hd ht (fun h => k1 (decide_eq_true (fun q => h ((so_eq hr so_r0).mpr q)))) (fun h => k2 (decide_eq_false (fun q => q ((so_eq hr so_r0).mp h))))
theorem sn_ic_ne {off : Int} {tgt : Nat} (hd : decode cc pc = .ok (.if_icmp .ne off, 3)) (ht : (pc : Int) + off = (tgt : Int)) : sr_Snd tab cc mx own mnm pc (mm_ic (fun x y => decide (x ≠ y)) tgt (pc + 3)) :=
  sn_ic fun p l e R s m args below meth c Q H locs cells slots ls rest x y hx hb hr hy k1 k2 => lv_icmp_ne hx hb hd ht (fun h => k1 (decide_eq_true (fun q => h ((so_eq hr hy).mpr q)))) (fun h => k2 (decide_eq_false (fun q => q ((so_eq hr hy).mp h))))
theorem sn_if_lt {off : Int} {tgt : Nat} (hd : decode cc pc = .ok (.ifCond .lt off, 3)) (ht : (pc : Int) + off = (tgt : Int)) : sr_Snd tab cc mx own mnm pc (mm_if (fun x => decide (x < 0)) tgt (pc + 3)) :=
  sn_if fun p l e R s m args below meth c Q H locs cells slots ls rest x hx hb hr k1 k2 => lv_if_lt hx hb hd ht (fun h => k1 (decide_eq_true ((so_lt hr so_r0).mp h))) (fun h => k2 (decide_eq_false (fun q => h ((so_lt hr so_r0).mpr q))))
theorem sn_ic_lt {off : Int} {tgt : Nat} (hd : decode cc pc = .ok (.if_icmp .lt off, 3)) (ht : (pc : Int) + off = (tgt : Int)) : sr_Snd tab cc mx own mnm pc (mm_ic (fun x y => decide (x < y)) tgt (pc + 3)) :=
  sn_ic fun p l e R s m args below meth c Q H locs cells slots ls rest x y hx hb hr hy k1 k2 => lv_icmp_lt hx hb hd ht (fun h => k1 (decide_eq_true ((so_lt hr hy).mp h))) (fun h => k2 (decide_eq_false (fun q => h ((so_lt hr hy).mpr q))))
theorem sn_if_ge {off : Int} {tgt : Nat} (hd : decode cc pc = .ok (.ifCond .ge off, 3)) (ht : (pc : Int) + off = (tgt : Int)) : sr_Snd tab cc mx own mnm pc (mm_if (fun x => decide (0 ≤ x)) tgt (pc + 3)) :=
  sn_if fun p l e R s m args below meth c Q H locs cells slots ls rest x hx hb hr k1 k2 => lv_if_ge hx hb hd ht (fun h => k1 (decide_eq_true ((so_le so_r0 hr).mp h))) (fun h => k2 (decide_eq_false (fun q => h ((so_le so_r0 hr).mpr q))))
theorem sn_ic_ge {off : Int} {tgt : Nat} (hd : decode cc pc = .ok (.if_icmp .ge off, 3)) (ht : (pc : Int) + off = (tgt : Int)) : sr_Snd tab cc mx own mnm pc (mm_ic (fun x y => decide (y ≤ x)) tgt (pc + 3)) :=
  sn_ic fun p l e R s m args below meth c Q H locs cells slots ls rest x y hx hb hr hy k1 k2 => lv_icmp_ge hx hb hd ht (fun h => k1 (decide_eq_true ((so_le hy hr).mp h))) (fun h => k2 (decide_eq_false (fun q => h ((so_le hy hr).mpr q))))
theorem sn_if_gt {off : Int} {tgt : Nat} (hd : decode cc pc = .ok (.ifCond .gt off, 3)) (ht : (pc : Int) + off = (tgt : Int)) : sr_Snd tab cc mx own mnm pc (mm_if (fun x => decide (0 < x)) tgt (pc + 3)) :=
  sn_if fun p l e R s m args below meth c Q H locs cells slots ls rest x hx hb hr k1 k2 => lv_if_gt hx hb hd ht (fun h => k1 (decide_eq_true ((so_lt so_r0 hr).mp h))) (fun h => k2 (decide_eq_false (fun q => h ((so_lt so_r0 hr).mpr q))))
theorem sn_ic_gt {off : Int} {tgt : Nat} (hd : decode cc pc = .ok (.if_icmp .gt off, 3)) (ht : (pc : Int) + off = (tgt : Int)) : sr_Snd tab cc mx own mnm pc (mm_ic (fun x y => decide (y < x)) tgt (pc + 3)) :=
  sn_ic fun p l e R s m args below meth c Q H locs cells slots ls rest x y hx hb hr hy k1 k2 => lv_icmp_gt hx hb hd ht (fun h => k1 (decide_eq_true ((so_lt hy hr).mp h))) (fun h => k2 (decide_eq_false (fun q => h ((so_lt hy hr).mpr q))))
theorem sn_if_le {off : Int} {tgt : Nat} (hd : decode cc pc = .ok (.ifCond .le off, 3)) (ht : (pc : Int) + off = (tgt : Int)) : sr_Snd tab cc mx own mnm pc (mm_if (fun x => decide (x ≤ 0)) tgt (pc + 3)) :=
  sn_if fun p l e R s m args below meth c Q H locs cells slots ls rest x hx hb hr k1 k2 => lv_if_le hx hb hd ht (fun h => k1 (decide_eq_true ((so_le hr so_r0).mp h))) (fun h => k2 (decide_eq_false (fun q => h ((so_le hr so_r0).mpr q))))
theorem sn_ic_le {off : Int} {tgt : Nat} (hd : decode cc pc = .ok (.if_icmp .le off, 3)) (ht : (pc : Int) + off = (tgt : Int)) : sr_Snd tab cc mx own mnm pc (mm_ic (fun x y => decide (x ≤ y)) tgt (pc + 3)) :=
  sn_ic fun p l e R s m args below meth c Q H locs cells slots ls rest x y hx hb hr hy k1 k2 => lv_icmp_le hx hb hd ht (fun h => k1 (decide_eq_true ((so_le hr hy).mp h))) (fun h => k2 (decide_eq_false (fun q => h ((so_le hr hy).mpr q))))

theorem sn_goto {off : Int} {tgt : Nat} (hd : decode cc pc = .ok (.goto off, 3)) (ht : (pc : Int) + off = (tgt : Int)) : sr_Snd tab cc mx own mnm pc (mm_go tgt) := by
  intro E d p l e R s m args below meth c Q n0 n1 H locs cells slots ls lv ll st n I L P pc' lv' ll' st' n' I' L' P' hC hnm hM hR h hn hn1 hb1 hb2 hb3 k
  unfold mm_go at h
  simp only [Option.some.injEq, Sum.inl.injEq, Prod.mk.injEq] at h
  obtain ⟨rfl, rfl, rfl, rfl, rfl, rfl, rfl, rfl⟩ := h
  exact lv_goto hC.1 hC.2.1 hd ht (k H locs cells slots ls hR)
theorem sn_ifnull {off : Int} {tgt : Nat} (hd : decode cc pc = .ok (.ifnull off, 3)) (ht : (pc : Int) + off = (tgt : Int)) : sr_Snd tab cc mx own mnm pc (mm_nul tgt (pc + 3)) := by
  intro E d p l e R s m args below meth c Q n0 n1 H locs cells slots ls lv ll st n I L P pc' lv' ll' st' n' I' L' P' hC hnm hM hR h hn hn1 hb1 hb2 hb3 k
  unfold mm_nul at h
  split at h
  · simp only [Option.some.injEq, Sum.inl.injEq, Prod.mk.injEq] at h
    obtain ⟨rfl, rfl, rfl, rfl, rfl, rfl, rfl, rfl⟩ := h
    exact lv_ifnullN hC.1 hC.2.1 hd ht (k H locs cells slots ls (hR.st hR.tl))
  · simp only [Option.some.injEq, Sum.inl.injEq, Prod.mk.injEq] at h
    obtain ⟨rfl, rfl, rfl, rfl, rfl, rfl, rfl, rfl⟩ := h
    exact lv_ifnull hC.1 hC.2.1 hd (k H locs cells slots ls (hR.st hR.tl))
  · cases h
def mm_tl (pc : Nat) : Int → List Int → List (Int × Nat)
  | _, [] => []
  | lo, o :: r => (lo, ((pc : Int) + o).toNat) :: mm_tl pc (lo + 1) r
theorem mm_tl_out {pc df : Nat} {x : Int} : ∀ (os : List Int) (lo : Int), (x < lo ∨ lo + os.length ≤ x) → mm_sw df x (mm_tl pc lo os) = df := by
  intro os
  induction os with
  | nil => intro lo _; rfl
  | cons o r ih =>
    intro lo h
    show (if x = lo then _ else mm_sw df x (mm_tl pc (lo + 1) r)) = df
    rw [List.length_cons] at h
    rw [if_neg (by omega)]
    exact ih (lo + 1) (by omega)
theorem mm_tl_in {pc df : Nat} {x : Int} : ∀ (os : List Int) (lo : Int), lo ≤ x → x < lo + os.length → ∃ o, os[(x - lo).toNat]? = some o ∧ mm_sw df x (mm_tl pc lo os) = ((pc : Int) + o).toNat := by
  intro os
  induction os with
  | nil => intro lo h1 h2; simp at h2; omega
  | cons o r ih =>
    intro lo h1 h2
    by_cases hx : x = lo
    · refine ⟨o, ?_, ?_⟩
      · rw [show (x - lo).toNat = 0 by omega]; rfl
      · show (if x = lo then _ else _) = _
        rw [if_pos hx]
    · rw [List.length_cons] at h2
      obtain ⟨o', h3, h4⟩ := ih (lo + 1) (by omega) (by omega)
      refine ⟨o', ?_, ?_⟩
      · rw [show (x - lo).toNat = (x - (lo + 1)).toNat + 1 by omega, List.getElem?_cons_succ]
        exact h3
      · show (if x = lo then _ else _) = _
        rw [if_neg hx]
        exact h4
theorem sn_tsw {dflt lo hi : Int} {offs : Array Int} {len df : Nat} {l : List (Int × Nat)} (hd : decode cc pc = .ok (.tableswitch dflt lo hi offs, len)) (hl : mm_tl pc lo offs.toList = l) (hdf : (pc : Int) + dflt = (df : Int)) (hlen : hi + 1 = lo + offs.toList.length) (hpos : offs.toList.all (fun o => decide (0 ≤ (pc : Int) + o)) = true) : sr_Snd tab cc mx own mnm pc (mm_swi l df) := by
  intro E d p l' e R s m args below meth c Q n0 n1 H locs cells slots ls lv ll st n I L P pc' lv' ll' st' n' I' L' P' hC hnm hM hR h hn hn1 hb1 hb2 hb3 k
  unfold mm_swi at h
  split at h
  · rename_i x r
    simp only [Option.some.injEq, Sum.inl.injEq, Prod.mk.injEq] at h
    obtain ⟨rfl, rfl, rfl, rfl, rfl, rfl, rfl, rfl⟩ := h
    have k2 := k H locs cells slots ls (hR.st hR.tl)
    have hx : mm_rg x := hR.hd
    rw [← hl] at k2
    by_cases ho : x < lo ∨ hi < x
    · rw [mm_tl_out _ _ (by omega)] at k2
      exact lv_tableOut (x := Int32.ofInt x) hC.1 hC.2.1 hd (by rw [so_ti hx]; exact ho) hdf k2
    · obtain ⟨o, h3, h4⟩ := mm_tl_in (pc := pc) (df := df) offs.toList lo (x := x) (by omega) (by omega)
      rw [h4] at k2
      have hp := of_decide_eq_true (List.all_eq_true.mp hpos o (List.mem_of_getElem? h3))
      refine lv_tableIn (x := Int32.ofInt x) (off := o) hC.1 hC.2.1 hd (by rw [so_ti hx]; omega) (by rw [so_ti hx]; omega) (by rw [so_ti hx, ← Array.getElem?_toList]; exact h3) ?_ k2
      rw [Int.toNat_of_nonneg hp]
  · cases h
theorem mm_sw_look {pc df : Nat} {x dflt : Int} (hdf : (pc : Int) + dflt = (df : Int)) : ∀ ps : List (Int × Int), (∀ q ∈ ps, 0 ≤ (pc : Int) + q.2) → ((mm_sw df x (ps.map (fun q => (q.1, ((pc : Int) + q.2).toNat))) : Nat) : Int) = (pc : Int) + Op.lookupswitch.offset ps dflt x := by
  intro ps
  induction ps with
  | nil => intro _; exact hdf.symm
  | cons q r ih =>
    intro h
    obtain ⟨a, o⟩ := q
    rw [Op.lookupswitch.offset_cons]
    show ((if x = a then _ else mm_sw df x (r.map _) : Nat) : Int) = _
    by_cases hx : x = a
    · rw [if_pos hx, if_pos (by first | exact hx.symm | exact hx)]
      exact Int.toNat_of_nonneg (h (a, o) List.mem_cons_self)
    · rw [if_neg hx, if_neg (by first | exact fun q => hx q.symm | exact hx)]
      exact ih (fun q hq => h q (List.mem_cons_of_mem _ hq))
theorem sn_lsw {dflt : Int} {ps : Array (Int × Int)} {len df : Nat} {l : List (Int × Nat)} (hd : decode cc pc = .ok (.lookupswitch dflt ps, len)) (hl : ps.toList.map (fun q => (q.1, ((pc : Int) + q.2).toNat)) = l) (hdf : (pc : Int) + dflt = (df : Int)) (hp : (ps.toList.zip (ps.toList.drop 1)).all (fun (a, next) => a.1 < next.1) = true) (hpos : ps.toList.all (fun q => decide (0 ≤ (pc : Int) + q.2)) = true) : sr_Snd tab cc mx own mnm pc (mm_swi l df) := by
  intro E d p l' e R s m args below meth c Q n0 n1 H locs cells slots ls lv ll st n I L P pc' lv' ll' st' n' I' L' P' hC hnm hM hR h hn hn1 hb1 hb2 hb3 k
  unfold mm_swi at h
  split at h
  · rename_i x r
    simp only [Option.some.injEq, Sum.inl.injEq, Prod.mk.injEq] at h
    obtain ⟨rfl, rfl, rfl, rfl, rfl, rfl, rfl, rfl⟩ := h
    have k2 := k H locs cells slots ls (hR.st hR.tl)
    have hx : mm_rg x := hR.hd
    rw [← hl] at k2
    refine lv_lookup (x := Int32.ofInt x) hC.1 hC.2.1 hd hp rfl ?_ k2
    rw [so_ti hx]
    exact (mm_sw_look hdf ps.toList (fun q hq => of_decide_eq_true (List.all_eq_true.mp hpos q hq))).symm
  · cases h
theorem sn_dup (hd : decode cc pc = .ok (.dup, 1)) : sr_Snd tab cc mx own mnm pc (mm_dup (pc + 1)) := by
  intro E d p l e R s m args below meth c Q n0 n1 H locs cells slots ls lv ll st n I L P pc' lv' ll' st' n' I' L' P' hC hnm hM hR h hn hn1 hb1 hb2 hb3 k
  unfold mm_dup at h
  split at h
  · rename_i v r
    split at h
    · rename_i hv
      simp only [Option.some.injEq, Sum.inl.injEq, Prod.mk.injEq] at h
      obtain ⟨rfl, rfl, rfl, rfl, rfl, rfl, rfl, rfl⟩ := h
      exact lv_dup hC.1 hC.2.1 hd (sr_c1v hv) (k H locs cells slots ls (hR.st (sr_cons hR.hd hR.2.2.2.1)))
    · cases h
  · cases h
theorem sn_dup2 (hd : decode cc pc = .ok (.dup2, 1)) : sr_Snd tab cc mx own mnm pc (mm_dup2 (pc + 1)) := by
  intro E d p l e R s m args below meth c Q n0 n1 H locs cells slots ls lv ll st n I L P pc' lv' ll' st' n' I' L' P' hC hnm hM hR h hn hn1 hb1 hb2 hb3 k
  unfold mm_dup2 at h
  split at h
  · rename_i v u r
    split at h
    · rename_i hv
      simp only [Option.some.injEq, Sum.inl.injEq, Prod.mk.injEq] at h
      obtain ⟨rfl, rfl, rfl, rfl, rfl, rfl, rfl, rfl⟩ := h
      exact lv_dup2_11 hC.1 hC.2.1 hd (sr_c1v hv.1) (sr_c1v hv.2) (k H locs cells slots ls (hR.st (sr_cons hR.hd (sr_cons (hR.tl u List.mem_cons_self) hR.2.2.2.1))))
    · cases h
  · cases h
theorem sn_pop (hd : decode cc pc = .ok (.pop, 1)) : sr_Snd tab cc mx own mnm pc (mm_pop (pc + 1)) := by
  intro E d p l e R s m args below meth c Q n0 n1 H locs cells slots ls lv ll st n I L P pc' lv' ll' st' n' I' L' P' hC hnm hM hR h hn hn1 hb1 hb2 hb3 k
  unfold mm_pop at h
  split at h
  · rename_i v r
    split at h
    · rename_i hv
      simp only [Option.some.injEq, Sum.inl.injEq, Prod.mk.injEq] at h
      obtain ⟨rfl, rfl, rfl, rfl, rfl, rfl, rfl, rfl⟩ := h
      exact lv_pop hC.1 hC.2.1 hd (sr_c1v hv) (k H locs cells slots ls (hR.st hR.tl))
    · cases h
  · cases h
end SN3
