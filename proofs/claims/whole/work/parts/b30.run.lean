/-- a run of the machine from the law's entry to its end with 1 is one of the law -/
theorem st_run {p : Program} {e : Env} {s : State} {m : MethodId} {below : List Frame} {meth : Method} {c : Code} (l : Launch) (hflags : l.flags = flags0) {b L : Nat} {xs : Nat → Int32} (hL : L ≤ 3072) (C0 : lw_At p s m meth c b L xs)
    {d n' : Nat} {I' L' : mm_I} {P' : mm_P} (hd : d ≤ 1000) (hn1 : n' ≤ 601024) (hn2 : sr_sl n' ≤ 7293034)
    (hrun : mm_E d 282 0 [.inr (.inr (some 1000006)), mm_junk, mm_junk, mm_junk, mm_junk, mm_junk, mm_junk] [] [] 0 (st_I L xs) (fun _ _ => 0) (fun _ _ => none) = some (some (.inl 1), n', I', L', P')) :
    W p l e room_1 s m #[Value.ref b] below meth c s.heap [] 0 0 (lw_Z below #[Value.ref b] s) (entryFrame m ([Value.ref b] : List Value).toArray 7) := by
  obtain ⟨hx, hb, hr, hml, hown, hts, hX, hbl, hlocks, hgv⟩ := id C0
  have hl : l.stackTraces = false := by unfold Launch.stackTraces; rw [hflags]; decide +kernel
  have hts' : ∀ w ∈ sr_T, w.before #[Value.ref b] s = true := fun w hw => hts w (List.mem_filter.mp hw).1
  obtain ⟨D, tA, hK⟩ := st_K hts
  obtain ⟨ad, hZ, had⟩ := st_Z hL hts hX hbl hgv D tA
  have hC : sr_C (D, tA, s.heap.size, ad, st_I L xs) d code 7 RL p room_1 s m #[Value.ref b] c := ⟨hx, hb, hml, hown, hts', hK _ _ _, hZ, Nat.le_refl _, by show d + 9 ≤ 2048; omega, by show 60 * (d + 9) ≤ 84000; omega⟩
  obtain ⟨k, hk⟩ := mm_ev_some (show mm_ev (mm_rn d) (mm_look mt_282) (0, [.inr (.inr (some 1000006)), mm_junk, mm_junk, mm_junk, mm_junk, mm_junk, mm_junk], [], [], 0, st_I L xs, (fun _ _ => 0), (fun _ _ => none)) = _ from hrun)
  rw [lg_entry_eq]
  have hL0 := sr_entL (E := (D, tA, s.heap.size, ad, st_I L xs)) (args := [.inr (.inr (some 1000006))]) (mx := 7) (h := 0) (fun v hv => by cases List.mem_singleton.mp hv; trivial) rfl
  have e9 : (([.inr (.inr (some 1000006))] : List mm_V).map (sr_v (D, tA, s.heap.size, ad, st_I L xs))) = [Value.ref b] := by
    show [Value.ref (ad 6)] = _
    rw [had]
  rw [e9] at hL0
  refine sr_main (tab := sr_tb) (l0 := mt_282) (own := RL) (mnm := meth.name) (mx := 7) (cc := code) (E := (D, tA, s.heap.size, ad, st_I L xs)) (d := d) (n0 := 0) (a := (some (.inl 1), n', I', L', P')) (Q := lw_Z below #[Value.ref b] s) ?_ hC rfl (sr_sound hl d) (by show n' ≤ 0 + 601024; omega) (by show sr_sl n' ≤ sr_sl 0 + 7293034; omega) (by show n' < 1000000; omega) k 0 _ [] [] 0 _ _ _ s.heap [] 0 0 _ hk ⟨⟨fun k q h => ?_, by omega, fun a j _ => rfl, st_rg hL⟩, va_S.rf, hL0, (fun v hv => nomatch hv), rfl, rfl, fun _ => rfl⟩
  · intro q hq
    rcases st_law meth.name q hq with h1 | ⟨h1, hdg⟩
    · exact Or.inl h1
    · refine Or.inr ⟨by rw [h1]; exact ns_rz, fun H locs cells slots ls lv ll st n I L P hR he => ?_⟩
      rw [h1] at he
      unfold mm_rz at he
      split at he
      case h_2 => cases he
      rename_i z
      split at he
      case isFalse => cases he
      simp only [Option.some.injEq, Sum.inr.injEq, Prod.mk.injEq, Sum.inl.injEq] at he
      obtain ⟨rfl, rfl, rfl, rfl, rfl⟩ := he
      have g1 : cells + 0 = n := hR.2.2.2.2.1
      have g2 : slots + sr_sl 0 = sr_sl n := hR.2.2.2.2.2.1
      have g3 : sr_sl 0 = 0 := rfl
      exact va_forget (fun q hq => hR.2.1.2.2 q hq) (W.widen (k := 601024) (n := 7293034) (by omega) (by omega) (lw_ret hx hb hr hlocks hdg))
  · rw [show sr_w (D, tA, s.heap.size, ad, st_I L xs) 0 (st_I L xs) (fun _ _ => 0) (fun _ _ => none) = [] from rfl] at h
    simp at h
