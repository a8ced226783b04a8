/-! questions: both answer alike and leave the state as it is -/
theorem J_rule (w : Int) : RJ 91 200 [.inl w] := RJ_q (fun d n P t u s D B g v W K cn nl hl es x kf NI LgI ck cp ch cm co tp pe rf hd hs => ⟨_, fun I L hc => by
  obtain ⟨lw, hC⟩ := CC_of hc hs
  exact ⟨I, oc_rule (d := d + 4) hC w, sq_cf_refl _ I⟩,
  fun I L hm => by
  have hM := MM_of hm hs
  exact ⟨I, om_rule (d := d + 4) hM w, fM_id I⟩⟩)
theorem J_steps (p q : Int) : RJ 94 202 [.inl p, .inl q] := RJ_q (fun d n P t u s D B g v W K cn nl hl es x kf NI LgI ck cp ch cm co tp pe rf hd hs => ⟨_, fun I L hc => by
  obtain ⟨lw, hC⟩ := CC_of hc hs
  exact ⟨I, oc_steps (d := d + 4) hC p q, sq_cf_refl _ I⟩,
  fun I L hm => by
  have hM := MM_of hm hs
  exact ⟨I, om_steps (d := d + 4) hM p q, fM_id I⟩⟩)
theorem J_status (w : Int) : RJ 112 220 [.inl w] := RJ_q (fun d n P t u s D B g v W K cn nl hl es x kf NI LgI ck cp ch cm co tp pe rf hd hs => ⟨_, fun I L hc => by
  obtain ⟨lw, hC⟩ := CC_of hc hs
  exact ⟨I, oc_status (d := d + 4) hc.1 hc.2.2.2.2.2.2.2.2 w, sq_cf_refl _ I⟩,
  fun I L hm => by
  have hM := MM_of hm hs
  exact ⟨I, om_status (d := d + 4) hm.1 hm.2.2.2.2.2.2.2.2 w, fM_id I⟩⟩)
theorem J_log (i w : Int) : RJ 114 222 [.inl i, .inl w] := RJ_q (fun d n P t u s D B g v W K cn nl hl es x kf NI LgI ck cp ch cm co tp pe rf hd hs => ⟨_, fun I L hc => by
  obtain ⟨lw, hC⟩ := CC_of hc hs
  exact ⟨I, oc_log (d := d + 4) (s := s) hc.1 hc.2.2.2.1 hs.2.2.1 i w, sq_cf_refl _ I⟩,
  fun I L hm => by
  have hM := MM_of hm hs
  exact ⟨I, om_log (d := d + 4) (s := s) hm.1 hm.2.2.2.1.1 hs.2.2.1 i w, fM_id I⟩⟩)
theorem J_lost (y : Int) : RJ 116 227 [.inl y] := RJ_q (fun d n P t u s D B g v W K cn nl hl es x kf NI LgI ck cp ch cm co tp pe rf hd hs => ⟨_, fun I L hc => by
  obtain ⟨lw, hC⟩ := CC_of hc hs
  exact oc_lost (d := d + 4) (by omega) hC y,
  fun I L hm => by
  have hM := MM_of hm hs
  exact sq_mono (om_lost (d := d + 4) (by omega) hM y) (fun I' hI => fM_q hm.2.2.2.1.1 hI.1 (sq_fr_sub hI.2 (by decide)))⟩)
theorem J_left (p y : Int) : RJ 117 228 [.inl p, .inl y] := RJ_q (fun d n P t u s D B g v W K cn nl hl es x kf NI LgI ck cp ch cm co tp pe rf hd hs => ⟨_, fun I L hc => by
  obtain ⟨lw, hC⟩ := CC_of hc hs
  exact oc_left (d := d + 4) (by omega) hC p y,
  fun I L hm => by
  have hM := MM_of hm hs
  exact sq_mono (om_left (d := d + 4) (by omega) hM p y) (fun I' hI => fM_q hm.2.2.2.1.1 hI.1 (sq_fr_sub hI.2 (by decide)))⟩)
theorem J_saved (y : Int) : RJ 118 229 [.inl y] := RJ_q (fun d n P t u s D B g v W K cn nl hl es x kf NI LgI ck cp ch cm co tp pe rf hd hs => ⟨_, fun I L hc => by
  obtain ⟨lw, hC⟩ := CC_of hc hs
  exact oc_saved (d := d + 4) (by omega) hC y,
  fun I L hm => by
  have hM := MM_of hm hs
  exact sq_mono (om_saved (d := d + 4) (by omega) hM y) (fun I' hI => fM_q hm.2.2.2.1.1 hI.1 (sq_fr_sub hI.2 (by decide)))⟩)
theorem J_cryAt (y w : Int) : RJ 119 230 [.inl y, .inl w] := RJ_q (fun d n P t u s D B g v W K cn nl hl es x kf NI LgI ck cp ch cm co tp pe rf hd hs => ⟨_, fun I L hc => by
  obtain ⟨lw, hC⟩ := CC_of hc hs
  exact oc_cryAt (d := d + 4) (by omega) hC y w,
  fun I L hm => by
  have hM := MM_of hm hs
  exact sq_mono (om_cryAt (d := d + 4) (by omega) hM y w) (fun I' hI => fM_q hm.2.2.2.1.1 hI.1 (sq_fr_sub hI.2 (by decide)))⟩)
theorem J_quiet : RJ 120 231 [] := RJ_q (fun d n P t u s D B g v W K cn nl hl es x kf NI LgI ck cp ch cm co tp pe rf hd hs => ⟨_, fun I L hc => by
  obtain ⟨lw, hC⟩ := CC_of hc hs
  exact oc_quiet (d := d + 4) (by omega) hC,
  fun I L hm => by
  have hM := MM_of hm hs
  exact sq_mono (om_quiet (d := d + 4) (by omega) hM) (fun I' hI => fM_q hm.2.2.2.1.1 hI.1 (sq_fr_sub hI.2 (by decide)))⟩)
theorem J_call (y w : Int) : RJ 121 234 [.inl y, .inl w] := RJ_q (fun d n P t u s D B g v W K cn nl hl es x kf NI LgI ck cp ch cm co tp pe rf hd hs => ⟨_, fun I L hc => by
  obtain ⟨lw, hC⟩ := CC_of hc hs
  exact ⟨I, oc_call (d := d + 4) hC (fun p hp => (hc.2.1.2.1 p hp).2) hs.1.2.2.2.2.2.2.1 y w, sq_cf_refl _ I⟩,
  fun I L hm => by
  have hM := MM_of hm hs
  exact ⟨I, om_call (d := d + 4) hM (fun p hp => (hm.2.1.2.1 p hp).2) hs.1.2.2.2.2.2.2.1 y w, fM_id I⟩⟩)
theorem J_cover : RJ 125 238 [] := RJ_q (fun d n P t u s D B g v W K cn nl hl es x kf NI LgI ck cp ch cm co tp pe rf hd hs => ⟨_, fun I L hc => by
  obtain ⟨lw, hC⟩ := CC_of hc hs
  exact ⟨I, oc_cover (d := d + 4) hC, sq_cf_refl _ I⟩,
  fun I L hm => by
  have hM := MM_of hm hs
  exact ⟨I, om_cover (d := d + 4) hM hs.1.2.2.2.2.2.2.2.2.2 hs.1.2.2.2.2.1, fM_id I⟩⟩)
theorem J_fits (y : Int) : RJ 127 243 [.inl y] := RJ_q (fun d n P t u s D B g v W K cn nl hl es x kf NI LgI ck cp ch cm co tp pe rf hd hs => ⟨_, fun I L hc => by
  obtain ⟨lw, hC⟩ := CC_of hc hs
  exact oc_fits (d := d + 4) (M := x.1) (by omega) hC hc.2.1.2.2 (fun p hp => (hc.2.1.2.1 p hp).1) hs.1.2.2.2.2.2.1 hs.1.2.2.2.2.2.2.2.1 hs.2.2.2.2.1 hc.2.2.2.2.2.1 y,
  fun I L hm => by
  have hM := MM_of hm hs
  exact sq_mono (om_fits (d := d + 4) (by omega) hM (fun p hp => (hm.2.1.2.1 p hp).1) hs.1.2.2.2.2.2.1 hs.2.2.2.2.1 hm.2.2.2.2.2.1 y) (fun I' hI => fM_q hm.2.2.2.1.1 hI.1 (sq_fr_sub hI.2 (by decide)))⟩)
theorem J_ask (y : Int) : RJ 128 244 [.inl y] := RJ_q (fun d n P t u s D B g v W K cn nl hl es x kf NI LgI ck cp ch cm co tp pe rf hd hs => ⟨_, fun I L hc => by
  obtain ⟨lw, hC⟩ := CC_of hc hs
  exact oc_ask (d := d + 4) (M := x.1) (by omega) hC hc.2.1.2.2 (fun p hp => (hc.2.1.2.1 p hp).1) hs.1.2.2.2.2.2.1 hs.1.2.2.2.2.2.2.2.1 hs.2.2.2.2.1 hc.2.2.2.2.2.1 y,
  fun I L hm => by
  have hM := MM_of hm hs
  exact sq_mono (om_ask (d := d + 4) (by omega) hM (fun p hp => (hm.2.1.2.1 p hp).1) hs.1.2.2.2.2.2.1 hs.2.2.2.2.1 hm.2.2.2.2.2.1 y) (fun I' hI => fM_q hm.2.2.2.1.1 hI.1 (sq_fr_sub hI.2 (by decide)))⟩)
theorem J_game (p q y z w : Int) : RJ 129 248 [.inl p, .inl q, .inl y, .inl z, .inl w] := RJ_q (fun d n P t u s D B g v W K cn nl hl es x kf NI LgI ck cp ch cm co tp pe rf hd hs => ⟨_, fun I L hc => by
  obtain ⟨lw, hC⟩ := CC_of hc hs
  exact ⟨I, oc_game (d := d + 4) hC p q y z w, sq_cf_refl _ I⟩,
  fun I L hm => by
  have hM := MM_of hm hs
  exact ⟨I, om_game (d := d + 4) hM p q y z w, fM_id I⟩⟩)
theorem J_rests (p q i : Int) : RJ 133 250 [.inl p, .inl q, .inl i] := RJ_q (fun d n P t u s D B g v W K cn nl hl es x kf NI LgI ck cp ch cm co tp pe rf hd hs => ⟨_, fun I L hc => by
  obtain ⟨lw, hC⟩ := CC_of hc hs
  exact ⟨I, oc_rests (d := d + 4) hC p q i, sq_cf_refl _ I⟩,
  fun I L hm => by
  have hM := MM_of hm hs
  exact ⟨I, om_rests (d := d + 4) hM p q i, fM_id I⟩⟩)
theorem J_odds (p y w z : Int) : RJ 135 252 [.inl p, .inl y, .inl w, .inl z] := RJ_q (fun d n P t u s D B g v W K cn nl hl es x kf NI LgI ck cp ch cm co tp pe rf hd hs => ⟨_, fun I L hc => by
  obtain ⟨lw, hC⟩ := CC_of hc hs
  exact oc_odds (d := d + 4) (by omega) hC p y w z,
  fun I L hm => by
  have hM := MM_of hm hs
  exact sq_mono (om_odds (d := d) (by omega) hM p y w z) (fun I' hI => fM_q hm.2.2.2.1.1 hI.1 (sq_fr_sub hI.2 (by decide)))⟩)
theorem J_shares (p y : Int) : RJ 137 253 [.inl p, .inl y] := RJ_q (fun d n P t u s D B g v W K cn nl hl es x kf NI LgI ck cp ch cm co tp pe rf hd hs => ⟨_, fun I L hc => by
  obtain ⟨lw, hC⟩ := CC_of hc hs
  exact ⟨I, oc_shares (d := d + 4) hC p y, sq_cf_refl _ I⟩,
  fun I L hm => by
  have hM := MM_of hm hs
  exact ⟨I, om_shares (d := d + 4) hM p y, fM_id I⟩⟩)
theorem J_most (w : Int) : RJ 138 259 [.inl w] := RJ_q (fun d n P t u s D B g v W K cn nl hl es x kf NI LgI ck cp ch cm co tp pe rf hd hs => ⟨_, fun I L hc => by
  obtain ⟨lw, hC⟩ := CC_of hc hs
  exact ⟨I, oc_most (d := d + 4) hC (fun p hp => (hc.2.1.2.1 p hp).2) hs.1.2.2.2.2.2.2.2.2.1 w, sq_cf_refl _ I⟩,
  fun I L hm => by
  have hM := MM_of hm hs
  exact ⟨I, om_most (d := d + 4) hM (fun p hp => (hm.2.1.2.1 p hp).2) w, fM_id I⟩⟩)
theorem J_count (w : Int) : RJ 144 262 [.inl w] := RJ_q (fun d n P t u s D B g v W K cn nl hl es x kf NI LgI ck cp ch cm co tp pe rf hd hs => ⟨_, fun I L hc => by
  obtain ⟨lw, hC⟩ := CC_of hc hs
  exact ⟨I, oc_count (d := d + 4) (s := s) hc.1 hc.2.1.1.2.2.1 hc.2.2.2.1 hs.2.2.1 hc.2.2.1.1 hc.2.2.1.2.1 hc.2.2.2.2.2.2.2.1 hc.2.2.2.2.2.2.1.1 hc.2.2.2.2.2.1.1 w, sq_cf_refl _ I⟩,
  fun I L hm => by
  have hM := MM_of hm hs
  exact ⟨I, om_count (d := d + 4) (s := s) hm.1 hm.2.1.1.2.1 hm.2.2.2.1 hm.2.2.1.1 hm.2.2.1.2.1 hm.2.2.2.2.2.2.2.1 hm.2.2.2.2.2.2.1.1 hm.2.2.2.2.2.1.1 w, fM_id I⟩⟩)
theorem J_round (y w : Int) : RJ 124 237 [.inl y, .inl w] := RJ_q (fun d n P t u s D B g v W K cn nl hl es x kf NI LgI ck cp ch cm co tp pe rf hd hs => ⟨_, fun I L hc => by
  obtain ⟨lw, hC⟩ := CC_of hc hs
  exact oc_round (d := d + 4) hC y w,
  fun I L hm => by
  have hM := MM_of hm hs
  refine sq_mono (om_round (d := d + 4) hM y w) (fun I' hI => ?_)
  obtain ⟨-, h1, h2⟩ := hI
  exact ⟨⟨fun j hj => h2 j (by omega) (by omega), fun b a1 a2 => h1 b (by omega), fun b a1 a2 a3 => h1 b (by omega), fun j hj => by rw [h1 257 (by decide)], h1 260 (by decide), fun b a1 a2 => h1 b (by omega), h1 268 (by decide)⟩, fun b hb => h1 b (by omega)⟩⟩)
