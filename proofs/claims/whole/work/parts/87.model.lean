/-! the reference: mirrors, and whether turning, mirroring changes the scheme -/
def sp_X12_mirrors : zSp := fun av w K => match av with
  | [.ref o] => o = 45 ∧ zH w.1 ∧ ∃ T, MT w.2.1 w.2.2 T ∧ ZT T ∧ ∀ wi' wl', FrM w.2.1 w.2.2 wi' wl' → MT wi' wl' (st_mirrors T).1 → K (some (.int (st_mirrors T).2)) (w.1, wi', wl')
  | _ => False
def rm_X12_mirrors : Room := { frames := 2, cells := 0, slots := 0, locals := 46 }
def M_X12_mirrors : zM := (k_X12_mirrors, f_X12, [(300, 4, 10, 1, 0, 0, sp_X12_laysMirrored), (297, 4, 10, 4, 0, 0, sp_X12_takesBeside)], ([], [], []), [], [], 1, false, (false, 0, fun _ => 0), (0, 0))
theorem ca_X12_mirrors_0 (l : Launch) : z_cok l RX12 (headSpec (.code yX12_mirrors cX12_mirrors 1 (some .int) :: zTT) rm_X12_mirrors).room (300, 4, 10, 1, 0, 0, sp_X12_laysMirrored) := z_ca4 (c_X12_laysMirrored l) mb_X12_laysMirrored ⟨_, rfl, rfl⟩ wt_1546 wt_1548 wt_74 (by decide)
theorem ca_X12_mirrors_1 (l : Launch) : z_cok l RX12 (headSpec (.code yX12_mirrors cX12_mirrors 1 (some .int) :: zTT) rm_X12_mirrors).room (297, 4, 10, 4, 0, 0, sp_X12_takesBeside) := z_ca4 (c_X12_takesBeside l) mb_X12_takesBeside ⟨_, rfl, rfl⟩ wt_1538 wt_1540 wt_73 (by decide)
theorem O_X12_mirrors (l : Launch) : z_OK l RX12 cX12_mirrors (headSpec (.code yX12_mirrors cX12_mirrors 1 (some .int) :: zTT) rm_X12_mirrors).room M_X12_mirrors := ⟨ok_X12_mirrors, fo_X12, List.forall_mem_cons.mpr ⟨ca_X12_mirrors_0 l, List.forall_mem_cons.mpr ⟨ca_X12_mirrors_1 l, fun _ h => absurd h List.not_mem_nil⟩⟩, fun _ h => absurd h List.not_mem_nil, fun _ h => absurd h List.not_mem_nil, fun _ h => absurd h List.not_mem_nil, fun _ h => absurd h List.not_mem_nil, rfl, rfl⟩
theorem c_X12_mirrors (l : Launch) : z_CS l yX12_mirrors cX12_mirrors 1 (some .int) rm_X12_mirrors sp_X12_mirrors := by
  refine z_meth (by decide) (Or.inr (Or.inl ⟨rfl, rfl⟩)) (fun h => by cases h) rfl (O_X12_mirrors l) ?_
  intro av w K h
  match av, h with
  | [.ref o], h =>
    obtain ⟨rfl, ⟨r, hG⟩, ⟨d, q, c, A, kp, tx, tl⟩, hC, hZ, h⟩ := h
    obtain ⟨G, wi, wl⟩ := w
    subst hG
    try dsimp only at h hC hZ
    have hC := mt_fld (i := 11) (v := nI 0) hC (by decide)
    have hF0 : FrM wi wl (z_up wi 45 11 (nI 0)) wl := fm_fld
    refine ⟨Nat.le_of_ble_eq_true rfl, fun Jm hs => hs 400 0 _ _ _ _ _ ?_⟩
    unfold st_mirrors at h
    dsimp only at h
    conv => whnf
    repeat ((first | refine ⟨zH_of _, ?_⟩ | refine ⟨trivial, ?_⟩ | refine ⟨rfl, ?_⟩ | refine ⟨fun hc => absurd hc (by decide), fun _ => ?_⟩ | refine ⟨fun _ => ?_, fun hc => absurd (by decide) hc⟩ | refine ⟨fun _ => ?_, fun hc => absurd hc (by decide)⟩ | refine ⟨fun hc => absurd (by decide) hc, fun _ => ?_⟩); conv => whnf)
    try dsimp only
    generalize z_up wi 45 11 (nI 0) = wi0 at *
    have hS := mt_S hC
    have hd3 := ms_hd hS
    refine ⟨d, q, c, A, hS, fun wi1 hF1 hR1 => ?_⟩
    have hS1 : MS wi1 d q c A := ms_fr hS (hF1 46 (by decide)) (by rw [hF1 45 (by decide)]) (by rw [hF1 45 (by decide)]) (hF1 47 (by decide))
    have e0 := ms_d hS1 0 (by decide)
    have e1 := ms_d hS1 1 (by decide)
    have e2 := ms_d hS1 2 (by decide)
    conv => whnf
    repeat ((first | refine ⟨zH_of _, ?_⟩ | refine ⟨trivial, ?_⟩ | refine ⟨rfl, ?_⟩ | refine ⟨fun hc => absurd hc (by decide), fun _ => ?_⟩ | refine ⟨fun _ => ?_, fun hc => absurd (by decide) hc⟩ | refine ⟨fun _ => ?_, fun hc => absurd hc (by decide)⟩ | refine ⟨fun hc => absurd (by decide) hc, fun _ => ?_⟩); conv => whnf)
    try dsimp only
    refine ⟨vp_in_nI (show 0 < 3 by decide) (by decide), ?_⟩
    conv => whnf
    repeat ((first | refine ⟨zH_of _, ?_⟩ | refine ⟨trivial, ?_⟩ | refine ⟨rfl, ?_⟩ | refine ⟨fun hc => absurd hc (by decide), fun _ => ?_⟩ | refine ⟨fun _ => ?_, fun hc => absurd (by decide) hc⟩ | refine ⟨fun _ => ?_, fun hc => absurd hc (by decide)⟩ | refine ⟨fun hc => absurd (by decide) hc, fun _ => ?_⟩); conv => whnf)
    try dsimp only
    refine ⟨vp_in_nI (show 2 < 3 by decide) (by decide), ?_⟩
    conv => whnf
    repeat ((first | refine ⟨zH_of _, ?_⟩ | refine ⟨trivial, ?_⟩ | refine ⟨rfl, ?_⟩ | refine ⟨fun hc => absurd hc (by decide), fun _ => ?_⟩ | refine ⟨fun _ => ?_, fun hc => absurd (by decide) hc⟩ | refine ⟨fun _ => ?_, fun hc => absurd hc (by decide)⟩ | refine ⟨fun hc => absurd (by decide) hc, fun _ => ?_⟩); conv => whnf)
    try dsimp only
    refine ⟨vp_in_nI (show 1 < 3 by decide) (by decide), ?_⟩
    conv => whnf
    repeat ((first | refine ⟨zH_of _, ?_⟩ | refine ⟨trivial, ?_⟩ | refine ⟨rfl, ?_⟩ | refine ⟨fun hc => absurd hc (by decide), fun _ => ?_⟩ | refine ⟨fun _ => ?_, fun hc => absurd (by decide) hc⟩ | refine ⟨fun _ => ?_, fun hc => absurd hc (by decide)⟩ | refine ⟨fun hc => absurd (by decide) hc, fun _ => ?_⟩); conv => whnf)
    try dsimp only
    rw [nI_clamp (n := 0) (by decide), nI_clamp (n := 1) (by decide), nI_clamp (n := 2) (by decide), e0, e1, e2]
    refine ⟨d, q, c, A, mrA d A, mrD d, hS1, hR1, mr_lt hS, rfl, rfl, rfl, fun t ht => ?_, fun wi2 hF2 hS2 => ?_⟩
    · rcases lt3 ht with rfl | rfl | rfl
      · exact hd3 0 (by decide)
      · exact hd3 2 (by decide)
      · exact hd3 1 (by decide)
    · have h := h wi2 wl (FrM_trans hF0 (fun y hy => ⟨by rw [hF2 y (by omega) (by omega), hF1 y (by omega)], rfl⟩)) (mt_now hC hS2 (fun i hi => by rw [hF2 45 (by decide) (by decide), hF1 45 (by decide)]) (fun y hy => by rw [hF2 y (by omega) (by omega), hF1 y (by omega)]) rfl)
      rw [← ms_c hS2] at h
      conv => whnf
      repeat ((first | refine ⟨zH_of _, ?_⟩ | refine ⟨trivial, ?_⟩ | refine ⟨rfl, ?_⟩ | refine ⟨fun hc => absurd hc (by decide), fun _ => ?_⟩ | refine ⟨fun _ => ?_, fun hc => absurd (by decide) hc⟩ | refine ⟨fun _ => ?_, fun hc => absurd hc (by decide)⟩ | refine ⟨fun hc => absurd (by decide) hc, fun _ => ?_⟩); conv => whnf)
      try dsimp only
      exact h
def sp_X12_round : zSp := fun av w K => match av with
  | [.ref o] => o = 45 ∧ zH w.1 ∧ ∃ T, MT w.2.1 w.2.2 T ∧ ZT T ∧ ∀ wi' wl', FrM w.2.1 w.2.2 wi' wl' → MT wi' wl' (st_round T).1 → K (some (.int (st_round T).2)) (w.1, wi', wl')
  | _ => False
def rm_X12_round : Room := { frames := 5, cells := 0, slots := 0, locals := 124 }
def M_X12_round : zM := (k_X12_round, f_X12, [(294, 4, 10, 1, 0, 0, sp_X12_laysTurned), (322, 4, 10, 1, 0, 0, sp_X12_asBeside)], ([], [], []), [], [], 1, false, (false, 0, fun _ => 0), (0, 0))
theorem ca_X12_round_0 (l : Launch) : z_cok l RX12 (headSpec (.code yX12_round cX12_round 1 (some .int) :: zTT) rm_X12_round).room (294, 4, 10, 1, 0, 0, sp_X12_laysTurned) := z_ca4 (c_X12_laysTurned l) mb_X12_laysTurned ⟨_, rfl, rfl⟩ wt_1534 wt_1536 wt_72 (by decide)
theorem ca_X12_round_1 (l : Launch) : z_cok l RX12 (headSpec (.code yX12_round cX12_round 1 (some .int) :: zTT) rm_X12_round).room (322, 4, 10, 1, 0, 0, sp_X12_asBeside) := z_ca4 (c_X12_asBeside l) mb_X12_asBeside ⟨_, rfl, rfl⟩ wt_1585 wt_1587 wt_79 (by decide)
theorem O_X12_round (l : Launch) : z_OK l RX12 cX12_round (headSpec (.code yX12_round cX12_round 1 (some .int) :: zTT) rm_X12_round).room M_X12_round := ⟨ok_X12_round, fo_X12, List.forall_mem_cons.mpr ⟨ca_X12_round_0 l, List.forall_mem_cons.mpr ⟨ca_X12_round_1 l, fun _ h => absurd h List.not_mem_nil⟩⟩, fun _ h => absurd h List.not_mem_nil, fun _ h => absurd h List.not_mem_nil, fun _ h => absurd h List.not_mem_nil, fun _ h => absurd h List.not_mem_nil, rfl, rfl⟩
theorem c_X12_round (l : Launch) : z_CS l yX12_round cX12_round 1 (some .int) rm_X12_round sp_X12_round := by
  refine z_meth (by decide) (Or.inr (Or.inl ⟨rfl, rfl⟩)) (fun h => by cases h) rfl (O_X12_round l) ?_
  intro av w K h
  match av, h with
  | [.ref o], h =>
    obtain ⟨rfl, ⟨r, hG⟩, ⟨d, q, c, A, kp, tx, tl⟩, hC, hZ, h⟩ := h
    obtain ⟨G, wi, wl⟩ := w
    subst hG
    try dsimp only at h hC hZ
    have hC := mt_fld (i := 11) (v := nI 0) hC (by decide)
    have hF0 : FrM wi wl (z_up wi 45 11 (nI 0)) wl := fm_fld
    refine ⟨Nat.le_of_ble_eq_true rfl, fun Jm hs => hs 400 0 _ _ _ _ _ ?_⟩
    unfold st_round asT wTl at h
    dsimp only at h
    conv => whnf
    repeat ((first | refine ⟨zH_of _, ?_⟩ | refine ⟨trivial, ?_⟩ | refine ⟨rfl, ?_⟩ | refine ⟨fun hc => absurd hc (by decide), fun _ => ?_⟩ | refine ⟨fun _ => ?_, fun hc => absurd (by decide) hc⟩ | refine ⟨fun _ => ?_, fun hc => absurd hc (by decide)⟩ | refine ⟨fun hc => absurd (by decide) hc, fun _ => ?_⟩); conv => whnf)
    try dsimp only
    generalize z_up wi 45 11 (nI 0) = wi0 at *
    have hS := mt_S hC
    have hd3 := ms_hd hS
    have d0 := hd3 0 (by decide)
    have d1 := hd3 1 (by decide)
    have d2 := hd3 2 (by decide)
    have e0 := ms_d hS 0 (by decide)
    have e1 := ms_d hS 1 (by decide)
    have e2 := ms_d hS 2 (by decide)
    have no : ¬ (d 0 = d 1 ∧ d 1 = d 2) → K (some (.int (mI 2))) (GC ++ (GM ++ r), wi0, wl) := fun hn => by
      rw [if_neg hn] at h
      exact h wi0 wl hF0 hC
    refine ⟨vp_in_nI (show 0 < 3 by decide) (by decide), ?_⟩
    conv => whnf
    repeat ((first | refine ⟨zH_of _, ?_⟩ | refine ⟨trivial, ?_⟩ | refine ⟨rfl, ?_⟩ | refine ⟨fun hc => absurd hc (by decide), fun _ => ?_⟩ | refine ⟨fun _ => ?_, fun hc => absurd (by decide) hc⟩ | refine ⟨fun _ => ?_, fun hc => absurd hc (by decide)⟩ | refine ⟨fun hc => absurd (by decide) hc, fun _ => ?_⟩); conv => whnf)
    try dsimp only
    refine ⟨vp_in_nI (show 1 < 3 by decide) (by decide), ?_⟩
    conv => whnf
    repeat ((first | refine ⟨zH_of _, ?_⟩ | refine ⟨trivial, ?_⟩ | refine ⟨rfl, ?_⟩ | refine ⟨fun hc => absurd hc (by decide), fun _ => ?_⟩ | refine ⟨fun _ => ?_, fun hc => absurd (by decide) hc⟩ | refine ⟨fun _ => ?_, fun hc => absurd hc (by decide)⟩ | refine ⟨fun hc => absurd (by decide) hc, fun _ => ?_⟩); conv => whnf)
    try dsimp only
    rw [nI_clamp (n := 0) (by decide), nI_clamp (n := 1) (by decide), e0, e1, nI_eq (by omega) (by omega)]
    refine ⟨fun h1 => ⟨trivial, no (fun z => h1 z.1)⟩, fun h1 => ?_⟩
    conv => whnf
    repeat ((first | refine ⟨zH_of _, ?_⟩ | refine ⟨trivial, ?_⟩ | refine ⟨rfl, ?_⟩ | refine ⟨fun hc => absurd hc (by decide), fun _ => ?_⟩ | refine ⟨fun _ => ?_, fun hc => absurd (by decide) hc⟩ | refine ⟨fun _ => ?_, fun hc => absurd hc (by decide)⟩ | refine ⟨fun hc => absurd (by decide) hc, fun _ => ?_⟩); conv => whnf)
    try dsimp only
    refine ⟨vp_in_nI (show 1 < 3 by decide) (by decide), ?_⟩
    conv => whnf
    repeat ((first | refine ⟨zH_of _, ?_⟩ | refine ⟨trivial, ?_⟩ | refine ⟨rfl, ?_⟩ | refine ⟨fun hc => absurd hc (by decide), fun _ => ?_⟩ | refine ⟨fun _ => ?_, fun hc => absurd (by decide) hc⟩ | refine ⟨fun _ => ?_, fun hc => absurd hc (by decide)⟩ | refine ⟨fun hc => absurd (by decide) hc, fun _ => ?_⟩); conv => whnf)
    try dsimp only
    refine ⟨vp_in_nI (show 2 < 3 by decide) (by decide), ?_⟩
    conv => whnf
    repeat ((first | refine ⟨zH_of _, ?_⟩ | refine ⟨trivial, ?_⟩ | refine ⟨rfl, ?_⟩ | refine ⟨fun hc => absurd hc (by decide), fun _ => ?_⟩ | refine ⟨fun _ => ?_, fun hc => absurd (by decide) hc⟩ | refine ⟨fun _ => ?_, fun hc => absurd hc (by decide)⟩ | refine ⟨fun hc => absurd (by decide) hc, fun _ => ?_⟩); conv => whnf)
    try dsimp only
    rw [nI_clamp (n := 1) (by decide), nI_clamp (n := 2) (by decide), e1, e2, nI_eq (by omega) (by omega)]
    refine ⟨fun h2 => ?_, fun h2 => ⟨trivial, no (fun z => h2 z.2)⟩⟩
    rw [if_pos ⟨h1, h2⟩] at h
    conv => whnf
    repeat ((first | refine ⟨zH_of _, ?_⟩ | refine ⟨trivial, ?_⟩ | refine ⟨rfl, ?_⟩ | refine ⟨fun hc => absurd hc (by decide), fun _ => ?_⟩ | refine ⟨fun _ => ?_, fun hc => absurd (by decide) hc⟩ | refine ⟨fun _ => ?_, fun hc => absurd hc (by decide)⟩ | refine ⟨fun hc => absurd (by decide) hc, fun _ => ?_⟩); conv => whnf)
    try dsimp only
    refine ⟨d, q, c, A, hS, fun wi1 hF1 hR1 => ?_⟩
    have hS1 : MS wi1 d q c A := ms_fr hS (hF1 46 (by decide)) (by rw [hF1 45 (by decide)]) (by rw [hF1 45 (by decide)]) (hF1 47 (by decide))
    conv => whnf
    repeat ((first | refine ⟨zH_of _, ?_⟩ | refine ⟨trivial, ?_⟩ | refine ⟨rfl, ?_⟩ | refine ⟨fun hc => absurd hc (by decide), fun _ => ?_⟩ | refine ⟨fun _ => ?_, fun hc => absurd (by decide) hc⟩ | refine ⟨fun _ => ?_, fun hc => absurd hc (by decide)⟩ | refine ⟨fun hc => absurd (by decide) hc, fun _ => ?_⟩); conv => whnf)
    try dsimp only
    refine ⟨d, q, c, A, rlA A, hS1, hR1, rl_lt hS, fun wi2 wl2 a1 a2 a3 M2 => ?_⟩
    have h := h wi2 wl2 (FrM_trans hF0 (fun y hy => ⟨by rw [a1 y (by omega) (by omega), hF1 y (by omega)], a3 y (by omega)⟩)) (mt_told hC (fun i hi => by rw [a2 i (by omega), hF1 45 (by decide)]) (fun y hy => by rw [a1 y (by omega) (by omega), hF1 y (by omega)]) M2)
    conv => whnf
    repeat ((first | refine ⟨zH_of _, ?_⟩ | refine ⟨trivial, ?_⟩ | refine ⟨rfl, ?_⟩ | refine ⟨fun hc => absurd hc (by decide), fun _ => ?_⟩ | refine ⟨fun _ => ?_, fun hc => absurd (by decide) hc⟩ | refine ⟨fun _ => ?_, fun hc => absurd hc (by decide)⟩ | refine ⟨fun hc => absurd (by decide) hc, fun _ => ?_⟩); conv => whnf)
    try dsimp only
    exact h
def sp_X12_mirrored : zSp := fun av w K => match av with
  | [.ref o] => o = 45 ∧ zH w.1 ∧ ∃ T, MT w.2.1 w.2.2 T ∧ ZT T ∧ ∀ wi' wl', FrM w.2.1 w.2.2 wi' wl' → MT wi' wl' (st_mirrored T).1 → K (some (.int (st_mirrored T).2)) (w.1, wi', wl')
  | _ => False
def rm_X12_mirrored : Room := { frames := 5, cells := 0, slots := 0, locals := 124 }
def M_X12_mirrored : zM := (k_X12_mirrored, f_X12, [(300, 4, 10, 1, 0, 0, sp_X12_laysMirrored), (322, 4, 10, 1, 0, 0, sp_X12_asBeside)], ([], [], []), [], [], 1, false, (false, 0, fun _ => 0), (0, 0))
theorem ca_X12_mirrored_0 (l : Launch) : z_cok l RX12 (headSpec (.code yX12_mirrored cX12_mirrored 1 (some .int) :: zTT) rm_X12_mirrored).room (300, 4, 10, 1, 0, 0, sp_X12_laysMirrored) := z_ca4 (c_X12_laysMirrored l) mb_X12_laysMirrored ⟨_, rfl, rfl⟩ wt_1546 wt_1548 wt_74 (by decide)
theorem ca_X12_mirrored_1 (l : Launch) : z_cok l RX12 (headSpec (.code yX12_mirrored cX12_mirrored 1 (some .int) :: zTT) rm_X12_mirrored).room (322, 4, 10, 1, 0, 0, sp_X12_asBeside) := z_ca4 (c_X12_asBeside l) mb_X12_asBeside ⟨_, rfl, rfl⟩ wt_1585 wt_1587 wt_79 (by decide)
theorem O_X12_mirrored (l : Launch) : z_OK l RX12 cX12_mirrored (headSpec (.code yX12_mirrored cX12_mirrored 1 (some .int) :: zTT) rm_X12_mirrored).room M_X12_mirrored := ⟨ok_X12_mirrored, fo_X12, List.forall_mem_cons.mpr ⟨ca_X12_mirrored_0 l, List.forall_mem_cons.mpr ⟨ca_X12_mirrored_1 l, fun _ h => absurd h List.not_mem_nil⟩⟩, fun _ h => absurd h List.not_mem_nil, fun _ h => absurd h List.not_mem_nil, fun _ h => absurd h List.not_mem_nil, fun _ h => absurd h List.not_mem_nil, rfl, rfl⟩
theorem c_X12_mirrored (l : Launch) : z_CS l yX12_mirrored cX12_mirrored 1 (some .int) rm_X12_mirrored sp_X12_mirrored := by
  refine z_meth (by decide) (Or.inr (Or.inl ⟨rfl, rfl⟩)) (fun h => by cases h) rfl (O_X12_mirrored l) ?_
  intro av w K h
  match av, h with
  | [.ref o], h =>
    obtain ⟨rfl, ⟨r, hG⟩, ⟨d, q, c, A, kp, tx, tl⟩, hC, hZ, h⟩ := h
    obtain ⟨G, wi, wl⟩ := w
    subst hG
    try dsimp only at h hC hZ
    have hC := mt_fld (i := 11) (v := nI 0) hC (by decide)
    have hF0 : FrM wi wl (z_up wi 45 11 (nI 0)) wl := fm_fld
    refine ⟨Nat.le_of_ble_eq_true rfl, fun Jm hs => hs 400 0 _ _ _ _ _ ?_⟩
    unfold st_mirrored asT wTl at h
    dsimp only at h
    conv => whnf
    repeat ((first | refine ⟨zH_of _, ?_⟩ | refine ⟨trivial, ?_⟩ | refine ⟨rfl, ?_⟩ | refine ⟨fun hc => absurd hc (by decide), fun _ => ?_⟩ | refine ⟨fun _ => ?_, fun hc => absurd (by decide) hc⟩ | refine ⟨fun _ => ?_, fun hc => absurd hc (by decide)⟩ | refine ⟨fun hc => absurd (by decide) hc, fun _ => ?_⟩); conv => whnf)
    try dsimp only
    generalize z_up wi 45 11 (nI 0) = wi0 at *
    have hS := mt_S hC
    have hd3 := ms_hd hS
    have d1 := hd3 1 (by decide)
    have d2 := hd3 2 (by decide)
    have e1 := ms_d hS 1 (by decide)
    have e2 := ms_d hS 2 (by decide)
    have no : ¬ d 1 = d 2 → K (some (.int (mI 2))) (GC ++ (GM ++ r), wi0, wl) := fun hn => by
      rw [if_neg hn] at h
      exact h wi0 wl hF0 hC
    refine ⟨vp_in_nI (show 1 < 3 by decide) (by decide), ?_⟩
    conv => whnf
    repeat ((first | refine ⟨zH_of _, ?_⟩ | refine ⟨trivial, ?_⟩ | refine ⟨rfl, ?_⟩ | refine ⟨fun hc => absurd hc (by decide), fun _ => ?_⟩ | refine ⟨fun _ => ?_, fun hc => absurd (by decide) hc⟩ | refine ⟨fun _ => ?_, fun hc => absurd hc (by decide)⟩ | refine ⟨fun hc => absurd (by decide) hc, fun _ => ?_⟩); conv => whnf)
    try dsimp only
    refine ⟨vp_in_nI (show 2 < 3 by decide) (by decide), ?_⟩
    conv => whnf
    repeat ((first | refine ⟨zH_of _, ?_⟩ | refine ⟨trivial, ?_⟩ | refine ⟨rfl, ?_⟩ | refine ⟨fun hc => absurd hc (by decide), fun _ => ?_⟩ | refine ⟨fun _ => ?_, fun hc => absurd (by decide) hc⟩ | refine ⟨fun _ => ?_, fun hc => absurd hc (by decide)⟩ | refine ⟨fun hc => absurd (by decide) hc, fun _ => ?_⟩); conv => whnf)
    try dsimp only
    rw [nI_clamp (n := 1) (by decide), nI_clamp (n := 2) (by decide), e1, e2, nI_eq (by omega) (by omega)]
    refine ⟨fun h2 => ?_, fun h2 => ⟨trivial, no h2⟩⟩
    rw [if_pos h2] at h
    conv => whnf
    repeat ((first | refine ⟨zH_of _, ?_⟩ | refine ⟨trivial, ?_⟩ | refine ⟨rfl, ?_⟩ | refine ⟨fun hc => absurd hc (by decide), fun _ => ?_⟩ | refine ⟨fun _ => ?_, fun hc => absurd (by decide) hc⟩ | refine ⟨fun _ => ?_, fun hc => absurd hc (by decide)⟩ | refine ⟨fun hc => absurd (by decide) hc, fun _ => ?_⟩); conv => whnf)
    try dsimp only
    refine ⟨d, q, c, A, hS, fun wi1 hF1 hR1 => ?_⟩
    have hS1 : MS wi1 d q c A := ms_fr hS (hF1 46 (by decide)) (by rw [hF1 45 (by decide)]) (by rw [hF1 45 (by decide)]) (hF1 47 (by decide))
    conv => whnf
    repeat ((first | refine ⟨zH_of _, ?_⟩ | refine ⟨trivial, ?_⟩ | refine ⟨rfl, ?_⟩ | refine ⟨fun hc => absurd hc (by decide), fun _ => ?_⟩ | refine ⟨fun _ => ?_, fun hc => absurd (by decide) hc⟩ | refine ⟨fun _ => ?_, fun hc => absurd hc (by decide)⟩ | refine ⟨fun hc => absurd (by decide) hc, fun _ => ?_⟩); conv => whnf)
    try dsimp only
    refine ⟨d, q, c, A, mrA d A, hS1, hR1, mr_lt hS, fun wi2 wl2 a1 a2 a3 M2 => ?_⟩
    have h := h wi2 wl2 (FrM_trans hF0 (fun y hy => ⟨by rw [a1 y (by omega) (by omega), hF1 y (by omega)], a3 y (by omega)⟩)) (mt_told hC (fun i hi => by rw [a2 i (by omega), hF1 45 (by decide)]) (fun y hy => by rw [a1 y (by omega) (by omega), hF1 y (by omega)]) M2)
    conv => whnf
    repeat ((first | refine ⟨zH_of _, ?_⟩ | refine ⟨trivial, ?_⟩ | refine ⟨rfl, ?_⟩ | refine ⟨fun hc => absurd hc (by decide), fun _ => ?_⟩ | refine ⟨fun _ => ?_, fun hc => absurd (by decide) hc⟩ | refine ⟨fun _ => ?_, fun hc => absurd hc (by decide)⟩ | refine ⟨fun hc => absurd (by decide) hc, fun _ => ?_⟩); conv => whnf)
    try dsimp only
    exact h

