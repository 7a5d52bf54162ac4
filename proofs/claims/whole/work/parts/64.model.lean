/-! the reference: checks, given, like, flips -/
def sp_X12_checks : zSp := fun av w K => match av with
  | [.ref o] => o = 45 ∧ zH w.1 ∧ ∃ T, MT w.2.1 w.2.2 T ∧ ZT T ∧ ∀ wi' wl', FrM w.2.1 w.2.2 wi' wl' → MT wi' wl' (st_checks T).1 → K (some (.int (st_checks T).2)) (w.1, wi', wl')
  | _ => False
def rm_X12_checks : Room := { frames := 3, cells := 0, slots := 0, locals := 70 }
def M_X12_checks : zM := (k_X12_checks, f_X12, [(189, 4, 10, 1, 0, 0, sp_X12_looks), (192, 4, 10, 2, 0, 0, sp_X12_tell), (183, 4, 10, 4, 0, 0, sp_X12_wholeGiven), (186, 4, 10, 4, 0, 0, sp_X12_needed)], ([], [], []), [], [], 1, false, (false, 0, fun _ => 0), (0, 0))
theorem ca_X12_checks_0 (l : Launch) : z_cok l RX12 (headSpec (.code yX12_checks cX12_checks 4 (some .int) :: zTT) rm_X12_checks).room (189, 4, 10, 1, 0, 0, sp_X12_looks) := z_ca4 (c_X12_looks l) mb_X12_looks ⟨_, rfl, rfl⟩ wt_1357 wt_1359 wt_46 (by decide)
theorem ca_X12_checks_1 (l : Launch) : z_cok l RX12 (headSpec (.code yX12_checks cX12_checks 4 (some .int) :: zTT) rm_X12_checks).room (192, 4, 10, 2, 0, 0, sp_X12_tell) := z_ca4 (c_X12_tell l) mb_X12_tell ⟨_, rfl, rfl⟩ wt_1369 wt_1371 wt_49 (by decide)
theorem ca_X12_checks_2 (l : Launch) : z_cok l RX12 (headSpec (.code yX12_checks cX12_checks 4 (some .int) :: zTT) rm_X12_checks).room (183, 4, 10, 4, 0, 0, sp_X12_wholeGiven) := z_ca4 (c_X12_wholeGiven l) mb_X12_wholeGiven ⟨_, rfl, rfl⟩ wt_1361 wt_1363 wt_47 (by decide)
theorem ca_X12_checks_3 (l : Launch) : z_cok l RX12 (headSpec (.code yX12_checks cX12_checks 4 (some .int) :: zTT) rm_X12_checks).room (186, 4, 10, 4, 0, 0, sp_X12_needed) := z_ca4 (c_X12_needed l) mb_X12_needed ⟨_, rfl, rfl⟩ wt_1365 wt_1367 wt_48 (by decide)
theorem O_X12_checks (l : Launch) : z_OK l RX12 cX12_checks (headSpec (.code yX12_checks cX12_checks 4 (some .int) :: zTT) rm_X12_checks).room M_X12_checks := ⟨ok_X12_checks, fo_X12, List.forall_mem_cons.mpr ⟨ca_X12_checks_0 l, List.forall_mem_cons.mpr ⟨ca_X12_checks_1 l, List.forall_mem_cons.mpr ⟨ca_X12_checks_2 l, List.forall_mem_cons.mpr ⟨ca_X12_checks_3 l, fun _ h => absurd h List.not_mem_nil⟩⟩⟩⟩, fun _ h => absurd h List.not_mem_nil, fun _ h => absurd h List.not_mem_nil, fun _ h => absurd h List.not_mem_nil, fun _ h => absurd h List.not_mem_nil, rfl, rfl⟩
theorem c_X12_checks (l : Launch) : z_CS l yX12_checks cX12_checks 4 (some .int) rm_X12_checks sp_X12_checks := by
  refine z_meth (by decide) (Or.inr (Or.inl ⟨rfl, rfl⟩)) (fun h => by cases h) rfl (O_X12_checks l) ?_
  intro av w K h
  match av, h with
  | [.ref o], h =>
    obtain ⟨rfl, ⟨r, hG⟩, ⟨d, q, c, A, kp, tx, tl⟩, hC, hZ, h⟩ := h
    obtain ⟨G, wi, wl⟩ := w
    subst hG
    try dsimp only at h hC hZ
    have hC := mt_fld (i := 11) (v := nI 0) hC (by decide)
    have hF0 : FrM wi wl (z_up wi 45 11 (nI 0)) wl := fm_fld
    refine ⟨Nat.le_of_ble_eq_true rfl, fun Jm hs => hs 400 0 _ _ _ _ _ ?_⟩
    unfold st_checks wTl at h
    dsimp only at h
    have q23 := ms_q23 (mt_S hC)
    conv => whnf
    repeat ((first | refine ⟨zH_of _, ?_⟩ | refine ⟨trivial, ?_⟩ | refine ⟨rfl, ?_⟩ | refine ⟨fun hc => absurd hc (by decide), fun _ => ?_⟩ | refine ⟨fun _ => ?_, fun hc => absurd (by decide) hc⟩ | refine ⟨fun _ => ?_, fun hc => absurd hc (by decide)⟩ | refine ⟨fun hc => absurd (by decide) hc, fun _ => ?_⟩); conv => whnf)
    try dsimp only
    generalize z_up wi 45 11 (nI 0) = wi0 at *
    have hS := mt_S hC
    have h40 := ms_40 hS
    refine ⟨d, q, c, A, hS, fun wi1 hL => ?_⟩
    have hg : ∀ x y z, x < 9 → y < 9 → z < 9 → ckG d q A c (x * 81 + y * 9 + z) = upL (upL (t3 (lN x) (lN y) (lN z)) 3 (lN (gvN A c x y z % q))) 4 (lN (ndN d x y z)) := fun x y z hx hy hz => by
      unfold ckG
      rw [show (x * 81 + y * 9 + z) / 81 = x by omega, show (x * 81 + y * 9 + z) / 9 % 9 = y by omega, show (x * 81 + y * 9 + z) % 9 = z by omega]
    generalize ckB d q A c = f at h hL
    generalize ckG d q A c = g at h hg
    have T1 : TF wi0 wl (z_up wi1 45 10 (nI 0)) wl := ⟨fun y hy => by rw [z_up_ne hy, hL.1 y hy], fun _ _ => rfl, fun i hi => by rw [z_up_nei (by omega), hL.2.1 i (by omega) (by omega)]⟩
    have e17 : z_up wi1 45 10 (nI 0) 45 17 = nI (fb_ct f 729) := by rw [z_up_nei (by decide)]; exact hL.2.2.1
    have e18 : z_up wi1 45 10 (nI 0) 45 18 = fvI f 729 := by rw [z_up_nei (by decide)]; exact hL.2.2.2
    have M1 : TM (z_up wi1 45 10 (nI 0)) wl 0 (fun _ => 0) := tm_0
    have fm := fb_ct_le f 729
    conv => whnf
    repeat ((first | refine ⟨zH_of _, ?_⟩ | refine ⟨trivial, ?_⟩ | refine ⟨rfl, ?_⟩ | refine ⟨fun hc => absurd hc (by decide), fun _ => ?_⟩ | refine ⟨fun _ => ?_, fun hc => absurd (by decide) hc⟩ | refine ⟨fun _ => ?_, fun hc => absurd hc (by decide)⟩ | refine ⟨fun hc => absurd (by decide) hc, fun _ => ?_⟩); conv => whnf)
    try dsimp only
    generalize z_up wi1 45 10 (nI 0) = wi2 at *
    rw [e17]
    refine ⟨fun hc => ?_, fun hc => ?_⟩
    · have hc : fb_ct f 729 = 0 := by
        rcases Nat.eq_zero_or_pos (fb_ct f 729) with k | k
        · exact k
        · exact absurd (nI_lt k (by omega)) hc
      have k : ¬ fi f 729 < 729 := fun z => by
        have := fi_ct.mp z
        omega
      unfold fv at h
      rw [if_neg k] at h
      conv => whnf
      repeat ((first | refine ⟨zH_of _, ?_⟩ | refine ⟨trivial, ?_⟩ | refine ⟨rfl, ?_⟩ | refine ⟨fun hc => absurd hc (by decide), fun _ => ?_⟩ | refine ⟨fun _ => ?_, fun hc => absurd (by decide) hc⟩ | refine ⟨fun _ => ?_, fun hc => absurd hc (by decide)⟩ | refine ⟨fun hc => absurd (by decide) hc, fun _ => ?_⟩); conv => whnf)
      try dsimp only
      rw [e17]
      exact h wi2 wl (FrM_trans hF0 (tf_fr T1)) (tf_mt T1 hC M1)
    · have hc : 0 < fb_ct f 729 := by
        rw [ltN (by decide) (by omega)] at hc
        exact hc
      have k := fi_ct.mpr hc
      unfold fv at h
      rw [if_pos k] at h
      unfold fvI at e18
      rw [if_pos k] at e18
      obtain ⟨x, y, z, hx, hy, hz, ex⟩ : ∃ x y z, x < 9 ∧ y < 9 ∧ z < 9 ∧ fi f 729 = x * 81 + y * 9 + z := ⟨fi f 729 / 81, fi f 729 / 9 % 9, fi f 729 % 9, by omega, by omega, by omega, by omega⟩
      rw [ex] at e18 h
      rw [hg x y z hx hy hz] at h
      have nl := ndN_le d x y z
      have gl : gvN A c x y z % q < q := Nat.mod_lt _ (by omega)
      have gb := gvN_lt (A := A) (c := c) (x := x) (y := y) (z := z) (fun k hk => ⟨ms_A3 hS _ (by omega) _ (by omega), ms_A3 hS _ (by omega) _ (by omega), ms_A3 hS _ (by omega) _ (by omega)⟩)
      have n81 : ¬ nI 81 = 0 := by decide
      have n9 : ¬ nI 9 = 0 := by decide
      conv => whnf
      repeat ((first | refine ⟨zH_of _, ?_⟩ | refine ⟨trivial, ?_⟩ | refine ⟨rfl, ?_⟩ | refine ⟨fun hc => absurd hc (by decide), fun _ => ?_⟩ | refine ⟨fun _ => ?_, fun hc => absurd (by decide) hc⟩ | refine ⟨fun _ => ?_, fun hc => absurd hc (by decide)⟩ | refine ⟨fun hc => absurd (by decide) hc, fun _ => ?_⟩); conv => whnf)
      try dsimp only
      refine ⟨n81, ?_⟩
      conv => whnf
      repeat ((first | refine ⟨zH_of _, ?_⟩ | refine ⟨trivial, ?_⟩ | refine ⟨rfl, ?_⟩ | refine ⟨fun hc => absurd hc (by decide), fun _ => ?_⟩ | refine ⟨fun _ => ?_, fun hc => absurd (by decide) hc⟩ | refine ⟨fun _ => ?_, fun hc => absurd hc (by decide)⟩ | refine ⟨fun hc => absurd (by decide) hc, fun _ => ?_⟩); conv => whnf)
      try dsimp only
      refine ⟨n9, ?_⟩
      conv => whnf
      repeat ((first | refine ⟨zH_of _, ?_⟩ | refine ⟨trivial, ?_⟩ | refine ⟨rfl, ?_⟩ | refine ⟨fun hc => absurd hc (by decide), fun _ => ?_⟩ | refine ⟨fun _ => ?_, fun hc => absurd (by decide) hc⟩ | refine ⟨fun _ => ?_, fun hc => absurd hc (by decide)⟩ | refine ⟨fun hc => absurd (by decide) hc, fun _ => ?_⟩); conv => whnf)
      try dsimp only
      refine ⟨n9, ?_⟩
      conv => whnf
      repeat ((first | refine ⟨zH_of _, ?_⟩ | refine ⟨trivial, ?_⟩ | refine ⟨rfl, ?_⟩ | refine ⟨fun hc => absurd hc (by decide), fun _ => ?_⟩ | refine ⟨fun _ => ?_, fun hc => absurd (by decide) hc⟩ | refine ⟨fun _ => ?_, fun hc => absurd hc (by decide)⟩ | refine ⟨fun hc => absurd (by decide) hc, fun _ => ?_⟩); conv => whnf)
      try dsimp only
      refine ⟨n9, ?_⟩
      rw [e18, pk_div (by omega) (by omega) (by omega), pk_div (by omega) (by omega) (by omega), z_remN (by omega) (by omega) (by omega), z_remN (by omega) (by omega) (by omega), show (x * 81 + y * 9 + z) / 81 = x by omega, show (x * 81 + y * 9 + z) / 9 % 9 = y by omega, show (x * 81 + y * 9 + z) % 9 = z by omega]
      conv => whnf
      repeat ((first | refine ⟨zH_of _, ?_⟩ | refine ⟨trivial, ?_⟩ | refine ⟨rfl, ?_⟩ | refine ⟨fun hc => absurd hc (by decide), fun _ => ?_⟩ | refine ⟨fun _ => ?_, fun hc => absurd (by decide) hc⟩ | refine ⟨fun _ => ?_, fun hc => absurd hc (by decide)⟩ | refine ⟨fun hc => absurd (by decide) hc, fun _ => ?_⟩); conv => whnf)
      try dsimp only
      rw [nI_l (by omega)]
      refine ⟨0, _, M1, by decide, fun wi3 wl3 a1 a2 a3 M2 => ?_⟩
      have T2 := tf_trans T1 (tf_tell a1 a2 a3)
      have b17 : wi3 45 17 = nI (fb_ct f 729) := by rw [a2 17 (by decide), e17]
      conv => whnf
      repeat ((first | refine ⟨zH_of _, ?_⟩ | refine ⟨trivial, ?_⟩ | refine ⟨rfl, ?_⟩ | refine ⟨fun hc => absurd hc (by decide), fun _ => ?_⟩ | refine ⟨fun _ => ?_, fun hc => absurd (by decide) hc⟩ | refine ⟨fun _ => ?_, fun hc => absurd hc (by decide)⟩ | refine ⟨fun hc => absurd (by decide) hc, fun _ => ?_⟩); conv => whnf)
      try dsimp only
      rw [nI_l (by omega)]
      refine ⟨1, _, M2, by decide, fun wi4 wl4 a1 a2 a3 M3 => ?_⟩
      have T3 := tf_trans T2 (tf_tell a1 a2 a3)
      have c17 : wi4 45 17 = nI (fb_ct f 729) := by rw [a2 17 (by decide), b17]
      conv => whnf
      repeat ((first | refine ⟨zH_of _, ?_⟩ | refine ⟨trivial, ?_⟩ | refine ⟨rfl, ?_⟩ | refine ⟨fun hc => absurd hc (by decide), fun _ => ?_⟩ | refine ⟨fun _ => ?_, fun hc => absurd (by decide) hc⟩ | refine ⟨fun _ => ?_, fun hc => absurd hc (by decide)⟩ | refine ⟨fun hc => absurd (by decide) hc, fun _ => ?_⟩); conv => whnf)
      try dsimp only
      rw [nI_l (by omega)]
      refine ⟨2, _, M3, by decide, fun wi5 wl5 a1 a2 a3 M4 => ?_⟩
      have T4 := tf_trans T3 (tf_tell a1 a2 a3)
      have d17 : wi5 45 17 = nI (fb_ct f 729) := by rw [a2 17 (by decide), c17]
      have S4 := tf_ms T4 hS
      conv => whnf
      repeat ((first | refine ⟨zH_of _, ?_⟩ | refine ⟨trivial, ?_⟩ | refine ⟨rfl, ?_⟩ | refine ⟨fun hc => absurd hc (by decide), fun _ => ?_⟩ | refine ⟨fun _ => ?_, fun hc => absurd (by decide) hc⟩ | refine ⟨fun _ => ?_, fun hc => absurd hc (by decide)⟩ | refine ⟨fun hc => absurd (by decide) hc, fun _ => ?_⟩); conv => whnf)
      try dsimp only
      refine ⟨d, q, c, A, x, y, z, S4, rfl, hx, rfl, hy, rfl, hz, ?_⟩
      conv => whnf
      repeat ((first | refine ⟨zH_of _, ?_⟩ | refine ⟨trivial, ?_⟩ | refine ⟨rfl, ?_⟩ | refine ⟨fun hc => absurd hc (by decide), fun _ => ?_⟩ | refine ⟨fun _ => ?_, fun hc => absurd (by decide) hc⟩ | refine ⟨fun _ => ?_, fun hc => absurd hc (by decide)⟩ | refine ⟨fun hc => absurd (by decide) hc, fun _ => ?_⟩); conv => whnf)
      try dsimp only
      rw [ms_q S4]
      refine ⟨q_n0 q23, ?_⟩
      conv => whnf
      repeat ((first | refine ⟨zH_of _, ?_⟩ | refine ⟨trivial, ?_⟩ | refine ⟨rfl, ?_⟩ | refine ⟨fun hc => absurd hc (by decide), fun _ => ?_⟩ | refine ⟨fun _ => ?_, fun hc => absurd (by decide) hc⟩ | refine ⟨fun _ => ?_, fun hc => absurd hc (by decide)⟩ | refine ⟨fun hc => absurd (by decide) hc, fun _ => ?_⟩); conv => whnf)
      try dsimp only
      rw [z_remN (by omega) (by omega) (by omega), nI_l (by omega)]
      refine ⟨3, _, M4, by decide, fun wi6 wl6 a1 a2 a3 M5 => ?_⟩
      have T5 := tf_trans T4 (tf_tell a1 a2 a3)
      have f17 : wi6 45 17 = nI (fb_ct f 729) := by rw [a2 17 (by decide), d17]
      have S5 := tf_ms T5 hS
      conv => whnf
      repeat ((first | refine ⟨zH_of _, ?_⟩ | refine ⟨trivial, ?_⟩ | refine ⟨rfl, ?_⟩ | refine ⟨fun hc => absurd hc (by decide), fun _ => ?_⟩ | refine ⟨fun _ => ?_, fun hc => absurd (by decide) hc⟩ | refine ⟨fun _ => ?_, fun hc => absurd hc (by decide)⟩ | refine ⟨fun hc => absurd (by decide) hc, fun _ => ?_⟩); conv => whnf)
      try dsimp only
      refine ⟨d, q, c, A, x, y, z, S5, rfl, hx, rfl, hy, rfl, hz, ?_⟩
      conv => whnf
      repeat ((first | refine ⟨zH_of _, ?_⟩ | refine ⟨trivial, ?_⟩ | refine ⟨rfl, ?_⟩ | refine ⟨fun hc => absurd hc (by decide), fun _ => ?_⟩ | refine ⟨fun _ => ?_, fun hc => absurd (by decide) hc⟩ | refine ⟨fun _ => ?_, fun hc => absurd hc (by decide)⟩ | refine ⟨fun hc => absurd (by decide) hc, fun _ => ?_⟩); conv => whnf)
      try dsimp only
      rw [nI_l (by omega)]
      refine ⟨4, _, M5, by decide, fun wi7 wl7 a1 a2 a3 M6 => ?_⟩
      have T6 := tf_trans T5 (tf_tell a1 a2 a3)
      have g17 : wi7 45 17 = nI (fb_ct f 729) := by rw [a2 17 (by decide), f17]
      conv => whnf
      repeat ((first | refine ⟨zH_of _, ?_⟩ | refine ⟨trivial, ?_⟩ | refine ⟨rfl, ?_⟩ | refine ⟨fun hc => absurd hc (by decide), fun _ => ?_⟩ | refine ⟨fun _ => ?_, fun hc => absurd (by decide) hc⟩ | refine ⟨fun _ => ?_, fun hc => absurd hc (by decide)⟩ | refine ⟨fun hc => absurd (by decide) hc, fun _ => ?_⟩); conv => whnf)
      try dsimp only
      rw [g17]
      exact h wi7 wl7 (FrM_trans hF0 (tf_fr T6)) (tf_mt T6 hC M6)
def sp_X12_given : zSp := fun av w K => match av with
  | [.ref o, .int x, .int y, .int z] => o = 45 ∧ zH w.1 ∧ ∃ T, MT w.2.1 w.2.2 T ∧ ZT T ∧ ∀ wi' wl', FrM w.2.1 w.2.2 wi' wl' → MT wi' wl' (st_given T x y z).1 → K (some (.int (st_given T x y z).2)) (w.1, wi', wl')
  | _ => False
def rm_X12_given : Room := { frames := 3, cells := 0, slots := 0, locals := 64 }
def M_X12_given : zM := (k_X12_given, f_X12, [(173, 4, 10, 3, 0, 0, sp_X12_isPlace), (107, 0, 0, 3, 0, 0, sp_X12_at), (186, 4, 10, 4, 0, 0, sp_X12_needed), (192, 4, 10, 2, 0, 0, sp_X12_tell), (183, 4, 10, 4, 0, 0, sp_X12_wholeGiven)], ([], [], []), [], [(40, [true, true, true, true, true, true])], 1, false, (false, 0, fun _ => 0), (0, 0))
theorem ca_X12_given_0 (l : Launch) : z_cok l RX12 (headSpec (.code yX12_given cX12_given 6 (some .int) :: zTT) rm_X12_given).room (173, 4, 10, 3, 0, 0, sp_X12_isPlace) := z_ca4 (c_X12_isPlace l) mb_X12_isPlace ⟨_, rfl, rfl⟩ wt_1345 wt_1347 wt_44 (by decide)
theorem ca_X12_given_1 (l : Launch) : z_cok l RX12 (headSpec (.code yX12_given cX12_given 6 (some .int) :: zTT) rm_X12_given).room (107, 0, 0, 3, 0, 0, sp_X12_at) := z_ca0 (c_X12_at l) mb_X12_at wt_1136 wt_1137 (by decide)
theorem ca_X12_given_2 (l : Launch) : z_cok l RX12 (headSpec (.code yX12_given cX12_given 6 (some .int) :: zTT) rm_X12_given).room (186, 4, 10, 4, 0, 0, sp_X12_needed) := z_ca4 (c_X12_needed l) mb_X12_needed ⟨_, rfl, rfl⟩ wt_1365 wt_1367 wt_48 (by decide)
theorem ca_X12_given_3 (l : Launch) : z_cok l RX12 (headSpec (.code yX12_given cX12_given 6 (some .int) :: zTT) rm_X12_given).room (192, 4, 10, 2, 0, 0, sp_X12_tell) := z_ca4 (c_X12_tell l) mb_X12_tell ⟨_, rfl, rfl⟩ wt_1369 wt_1371 wt_49 (by decide)
theorem ca_X12_given_4 (l : Launch) : z_cok l RX12 (headSpec (.code yX12_given cX12_given 6 (some .int) :: zTT) rm_X12_given).room (183, 4, 10, 4, 0, 0, sp_X12_wholeGiven) := z_ca4 (c_X12_wholeGiven l) mb_X12_wholeGiven ⟨_, rfl, rfl⟩ wt_1361 wt_1363 wt_47 (by decide)
theorem O_X12_given (l : Launch) : z_OK l RX12 cX12_given (headSpec (.code yX12_given cX12_given 6 (some .int) :: zTT) rm_X12_given).room M_X12_given := ⟨ok_X12_given, fo_X12, List.forall_mem_cons.mpr ⟨ca_X12_given_0 l, List.forall_mem_cons.mpr ⟨ca_X12_given_1 l, List.forall_mem_cons.mpr ⟨ca_X12_given_2 l, List.forall_mem_cons.mpr ⟨ca_X12_given_3 l, List.forall_mem_cons.mpr ⟨ca_X12_given_4 l, fun _ h => absurd h List.not_mem_nil⟩⟩⟩⟩⟩, fun _ h => absurd h List.not_mem_nil, fun _ h => absurd h List.not_mem_nil, fun _ h => absurd h List.not_mem_nil, fun _ h => absurd h List.not_mem_nil, rfl, rfl⟩
theorem c_X12_given (l : Launch) : z_CS l yX12_given cX12_given 6 (some .int) rm_X12_given sp_X12_given := by
  refine z_meth (by decide) (Or.inr (Or.inl ⟨rfl, rfl⟩)) (fun h => by cases h) rfl (O_X12_given l) ?_
  intro av w K h
  match av, h with
  | [.ref o, .int x, .int y, .int z], h =>
    obtain ⟨rfl, ⟨r, hG⟩, ⟨d, q, c, A, kp, tx, tl⟩, hC, hZ, h⟩ := h
    obtain ⟨G, wi, wl⟩ := w
    subst hG
    try dsimp only at h hC hZ
    have hC := mt_fld (i := 11) (v := nI 0) hC (by decide)
    have hF0 : FrM wi wl (z_up wi 45 11 (nI 0)) wl := fm_fld
    refine ⟨Nat.le_of_ble_eq_true rfl, fun Jm hs => ?_⟩
    unfold st_given wTl at h
    dsimp only at h
    refine hs 400 0 _ _ _ _ _ ?_
    have q23 := ms_q23 (mt_S hC)
    conv => whnf
    repeat ((first | refine ⟨zH_of _, ?_⟩ | refine ⟨trivial, ?_⟩ | refine ⟨rfl, ?_⟩ | refine ⟨fun hc => absurd hc (by decide), fun _ => ?_⟩ | refine ⟨fun _ => ?_, fun hc => absurd (by decide) hc⟩ | refine ⟨fun _ => ?_, fun hc => absurd hc (by decide)⟩ | refine ⟨fun hc => absurd (by decide) hc, fun _ => ?_⟩); conv => whnf)
    try dsimp only
    generalize z_up wi 45 11 (nI 0) = wi0 at *
    have hS := mt_S hC
    have h40 := ms_40 hS
    have p0 := pl_le (ms_hd hS) (t := 0) (by decide)
    have p1 := pl_le (ms_hd hS) (t := 1) (by decide)
    have p2 := pl_le (ms_hd hS) (t := 2) (by decide)
    have no : ¬ (idB (pl d 0) x && (idB (pl d 1) y && idB (pl d 2) z)) = true → K (some (.int (mI 1))) (GC ++ (GM ++ r), wi0, wl) := fun hn => by
      rw [if_neg hn] at h
      exact h wi0 wl hF0 hC
    refine ⟨d, q, c, A, 0, hS, rfl, by decide, ?_⟩
    conv => whnf
    repeat ((first | refine ⟨zH_of _, ?_⟩ | refine ⟨trivial, ?_⟩ | refine ⟨rfl, ?_⟩ | refine ⟨fun hc => absurd hc (by decide), fun _ => ?_⟩ | refine ⟨fun _ => ?_, fun hc => absurd (by decide) hc⟩ | refine ⟨fun _ => ?_, fun hc => absurd hc (by decide)⟩ | refine ⟨fun hc => absurd (by decide) hc, fun _ => ?_⟩); conv => whnf)
    try dsimp only
    rw [bI_0]
    refine ⟨fun h1 => ⟨trivial, no (by simp [h1])⟩, fun h1 => ?_⟩
    conv => whnf
    repeat ((first | refine ⟨zH_of _, ?_⟩ | refine ⟨trivial, ?_⟩ | refine ⟨rfl, ?_⟩ | refine ⟨fun hc => absurd hc (by decide), fun _ => ?_⟩ | refine ⟨fun _ => ?_, fun hc => absurd (by decide) hc⟩ | refine ⟨fun _ => ?_, fun hc => absurd hc (by decide)⟩ | refine ⟨fun hc => absurd (by decide) hc, fun _ => ?_⟩); conv => whnf)
    try dsimp only
    refine ⟨d, q, c, A, 1, hS, rfl, by decide, ?_⟩
    conv => whnf
    repeat ((first | refine ⟨zH_of _, ?_⟩ | refine ⟨trivial, ?_⟩ | refine ⟨rfl, ?_⟩ | refine ⟨fun hc => absurd hc (by decide), fun _ => ?_⟩ | refine ⟨fun _ => ?_, fun hc => absurd (by decide) hc⟩ | refine ⟨fun _ => ?_, fun hc => absurd hc (by decide)⟩ | refine ⟨fun hc => absurd (by decide) hc, fun _ => ?_⟩); conv => whnf)
    try dsimp only
    rw [bI_0]
    refine ⟨fun h2 => ⟨trivial, no (by simp [h2])⟩, fun h2 => ?_⟩
    conv => whnf
    repeat ((first | refine ⟨zH_of _, ?_⟩ | refine ⟨trivial, ?_⟩ | refine ⟨rfl, ?_⟩ | refine ⟨fun hc => absurd hc (by decide), fun _ => ?_⟩ | refine ⟨fun _ => ?_, fun hc => absurd (by decide) hc⟩ | refine ⟨fun _ => ?_, fun hc => absurd hc (by decide)⟩ | refine ⟨fun hc => absurd (by decide) hc, fun _ => ?_⟩); conv => whnf)
    try dsimp only
    refine ⟨d, q, c, A, 2, hS, rfl, by decide, ?_⟩
    conv => whnf
    repeat ((first | refine ⟨zH_of _, ?_⟩ | refine ⟨trivial, ?_⟩ | refine ⟨rfl, ?_⟩ | refine ⟨fun hc => absurd hc (by decide), fun _ => ?_⟩ | refine ⟨fun _ => ?_, fun hc => absurd (by decide) hc⟩ | refine ⟨fun _ => ?_, fun hc => absurd hc (by decide)⟩ | refine ⟨fun hc => absurd (by decide) hc, fun _ => ?_⟩); conv => whnf)
    try dsimp only
    rw [bI_0, Classical.not_not]
    refine ⟨fun h3 => ?_, fun h3 => ⟨trivial, no (by simp [h3])⟩⟩
    have h1 := Classical.not_not.mp h1
    have h2 := Classical.not_not.mp h2
    rw [if_pos (by simp [h1, h2, h3])] at h
    obtain ⟨x', hx, rfl⟩ := idB_N h1 (by omega)
    obtain ⟨y', hy, rfl⟩ := idB_N h2 (by omega)
    obtain ⟨z', hz, rfl⟩ := idB_N h3 (by omega)
    rw [nc_N (by omega), nc_N (by omega), nc_N (by omega)] at h
    have loop := up_ind (P := fun i => Jm 40 [some (.ref 45), some (.int (nI x')), some (.int (nI y')), some (.int (nI z')), some (.int (nI (fb_ct (mtB A x' y' z') i))), some (.int (nI i))] [] (GC ++ (GM ++ r), wi0, wl) 0 0) c (fun i hi ih => by
      refine hs 400 40 _ _ _ _ _ ?_
      conv => whnf
      repeat ((first | refine ⟨zH_of _, ?_⟩ | refine ⟨trivial, ?_⟩ | refine ⟨rfl, ?_⟩ | refine ⟨fun hc => absurd hc (by decide), fun _ => ?_⟩ | refine ⟨fun _ => ?_, fun hc => absurd (by decide) hc⟩ | refine ⟨fun _ => ?_, fun hc => absurd hc (by decide)⟩ | refine ⟨fun hc => absurd (by decide) hc, fun _ => ?_⟩); conv => whnf)
      try dsimp only
      rw [ms_c hS, ltN (by omega) (by omega)]
      refine ⟨fun hc => ?_, fun hc => ?_⟩
      · obtain hin : i = c := by omega
        subst hin
        have nl := ndN_le d x' y' z'
        have ml := fb_ct_le (mtB A x' y' z') i
        have gb := gvN_lt (A := A) (c := i) (x := x') (y := y') (z := z') (fun k hk => ⟨ms_A3 hS _ (by omega) _ (by omega), ms_A3 hS _ (by omega) _ (by omega), ms_A3 hS _ (by omega) _ (by omega)⟩)
        have T1 : TF wi0 wl (z_up wi0 45 10 (nI 0)) wl := tf_fld (by decide)
        have M1 : TM (z_up wi0 45 10 (nI 0)) wl 0 (fun _ => 0) := tm_0
        conv => whnf
        repeat ((first | refine ⟨zH_of _, ?_⟩ | refine ⟨trivial, ?_⟩ | refine ⟨rfl, ?_⟩ | refine ⟨fun hc => absurd hc (by decide), fun _ => ?_⟩ | refine ⟨fun _ => ?_, fun hc => absurd (by decide) hc⟩ | refine ⟨fun _ => ?_, fun hc => absurd hc (by decide)⟩ | refine ⟨fun hc => absurd (by decide) hc, fun _ => ?_⟩); conv => whnf)
        try dsimp only
        generalize z_up wi0 45 10 (nI 0) = wi2 at *
        refine ⟨d, q, i, A, x', y', z', tf_ms T1 hS, rfl, by omega, rfl, by omega, rfl, by omega, ?_⟩
        conv => whnf
        repeat ((first | refine ⟨zH_of _, ?_⟩ | refine ⟨trivial, ?_⟩ | refine ⟨rfl, ?_⟩ | refine ⟨fun hc => absurd hc (by decide), fun _ => ?_⟩ | refine ⟨fun _ => ?_, fun hc => absurd (by decide) hc⟩ | refine ⟨fun _ => ?_, fun hc => absurd hc (by decide)⟩ | refine ⟨fun hc => absurd (by decide) hc, fun _ => ?_⟩); conv => whnf)
        try dsimp only
        rw [nI_l (by omega)]
        refine ⟨0, _, M1, by decide, fun wi3 wl3 a1 a2 a3 M2 => ?_⟩
        have T2 := tf_trans T1 (tf_tell a1 a2 a3)
        conv => whnf
        repeat ((first | refine ⟨zH_of _, ?_⟩ | refine ⟨trivial, ?_⟩ | refine ⟨rfl, ?_⟩ | refine ⟨fun hc => absurd hc (by decide), fun _ => ?_⟩ | refine ⟨fun _ => ?_, fun hc => absurd (by decide) hc⟩ | refine ⟨fun _ => ?_, fun hc => absurd hc (by decide)⟩ | refine ⟨fun hc => absurd (by decide) hc, fun _ => ?_⟩); conv => whnf)
        try dsimp only
        rw [nI_l (by omega)]
        refine ⟨1, _, M2, by decide, fun wi4 wl4 a1 a2 a3 M3 => ?_⟩
        have T3 := tf_trans T2 (tf_tell a1 a2 a3)
        have S3 := tf_ms T3 hS
        conv => whnf
        repeat ((first | refine ⟨zH_of _, ?_⟩ | refine ⟨trivial, ?_⟩ | refine ⟨rfl, ?_⟩ | refine ⟨fun hc => absurd hc (by decide), fun _ => ?_⟩ | refine ⟨fun _ => ?_, fun hc => absurd (by decide) hc⟩ | refine ⟨fun _ => ?_, fun hc => absurd hc (by decide)⟩ | refine ⟨fun hc => absurd (by decide) hc, fun _ => ?_⟩); conv => whnf)
        try dsimp only
        refine ⟨d, q, i, A, x', y', z', S3, rfl, by omega, rfl, by omega, rfl, by omega, ?_⟩
        conv => whnf
        repeat ((first | refine ⟨zH_of _, ?_⟩ | refine ⟨trivial, ?_⟩ | refine ⟨rfl, ?_⟩ | refine ⟨fun hc => absurd hc (by decide), fun _ => ?_⟩ | refine ⟨fun _ => ?_, fun hc => absurd (by decide) hc⟩ | refine ⟨fun _ => ?_, fun hc => absurd hc (by decide)⟩ | refine ⟨fun hc => absurd (by decide) hc, fun _ => ?_⟩); conv => whnf)
        try dsimp only
        rw [ms_q S3]
        refine ⟨q_n0 q23, ?_⟩
        rw [z_remN (by omega) (by omega) (by omega)]
        conv => whnf
        repeat ((first | refine ⟨zH_of _, ?_⟩ | refine ⟨trivial, ?_⟩ | refine ⟨rfl, ?_⟩ | refine ⟨fun hc => absurd hc (by decide), fun _ => ?_⟩ | refine ⟨fun _ => ?_, fun hc => absurd (by decide) hc⟩ | refine ⟨fun _ => ?_, fun hc => absurd hc (by decide)⟩ | refine ⟨fun hc => absurd (by decide) hc, fun _ => ?_⟩); conv => whnf)
        try dsimp only
        exact h wi4 wl4 (FrM_trans hF0 (tf_fr T3)) (tf_mt T3 hC M3)
      · have ih := ih hc
        have e0 := ms_at hS hc (t := 0) (by decide) (show x' < 9 by omega)
        have e1 := ms_at hS hc (t := 1) (by decide) (show y' < 9 by omega)
        have e2 := ms_at hS hc (t := 2) (by decide) (show z' < 9 by omega)
        have l0 := ms_A3 hS (3 * i + 0) (by omega) x' (by omega)
        have l1 := ms_A3 hS (3 * i + 1) (by omega) y' (by omega)
        have l2 := ms_A3 hS (3 * i + 2) (by omega) z' (by omega)
        conv => whnf
        repeat ((first | refine ⟨zH_of _, ?_⟩ | refine ⟨trivial, ?_⟩ | refine ⟨rfl, ?_⟩ | refine ⟨fun hc => absurd hc (by decide), fun _ => ?_⟩ | refine ⟨fun _ => ?_, fun hc => absurd (by decide) hc⟩ | refine ⟨fun _ => ?_, fun hc => absurd hc (by decide)⟩ | refine ⟨fun hc => absurd (by decide) hc, fun _ => ?_⟩); conv => whnf)
        try dsimp only
        rw [at_N]
        refine ⟨vp_in_nI (show 27 * i + 9 * 0 + x' < 1080 by omega) (by decide), ?_⟩
        conv => whnf
        repeat ((first | refine ⟨zH_of _, ?_⟩ | refine ⟨trivial, ?_⟩ | refine ⟨rfl, ?_⟩ | refine ⟨fun hc => absurd hc (by decide), fun _ => ?_⟩ | refine ⟨fun _ => ?_, fun hc => absurd (by decide) hc⟩ | refine ⟨fun _ => ?_, fun hc => absurd hc (by decide)⟩ | refine ⟨fun hc => absurd (by decide) hc, fun _ => ?_⟩); conv => whnf)
        try dsimp only
        rw [nI_clamp (n := 27 * i + 9 * 0 + x') (by omega), e0, eq0N (by omega)]
        refine ⟨fun hq => ?_, fun hq => ?_⟩
        · rw [ct_f (by simp only [Nat.add_zero] at hq; simp [mtB, hq])] at ih
          conv => whnf
          repeat ((first | refine ⟨zH_of _, ?_⟩ | refine ⟨trivial, ?_⟩ | refine ⟨rfl, ?_⟩ | refine ⟨fun hc => absurd hc (by decide), fun _ => ?_⟩ | refine ⟨fun _ => ?_, fun hc => absurd (by decide) hc⟩ | refine ⟨fun _ => ?_, fun hc => absurd hc (by decide)⟩ | refine ⟨fun hc => absurd (by decide) hc, fun _ => ?_⟩); conv => whnf)
          try dsimp only
          rw [nI_add, nI_add, Nat.add_zero]
          exact ih
        · conv => whnf
          repeat ((first | refine ⟨zH_of _, ?_⟩ | refine ⟨trivial, ?_⟩ | refine ⟨rfl, ?_⟩ | refine ⟨fun hc => absurd hc (by decide), fun _ => ?_⟩ | refine ⟨fun _ => ?_, fun hc => absurd (by decide) hc⟩ | refine ⟨fun _ => ?_, fun hc => absurd hc (by decide)⟩ | refine ⟨fun hc => absurd (by decide) hc, fun _ => ?_⟩); conv => whnf)
          try dsimp only
          rw [at_N]
          refine ⟨vp_in_nI (show 27 * i + 9 * 1 + y' < 1080 by omega) (by decide), ?_⟩
          conv => whnf
          repeat ((first | refine ⟨zH_of _, ?_⟩ | refine ⟨trivial, ?_⟩ | refine ⟨rfl, ?_⟩ | refine ⟨fun hc => absurd hc (by decide), fun _ => ?_⟩ | refine ⟨fun _ => ?_, fun hc => absurd (by decide) hc⟩ | refine ⟨fun _ => ?_, fun hc => absurd hc (by decide)⟩ | refine ⟨fun hc => absurd (by decide) hc, fun _ => ?_⟩); conv => whnf)
          try dsimp only
          rw [nI_clamp (n := 27 * i + 9 * 1 + y') (by omega), e1, eq0N (by omega)]
          refine ⟨fun hq1 => ?_, fun hq1 => ?_⟩
          · rw [ct_f (by simp [mtB, hq1])] at ih
            conv => whnf
            repeat ((first | refine ⟨zH_of _, ?_⟩ | refine ⟨trivial, ?_⟩ | refine ⟨rfl, ?_⟩ | refine ⟨fun hc => absurd hc (by decide), fun _ => ?_⟩ | refine ⟨fun _ => ?_, fun hc => absurd (by decide) hc⟩ | refine ⟨fun _ => ?_, fun hc => absurd hc (by decide)⟩ | refine ⟨fun hc => absurd (by decide) hc, fun _ => ?_⟩); conv => whnf)
            try dsimp only
            rw [nI_add, nI_add, Nat.add_zero]
            exact ih
          · conv => whnf
            repeat ((first | refine ⟨zH_of _, ?_⟩ | refine ⟨trivial, ?_⟩ | refine ⟨rfl, ?_⟩ | refine ⟨fun hc => absurd hc (by decide), fun _ => ?_⟩ | refine ⟨fun _ => ?_, fun hc => absurd (by decide) hc⟩ | refine ⟨fun _ => ?_, fun hc => absurd hc (by decide)⟩ | refine ⟨fun hc => absurd (by decide) hc, fun _ => ?_⟩); conv => whnf)
            try dsimp only
            rw [at_N]
            refine ⟨vp_in_nI (show 27 * i + 9 * 2 + z' < 1080 by omega) (by decide), ?_⟩
            conv => whnf
            repeat ((first | refine ⟨zH_of _, ?_⟩ | refine ⟨trivial, ?_⟩ | refine ⟨rfl, ?_⟩ | refine ⟨fun hc => absurd hc (by decide), fun _ => ?_⟩ | refine ⟨fun _ => ?_, fun hc => absurd (by decide) hc⟩ | refine ⟨fun _ => ?_, fun hc => absurd hc (by decide)⟩ | refine ⟨fun hc => absurd (by decide) hc, fun _ => ?_⟩); conv => whnf)
            try dsimp only
            rw [nI_clamp (n := 27 * i + 9 * 2 + z') (by omega), e2, eq0N (by omega)]
            refine ⟨fun hq2 => ?_, fun hq2 => ?_⟩
            · rw [ct_f (by simp [mtB, hq2])] at ih
              conv => whnf
              repeat ((first | refine ⟨zH_of _, ?_⟩ | refine ⟨trivial, ?_⟩ | refine ⟨rfl, ?_⟩ | refine ⟨fun hc => absurd hc (by decide), fun _ => ?_⟩ | refine ⟨fun _ => ?_, fun hc => absurd (by decide) hc⟩ | refine ⟨fun _ => ?_, fun hc => absurd hc (by decide)⟩ | refine ⟨fun hc => absurd (by decide) hc, fun _ => ?_⟩); conv => whnf)
              try dsimp only
              rw [nI_add, nI_add, Nat.add_zero]
              exact ih
            · simp only [Nat.add_zero] at hq
              rw [ct_t (by simpa [mtB] using And.intro (And.intro hq hq1) hq2)] at ih
              conv => whnf
              repeat ((first | refine ⟨zH_of _, ?_⟩ | refine ⟨trivial, ?_⟩ | refine ⟨rfl, ?_⟩ | refine ⟨fun hc => absurd hc (by decide), fun _ => ?_⟩ | refine ⟨fun _ => ?_, fun hc => absurd (by decide) hc⟩ | refine ⟨fun _ => ?_, fun hc => absurd hc (by decide)⟩ | refine ⟨fun hc => absurd (by decide) hc, fun _ => ?_⟩); conv => whnf)
              try dsimp only
              rw [nI_add, nI_add]
              exact ih)
    conv => whnf
    repeat ((first | refine ⟨zH_of _, ?_⟩ | refine ⟨trivial, ?_⟩ | refine ⟨rfl, ?_⟩ | refine ⟨fun hc => absurd hc (by decide), fun _ => ?_⟩ | refine ⟨fun _ => ?_, fun hc => absurd (by decide) hc⟩ | refine ⟨fun _ => ?_, fun hc => absurd hc (by decide)⟩ | refine ⟨fun hc => absurd (by decide) hc, fun _ => ?_⟩); conv => whnf)
    try dsimp only
    exact loop 0 (Nat.zero_le _)
def sp_X12_like : zSp := fun av w K => match av with
  | [.ref o, .int i, .int j, .int t] => o = 45 ∧ zH w.1 ∧ ∃ T, MT w.2.1 w.2.2 T ∧ ZT T ∧ ∀ wi' wl', FrM w.2.1 w.2.2 wi' wl' → MT wi' wl' (st_like T i j t).1 → K (some (.int (st_like T i j t).2)) (w.1, wi', wl')
  | _ => False
def rm_X12_like : Room := { frames := 3, cells := 0, slots := 0, locals := 72 }
def M_X12_like : zM := (k_X12_like, f_X12, [(163, 4, 10, 2, 0, 0, sp_X12_isProduct), (170, 0, 0, 1, 0, 0, sp_X12_isTable), (217, 4, 10, 4, 0, 0, sp_X12_likeAt)], ([], [], []), [], [], 1, false, (false, 0, fun _ => 0), (0, 0))
theorem ca_X12_like_0 (l : Launch) : z_cok l RX12 (headSpec (.code yX12_like cX12_like 5 (some .int) :: zTT) rm_X12_like).room (163, 4, 10, 2, 0, 0, sp_X12_isProduct) := z_ca4 (c_X12_isProduct l) mb_X12_isProduct ⟨_, rfl, rfl⟩ wt_1326 wt_1328 wt_42 (by decide)
theorem ca_X12_like_1 (l : Launch) : z_cok l RX12 (headSpec (.code yX12_like cX12_like 5 (some .int) :: zTT) rm_X12_like).room (170, 0, 0, 1, 0, 0, sp_X12_isTable) := z_ca0 (c_X12_isTable l) mb_X12_isTable wt_1338 wt_1339 (by decide)
theorem ca_X12_like_2 (l : Launch) : z_cok l RX12 (headSpec (.code yX12_like cX12_like 5 (some .int) :: zTT) rm_X12_like).room (217, 4, 10, 4, 0, 0, sp_X12_likeAt) := z_ca4 (c_X12_likeAt l) mb_X12_likeAt ⟨_, rfl, rfl⟩ wt_1404 wt_1406 wt_53 (by decide)
theorem O_X12_like (l : Launch) : z_OK l RX12 cX12_like (headSpec (.code yX12_like cX12_like 5 (some .int) :: zTT) rm_X12_like).room M_X12_like := ⟨ok_X12_like, fo_X12, List.forall_mem_cons.mpr ⟨ca_X12_like_0 l, List.forall_mem_cons.mpr ⟨ca_X12_like_1 l, List.forall_mem_cons.mpr ⟨ca_X12_like_2 l, fun _ h => absurd h List.not_mem_nil⟩⟩⟩, fun _ h => absurd h List.not_mem_nil, fun _ h => absurd h List.not_mem_nil, fun _ h => absurd h List.not_mem_nil, fun _ h => absurd h List.not_mem_nil, rfl, rfl⟩
theorem c_X12_like (l : Launch) : z_CS l yX12_like cX12_like 5 (some .int) rm_X12_like sp_X12_like := by
  refine z_meth (by decide) (Or.inr (Or.inl ⟨rfl, rfl⟩)) (fun h => by cases h) rfl (O_X12_like l) ?_
  intro av w K h
  match av, h with
  | [.ref o, .int i, .int j, .int t], h =>
    obtain ⟨rfl, ⟨r, hG⟩, ⟨d, q, c, A, kp, tx, tl⟩, hC, hZ, h⟩ := h
    obtain ⟨G, wi, wl⟩ := w
    subst hG
    try dsimp only at h hC hZ
    have hC := mt_fld (i := 11) (v := nI 0) hC (by decide)
    have hF0 : FrM wi wl (z_up wi 45 11 (nI 0)) wl := fm_fld
    refine ⟨Nat.le_of_ble_eq_true rfl, fun Jm hs => hs 400 0 _ _ _ _ _ ?_⟩
    unfold st_like at h
    dsimp only at h
    conv => whnf
    repeat ((first | refine ⟨zH_of _, ?_⟩ | refine ⟨trivial, ?_⟩ | refine ⟨rfl, ?_⟩ | refine ⟨fun hc => absurd hc (by decide), fun _ => ?_⟩ | refine ⟨fun _ => ?_, fun hc => absurd (by decide) hc⟩ | refine ⟨fun _ => ?_, fun hc => absurd hc (by decide)⟩ | refine ⟨fun hc => absurd (by decide) hc, fun _ => ?_⟩); conv => whnf)
    try dsimp only
    generalize z_up wi 45 11 (nI 0) = wi0 at *
    have hS := mt_S hC
    have h40 := ms_40 hS
    have no : ¬ (idB c i && (idB c j && idB 3 t)) = true → K (some (.int (mI 1))) (GC ++ (GM ++ r), wi0, wl) := fun hn => by
      rw [if_neg hn] at h
      exact h wi0 wl hF0 hC
    refine ⟨c, ms_c hS, by omega, ?_⟩
    conv => whnf
    repeat ((first | refine ⟨zH_of _, ?_⟩ | refine ⟨trivial, ?_⟩ | refine ⟨rfl, ?_⟩ | refine ⟨fun hc => absurd hc (by decide), fun _ => ?_⟩ | refine ⟨fun _ => ?_, fun hc => absurd (by decide) hc⟩ | refine ⟨fun _ => ?_, fun hc => absurd hc (by decide)⟩ | refine ⟨fun hc => absurd (by decide) hc, fun _ => ?_⟩); conv => whnf)
    try dsimp only
    rw [bI_0]
    refine ⟨fun h1 => ⟨trivial, no (by simp [h1])⟩, fun h1 => ?_⟩
    conv => whnf
    repeat ((first | refine ⟨zH_of _, ?_⟩ | refine ⟨trivial, ?_⟩ | refine ⟨rfl, ?_⟩ | refine ⟨fun hc => absurd hc (by decide), fun _ => ?_⟩ | refine ⟨fun _ => ?_, fun hc => absurd (by decide) hc⟩ | refine ⟨fun _ => ?_, fun hc => absurd hc (by decide)⟩ | refine ⟨fun hc => absurd (by decide) hc, fun _ => ?_⟩); conv => whnf)
    try dsimp only
    refine ⟨c, ms_c hS, by omega, ?_⟩
    conv => whnf
    repeat ((first | refine ⟨zH_of _, ?_⟩ | refine ⟨trivial, ?_⟩ | refine ⟨rfl, ?_⟩ | refine ⟨fun hc => absurd hc (by decide), fun _ => ?_⟩ | refine ⟨fun _ => ?_, fun hc => absurd (by decide) hc⟩ | refine ⟨fun _ => ?_, fun hc => absurd hc (by decide)⟩ | refine ⟨fun hc => absurd (by decide) hc, fun _ => ?_⟩); conv => whnf)
    try dsimp only
    rw [bI_0]
    refine ⟨fun h2 => ⟨trivial, no (by simp [h2])⟩, fun h2 => ?_⟩
    conv => whnf
    repeat ((first | refine ⟨zH_of _, ?_⟩ | refine ⟨trivial, ?_⟩ | refine ⟨rfl, ?_⟩ | refine ⟨fun hc => absurd hc (by decide), fun _ => ?_⟩ | refine ⟨fun _ => ?_, fun hc => absurd (by decide) hc⟩ | refine ⟨fun _ => ?_, fun hc => absurd hc (by decide)⟩ | refine ⟨fun hc => absurd (by decide) hc, fun _ => ?_⟩); conv => whnf)
    try dsimp only
    rw [bI_0, Classical.not_not]
    refine ⟨fun h3 => ?_, fun h3 => ⟨trivial, no (by simp [h3])⟩⟩
    have h1 := Classical.not_not.mp h1
    have h2 := Classical.not_not.mp h2
    rw [if_pos (by simp [h1, h2, h3])] at h
    obtain ⟨i', hi, rfl⟩ := idB_N h1 (by omega)
    obtain ⟨j', hj, rfl⟩ := idB_N h2 (by omega)
    obtain ⟨t', ht, rfl⟩ := idB_N h3 (by omega)
    rw [nc_N (by omega), nc_N (by omega), nc_N (by omega)] at h
    have l3 := likeN_lt q (A (3 * i' + t')) (A (3 * j' + t'))
    have h := h wi0 wl hF0
    conv => whnf
    repeat ((first | refine ⟨zH_of _, ?_⟩ | refine ⟨trivial, ?_⟩ | refine ⟨rfl, ?_⟩ | refine ⟨fun hc => absurd hc (by decide), fun _ => ?_⟩ | refine ⟨fun _ => ?_, fun hc => absurd (by decide) hc⟩ | refine ⟨fun _ => ?_, fun hc => absurd hc (by decide)⟩ | refine ⟨fun hc => absurd (by decide) hc, fun _ => ?_⟩); conv => whnf)
    try dsimp only
    refine ⟨d, q, c, A, i', j', t', hS, rfl, hi, rfl, hj, rfl, ht, ?_⟩
    conv => whnf
    repeat ((first | refine ⟨zH_of _, ?_⟩ | refine ⟨trivial, ?_⟩ | refine ⟨rfl, ?_⟩ | refine ⟨fun hc => absurd hc (by decide), fun _ => ?_⟩ | refine ⟨fun _ => ?_, fun hc => absurd (by decide) hc⟩ | refine ⟨fun _ => ?_, fun hc => absurd hc (by decide)⟩ | refine ⟨fun hc => absurd (by decide) hc, fun _ => ?_⟩); conv => whnf)
    try dsimp only
    rw [eq0N (by omega)]
    refine ⟨fun hz => ?_, fun hz => ?_⟩
    · rw [if_neg hz] at h
      conv => whnf
      repeat ((first | refine ⟨zH_of _, ?_⟩ | refine ⟨trivial, ?_⟩ | refine ⟨rfl, ?_⟩ | refine ⟨fun hc => absurd hc (by decide), fun _ => ?_⟩ | refine ⟨fun _ => ?_, fun hc => absurd (by decide) hc⟩ | refine ⟨fun _ => ?_, fun hc => absurd hc (by decide)⟩ | refine ⟨fun hc => absurd (by decide) hc, fun _ => ?_⟩); conv => whnf)
      try dsimp only
      exact h hC
    · rw [if_pos hz] at h
      conv => whnf
      repeat ((first | refine ⟨zH_of _, ?_⟩ | refine ⟨trivial, ?_⟩ | refine ⟨rfl, ?_⟩ | refine ⟨fun hc => absurd hc (by decide), fun _ => ?_⟩ | refine ⟨fun _ => ?_, fun hc => absurd (by decide) hc⟩ | refine ⟨fun _ => ?_, fun hc => absurd hc (by decide)⟩ | refine ⟨fun hc => absurd (by decide) hc, fun _ => ?_⟩); conv => whnf)
      try dsimp only
      exact h hC
def sp_X12_flips : zSp := fun av w K => match av with
  | [.ref o] => o = 45 ∧ zH w.1 ∧ ∃ T, MT w.2.1 w.2.2 T ∧ ZT T ∧ ∀ wi' wl', FrM w.2.1 w.2.2 wi' wl' → MT wi' wl' (st_flips T).1 → K (some (.int (st_flips T).2)) (w.1, wi', wl')
  | _ => False
def rm_X12_flips : Room := { frames := 4, cells := 0, slots := 0, locals := 96 }
def M_X12_flips : zM := (k_X12_flips, f_X12, [(220, 4, 10, 2, 0, 0, sp_X12_flipsAt), (192, 4, 10, 2, 0, 0, sp_X12_tell)], ([], [], []), [], [(14, [true, true, true, false])], 1, false, (false, 0, fun _ => 0), (0, 0))
theorem ca_X12_flips_0 (l : Launch) : z_cok l RX12 (headSpec (.code yX12_flips cX12_flips 4 (some .int) :: zTT) rm_X12_flips).room (220, 4, 10, 2, 0, 0, sp_X12_flipsAt) := z_ca4 (c_X12_flipsAt l) mb_X12_flipsAt ⟨_, rfl, rfl⟩ wt_1419 wt_1421 wt_55 (by decide)
theorem ca_X12_flips_1 (l : Launch) : z_cok l RX12 (headSpec (.code yX12_flips cX12_flips 4 (some .int) :: zTT) rm_X12_flips).room (192, 4, 10, 2, 0, 0, sp_X12_tell) := z_ca4 (c_X12_tell l) mb_X12_tell ⟨_, rfl, rfl⟩ wt_1369 wt_1371 wt_49 (by decide)
theorem O_X12_flips (l : Launch) : z_OK l RX12 cX12_flips (headSpec (.code yX12_flips cX12_flips 4 (some .int) :: zTT) rm_X12_flips).room M_X12_flips := ⟨ok_X12_flips, fo_X12, List.forall_mem_cons.mpr ⟨ca_X12_flips_0 l, List.forall_mem_cons.mpr ⟨ca_X12_flips_1 l, fun _ h => absurd h List.not_mem_nil⟩⟩, fun _ h => absurd h List.not_mem_nil, fun _ h => absurd h List.not_mem_nil, fun _ h => absurd h List.not_mem_nil, fun _ h => absurd h List.not_mem_nil, rfl, rfl⟩
theorem c_X12_flips (l : Launch) : z_CS l yX12_flips cX12_flips 4 (some .int) rm_X12_flips sp_X12_flips := by
  refine z_meth (by decide) (Or.inr (Or.inl ⟨rfl, rfl⟩)) (fun h => by cases h) rfl (O_X12_flips l) ?_
  intro av w K h
  match av, h with
  | [.ref o], h =>
    obtain ⟨rfl, ⟨r, hG⟩, ⟨d, q, c, A, kp, tx, tl⟩, hC, hZ, h⟩ := h
    obtain ⟨G, wi, wl⟩ := w
    subst hG
    try dsimp only at h hC hZ
    have hC := mt_fld (i := 11) (v := nI 0) hC (by decide)
    have hF0 : FrM wi wl (z_up wi 45 11 (nI 0)) wl := fm_fld
    refine ⟨Nat.le_of_ble_eq_true rfl, fun Jm hs => ?_⟩
    unfold st_flips wTl flAll at h
    dsimp only at h
    refine hs 400 0 _ _ _ _ _ ?_
    have T1 : TF (z_up wi 45 11 (nI 0)) wl (z_up (z_up wi 45 11 (nI 0)) 45 10 (nI 0)) wl := tf_fld (by decide)
    have M1 : TM (z_up (z_up wi 45 11 (nI 0)) 45 10 (nI 0)) wl 0 (fun _ => 0) := tm_0
    conv => whnf
    repeat ((first | refine ⟨zH_of _, ?_⟩ | refine ⟨trivial, ?_⟩ | refine ⟨rfl, ?_⟩ | refine ⟨fun hc => absurd hc (by decide), fun _ => ?_⟩ | refine ⟨fun _ => ?_, fun hc => absurd (by decide) hc⟩ | refine ⟨fun _ => ?_, fun hc => absurd hc (by decide)⟩ | refine ⟨fun hc => absurd (by decide) hc, fun _ => ?_⟩); conv => whnf)
    try dsimp only
    generalize z_up (z_up wi 45 11 (nI 0)) 45 10 (nI 0) = wi1 at *
    generalize z_up wi 45 11 (nI 0) = wi0 at *
    have hS := mt_S hC
    have h40 := ms_40 hS
    have hl : ∀ t, flN q A t c ≤ 3200 := fun t => fl_le (q := q) (A := A) (t := t) h40
    generalize hf : (fun t => flN q A t c) = f at *
    have hl : ∀ t, f t ≤ 3200 := fun t => by rw [← hf]; exact hl t
    have turn : ∀ t, t < 3 → ∀ a wi2 wl2 xs, a ≤ 6400 → TF wi0 wl wi2 wl2 → TM wi2 wl2 t xs → (∀ wi3 wl3, TF wi0 wl wi3 wl3 → TM wi3 wl3 (t + 1) (upL xs t (lN (f t))) → Jm 14 [some (.ref 45), some (.int (nI (a + f t))), some (.int (nI (t + 1))), none] [] (GC ++ (GM ++ r), wi3, wl3) 0 0) → Jm 14 [some (.ref 45), some (.int (nI a)), some (.int (nI t)), none] [] (GC ++ (GM ++ r), wi2, wl2) 0 0 := fun t ht a wi2 wl2 xs ha T2 M2 k => by
      have lt := hl t
      refine hs 400 14 _ _ _ _ _ ?_
      conv => whnf
      repeat ((first | refine ⟨zH_of _, ?_⟩ | refine ⟨trivial, ?_⟩ | refine ⟨rfl, ?_⟩ | refine ⟨fun hc => absurd hc (by decide), fun _ => ?_⟩ | refine ⟨fun _ => ?_, fun hc => absurd (by decide) hc⟩ | refine ⟨fun _ => ?_, fun hc => absurd hc (by decide)⟩ | refine ⟨fun hc => absurd (by decide) hc, fun _ => ?_⟩); conv => whnf)
      try dsimp only
      rw [ltN (by omega) (by omega)]
      refine ⟨fun z => absurd ht z, fun _ => ?_⟩
      conv => whnf
      repeat ((first | refine ⟨zH_of _, ?_⟩ | refine ⟨trivial, ?_⟩ | refine ⟨rfl, ?_⟩ | refine ⟨fun hc => absurd hc (by decide), fun _ => ?_⟩ | refine ⟨fun _ => ?_, fun hc => absurd (by decide) hc⟩ | refine ⟨fun _ => ?_, fun hc => absurd hc (by decide)⟩ | refine ⟨fun hc => absurd (by decide) hc, fun _ => ?_⟩); conv => whnf)
      try dsimp only
      refine ⟨d, q, c, A, t, tf_ms T2 hS, rfl, ht, ?_⟩
      conv => whnf
      repeat ((first | refine ⟨zH_of _, ?_⟩ | refine ⟨trivial, ?_⟩ | refine ⟨rfl, ?_⟩ | refine ⟨fun hc => absurd hc (by decide), fun _ => ?_⟩ | refine ⟨fun _ => ?_, fun hc => absurd (by decide) hc⟩ | refine ⟨fun _ => ?_, fun hc => absurd hc (by decide)⟩ | refine ⟨fun hc => absurd (by decide) hc, fun _ => ?_⟩); conv => whnf)
      try dsimp only
      have ef : flN q A t c = f t := by rw [← hf]
      rw [ef, nI_l (by omega)]
      refine ⟨t, xs, M2, by omega, fun wi3 wl3 a1 a2 a3 M3 => ?_⟩
      conv => whnf
      repeat ((first | refine ⟨zH_of _, ?_⟩ | refine ⟨trivial, ?_⟩ | refine ⟨rfl, ?_⟩ | refine ⟨fun hc => absurd hc (by decide), fun _ => ?_⟩ | refine ⟨fun _ => ?_, fun hc => absurd (by decide) hc⟩ | refine ⟨fun _ => ?_, fun hc => absurd hc (by decide)⟩ | refine ⟨fun hc => absurd (by decide) hc, fun _ => ?_⟩); conv => whnf)
      try dsimp only
      rw [nI_add, nI_add]
      exact k wi3 wl3 (tf_trans T2 (tf_tell a1 a2 a3)) M3
    have l0 := hl 0
    have l1 := hl 1
    have l2 := hl 2
    refine turn 0 (by decide) 0 wi1 wl _ (by omega) T1 M1 (fun wi2 wl2 T2 M2 => ?_)
    rw [Nat.zero_add]
    refine turn 1 (by decide) _ wi2 wl2 _ (by omega) T2 M2 (fun wi3 wl3 T3 M3 => ?_)
    refine turn 2 (by decide) _ wi3 wl3 _ (by omega) T3 M3 (fun wi4 wl4 T4 M4 => ?_)
    refine hs 400 14 _ _ _ _ _ ?_
    conv => whnf
    repeat ((first | refine ⟨zH_of _, ?_⟩ | refine ⟨trivial, ?_⟩ | refine ⟨rfl, ?_⟩ | refine ⟨fun hc => absurd hc (by decide), fun _ => ?_⟩ | refine ⟨fun _ => ?_, fun hc => absurd (by decide) hc⟩ | refine ⟨fun _ => ?_, fun hc => absurd hc (by decide)⟩ | refine ⟨fun hc => absurd (by decide) hc, fun _ => ?_⟩); conv => whnf)
    try dsimp only
    have e0 : flN q A 0 c = f 0 := by rw [← hf]
    have e1 : flN q A 1 c = f 1 := by rw [← hf]
    have e2 : flN q A 2 c = f 2 := by rw [← hf]
    rw [e0, e1, e2] at h
    exact h wi4 wl4 (FrM_trans hF0 (tf_fr T4)) (tf_mt T4 hC M4)

