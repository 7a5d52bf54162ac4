/-! the reference: where what is given is another than by what is kept -/
def sp_X12_keptGiven : zSp := fun av w K => match av with
  | [.ref o, .int x, .int y, .int z] => o = 45 ∧ zH w.1 ∧ ∃ q c B x' y' z', w.2.1 45 1 = nI q ∧ (q = 2 ∨ q = 3) ∧ w.2.1 45 4 = nI c ∧ c ≤ 40 ∧ RW w.2.1 49 (27 * c) B ∧ (∀ k, k < 3 * c → ∀ p, p < 9 → B k p < q) ∧ x = nI x' ∧ x' < 9 ∧ y = nI y' ∧ y' < 9 ∧ z = nI z' ∧ z' < 9 ∧ K (some (.int (nI (gvN B c x' y' z' % q)))) w
  | _ => False
def rm_X12_keptGiven : Room := { frames := 1, cells := 0, slots := 0, locals := 22 }
def M_X12_keptGiven : zM := (k_X12_keptGiven, f_X12, [(107, 0, 0, 3, 0, 0, sp_X12_at)], ([], [], []), [], [(6, [true, true, true, true, true, true])], 1, false, (false, 0, fun _ => 0), (0, 0))
theorem ca_X12_keptGiven_0 (l : Launch) : z_cok l RX12 (headSpec (.code yX12_keptGiven cX12_keptGiven 6 (some .int) :: zTT) rm_X12_keptGiven).room (107, 0, 0, 3, 0, 0, sp_X12_at) := z_ca0 (c_X12_at l) mb_X12_at wt_1136 wt_1137 (by decide)
theorem O_X12_keptGiven (l : Launch) : z_OK l RX12 cX12_keptGiven (headSpec (.code yX12_keptGiven cX12_keptGiven 6 (some .int) :: zTT) rm_X12_keptGiven).room M_X12_keptGiven := ⟨ok_X12_keptGiven, fo_X12, List.forall_mem_cons.mpr ⟨ca_X12_keptGiven_0 l, fun _ h => absurd h List.not_mem_nil⟩, fun _ h => absurd h List.not_mem_nil, fun _ h => absurd h List.not_mem_nil, fun _ h => absurd h List.not_mem_nil, fun _ h => absurd h List.not_mem_nil, rfl, rfl⟩
theorem c_X12_keptGiven (l : Launch) : z_CS l yX12_keptGiven cX12_keptGiven 6 (some .int) rm_X12_keptGiven sp_X12_keptGiven := by
  refine z_meth (by decide) (Or.inr (Or.inl ⟨rfl, rfl⟩)) (fun h => by cases h) rfl (O_X12_keptGiven l) ?_
  intro av w K h
  match av, h with
  | [.ref o, .int x, .int y, .int z], h =>
    obtain ⟨rfl, ⟨r, hG⟩, q, c, A, x', y', z', hQ, q23, hc0, h40, hR, hb, rfl, hx, rfl, hy, rfl, hz, h⟩ := h
    obtain ⟨G, wi, wl⟩ := w
    subst hG
    try dsimp only at h hQ hc0 hR
    have gl := gvN_lt (A := A) (c := c) (x := x') (y := y') (z := z') (fun i hi => by
      have h0 := hb (3 * i) (by omega) x' hx
      have h1 := hb (3 * i + 1) (by omega) y' hy
      have h2 := hb (3 * i + 2) (by omega) z' hz
      omega)
    refine ⟨Nat.le_of_ble_eq_true rfl, fun Jm hs => ?_⟩
    have loop := up_ind (P := fun i => Jm 6 [some (.ref 45), some (.int (nI x')), some (.int (nI y')), some (.int (nI z')), some (.int (nI (gvN A i x' y' z'))), some (.int (nI i))] [] (GC ++ (GM ++ r), wi, wl) 0 0) c (fun i hi ih => by
      refine hs 400 6 _ _ _ _ _ ?_
      conv => whnf
      repeat ((first | refine ⟨zH_of _, ?_⟩ | refine ⟨trivial, ?_⟩ | refine ⟨rfl, ?_⟩ | refine ⟨fun hc => absurd hc (by decide), fun _ => ?_⟩ | refine ⟨fun _ => ?_, fun hc => absurd (by decide) hc⟩ | refine ⟨fun _ => ?_, fun hc => absurd hc (by decide)⟩ | refine ⟨fun hc => absurd (by decide) hc, fun _ => ?_⟩); conv => whnf)
      try dsimp only
      rw [hc0, ltN (by omega) (by omega)]
      refine ⟨fun hc => ?_, fun hc => ?_⟩
      · obtain hin : i = c := by omega
        rw [hin]
        conv => whnf
        repeat ((first | refine ⟨zH_of _, ?_⟩ | refine ⟨trivial, ?_⟩ | refine ⟨rfl, ?_⟩ | refine ⟨fun hc => absurd hc (by decide), fun _ => ?_⟩ | refine ⟨fun _ => ?_, fun hc => absurd (by decide) hc⟩ | refine ⟨fun _ => ?_, fun hc => absurd hc (by decide)⟩ | refine ⟨fun hc => absurd (by decide) hc, fun _ => ?_⟩); conv => whnf)
        try dsimp only
        rw [hQ]
        refine ⟨q_n0 q23, ?_⟩
        rw [z_remN (by omega) (by omega) (by omega)]
        conv => whnf
        repeat ((first | refine ⟨zH_of _, ?_⟩ | refine ⟨trivial, ?_⟩ | refine ⟨rfl, ?_⟩ | refine ⟨fun hc => absurd hc (by decide), fun _ => ?_⟩ | refine ⟨fun _ => ?_, fun hc => absurd (by decide) hc⟩ | refine ⟨fun _ => ?_, fun hc => absurd hc (by decide)⟩ | refine ⟨fun hc => absurd (by decide) hc, fun _ => ?_⟩); conv => whnf)
        try dsimp only
        exact h
      · have ihn := ih hc
        have e0 := rw_ra hR hc (t := 0) (by decide) x' hx
        have e1 := rw_ra hR hc (t := 1) (by decide) y' hy
        have e2 := rw_ra hR hc (t := 2) (by decide) z' hz
        have g : nI (gvN A (i + 1) x' y' z') = nI (gvN A i x' y' z') + nI (A (3 * i + 0) x') * nI (A (3 * i + 1) y') * nI (A (3 * i + 2) z') := by
          rw [pk_mul, pk_mul, nI_add]
          rfl
        rw [g] at ihn
        conv => whnf
        repeat ((first | refine ⟨zH_of _, ?_⟩ | refine ⟨trivial, ?_⟩ | refine ⟨rfl, ?_⟩ | refine ⟨fun hc => absurd hc (by decide), fun _ => ?_⟩ | refine ⟨fun _ => ?_, fun hc => absurd (by decide) hc⟩ | refine ⟨fun _ => ?_, fun hc => absurd hc (by decide)⟩ | refine ⟨fun hc => absurd (by decide) hc, fun _ => ?_⟩); conv => whnf)
        try dsimp only
        rw [at_N]
        refine ⟨vp_in_nI (show 27 * i + 9 * 0 + x' < 1080 by omega) (by decide), ?_⟩
        conv => whnf
        repeat ((first | refine ⟨zH_of _, ?_⟩ | refine ⟨trivial, ?_⟩ | refine ⟨rfl, ?_⟩ | refine ⟨fun hc => absurd hc (by decide), fun _ => ?_⟩ | refine ⟨fun _ => ?_, fun hc => absurd (by decide) hc⟩ | refine ⟨fun _ => ?_, fun hc => absurd hc (by decide)⟩ | refine ⟨fun hc => absurd (by decide) hc, fun _ => ?_⟩); conv => whnf)
        try dsimp only
        rw [at_N]
        refine ⟨vp_in_nI (show 27 * i + 9 * 1 + y' < 1080 by omega) (by decide), ?_⟩
        conv => whnf
        repeat ((first | refine ⟨zH_of _, ?_⟩ | refine ⟨trivial, ?_⟩ | refine ⟨rfl, ?_⟩ | refine ⟨fun hc => absurd hc (by decide), fun _ => ?_⟩ | refine ⟨fun _ => ?_, fun hc => absurd (by decide) hc⟩ | refine ⟨fun _ => ?_, fun hc => absurd hc (by decide)⟩ | refine ⟨fun hc => absurd (by decide) hc, fun _ => ?_⟩); conv => whnf)
        try dsimp only
        rw [at_N]
        refine ⟨vp_in_nI (show 27 * i + 9 * 2 + z' < 1080 by omega) (by decide), ?_⟩
        conv => whnf
        repeat ((first | refine ⟨zH_of _, ?_⟩ | refine ⟨trivial, ?_⟩ | refine ⟨rfl, ?_⟩ | refine ⟨fun hc => absurd hc (by decide), fun _ => ?_⟩ | refine ⟨fun _ => ?_, fun hc => absurd (by decide) hc⟩ | refine ⟨fun _ => ?_, fun hc => absurd hc (by decide)⟩ | refine ⟨fun hc => absurd (by decide) hc, fun _ => ?_⟩); conv => whnf)
        try dsimp only
        rw [nI_clamp (n := 27 * i + 9 * 0 + x') (by omega), nI_clamp (n := 27 * i + 9 * 1 + y') (by omega), nI_clamp (n := 27 * i + 9 * 2 + z') (by omega), e0, e1, e2, nI_add (a := i) (b := 1)]
        exact ihn)
    exact hs 400 0 _ _ _ _ _ (loop 0 (Nat.zero_le _))
def sp_X12_unlikes : zSp := fun av w K => match av with
  | [.ref o] => o = 45 ∧ zH w.1 ∧ ∃ T, MT w.2.1 w.2.2 T ∧ ZT T ∧ ∀ wi' wl', FrM w.2.1 w.2.2 wi' wl' → MT wi' wl' (st_unlikes T).1 → K (some (.int (st_unlikes T).2)) (w.1, wi', wl')
  | _ => False
def rm_X12_unlikes : Room := { frames := 2, cells := 0, slots := 0, locals := 47 }
def M_X12_unlikes : zM := (k_X12_unlikes, f_X12, [(342, 4, 10, 1, 0, 0, sp_X12_isKeptSo), (96, 4, 10, 2, 0, 0, sp_X12_placesOf), (183, 4, 10, 4, 0, 0, sp_X12_wholeGiven), (345, 4, 10, 4, 0, 0, sp_X12_keptGiven), (192, 4, 10, 2, 0, 0, sp_X12_tell)], ([], [], []), [], [(35, [true, true, true, false, false]), (46, [true, true, true, true, false]), (58, [true, true, true, true, true]), (121, [true, true, true, true, true])], 1, false, (false, 0, fun _ => 0), (0, 0))
theorem ca_X12_unlikes_0 (l : Launch) : z_cok l RX12 (headSpec (.code yX12_unlikes cX12_unlikes 5 (some .int) :: zTT) rm_X12_unlikes).room (342, 4, 10, 1, 0, 0, sp_X12_isKeptSo) := z_ca4 (c_X12_isKeptSo l) mb_X12_isKeptSo ⟨_, rfl, rfl⟩ wt_1628 wt_1630 wt_84 (by decide)
theorem ca_X12_unlikes_1 (l : Launch) : z_cok l RX12 (headSpec (.code yX12_unlikes cX12_unlikes 5 (some .int) :: zTT) rm_X12_unlikes).room (96, 4, 10, 2, 0, 0, sp_X12_placesOf) := z_ca4 (c_X12_placesOf l) mb_X12_placesOf ⟨_, rfl, rfl⟩ wt_1349 wt_1351 wt_45 (by decide)
theorem ca_X12_unlikes_2 (l : Launch) : z_cok l RX12 (headSpec (.code yX12_unlikes cX12_unlikes 5 (some .int) :: zTT) rm_X12_unlikes).room (183, 4, 10, 4, 0, 0, sp_X12_wholeGiven) := z_ca4 (c_X12_wholeGiven l) mb_X12_wholeGiven ⟨_, rfl, rfl⟩ wt_1361 wt_1363 wt_47 (by decide)
theorem ca_X12_unlikes_3 (l : Launch) : z_cok l RX12 (headSpec (.code yX12_unlikes cX12_unlikes 5 (some .int) :: zTT) rm_X12_unlikes).room (345, 4, 10, 4, 0, 0, sp_X12_keptGiven) := z_ca4 (c_X12_keptGiven l) mb_X12_keptGiven ⟨_, rfl, rfl⟩ wt_1636 wt_1638 wt_85 (by decide)
theorem ca_X12_unlikes_4 (l : Launch) : z_cok l RX12 (headSpec (.code yX12_unlikes cX12_unlikes 5 (some .int) :: zTT) rm_X12_unlikes).room (192, 4, 10, 2, 0, 0, sp_X12_tell) := z_ca4 (c_X12_tell l) mb_X12_tell ⟨_, rfl, rfl⟩ wt_1369 wt_1371 wt_49 (by decide)
theorem O_X12_unlikes (l : Launch) : z_OK l RX12 cX12_unlikes (headSpec (.code yX12_unlikes cX12_unlikes 5 (some .int) :: zTT) rm_X12_unlikes).room M_X12_unlikes := ⟨ok_X12_unlikes, fo_X12, List.forall_mem_cons.mpr ⟨ca_X12_unlikes_0 l, List.forall_mem_cons.mpr ⟨ca_X12_unlikes_1 l, List.forall_mem_cons.mpr ⟨ca_X12_unlikes_2 l, List.forall_mem_cons.mpr ⟨ca_X12_unlikes_3 l, List.forall_mem_cons.mpr ⟨ca_X12_unlikes_4 l, fun _ h => absurd h List.not_mem_nil⟩⟩⟩⟩⟩, fun _ h => absurd h List.not_mem_nil, fun _ h => absurd h List.not_mem_nil, fun _ h => absurd h List.not_mem_nil, fun _ h => absurd h List.not_mem_nil, rfl, rfl⟩
theorem c_X12_unlikes (l : Launch) : z_CS l yX12_unlikes cX12_unlikes 5 (some .int) rm_X12_unlikes sp_X12_unlikes := by
  refine z_meth (by decide) (Or.inr (Or.inl ⟨rfl, rfl⟩)) (fun h => by cases h) rfl (O_X12_unlikes l) ?_
  intro av w K h
  match av, h with
  | [.ref o], h =>
    obtain ⟨rfl, ⟨r, hG⟩, ⟨d, q, c, A, ⟨kf, d2, c2, B⟩, tx, tl⟩, hC, hZ, h⟩ := h
    obtain ⟨G, wi, wl⟩ := w
    subst hG
    try dsimp only at h hC hZ
    have hC := mt_fld (i := 11) (v := nI 0) hC (by decide)
    have hF0 : FrM wi wl (z_up wi 45 11 (nI 0)) wl := fm_fld
    refine ⟨Nat.le_of_ble_eq_true rfl, fun Jm hs => ?_⟩
    unfold st_unlikes wTl at h
    dsimp only at h
    refine hs 400 0 _ _ _ _ _ ?_
    conv => whnf
    repeat ((first | refine ⟨zH_of _, ?_⟩ | refine ⟨trivial, ?_⟩ | refine ⟨rfl, ?_⟩ | refine ⟨fun hc => absurd hc (by decide), fun _ => ?_⟩ | refine ⟨fun _ => ?_, fun hc => absurd (by decide) hc⟩ | refine ⟨fun _ => ?_, fun hc => absurd hc (by decide)⟩ | refine ⟨fun hc => absurd (by decide) hc, fun _ => ?_⟩); conv => whnf)
    try dsimp only
    generalize z_up wi 45 11 (nI 0) = wi0 at *
    have hS := mt_S hC
    rcases mt_K hC with ⟨k1, k2⟩ | ⟨k1, k2, k3, k4, k5, k6, k7⟩
    · dsimp only at k1
      subst k1
      rw [if_neg (by decide)] at h
      rw [k2]
      exact ⟨fun z => absurd rfl z, fun _ => ⟨trivial, h wi0 wl hF0 hC⟩⟩
    dsimp only at k1 k2 k3 k4 k5 k6 k7
    subst k1
    rw [if_pos rfl] at h
    rw [k2]
    refine ⟨fun _ => ?_, fun z => absurd z (nI_nm k5)⟩
    conv => whnf
    repeat ((first | refine ⟨zH_of _, ?_⟩ | refine ⟨trivial, ?_⟩ | refine ⟨rfl, ?_⟩ | refine ⟨fun hc => absurd hc (by decide), fun _ => ?_⟩ | refine ⟨fun _ => ?_, fun hc => absurd (by decide) hc⟩ | refine ⟨fun _ => ?_, fun hc => absurd hc (by decide)⟩ | refine ⟨fun hc => absurd (by decide) hc, fun _ => ?_⟩); conv => whnf)
    try dsimp only
    refine ⟨d, q, c, A, d2, hS, k3, k6, ?_⟩
    conv => whnf
    repeat ((first | refine ⟨zH_of _, ?_⟩ | refine ⟨trivial, ?_⟩ | refine ⟨rfl, ?_⟩ | refine ⟨fun hc => absurd hc (by decide), fun _ => ?_⟩ | refine ⟨fun _ => ?_, fun hc => absurd (by decide) hc⟩ | refine ⟨fun _ => ?_, fun hc => absurd hc (by decide)⟩ | refine ⟨fun hc => absurd (by decide) hc, fun _ => ?_⟩); conv => whnf)
    try dsimp only
    rw [bI_0, Classical.not_not]
    refine ⟨fun hsh => ?_, fun hsh => ?_⟩
    case refine_2 =>
      rw [if_neg hsh] at h
      exact ⟨trivial, h wi0 wl hF0 hC⟩
    rw [if_pos hsh] at h
    have h40 := ms_40 hS
    have q23 := ms_q23 hS
    have p0 := pl_le (ms_hd hS) (t := 0) (by decide)
    have p1 := pl_le (ms_hd hS) (t := 1) (by decide)
    have p2 := pl_le (ms_hd hS) (t := 2) (by decide)
    generalize hf : ukB d q A c B c2 = f at h
    have fle : ∀ m, fb_ct f m ≤ m := fb_ct_le f
    have loop := up_ind (P := fun x => ∀ wi' wl', TF wi0 wl wi' wl' → TM wi' wl' (fv ukG f 3 (x * 81)).1 (fv ukG f 3 (x * 81)).2 → Jm 35 [some (.ref 45), some (.int (nI (fb_ct f (x * 81)))), some (.int (nI x)), none, none] [] (GC ++ (GM ++ r), wi', wl') 0 0) (pl d 0) (fun x hx ihx => by
      intro wi' wl' hF hT
      have hS' := tf_ms hF hS
      refine hs 400 35 _ _ _ _ _ ?_
      conv => whnf
      repeat ((first | refine ⟨zH_of _, ?_⟩ | refine ⟨trivial, ?_⟩ | refine ⟨rfl, ?_⟩ | refine ⟨fun hc => absurd hc (by decide), fun _ => ?_⟩ | refine ⟨fun _ => ?_, fun hc => absurd (by decide) hc⟩ | refine ⟨fun _ => ?_, fun hc => absurd hc (by decide)⟩ | refine ⟨fun hc => absurd (by decide) hc, fun _ => ?_⟩); conv => whnf)
      try dsimp only
      refine ⟨0, rfl, by decide, ?_⟩
      rw [mpl hS' (by decide)]
      conv => whnf
      repeat ((first | refine ⟨zH_of _, ?_⟩ | refine ⟨trivial, ?_⟩ | refine ⟨rfl, ?_⟩ | refine ⟨fun hc => absurd hc (by decide), fun _ => ?_⟩ | refine ⟨fun _ => ?_, fun hc => absurd (by decide) hc⟩ | refine ⟨fun _ => ?_, fun hc => absurd hc (by decide)⟩ | refine ⟨fun hc => absurd (by decide) hc, fun _ => ?_⟩); conv => whnf)
      try dsimp only
      rw [ltN (by omega) (by omega)]
      refine ⟨fun hc => ?_, fun hc => ?_⟩
      · have z0 : ∀ k, x * 81 ≤ k → k < 729 → f k = false := fun k h1 h2 => by
          rw [← hf]
          exact uk_far (Or.inl (by omega))
        rw [fv_more (show x * 81 ≤ 729 by omega) z0, ct_more (show x * 81 ≤ 729 by omega) z0] at h
        conv => whnf
        repeat ((first | refine ⟨zH_of _, ?_⟩ | refine ⟨trivial, ?_⟩ | refine ⟨rfl, ?_⟩ | refine ⟨fun hc => absurd hc (by decide), fun _ => ?_⟩ | refine ⟨fun _ => ?_, fun hc => absurd (by decide) hc⟩ | refine ⟨fun _ => ?_, fun hc => absurd hc (by decide)⟩ | refine ⟨fun hc => absurd (by decide) hc, fun _ => ?_⟩); conv => whnf)
        try dsimp only
        exact h wi' wl' (FrM_trans hF0 (tf_fr hF)) (tf_mt hF hC hT)
      · have ihxn := ihx hc
        have loopy := up_ind (P := fun y => ∀ wi' wl', TF wi0 wl wi' wl' → TM wi' wl' (fv ukG f 3 (x * 81 + y * 9)).1 (fv ukG f 3 (x * 81 + y * 9)).2 → Jm 46 [some (.ref 45), some (.int (nI (fb_ct f (x * 81 + y * 9)))), some (.int (nI x)), some (.int (nI y)), none] [] (GC ++ (GM ++ r), wi', wl') 0 0) (pl d 1) (fun y hy ihy => by
          intro wi' wl' hF hT
          have hS' := tf_ms hF hS
          refine hs 400 46 _ _ _ _ _ ?_
          conv => whnf
          repeat ((first | refine ⟨zH_of _, ?_⟩ | refine ⟨trivial, ?_⟩ | refine ⟨rfl, ?_⟩ | refine ⟨fun hc => absurd hc (by decide), fun _ => ?_⟩ | refine ⟨fun _ => ?_, fun hc => absurd (by decide) hc⟩ | refine ⟨fun _ => ?_, fun hc => absurd hc (by decide)⟩ | refine ⟨fun hc => absurd (by decide) hc, fun _ => ?_⟩); conv => whnf)
          try dsimp only
          refine ⟨1, rfl, by decide, ?_⟩
          rw [mpl hS' (by decide)]
          conv => whnf
          repeat ((first | refine ⟨zH_of _, ?_⟩ | refine ⟨trivial, ?_⟩ | refine ⟨rfl, ?_⟩ | refine ⟨fun hc => absurd hc (by decide), fun _ => ?_⟩ | refine ⟨fun _ => ?_, fun hc => absurd (by decide) hc⟩ | refine ⟨fun _ => ?_, fun hc => absurd hc (by decide)⟩ | refine ⟨fun hc => absurd (by decide) hc, fun _ => ?_⟩); conv => whnf)
          try dsimp only
          rw [ltN (by omega) (by omega)]
          refine ⟨fun hc2 => ?_, fun hc2 => ?_⟩
          · have z0 : ∀ k, x * 81 + y * 9 ≤ k → k < (x + 1) * 81 → f k = false := fun k h1 h2 => by
              rw [← hf]
              exact uk_far (Or.inr (Or.inl (by omega)))
            rw [fv_more (show x * 81 + y * 9 ≤ (x + 1) * 81 by omega) z0, ct_more (show x * 81 + y * 9 ≤ (x + 1) * 81 by omega) z0] at ihxn
            conv => whnf
            repeat ((first | refine ⟨zH_of _, ?_⟩ | refine ⟨trivial, ?_⟩ | refine ⟨rfl, ?_⟩ | refine ⟨fun hc => absurd hc (by decide), fun _ => ?_⟩ | refine ⟨fun _ => ?_, fun hc => absurd (by decide) hc⟩ | refine ⟨fun _ => ?_, fun hc => absurd hc (by decide)⟩ | refine ⟨fun hc => absurd (by decide) hc, fun _ => ?_⟩); conv => whnf)
            try dsimp only
            rw [nI_add]
            exact ihxn wi' wl' hF hT
          · have ihyn := ihy hc2
            have loopz := up_ind (P := fun z => ∀ wi' wl', TF wi0 wl wi' wl' → TM wi' wl' (fv ukG f 3 (x * 81 + y * 9 + z)).1 (fv ukG f 3 (x * 81 + y * 9 + z)).2 → Jm 58 [some (.ref 45), some (.int (nI (fb_ct f (x * 81 + y * 9 + z)))), some (.int (nI x)), some (.int (nI y)), some (.int (nI z))] [] (GC ++ (GM ++ r), wi', wl') 0 0) (pl d 2) (fun z hz ihz => by
              intro wi' wl' hF hT
              have hS' := tf_ms hF hS
              refine hs 400 58 _ _ _ _ _ ?_
              conv => whnf
              repeat ((first | refine ⟨zH_of _, ?_⟩ | refine ⟨trivial, ?_⟩ | refine ⟨rfl, ?_⟩ | refine ⟨fun hc => absurd hc (by decide), fun _ => ?_⟩ | refine ⟨fun _ => ?_, fun hc => absurd (by decide) hc⟩ | refine ⟨fun _ => ?_, fun hc => absurd hc (by decide)⟩ | refine ⟨fun hc => absurd (by decide) hc, fun _ => ?_⟩); conv => whnf)
              try dsimp only
              refine ⟨2, rfl, by decide, ?_⟩
              rw [mpl hS' (by decide)]
              conv => whnf
              repeat ((first | refine ⟨zH_of _, ?_⟩ | refine ⟨trivial, ?_⟩ | refine ⟨rfl, ?_⟩ | refine ⟨fun hc => absurd hc (by decide), fun _ => ?_⟩ | refine ⟨fun _ => ?_, fun hc => absurd (by decide) hc⟩ | refine ⟨fun _ => ?_, fun hc => absurd hc (by decide)⟩ | refine ⟨fun hc => absurd (by decide) hc, fun _ => ?_⟩); conv => whnf)
              try dsimp only
              rw [ltN (by omega) (by omega)]
              refine ⟨fun hc3 => ?_, fun hc3 => ?_⟩
              · have z0 : ∀ k, x * 81 + y * 9 + z ≤ k → k < x * 81 + (y + 1) * 9 → f k = false := fun k h1 h2 => by
                  rw [← hf]
                  exact uk_far (Or.inr (Or.inr (by omega)))
                rw [fv_more (show x * 81 + y * 9 + z ≤ x * 81 + (y + 1) * 9 by omega) z0, ct_more (show x * 81 + y * 9 + z ≤ x * 81 + (y + 1) * 9 by omega) z0] at ihyn
                conv => whnf
                repeat ((first | refine ⟨zH_of _, ?_⟩ | refine ⟨trivial, ?_⟩ | refine ⟨rfl, ?_⟩ | refine ⟨fun hc => absurd hc (by decide), fun _ => ?_⟩ | refine ⟨fun _ => ?_, fun hc => absurd (by decide) hc⟩ | refine ⟨fun _ => ?_, fun hc => absurd hc (by decide)⟩ | refine ⟨fun hc => absurd (by decide) hc, fun _ => ?_⟩); conv => whnf)
                try dsimp only
                rw [nI_add]
                exact ihyn wi' wl' hF hT
              · have ihzn := ihz hc3
                have gl : gvN A c x y z % q < q := Nat.mod_lt _ (by omega)
                have gl2 : gvN B c2 x y z % q < q := Nat.mod_lt _ (by omega)
                have gb := gvN_lt (A := A) (c := c) (x := x) (y := y) (z := z) (fun k hk => ⟨ms_A3 hS _ (by omega) _ (by omega), ms_A3 hS _ (by omega) _ (by omega), ms_A3 hS _ (by omega) _ (by omega)⟩)
                have fa := uk_at (d := d) (q := q) (A := A) (B := B) (c := c) (c2 := c2) (x := x) (y := y) (z := z) (by omega) (by omega)
                rw [hf, decide_eq_true hc, decide_eq_true hc2, decide_eq_true hc3] at fa
                have fm := fle (x * 81 + y * 9 + z)
                have e4 : wi' 45 4 = nI c2 := by rw [hF.2.2 4 (by decide)]; exact k2
                have e49 : RW wi' 49 (27 * c2) B := fun j hj => by rw [hF.1 49 (by decide)]; exact k4 j hj
                conv => whnf
                repeat ((first | refine ⟨zH_of _, ?_⟩ | refine ⟨trivial, ?_⟩ | refine ⟨rfl, ?_⟩ | refine ⟨fun hc => absurd hc (by decide), fun _ => ?_⟩ | refine ⟨fun _ => ?_, fun hc => absurd (by decide) hc⟩ | refine ⟨fun _ => ?_, fun hc => absurd hc (by decide)⟩ | refine ⟨fun hc => absurd (by decide) hc, fun _ => ?_⟩); conv => whnf)
                try dsimp only
                refine ⟨d, q, c, A, x, y, z, hS', rfl, by omega, rfl, by omega, rfl, by omega, ?_⟩
                conv => whnf
                repeat ((first | refine ⟨zH_of _, ?_⟩ | refine ⟨trivial, ?_⟩ | refine ⟨rfl, ?_⟩ | refine ⟨fun hc => absurd hc (by decide), fun _ => ?_⟩ | refine ⟨fun _ => ?_, fun hc => absurd (by decide) hc⟩ | refine ⟨fun _ => ?_, fun hc => absurd hc (by decide)⟩ | refine ⟨fun hc => absurd (by decide) hc, fun _ => ?_⟩); conv => whnf)
                try dsimp only
                rw [ms_q hS']
                refine ⟨q_n0 q23, ?_⟩
                rw [z_remN (by omega) (by omega) (by omega)]
                conv => whnf
                repeat ((first | refine ⟨zH_of _, ?_⟩ | refine ⟨trivial, ?_⟩ | refine ⟨rfl, ?_⟩ | refine ⟨fun hc => absurd hc (by decide), fun _ => ?_⟩ | refine ⟨fun _ => ?_, fun hc => absurd (by decide) hc⟩ | refine ⟨fun _ => ?_, fun hc => absurd hc (by decide)⟩ | refine ⟨fun hc => absurd (by decide) hc, fun _ => ?_⟩); conv => whnf)
                try dsimp only
                refine ⟨q, c2, B, x, y, z, ms_q hS', q23, e4, k5, e49, k7, rfl, by omega, rfl, by omega, rfl, by omega, ?_⟩
                conv => whnf
                repeat ((first | refine ⟨zH_of _, ?_⟩ | refine ⟨trivial, ?_⟩ | refine ⟨rfl, ?_⟩ | refine ⟨fun hc => absurd hc (by decide), fun _ => ?_⟩ | refine ⟨fun _ => ?_, fun hc => absurd (by decide) hc⟩ | refine ⟨fun _ => ?_, fun hc => absurd hc (by decide)⟩ | refine ⟨fun hc => absurd (by decide) hc, fun _ => ?_⟩); conv => whnf)
                try dsimp only
                rw [nI_eq (by omega) (by omega)]
                have next : ∀ n wi2 wl2, TF wi0 wl wi2 wl2 → fb_ct f (x * 81 + y * 9 + (z + 1)) = n → TM wi2 wl2 (fv ukG f 3 (x * 81 + y * 9 + (z + 1))).1 (fv ukG f 3 (x * 81 + y * 9 + (z + 1))).2 → Jm 121 [some (.ref 45), some (.int (nI n)), some (.int (nI x)), some (.int (nI y)), some (.int (nI z))] [] (GC ++ (GM ++ r), wi2, wl2) 0 0 := fun n wi2 wl2 F2 en T2 => by
                  rw [← en]
                  refine hs 400 121 _ _ _ _ _ ?_
                  conv => whnf
                  repeat ((first | refine ⟨zH_of _, ?_⟩ | refine ⟨trivial, ?_⟩ | refine ⟨rfl, ?_⟩ | refine ⟨fun hc => absurd hc (by decide), fun _ => ?_⟩ | refine ⟨fun _ => ?_, fun hc => absurd (by decide) hc⟩ | refine ⟨fun _ => ?_, fun hc => absurd hc (by decide)⟩ | refine ⟨fun hc => absurd (by decide) hc, fun _ => ?_⟩); conv => whnf)
                  try dsimp only
                  rw [nI_add]
                  exact ihzn wi2 wl2 F2 T2
                refine ⟨fun hq => ?_, fun hq => ?_⟩
                · have ft : f (x * 81 + y * 9 + z) = true := by rw [fa]; simpa using hq
                  have ect : fb_ct f (x * 81 + y * 9 + (z + 1)) = fb_ct f (x * 81 + y * 9 + z) + 1 := ct_t ft
                  conv => whnf
                  repeat ((first | refine ⟨zH_of _, ?_⟩ | refine ⟨trivial, ?_⟩ | refine ⟨rfl, ?_⟩ | refine ⟨fun hc => absurd hc (by decide), fun _ => ?_⟩ | refine ⟨fun _ => ?_, fun hc => absurd (by decide) hc⟩ | refine ⟨fun _ => ?_, fun hc => absurd hc (by decide)⟩ | refine ⟨fun hc => absurd (by decide) hc, fun _ => ?_⟩); conv => whnf)
                  try dsimp only
                  rw [eq0N (by omega)]
                  refine ⟨fun hz0 => ?_, fun hz0 => ?_⟩
                  · have k : fi f (x * 81 + y * 9 + z) < x * 81 + y * 9 + z := fi_ct.mpr (by omega)
                    have ev : fv ukG f 3 (x * 81 + y * 9 + (z + 1)) = fv ukG f 3 (x * 81 + y * 9 + z) := by
                      unfold fv
                      rw [if_pos k, show x * 81 + y * 9 + (z + 1) = x * 81 + y * 9 + z + 1 by omega, fi, if_pos k, if_pos (by omega)]
                    conv => whnf
                    repeat ((first | refine ⟨zH_of _, ?_⟩ | refine ⟨trivial, ?_⟩ | refine ⟨rfl, ?_⟩ | refine ⟨fun hc => absurd hc (by decide), fun _ => ?_⟩ | refine ⟨fun _ => ?_, fun hc => absurd (by decide) hc⟩ | refine ⟨fun _ => ?_, fun hc => absurd hc (by decide)⟩ | refine ⟨fun hc => absurd (by decide) hc, fun _ => ?_⟩); conv => whnf)
                    try dsimp only
                    rw [nI_add]
                    exact next _ wi' wl' hF ect (by rw [ev]; exact hT)
                  · have kn : ∀ j, j < x * 81 + y * 9 + z → ¬ f j = true := fun j hj => by
                      rw [fb_ct_zero.mp hz0 j hj]
                      decide
                    have ek : fi f (x * 81 + y * 9 + (z + 1)) = x * 81 + y * 9 + z := fi_at (by omega) ft kn
                    have ev : fv ukG f 3 (x * 81 + y * 9 + (z + 1)) = (3, t3 (lN x) (lN y) (lN z)) := by
                      unfold fv ukG
                      rw [ek, if_pos (by omega), show (x * 81 + y * 9 + z) / 81 = x by omega, show (x * 81 + y * 9 + z) / 9 % 9 = y by omega, show (x * 81 + y * 9 + z) % 9 = z by omega]
                    have e0 : fv ukG f 3 (x * 81 + y * 9 + z) = (0, fun _ => 0) := by
                      unfold fv
                      rw [if_neg (fun k => by have := fi_ct.mp k; omega)]
                    rw [e0] at hT
                    conv => whnf
                    repeat ((first | refine ⟨zH_of _, ?_⟩ | refine ⟨trivial, ?_⟩ | refine ⟨rfl, ?_⟩ | refine ⟨fun hc => absurd hc (by decide), fun _ => ?_⟩ | refine ⟨fun _ => ?_, fun hc => absurd (by decide) hc⟩ | refine ⟨fun _ => ?_, fun hc => absurd hc (by decide)⟩ | refine ⟨fun hc => absurd (by decide) hc, fun _ => ?_⟩); conv => whnf)
                    try dsimp only
                    rw [nI_l (by omega)]
                    refine ⟨0, _, hT, by decide, fun wi2 wl2 a1 a2 a3 T2 => ?_⟩
                    have F2 := tf_trans hF (tf_tell a1 a2 a3)
                    conv => whnf
                    repeat ((first | refine ⟨zH_of _, ?_⟩ | refine ⟨trivial, ?_⟩ | refine ⟨rfl, ?_⟩ | refine ⟨fun hc => absurd hc (by decide), fun _ => ?_⟩ | refine ⟨fun _ => ?_, fun hc => absurd (by decide) hc⟩ | refine ⟨fun _ => ?_, fun hc => absurd hc (by decide)⟩ | refine ⟨fun hc => absurd (by decide) hc, fun _ => ?_⟩); conv => whnf)
                    try dsimp only
                    rw [nI_l (by omega)]
                    refine ⟨1, _, T2, by decide, fun wi3 wl3 a1 a2 a3 T3 => ?_⟩
                    have F3 := tf_trans F2 (tf_tell a1 a2 a3)
                    conv => whnf
                    repeat ((first | refine ⟨zH_of _, ?_⟩ | refine ⟨trivial, ?_⟩ | refine ⟨rfl, ?_⟩ | refine ⟨fun hc => absurd hc (by decide), fun _ => ?_⟩ | refine ⟨fun _ => ?_, fun hc => absurd (by decide) hc⟩ | refine ⟨fun _ => ?_, fun hc => absurd hc (by decide)⟩ | refine ⟨fun hc => absurd (by decide) hc, fun _ => ?_⟩); conv => whnf)
                    try dsimp only
                    rw [nI_l (by omega)]
                    refine ⟨2, _, T3, by decide, fun wi4 wl4 a1 a2 a3 T4 => ?_⟩
                    have F4 := tf_trans F3 (tf_tell a1 a2 a3)
                    conv => whnf
                    repeat ((first | refine ⟨zH_of _, ?_⟩ | refine ⟨trivial, ?_⟩ | refine ⟨rfl, ?_⟩ | refine ⟨fun hc => absurd hc (by decide), fun _ => ?_⟩ | refine ⟨fun _ => ?_, fun hc => absurd (by decide) hc⟩ | refine ⟨fun _ => ?_, fun hc => absurd hc (by decide)⟩ | refine ⟨fun hc => absurd (by decide) hc, fun _ => ?_⟩); conv => whnf)
                    try dsimp only
                    rw [nI_add]
                    exact next _ wi4 wl4 F4 ect (by rw [ev]; exact T4)
                · have fs : f (x * 81 + y * 9 + z) = false := by rw [fa]; simp [hq]
                  have z0 : ∀ k, x * 81 + y * 9 + z ≤ k → k < x * 81 + y * 9 + (z + 1) → f k = false := fun k h1 h2 => by
                    rw [show k = x * 81 + y * 9 + z by omega]
                    exact fs
                  conv => whnf
                  repeat ((first | refine ⟨zH_of _, ?_⟩ | refine ⟨trivial, ?_⟩ | refine ⟨rfl, ?_⟩ | refine ⟨fun hc => absurd hc (by decide), fun _ => ?_⟩ | refine ⟨fun _ => ?_, fun hc => absurd (by decide) hc⟩ | refine ⟨fun _ => ?_, fun hc => absurd hc (by decide)⟩ | refine ⟨fun hc => absurd (by decide) hc, fun _ => ?_⟩); conv => whnf)
                  try dsimp only
                  exact next _ wi' wl' hF (ct_more (by omega) z0) (by rw [fv_more (by omega) z0]; exact hT))
            conv => whnf
            repeat ((first | refine ⟨zH_of _, ?_⟩ | refine ⟨trivial, ?_⟩ | refine ⟨rfl, ?_⟩ | refine ⟨fun hc => absurd hc (by decide), fun _ => ?_⟩ | refine ⟨fun _ => ?_, fun hc => absurd (by decide) hc⟩ | refine ⟨fun _ => ?_, fun hc => absurd hc (by decide)⟩ | refine ⟨fun hc => absurd (by decide) hc, fun _ => ?_⟩); conv => whnf)
            try dsimp only
            exact loopz 0 (Nat.zero_le _) wi' wl' hF hT)
        conv => whnf
        repeat ((first | refine ⟨zH_of _, ?_⟩ | refine ⟨trivial, ?_⟩ | refine ⟨rfl, ?_⟩ | refine ⟨fun hc => absurd hc (by decide), fun _ => ?_⟩ | refine ⟨fun _ => ?_, fun hc => absurd (by decide) hc⟩ | refine ⟨fun _ => ?_, fun hc => absurd hc (by decide)⟩ | refine ⟨fun hc => absurd (by decide) hc, fun _ => ?_⟩); conv => whnf)
        try dsimp only
        exact loopy 0 (Nat.zero_le _) wi' wl' hF hT)
    conv => whnf
    repeat ((first | refine ⟨zH_of _, ?_⟩ | refine ⟨trivial, ?_⟩ | refine ⟨rfl, ?_⟩ | refine ⟨fun hc => absurd hc (by decide), fun _ => ?_⟩ | refine ⟨fun _ => ?_, fun hc => absurd (by decide) hc⟩ | refine ⟨fun _ => ?_, fun hc => absurd hc (by decide)⟩ | refine ⟨fun hc => absurd (by decide) hc, fun _ => ?_⟩); conv => whnf)
    try dsimp only
    refine loop 0 (Nat.zero_le _) _ wl (tf_fld (by decide)) ?_
    exact tm_0

