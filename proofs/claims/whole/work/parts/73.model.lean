/-! the reference: a product added as it is told -/
def sp_X12_adds : zSp := fun av w K => match av with
  | [.ref o] => o = 45 ∧ zH w.1 ∧ ∃ T, MT w.2.1 w.2.2 T ∧ ZT T ∧ ∀ wi' wl', FrM w.2.1 w.2.2 wi' wl' → MT wi' wl' (st_adds T).1 → K (some (.int (st_adds T).2)) (w.1, wi', wl')
  | _ => False
def rm_X12_adds : Room := { frames := 6, cells := 0, slots := 0, locals := 133 }
def M_X12_adds : zM := (k_X12_adds, f_X12, [(151, 4, 10, 1, 0, 0, sp_X12_begin), (154, 4, 10, 1, 0, 0, sp_X12_readProduct), (157, 4, 10, 1, 0, 0, sp_X12_ends), (160, 4, 10, 1, 0, 0, sp_X12_told)], ([], [], []), [], [(30, [true, false]), (57, [true, true])], 1, false, (false, 0, fun _ => 0), (0, 0))
theorem ca_X12_adds_0 (l : Launch) : z_cok l RX12 (headSpec (.code yX12_adds cX12_adds 2 (some .int) :: zTT) rm_X12_adds).room (151, 4, 10, 1, 0, 0, sp_X12_begin) := z_ca4 (c_X12_begin l) mb_X12_begin ⟨_, rfl, rfl⟩ wt_1266 wt_1268 wt_29 (by decide)
theorem ca_X12_adds_1 (l : Launch) : z_cok l RX12 (headSpec (.code yX12_adds cX12_adds 2 (some .int) :: zTT) rm_X12_adds).room (154, 4, 10, 1, 0, 0, sp_X12_readProduct) := z_ca4 (c_X12_readProduct l) mb_X12_readProduct ⟨_, rfl, rfl⟩ wt_1270 wt_1272 wt_30 (by decide)
theorem ca_X12_adds_2 (l : Launch) : z_cok l RX12 (headSpec (.code yX12_adds cX12_adds 2 (some .int) :: zTT) rm_X12_adds).room (157, 4, 10, 1, 0, 0, sp_X12_ends) := z_ca4 (c_X12_ends l) mb_X12_ends ⟨_, rfl, rfl⟩ wt_1310 wt_1312 wt_40 (by decide)
theorem ca_X12_adds_3 (l : Launch) : z_cok l RX12 (headSpec (.code yX12_adds cX12_adds 2 (some .int) :: zTT) rm_X12_adds).room (160, 4, 10, 1, 0, 0, sp_X12_told) := z_ca4 (c_X12_told l) mb_X12_told ⟨_, rfl, rfl⟩ wt_1314 wt_1316 wt_41 (by decide)
theorem O_X12_adds (l : Launch) : z_OK l RX12 cX12_adds (headSpec (.code yX12_adds cX12_adds 2 (some .int) :: zTT) rm_X12_adds).room M_X12_adds := ⟨ok_X12_adds, fo_X12, List.forall_mem_cons.mpr ⟨ca_X12_adds_0 l, List.forall_mem_cons.mpr ⟨ca_X12_adds_1 l, List.forall_mem_cons.mpr ⟨ca_X12_adds_2 l, List.forall_mem_cons.mpr ⟨ca_X12_adds_3 l, fun _ h => absurd h List.not_mem_nil⟩⟩⟩⟩, fun _ h => absurd h List.not_mem_nil, fun _ h => absurd h List.not_mem_nil, fun _ h => absurd h List.not_mem_nil, fun _ h => absurd h List.not_mem_nil, rfl, rfl⟩
theorem c_X12_adds (l : Launch) : z_CS l yX12_adds cX12_adds 2 (some .int) rm_X12_adds sp_X12_adds := by
  refine z_meth (by decide) (Or.inr (Or.inl ⟨rfl, rfl⟩)) (fun h => by cases h) rfl (O_X12_adds l) ?_
  intro av w K h
  match av, h with
  | [.ref o], h =>
    obtain ⟨rfl, ⟨r, hG⟩, ⟨d, q, c, A, kp, ⟨L, x⟩, tl⟩, hC, hZ, h⟩ := h
    obtain ⟨G, wi, wl⟩ := w
    subst hG
    try dsimp only at h hC hZ
    have hC := mt_fld (i := 11) (v := nI 0) hC (by decide)
    have hF0 : FrM wi wl (z_up wi 45 11 (nI 0)) wl := fm_fld
    refine ⟨Nat.le_of_ble_eq_true rfl, fun Jm hs => ?_⟩
    unfold st_adds txt0 at h
    dsimp only at h
    have q23 := ms_q23 (mt_S hC)
    have plt : ∀ t p, p < 9 → (prP x L d q 0).2.2 t p < q := fun t p hp => prL_lt (by omega) 3 t p hp
    generalize hR : prP x L d q 0 = R at h plt
    have hX := mt_X hC
    dsimp only at hX
    have hd3 := ms_hd (mt_S hC)
    have h40 := ms_40 (mt_S hC)
    refine hs 400 0 _ _ _ _ _ ?_
    conv => whnf
    repeat ((first | refine ⟨zH_of _, ?_⟩ | refine ⟨trivial, ?_⟩ | refine ⟨rfl, ?_⟩ | refine ⟨fun hc => absurd hc (by decide), fun _ => ?_⟩ | refine ⟨fun _ => ?_, fun hc => absurd (by decide) hc⟩ | refine ⟨fun _ => ?_, fun hc => absurd hc (by decide)⟩ | refine ⟨fun hc => absurd (by decide) hc, fun _ => ?_⟩); conv => whnf)
    try dsimp only
    generalize z_up wi 45 11 (nI 0) = wi0 at *
    obtain ⟨wi1, hw1⟩ : ∃ wi1, wi1 = z_up (z_up (z_up (z_up (z_up wi0 45 12 (wi0 45 8)) 45 8 (nI 0)) 45 13 (nI 0)) 45 14 (mI 1)) 45 16 (nI 0) := ⟨_, rfl⟩
    have a8 : wi1 45 8 = nI 0 := by rw [hw1]; rfl
    have a12 : wi1 45 12 = wi0 45 8 := by rw [hw1]; rfl
    have a13 : wi1 45 13 = nI 0 := by rw [hw1]; rfl
    have a14 : wi1 45 14 = mI 1 := by rw [hw1]; rfl
    have a16 : wi1 45 16 = nI 0 := by rw [hw1]; rfl
    have hS1 : FSc wi0 wi1 := ⟨fun y g1 g2 => by rw [hw1, z_up_ne g1, z_up_ne g1, z_up_ne g1, z_up_ne g1, z_up_ne g1], fun i g1 g2 g3 g4 g5 => by rw [hw1, z_up_nei g5, z_up_nei g4, z_up_nei g3, z_up_nei g1, z_up_nei g2]⟩
    have fsc : ∀ {m : Nat} {wi' wi2 : Nat → Nat → Int32}, FSc wi0 wi' → FPm m wi' wi2 → FSc wi0 wi2 := fun h1 h2 => ⟨fun y g1 g2 => (h2.1 y g1 g2).trans (h1.1 y g1 g2), fun i g1 g2 g3 g4 g5 => (h2.2.1 i g3 g4 g5).trans (h1.2 i g1 g2 g3 g4 g5)⟩
    have txt : ∀ wi' : Nat → Nat → Int32, FSc wi0 wi' → wi' 45 8 = nI 0 → MT wi' wl (d, q, c, A, kp, (0, x), tl) := fun wi' hF h8 => ⟨ms_fr (mt_S hC) (hF.1 46 (by decide) (by decide)) (hF.2 1 (by decide) (by decide) (by decide) (by decide) (by decide)) (hF.2 2 (by decide) (by decide) (by decide) (by decide) (by decide)) (hF.1 47 (by decide) (by decide)), km_fr (mt_K hC) (hF.2 4 (by decide) (by decide) (by decide) (by decide) (by decide)) (hF.1 48 (by decide) (by decide)) (hF.1 49 (by decide) (by decide)), ⟨h8, Nat.zero_le _, fun k hk => absurd hk (Nat.not_lt_zero k)⟩, tm_fr (mt_T hC) (hF.2 10 (by decide) (by decide) (by decide) (by decide) (by decide)) rfl⟩
    have finF : ∀ (wi' : Nat → Nat → Int32) (k' : Nat), FSc wi0 wi' → wi' 45 8 = nI 0 → wi' 45 14 = nI k' → k' ≤ 400 → ffI R.1 R.2.1 L = nI k' → Jm 30 [some (.ref 45), none] [] (GC ++ (GM ++ r), wi', wl) 0 0 := fun wi' k' hF h8 h14 hk he => by
      rw [he, if_neg (nI_nlt (Nat.zero_le _) (by omega))] at h
      have h := h wi' wl (FrM_trans hF0 (fun y hy => ⟨hF.1 y (by omega) (by omega), rfl⟩)) (txt wi' hF h8)
      rw [← h14] at h
      refine hs 400 30 _ _ _ _ _ ?_
      conv => whnf
      repeat ((first | refine ⟨zH_of _, ?_⟩ | refine ⟨trivial, ?_⟩ | refine ⟨rfl, ?_⟩ | refine ⟨fun hc => absurd hc (by decide), fun _ => ?_⟩ | refine ⟨fun _ => ?_, fun hc => absurd (by decide) hc⟩ | refine ⟨fun _ => ?_, fun hc => absurd hc (by decide)⟩ | refine ⟨fun hc => absurd (by decide) hc, fun _ => ?_⟩); conv => whnf)
      try dsimp only
      refine ⟨fun z => absurd (h14.symm.trans z) (nI_m1 (by omega)), fun _ => ?_⟩
      conv => whnf
      repeat ((first | refine ⟨zH_of _, ?_⟩ | refine ⟨trivial, ?_⟩ | refine ⟨rfl, ?_⟩ | refine ⟨fun hc => absurd hc (by decide), fun _ => ?_⟩ | refine ⟨fun _ => ?_, fun hc => absurd (by decide) hc⟩ | refine ⟨fun _ => ?_, fun hc => absurd hc (by decide)⟩ | refine ⟨fun hc => absurd (by decide) hc, fun _ => ?_⟩); conv => whnf)
      try dsimp only
      exact h
    have finO : ∀ wi' : Nat → Nat → Int32, FSc wi0 wi' → wi' 45 8 = nI 0 → wi' 45 14 = mI 1 → (∀ s, s < 3 → RA wi' 52 (9 * s) (R.2.2 s)) → ffI R.1 R.2.1 L = mI 1 → Jm 30 [some (.ref 45), none] [] (GC ++ (GM ++ r), wi', wl) 0 0 := fun wi' hF h8 h14 hRW he => by
      rw [he, if_pos (by decide)] at h
      have hM := txt wi' hF h8
      have hS := mt_S hM
      refine hs 400 30 _ _ _ _ _ ?_
      conv => whnf
      repeat ((first | refine ⟨zH_of _, ?_⟩ | refine ⟨trivial, ?_⟩ | refine ⟨rfl, ?_⟩ | refine ⟨fun hc => absurd hc (by decide), fun _ => ?_⟩ | refine ⟨fun _ => ?_, fun hc => absurd (by decide) hc⟩ | refine ⟨fun _ => ?_, fun hc => absurd hc (by decide)⟩ | refine ⟨fun hc => absurd (by decide) hc, fun _ => ?_⟩); conv => whnf)
      try dsimp only
      refine ⟨fun _ => ?_, fun z => absurd h14 z⟩
      conv => whnf
      repeat ((first | refine ⟨zH_of _, ?_⟩ | refine ⟨trivial, ?_⟩ | refine ⟨rfl, ?_⟩ | refine ⟨fun hc => absurd hc (by decide), fun _ => ?_⟩ | refine ⟨fun _ => ?_, fun hc => absurd (by decide) hc⟩ | refine ⟨fun _ => ?_, fun hc => absurd hc (by decide)⟩ | refine ⟨fun hc => absurd (by decide) hc, fun _ => ?_⟩); conv => whnf)
      try dsimp only
      rw [ms_c hS, nI_eq (by omega) (by omega)]
      by_cases hc4 : c = 40
      · rw [if_pos hc4] at h
        have h := h wi' wl (FrM_trans hF0 (fun y hy => ⟨hF.1 y (by omega) (by omega), rfl⟩)) hM
        refine ⟨fun z => absurd hc4 z, fun _ => ?_⟩
        exact ⟨trivial, h⟩
      · rw [if_neg hc4] at h
        refine ⟨fun _ => ?_, fun z => absurd z hc4⟩
        have copy := up_ind (P := fun i => ∀ wi2 : Nat → Nat → Int32, (∀ y, y ≠ 47 → wi2 y = wi' y) → (∀ j, j < 27 * c → wi2 47 j = wi' 47 j) → (∀ j, j < i → wi2 47 (27 * c + j) = nI (fl R.2.2 j)) → Jm 57 [some (.ref 45), some (.int (nI i))] [] (GC ++ (GM ++ r), wi2, wl) 0 0) 27 (fun i hi ih => by
          intro wi2 g1 g3 g4
          refine hs 400 57 _ _ _ _ _ ?_
          conv => whnf
          repeat ((first | refine ⟨zH_of _, ?_⟩ | refine ⟨trivial, ?_⟩ | refine ⟨rfl, ?_⟩ | refine ⟨fun hc => absurd hc (by decide), fun _ => ?_⟩ | refine ⟨fun _ => ?_, fun hc => absurd (by decide) hc⟩ | refine ⟨fun _ => ?_, fun hc => absurd hc (by decide)⟩ | refine ⟨fun hc => absurd (by decide) hc, fun _ => ?_⟩); conv => whnf)
          try dsimp only
          rw [ltN (by omega) (by omega)]
          refine ⟨fun hc => ?_, fun hc => ?_⟩
          · obtain rfl : i = 27 := by omega
            have e2 : wi2 45 2 = nI c := by rw [g1 45 (by decide)]; exact ms_c hS
            have hS2 : MS (z_up wi2 45 2 (nI (c + 1))) d q (c + 1) (adA A c R.2.2 0) := by
              refine ⟨fun t ht => by rw [z_up_ne (by decide), g1 46 (by decide)]; exact ms_d hS t ht, ⟨by rw [z_up_nei (by decide), g1 45 (by decide)]; exact ms_q hS, z_up_eq⟩, fun j hj => ?_, q23, hd3, by omega, fun k hk p hp => ?_⟩
              · rw [z_up_ne (by decide)]
                unfold fl adA
                by_cases e : j < 27 * c
                · rw [if_pos (by omega), g3 j e]
                  exact ms_f hS j e
                · have g4 := g4 (j - 27 * c) (by omega)
                  rw [show 27 * c + (j - 27 * c) = j by omega] at g4
                  rw [if_neg (by omega), g4]
                  unfold fl
                  rw [show (j - 27 * c) / 9 = 3 * 0 + (j / 9 - 3 * c) by omega, show (j - 27 * c) % 9 = j % 9 by omega]
              · unfold adA
                split
                · exact ms_A hS k (by omega) p hp
                · exact plt _ p hp
            have hM2 : MT (z_up wi2 45 2 (nI (c + 1))) wl (d, q, c + 1, adA A c R.2.2 0, kp, (0, x), tl) := mt_now hM hS2 (fun i hi => by rw [z_up_nei (by omega), g1 45 (by decide)]) (fun y hy => by rw [z_up_ne (by omega), g1 y (by omega)]) rfl
            have h := h _ wl (FrM_trans hF0 (fun y hy => ⟨by rw [z_up_ne (by omega), g1 y (by omega), hF.1 y (by omega) (by omega)], rfl⟩)) hM2
            conv => whnf
            repeat ((first | refine ⟨zH_of _, ?_⟩ | refine ⟨trivial, ?_⟩ | refine ⟨rfl, ?_⟩ | refine ⟨fun hc => absurd hc (by decide), fun _ => ?_⟩ | refine ⟨fun _ => ?_, fun hc => absurd (by decide) hc⟩ | refine ⟨fun _ => ?_, fun hc => absurd hc (by decide)⟩ | refine ⟨fun hc => absurd (by decide) hc, fun _ => ?_⟩); conv => whnf)
            try dsimp only
            rw [e2, nI_add, z_up_eq]
            exact h
          · have ih := ih hc
            have r52 : wi2 52 i = nI (fl R.2.2 i) := by
              rw [g1 52 (by decide)]
              have k := hRW (i / 9) (by omega) (i % 9) (by omega)
              rw [show 9 * (i / 9) + i % 9 = i by omega] at k
              exact k
            have e2 : wi2 45 2 = nI c := by rw [g1 45 (by decide)]; exact ms_c hS
            conv => whnf
            repeat ((first | refine ⟨zH_of _, ?_⟩ | refine ⟨trivial, ?_⟩ | refine ⟨rfl, ?_⟩ | refine ⟨fun hc => absurd hc (by decide), fun _ => ?_⟩ | refine ⟨fun _ => ?_, fun hc => absurd (by decide) hc⟩ | refine ⟨fun _ => ?_, fun hc => absurd hc (by decide)⟩ | refine ⟨fun hc => absurd (by decide) hc, fun _ => ?_⟩); conv => whnf)
            try dsimp only
            rw [e2, pk_mul, nI_add]
            refine ⟨vp_in_nI (show i < 1080 by omega) (by decide), ?_⟩
            conv => whnf
            repeat ((first | refine ⟨zH_of _, ?_⟩ | refine ⟨trivial, ?_⟩ | refine ⟨rfl, ?_⟩ | refine ⟨fun hc => absurd hc (by decide), fun _ => ?_⟩ | refine ⟨fun _ => ?_, fun hc => absurd (by decide) hc⟩ | refine ⟨fun _ => ?_, fun hc => absurd hc (by decide)⟩ | refine ⟨fun hc => absurd (by decide) hc, fun _ => ?_⟩); conv => whnf)
            try dsimp only
            refine ⟨vp_in_nI (show 27 * c + i < 1080 by omega) (by decide), ?_⟩
            conv => whnf
            repeat ((first | refine ⟨zH_of _, ?_⟩ | refine ⟨trivial, ?_⟩ | refine ⟨rfl, ?_⟩ | refine ⟨fun hc => absurd hc (by decide), fun _ => ?_⟩ | refine ⟨fun _ => ?_, fun hc => absurd (by decide) hc⟩ | refine ⟨fun _ => ?_, fun hc => absurd hc (by decide)⟩ | refine ⟨fun hc => absurd (by decide) hc, fun _ => ?_⟩); conv => whnf)
            try dsimp only
            rw [nI_clamp (n := i) (by omega), nI_clamp (n := 27 * c + i) (by omega), r52, nI_add]
            refine ih _ (fun y k2 => by rw [z_up_ne k2, g1 y k2]) (fun j hj => by rw [z_up_nei (by omega)]; exact g3 j hj) (fun j hj => ?_)
            by_cases e : j = i
            · rw [e, z_up_eq]
            · rw [z_up_nei (by omega)]
              exact g4 j (by omega))
        conv => whnf
        repeat ((first | refine ⟨zH_of _, ?_⟩ | refine ⟨trivial, ?_⟩ | refine ⟨rfl, ?_⟩ | refine ⟨fun hc => absurd hc (by decide), fun _ => ?_⟩ | refine ⟨fun _ => ?_, fun hc => absurd (by decide) hc⟩ | refine ⟨fun _ => ?_, fun hc => absurd hc (by decide)⟩ | refine ⟨fun hc => absurd (by decide) hc, fun _ => ?_⟩); conv => whnf)
        try dsimp only
        exact copy 0 (Nat.zero_le _) wi' (fun _ _ => rfl) (fun _ _ => rfl) (fun j hj => absurd hj (Nat.not_lt_zero j))
    rw [← hw1]
    refine ⟨L, x, 0, d, q, 0, xm_xr hX a12 a13 (hS1.1 50 (by decide) (by decide)), a14, fun t ht => by rw [hS1.1 46 (by decide) (by decide)]; exact ms_d (mt_S hC) t ht, hd3, by rw [hS1.2 1 (by decide) (by decide) (by decide) (by decide) (by decide)]; exact ms_q (mt_S hC), q23, a16, by decide, fun wi2 hF2 c16 hP2 => ?_⟩
    rw [hR] at hP2
    have hF := fsc hS1 hF2
    have h8 : wi2 45 8 = nI 0 := by rw [hF2.2.1 8 (by decide) (by decide) (by decide)]; exact a8
    conv => whnf
    repeat ((first | refine ⟨zH_of _, ?_⟩ | refine ⟨trivial, ?_⟩ | refine ⟨rfl, ?_⟩ | refine ⟨fun hc => absurd hc (by decide), fun _ => ?_⟩ | refine ⟨fun _ => ?_, fun hc => absurd (by decide) hc⟩ | refine ⟨fun _ => ?_, fun hc => absurd hc (by decide)⟩ | refine ⟨fun hc => absurd (by decide) hc, fun _ => ?_⟩); conv => whnf)
    try dsimp only
    rcases hP2 with ⟨p1, p2, p3, p4⟩ | ⟨p1, p2, p3, _⟩
    · refine ⟨fun z => absurd p3 z, fun _ => ?_⟩
      have kL := p2.2.2.2.1
      have l4 := p2.2.2.1
      have ef := ff_rest R.2.1 L
      rw [← p1] at ef
      conv => whnf
      repeat ((first | refine ⟨zH_of _, ?_⟩ | refine ⟨trivial, ?_⟩ | refine ⟨rfl, ?_⟩ | refine ⟨fun hc => absurd hc (by decide), fun _ => ?_⟩ | refine ⟨fun _ => ?_, fun hc => absurd (by decide) hc⟩ | refine ⟨fun _ => ?_, fun hc => absurd hc (by decide)⟩ | refine ⟨fun hc => absurd (by decide) hc, fun _ => ?_⟩); conv => whnf)
      try dsimp only
      refine ⟨L, x, R.2.1, p2, p3, fun hk => ?_, fun hk => ?_⟩
      · rw [if_pos hk] at ef
        conv => whnf
        repeat ((first | refine ⟨zH_of _, ?_⟩ | refine ⟨trivial, ?_⟩ | refine ⟨rfl, ?_⟩ | refine ⟨fun hc => absurd hc (by decide), fun _ => ?_⟩ | refine ⟨fun _ => ?_, fun hc => absurd (by decide) hc⟩ | refine ⟨fun _ => ?_, fun hc => absurd hc (by decide)⟩ | refine ⟨fun hc => absurd (by decide) hc, fun _ => ?_⟩); conv => whnf)
        try dsimp only
        exact finF _ R.2.1 ⟨fun y g1 g2 => by rw [z_up_ne g1, hF.1 y g1 g2], fun i g1 g2 g3 g4 g5 => by rw [z_up_nei g4, hF.2 i g1 g2 g3 g4 g5]⟩ (by rw [z_up_nei (by decide)]; exact h8) z_up_eq (by omega) ef
      · rw [if_neg hk] at ef
        conv => whnf
        repeat ((first | refine ⟨zH_of _, ?_⟩ | refine ⟨trivial, ?_⟩ | refine ⟨rfl, ?_⟩ | refine ⟨fun hc => absurd hc (by decide), fun _ => ?_⟩ | refine ⟨fun _ => ?_, fun hc => absurd (by decide) hc⟩ | refine ⟨fun _ => ?_, fun hc => absurd hc (by decide)⟩ | refine ⟨fun hc => absurd (by decide) hc, fun _ => ?_⟩); conv => whnf)
        try dsimp only
        exact finO wi2 hF h8 p3 (fun s hs => by have := p4 s hs; rw [Nat.mul_zero, Nat.zero_add] at this; exact this) ef
    · refine ⟨fun _ => ?_, fun z => absurd (p2.symm.trans z) (nI_m1 (by omega))⟩
      refine finF wi2 R.2.1 hF h8 p2 p3 ?_
      unfold ffI
      rw [if_neg (fun z => p1 z.1)]

