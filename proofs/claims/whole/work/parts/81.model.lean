/-! the reference: walks -/
theorem fj_trans {wi wi' wi2 : Nat → Nat → Int32} (h : FJ wi wi') (h2 : FJ wi' wi2) : FJ wi wi2 := ⟨fun y g1 g2 => (h2.1 y g1 g2).trans (h.1 y g1 g2), fun i g1 g2 g3 => (h2.2 i g1 g2 g3).trans (h.2 i g1 g2 g3)⟩
def sp_X12_walks : zSp := fun av w K => match av with
  | [.ref o, .int s, .int n] => o = 45 ∧ zH w.1 ∧ ∃ T, MT w.2.1 w.2.2 T ∧ ZT T ∧ ∀ wi' wl', FrM w.2.1 w.2.2 wi' wl' → MT wi' wl' (st_walks T s n).1 → K (some (.int (st_walks T s n).2)) (w.1, wi', wl')
  | _ => False
def rm_X12_walks : Room := { frames := 5, cells := 0, slots := 0, locals := 124 }
def M_X12_walks : zM := (k_X12_walks, f_X12, [(80, 0, 0, 3, 0, 0, sp_X12_in), (220, 4, 10, 2, 0, 0, sp_X12_flipsAt), (291, 4, 10, 2, 0, 0, sp_X12_goNumbered), (248, 4, 10, 1, 0, 0, sp_X12_joinsAll), (192, 4, 10, 2, 0, 0, sp_X12_tell)], ([], [(283, lN 100), (285, lN 2147483646), (287, lN 16807), (289, lN 2147483647)], []), [], [(40, [true, true, true, true, true, true, true, false])], 1, false, (false, 0, fun _ => 0), (0, 0))
theorem ca_X12_walks_0 (l : Launch) : z_cok l RX12 (headSpec (.code yX12_walks cX12_walks 8 (some .int) :: zTT) rm_X12_walks).room (80, 0, 0, 3, 0, 0, sp_X12_in) := z_ca0 (c_X12_in l) mb_X12_in wt_1253 wt_1254 (by decide)
theorem ca_X12_walks_1 (l : Launch) : z_cok l RX12 (headSpec (.code yX12_walks cX12_walks 8 (some .int) :: zTT) rm_X12_walks).room (220, 4, 10, 2, 0, 0, sp_X12_flipsAt) := z_ca4 (c_X12_flipsAt l) mb_X12_flipsAt ⟨_, rfl, rfl⟩ wt_1419 wt_1421 wt_55 (by decide)
theorem ca_X12_walks_2 (l : Launch) : z_cok l RX12 (headSpec (.code yX12_walks cX12_walks 8 (some .int) :: zTT) rm_X12_walks).room (291, 4, 10, 2, 0, 0, sp_X12_goNumbered) := z_ca4 (c_X12_goNumbered l) mb_X12_goNumbered ⟨_, rfl, rfl⟩ wt_1526 wt_1528 wt_71 (by decide)
theorem ca_X12_walks_3 (l : Launch) : z_cok l RX12 (headSpec (.code yX12_walks cX12_walks 8 (some .int) :: zTT) rm_X12_walks).room (248, 4, 10, 1, 0, 0, sp_X12_joinsAll) := z_ca4 (c_X12_joinsAll l) mb_X12_joinsAll ⟨_, rfl, rfl⟩ wt_1447 wt_1449 wt_60 (by decide)
theorem ca_X12_walks_4 (l : Launch) : z_cok l RX12 (headSpec (.code yX12_walks cX12_walks 8 (some .int) :: zTT) rm_X12_walks).room (192, 4, 10, 2, 0, 0, sp_X12_tell) := z_ca4 (c_X12_tell l) mb_X12_tell ⟨_, rfl, rfl⟩ wt_1369 wt_1371 wt_49 (by decide)
theorem O_X12_walks (l : Launch) : z_OK l RX12 cX12_walks (headSpec (.code yX12_walks cX12_walks 8 (some .int) :: zTT) rm_X12_walks).room M_X12_walks := ⟨ok_X12_walks, fo_X12, List.forall_mem_cons.mpr ⟨ca_X12_walks_0 l, List.forall_mem_cons.mpr ⟨ca_X12_walks_1 l, List.forall_mem_cons.mpr ⟨ca_X12_walks_2 l, List.forall_mem_cons.mpr ⟨ca_X12_walks_3 l, List.forall_mem_cons.mpr ⟨ca_X12_walks_4 l, fun _ h => absurd h List.not_mem_nil⟩⟩⟩⟩⟩, fun _ h => absurd h List.not_mem_nil, List.forall_mem_cons.mpr ⟨wt_1522, List.forall_mem_cons.mpr ⟨wt_1523, List.forall_mem_cons.mpr ⟨wt_1524, List.forall_mem_cons.mpr ⟨wt_1525, fun _ h => absurd h List.not_mem_nil⟩⟩⟩⟩, fun _ h => absurd h List.not_mem_nil, fun _ h => absurd h List.not_mem_nil, rfl, rfl⟩
theorem c_X12_walks (l : Launch) : z_CS l yX12_walks cX12_walks 8 (some .int) rm_X12_walks sp_X12_walks := by
  refine z_meth (by decide) (Or.inr (Or.inl ⟨rfl, rfl⟩)) (fun h => by cases h) rfl (O_X12_walks l) ?_
  intro av w K h
  match av, h with
  | [.ref o, .int s, .int n], h =>
    obtain ⟨rfl, ⟨r, hG⟩, ⟨d, q, c, A, kp, tx, tl⟩, hC, hZ, h⟩ := h
    obtain ⟨G, wi, wl⟩ := w
    subst hG
    try dsimp only at h hC hZ
    have hC := mt_fld (i := 11) (v := nI 0) hC (by decide)
    have hF0 : FrM wi wl (z_up wi 45 11 (nI 0)) wl := fm_fld
    refine ⟨Nat.le_of_ble_eq_true rfl, fun Jm hs => ?_⟩
    unfold st_walks wkT at h
    dsimp only at h
    refine hs 400 0 _ _ _ _ _ ?_
    conv => whnf
    repeat ((first | refine ⟨zH_of _, ?_⟩ | refine ⟨trivial, ?_⟩ | refine ⟨rfl, ?_⟩ | refine ⟨fun hc => absurd hc (by decide), fun _ => ?_⟩ | refine ⟨fun _ => ?_, fun hc => absurd (by decide) hc⟩ | refine ⟨fun _ => ?_, fun hc => absurd hc (by decide)⟩ | refine ⟨fun hc => absurd (by decide) hc, fun _ => ?_⟩); conv => whnf)
    try dsimp only
    generalize z_up wi 45 11 (nI 0) = wi0 at *
    have hS := mt_S hC
    have no : ¬ (rgB 1 100 n && rgB 1 2147483646 s) = true → K (some (.int (mI 1))) (GC ++ (GM ++ r), wi0, wl) := fun hn => by
      rw [if_neg hn] at h
      exact h wi0 wl hF0 hC
    have e1 : inF n.toInt64 (lN 1) (lN 100) = bI (rgB 1 100 n = true) := in_rg (by decide) (by decide) n
    have e2 : inF s.toInt64 (lN 1) (lN 2147483646) = bI (rgB 1 2147483646 s = true) := in_rg (by decide) (by decide) s
    rw [e1, bI_0]
    refine ⟨fun h1 => ⟨trivial, no (by simp [h1])⟩, fun h1 => ?_⟩
    conv => whnf
    repeat ((first | refine ⟨zH_of _, ?_⟩ | refine ⟨trivial, ?_⟩ | refine ⟨rfl, ?_⟩ | refine ⟨fun hc => absurd hc (by decide), fun _ => ?_⟩ | refine ⟨fun _ => ?_, fun hc => absurd (by decide) hc⟩ | refine ⟨fun _ => ?_, fun hc => absurd hc (by decide)⟩ | refine ⟨fun hc => absurd (by decide) hc, fun _ => ?_⟩); conv => whnf)
    try dsimp only
    rw [e2, bI_0, Classical.not_not]
    refine ⟨fun h2 => ?_, fun h2 => ⟨trivial, no (by simp [h2])⟩⟩
    have h1 := Classical.not_not.mp h1
    rw [if_pos (by simp [h1, h2])] at h
    obtain ⟨n', n1, n2, rfl⟩ := rgB_N h1 (by decide) (by decide)
    obtain ⟨s', s1, s2, rfl⟩ := rgB_N h2 (by decide) (by decide)
    rw [nc_N (by omega), nc_N (by omega)] at h
    generalize hW : wkS q (c, A, s', 0) = W at h
    have loop := up_ind (P := fun k => ∀ wi' : Nat → Nat → Int32, FJ wi0 wi' → MS wi' d q (W k).1 (W k).2.1 → (W k).2.2.1 < 2147483647 → (W k).2.2.2 ≤ k → Jm 40 [some (.ref 45), some (.int (nI s')), some (.int (nI n')), some (.long (lN (W k).2.2.1)), none, some (.int (nI (W k).2.2.2)), some (.int (nI k)), none] [] (GC ++ (GM ++ r), wi', wl) 0 0) n' (fun k hk ih => by
      intro wi' hF hS' hX' hd'
      refine hs 400 40 _ _ _ _ _ ?_
      conv => whnf
      repeat ((first | refine ⟨zH_of _, ?_⟩ | refine ⟨trivial, ?_⟩ | refine ⟨rfl, ?_⟩ | refine ⟨fun hc => absurd hc (by decide), fun _ => ?_⟩ | refine ⟨fun _ => ?_, fun hc => absurd (by decide) hc⟩ | refine ⟨fun _ => ?_, fun hc => absurd hc (by decide)⟩ | refine ⟨fun hc => absurd (by decide) hc, fun _ => ?_⟩); conv => whnf)
      try dsimp only
      rw [ltN (by omega) (by omega)]
      refine ⟨fun hc => ?_, fun hc => ?_⟩
      · obtain hkn : k = n' := by omega
        rw [hkn] at hS' hX' hd' ⊢
        have hC1 : MT wi' wl (d, q, (W n').1, (W n').2.1, kp, tx, tl) := mt_now hC hS' (fun i hi => hF.2 i (by omega) (by omega) (by omega)) (fun y hy => hF.1 y (by omega) (by omega)) rfl
        have T1 : TF wi' wl (z_up wi' 45 10 (nI 0)) wl := tf_fld (by decide)
        have M1 : TM (z_up wi' 45 10 (nI 0)) wl 0 (fun _ => 0) := tm_0
        conv => whnf
        repeat ((first | refine ⟨zH_of _, ?_⟩ | refine ⟨trivial, ?_⟩ | refine ⟨rfl, ?_⟩ | refine ⟨fun hc => absurd hc (by decide), fun _ => ?_⟩ | refine ⟨fun _ => ?_, fun hc => absurd (by decide) hc⟩ | refine ⟨fun _ => ?_, fun hc => absurd hc (by decide)⟩ | refine ⟨fun hc => absurd (by decide) hc, fun _ => ?_⟩); conv => whnf)
        try dsimp only
        generalize z_up wi' 45 10 (nI 0) = wi1 at *
        rw [nI_l (by omega)]
        refine ⟨0, _, M1, by decide, fun wi2 wl2 a1 a2 a3 M2 => ?_⟩
        have T2 := tf_trans T1 (tf_tell a1 a2 a3)
        conv => whnf
        repeat ((first | refine ⟨zH_of _, ?_⟩ | refine ⟨trivial, ?_⟩ | refine ⟨rfl, ?_⟩ | refine ⟨fun hc => absurd hc (by decide), fun _ => ?_⟩ | refine ⟨fun _ => ?_, fun hc => absurd (by decide) hc⟩ | refine ⟨fun _ => ?_, fun hc => absurd hc (by decide)⟩ | refine ⟨fun hc => absurd (by decide) hc, fun _ => ?_⟩); conv => whnf)
        try dsimp only
        refine ⟨1, _, M2, by decide, fun wi3 wl3 a1 a2 a3 M3 => ?_⟩
        have T3 := tf_trans T2 (tf_tell a1 a2 a3)
        have S3 := tf_ms T3 hS'
        have h := h wi3 wl3 (FrM_trans hF0 (FrM_trans (FrM_of hF.1) (tf_fr T3))) (tf_mt T3 hC1 M3)
        rw [← ms_c S3] at h
        conv => whnf
        repeat ((first | refine ⟨zH_of _, ?_⟩ | refine ⟨trivial, ?_⟩ | refine ⟨rfl, ?_⟩ | refine ⟨fun hc => absurd hc (by decide), fun _ => ?_⟩ | refine ⟨fun _ => ?_, fun hc => absurd (by decide) hc⟩ | refine ⟨fun _ => ?_, fun hc => absurd hc (by decide)⟩ | refine ⟨fun hc => absurd (by decide) hc, fun _ => ?_⟩); conv => whnf)
        try dsimp only
        exact h
      · have ih := ih hc
        have eW : W (k + 1) = wkS q (c, A, s', 0) (k + 1) := by rw [← hW]
        rw [wkS, hW] at eW
        have h40 := ms_40 hS'
        have hn0 : wkN (W k).2.2.1 < 2147483647 := Nat.mod_lt _ (by decide)
        have ex : z_lrem (lN (W k).2.2.1 * lN 16807) (lN 2147483647) = lN (wkN (W k).2.2.1) := by
          rw [lN_mul, lremN (by omega) (by decide) (by decide)]
          rfl
        have b0 := fl_le (q := q) (A := (W k).2.1) (t := 0) h40
        have b1 := fl_le (q := q) (A := (W k).2.1) (t := 1) h40
        have b2 := fl_le (q := q) (A := (W k).2.1) (t := 2) h40
        have eall : flAll q (W k).2.1 (W k).1 = flN q (W k).2.1 0 (W k).1 + flN q (W k).2.1 1 (W k).1 + flN q (W k).2.1 2 (W k).1 := rfl
        conv => whnf
        repeat ((first | refine ⟨zH_of _, ?_⟩ | refine ⟨trivial, ?_⟩ | refine ⟨rfl, ?_⟩ | refine ⟨fun hc => absurd hc (by decide), fun _ => ?_⟩ | refine ⟨fun _ => ?_, fun hc => absurd (by decide) hc⟩ | refine ⟨fun _ => ?_, fun hc => absurd hc (by decide)⟩ | refine ⟨fun hc => absurd (by decide) hc, fun _ => ?_⟩); conv => whnf)
        try dsimp only
        refine ⟨fun z => absurd z (by decide), ?_⟩
        conv => whnf
        repeat ((first | refine ⟨zH_of _, ?_⟩ | refine ⟨trivial, ?_⟩ | refine ⟨rfl, ?_⟩ | refine ⟨fun hc => absurd hc (by decide), fun _ => ?_⟩ | refine ⟨fun _ => ?_, fun hc => absurd (by decide) hc⟩ | refine ⟨fun _ => ?_, fun hc => absurd hc (by decide)⟩ | refine ⟨fun hc => absurd (by decide) hc, fun _ => ?_⟩); conv => whnf)
        try dsimp only
        rw [ex]
        refine ⟨d, q, _, _, 0, hS', rfl, by decide, ?_⟩
        conv => whnf
        repeat ((first | refine ⟨zH_of _, ?_⟩ | refine ⟨trivial, ?_⟩ | refine ⟨rfl, ?_⟩ | refine ⟨fun hc => absurd hc (by decide), fun _ => ?_⟩ | refine ⟨fun _ => ?_, fun hc => absurd (by decide) hc⟩ | refine ⟨fun _ => ?_, fun hc => absurd hc (by decide)⟩ | refine ⟨fun hc => absurd (by decide) hc, fun _ => ?_⟩); conv => whnf)
        try dsimp only
        refine ⟨d, q, _, _, 1, hS', rfl, by decide, ?_⟩
        conv => whnf
        repeat ((first | refine ⟨zH_of _, ?_⟩ | refine ⟨trivial, ?_⟩ | refine ⟨rfl, ?_⟩ | refine ⟨fun hc => absurd hc (by decide), fun _ => ?_⟩ | refine ⟨fun _ => ?_, fun hc => absurd (by decide) hc⟩ | refine ⟨fun _ => ?_, fun hc => absurd hc (by decide)⟩ | refine ⟨fun hc => absurd (by decide) hc, fun _ => ?_⟩); conv => whnf)
        try dsimp only
        refine ⟨d, q, _, _, 2, hS', rfl, by decide, ?_⟩
        conv => whnf
        repeat ((first | refine ⟨zH_of _, ?_⟩ | refine ⟨trivial, ?_⟩ | refine ⟨rfl, ?_⟩ | refine ⟨fun hc => absurd hc (by decide), fun _ => ?_⟩ | refine ⟨fun _ => ?_, fun hc => absurd (by decide) hc⟩ | refine ⟨fun _ => ?_, fun hc => absurd hc (by decide)⟩ | refine ⟨fun hc => absurd (by decide) hc, fun _ => ?_⟩); conv => whnf)
        try dsimp only
        rw [nI_add, nI_add, ← eall, eq0N (by omega)]
        refine ⟨fun h0 => ?_, fun h0 => ?_⟩
        · rw [if_neg h0] at eW
          rw [eW] at ih
          have hk0 : wkN (W k).2.2.1 % flAll q (W k).2.1 (W k).1 < flAll q (W k).2.1 (W k).1 := Nat.mod_lt _ (by omega)
          have el : (z_lrem (lN (wkN (W k).2.2.1)) (nI (flAll q (W k).2.1 (W k).1)).toInt64).toInt32 = nI (wkN (W k).2.2.1 % flAll q (W k).2.1 (W k).1) := by
            rw [nI_l (by omega), lremN (by omega) (by omega) (by omega), lN_i]
          conv => whnf
          repeat ((first | refine ⟨zH_of _, ?_⟩ | refine ⟨trivial, ?_⟩ | refine ⟨rfl, ?_⟩ | refine ⟨fun hc => absurd hc (by decide), fun _ => ?_⟩ | refine ⟨fun _ => ?_, fun hc => absurd (by decide) hc⟩ | refine ⟨fun _ => ?_, fun hc => absurd hc (by decide)⟩ | refine ⟨fun hc => absurd (by decide) hc, fun _ => ?_⟩); conv => whnf)
          try dsimp only
          refine ⟨fun hz => ?_, ?_⟩
          · rw [nI_l (by omega), show (0 : Int64) = lN 0 from rfl, lN_eq (by omega) (by decide)] at hz
            exact h0 hz
          · conv => whnf
            repeat ((first | refine ⟨zH_of _, ?_⟩ | refine ⟨trivial, ?_⟩ | refine ⟨rfl, ?_⟩ | refine ⟨fun hc => absurd hc (by decide), fun _ => ?_⟩ | refine ⟨fun _ => ?_, fun hc => absurd (by decide) hc⟩ | refine ⟨fun _ => ?_, fun hc => absurd hc (by decide)⟩ | refine ⟨fun hc => absurd (by decide) hc, fun _ => ?_⟩); conv => whnf)
            try dsimp only
            rw [el]
            refine ⟨d, q, _, _, _, hS', rfl, hk0, fun wi1 hF1 hS1 => ?_⟩
            conv => whnf
            repeat ((first | refine ⟨zH_of _, ?_⟩ | refine ⟨trivial, ?_⟩ | refine ⟨rfl, ?_⟩ | refine ⟨fun hc => absurd hc (by decide), fun _ => ?_⟩ | refine ⟨fun _ => ?_, fun hc => absurd (by decide) hc⟩ | refine ⟨fun _ => ?_, fun hc => absurd hc (by decide)⟩ | refine ⟨fun hc => absurd (by decide) hc, fun _ => ?_⟩); conv => whnf)
            try dsimp only
            refine ⟨d, q, _, _, hS1, fun wi2 hF2 hS2 _ _ => ?_⟩
            conv => whnf
            repeat ((first | refine ⟨zH_of _, ?_⟩ | refine ⟨trivial, ?_⟩ | refine ⟨rfl, ?_⟩ | refine ⟨fun hc => absurd hc (by decide), fun _ => ?_⟩ | refine ⟨fun _ => ?_, fun hc => absurd (by decide) hc⟩ | refine ⟨fun _ => ?_, fun hc => absurd hc (by decide)⟩ | refine ⟨fun hc => absurd (by decide) hc, fun _ => ?_⟩); conv => whnf)
            try dsimp only
            rw [nI_add, nI_add]
            exact ih wi2 (fj_trans hF (fj_trans ⟨fun y _ g2 => hF1 y g2, fun i _ _ _ => by rw [hF1 45 (by decide)]⟩ hF2)) hS2 hn0 (by show (W k).2.2.2 + 1 ≤ k + 1; omega)
        · rw [if_pos (by omega)] at eW
          rw [eW] at ih
          conv => whnf
          repeat ((first | refine ⟨zH_of _, ?_⟩ | refine ⟨trivial, ?_⟩ | refine ⟨rfl, ?_⟩ | refine ⟨fun hc => absurd hc (by decide), fun _ => ?_⟩ | refine ⟨fun _ => ?_, fun hc => absurd (by decide) hc⟩ | refine ⟨fun _ => ?_, fun hc => absurd hc (by decide)⟩ | refine ⟨fun hc => absurd (by decide) hc, fun _ => ?_⟩); conv => whnf)
          try dsimp only
          rw [nI_add]
          exact ih wi' hF hS' hn0 (by show (W k).2.2.2 ≤ k + 1; omega))
    have w0 : W 0 = (c, A, s', 0) := by rw [← hW]; rfl
    have l0 := loop 0 (Nat.zero_le _) wi0 ⟨fun _ _ _ => rfl, fun _ _ _ _ => rfl⟩
    rw [w0] at l0
    have l0 := l0 hS (by show s' < 2147483647; omega) (Nat.le_refl _)
    conv => whnf
    repeat ((first | refine ⟨zH_of _, ?_⟩ | refine ⟨trivial, ?_⟩ | refine ⟨rfl, ?_⟩ | refine ⟨fun hc => absurd hc (by decide), fun _ => ?_⟩ | refine ⟨fun _ => ?_, fun hc => absurd (by decide) hc⟩ | refine ⟨fun _ => ?_, fun hc => absurd hc (by decide)⟩ | refine ⟨fun hc => absurd (by decide) hc, fun _ => ?_⟩); conv => whnf)
    try dsimp only
    rw [nI_l (by omega)]
    exact l0

