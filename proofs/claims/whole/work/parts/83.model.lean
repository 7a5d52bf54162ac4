/-! the reference: a space sheared -/
theorem rem3b {t : Nat} (h : t < 3) : z_rem (nI t + nI 2) (nI 3) = nI (pv t) := by
  rw [nI_add, z_remN (by omega) (by decide) (by decide)]
  rfl
theorem upA_ne {A : Nat → Nat → Nat} {k j : Nat} {a : Nat → Nat} (h : j ≠ k) : upA A k a j = A j := if_neg h
def sp_X12_shears : zSp := fun av w K => match av with
  | [.ref o, .int s, .int u, .int v, .int f] => o = 45 ∧ zH w.1 ∧ ∃ T, MT w.2.1 w.2.2 T ∧ ZT T ∧ ∀ wi' wl', FrM w.2.1 w.2.2 wi' wl' → MT wi' wl' (st_shears T s u v f).1 → K (some (.int (st_shears T s u v f).2)) (w.1, wi', wl')
  | _ => False
def rm_X12_shears : Room := { frames := 2, cells := 0, slots := 0, locals := 49 }
def M_X12_shears : zM := (k_X12_shears, f_X12, [(170, 0, 0, 1, 0, 0, sp_X12_isTable), (80, 0, 0, 3, 0, 0, sp_X12_in), (312, 4, 10, 6, 0, 0, sp_X12_shearsRows), (316, 4, 10, 6, 0, 0, sp_X12_shearsColumns), (306, 4, 10, 1, 0, 0, sp_X12_othersThan)], ([], [], []), [], [(71, [true, true, true, true, true, true]), (106, [true, true, true, true, true, true])], 1, false, (false, 0, fun _ => 0), (0, 0))
theorem ca_X12_shears_0 (l : Launch) : z_cok l RX12 (headSpec (.code yX12_shears cX12_shears 6 (some .int) :: zTT) rm_X12_shears).room (170, 0, 0, 1, 0, 0, sp_X12_isTable) := z_ca0 (c_X12_isTable l) mb_X12_isTable wt_1338 wt_1339 (by decide)
theorem ca_X12_shears_1 (l : Launch) : z_cok l RX12 (headSpec (.code yX12_shears cX12_shears 6 (some .int) :: zTT) rm_X12_shears).room (80, 0, 0, 3, 0, 0, sp_X12_in) := z_ca0 (c_X12_in l) mb_X12_in wt_1253 wt_1254 (by decide)
theorem ca_X12_shears_2 (l : Launch) : z_cok l RX12 (headSpec (.code yX12_shears cX12_shears 6 (some .int) :: zTT) rm_X12_shears).room (312, 4, 10, 6, 0, 0, sp_X12_shearsRows) := z_ca4 (c_X12_shearsRows l) mb_X12_shearsRows ⟨_, rfl, rfl⟩ wt_1573 wt_1575 wt_77 (by decide)
theorem ca_X12_shears_3 (l : Launch) : z_cok l RX12 (headSpec (.code yX12_shears cX12_shears 6 (some .int) :: zTT) rm_X12_shears).room (316, 4, 10, 6, 0, 0, sp_X12_shearsColumns) := z_ca4 (c_X12_shearsColumns l) mb_X12_shearsColumns ⟨_, rfl, rfl⟩ wt_1577 wt_1579 wt_78 (by decide)
theorem ca_X12_shears_4 (l : Launch) : z_cok l RX12 (headSpec (.code yX12_shears cX12_shears 6 (some .int) :: zTT) rm_X12_shears).room (306, 4, 10, 1, 0, 0, sp_X12_othersThan) := z_ca4 (c_X12_othersThan l) mb_X12_othersThan ⟨_, rfl, rfl⟩ wt_1557 wt_1559 wt_75 (by decide)
theorem O_X12_shears (l : Launch) : z_OK l RX12 cX12_shears (headSpec (.code yX12_shears cX12_shears 6 (some .int) :: zTT) rm_X12_shears).room M_X12_shears := ⟨ok_X12_shears, fo_X12, List.forall_mem_cons.mpr ⟨ca_X12_shears_0 l, List.forall_mem_cons.mpr ⟨ca_X12_shears_1 l, List.forall_mem_cons.mpr ⟨ca_X12_shears_2 l, List.forall_mem_cons.mpr ⟨ca_X12_shears_3 l, List.forall_mem_cons.mpr ⟨ca_X12_shears_4 l, fun _ h => absurd h List.not_mem_nil⟩⟩⟩⟩⟩, fun _ h => absurd h List.not_mem_nil, fun _ h => absurd h List.not_mem_nil, fun _ h => absurd h List.not_mem_nil, fun _ h => absurd h List.not_mem_nil, rfl, rfl⟩
theorem c_X12_shears (l : Launch) : z_CS l yX12_shears cX12_shears 6 (some .int) rm_X12_shears sp_X12_shears := by
  refine z_meth (by decide) (Or.inr (Or.inl ⟨rfl, rfl⟩)) (fun h => by cases h) rfl (O_X12_shears l) ?_
  intro av w K h
  match av, h with
  | [.ref o, .int s, .int u, .int v, .int f], h =>
    obtain ⟨rfl, ⟨r, hG⟩, ⟨d, q, c, A, kp, tx, tl⟩, hC, hZ, h⟩ := h
    obtain ⟨G, wi, wl⟩ := w
    subst hG
    try dsimp only at h hC hZ
    have hC := mt_fld (i := 11) (v := nI 0) hC (by decide)
    have hF0 : FrM wi wl (z_up wi 45 11 (nI 0)) wl := fm_fld
    refine ⟨Nat.le_of_ble_eq_true rfl, fun Jm hs => ?_⟩
    unfold st_shears at h
    dsimp only at h
    have q23 := ms_q23 (mt_S hC)
    refine hs 400 0 _ _ _ _ _ ?_
    conv => whnf
    repeat ((first | refine ⟨zH_of _, ?_⟩ | refine ⟨trivial, ?_⟩ | refine ⟨rfl, ?_⟩ | refine ⟨fun hc => absurd hc (by decide), fun _ => ?_⟩ | refine ⟨fun _ => ?_, fun hc => absurd (by decide) hc⟩ | refine ⟨fun _ => ?_, fun hc => absurd hc (by decide)⟩ | refine ⟨fun hc => absurd (by decide) hc, fun _ => ?_⟩); conv => whnf)
    try dsimp only
    generalize z_up wi 45 11 (nI 0) = wi0 at *
    have hS := mt_S hC
    have h40 := ms_40 hS
    have no : ¬ (idB 3 s && (lnB (d s.toNatClampNeg) u && (lnB (d s.toNatClampNeg) v && (!decide (u = v) && fcB q f)))) = true → K (some (.int (mI 1))) (GC ++ (GM ++ r), wi0, wl) := fun hn => by
      rw [if_neg hn] at h
      exact h wi0 wl hF0 hC
    rw [bI_0]
    refine ⟨fun h1 => ⟨trivial, no (by simp [h1])⟩, fun h1 => ?_⟩
    have h1 := Classical.not_not.mp h1
    obtain ⟨s', hs', rfl⟩ := idB_N h1 (by omega)
    rw [nc_N (by omega)] at h no
    have ds := ms_hd hS s' hs'
    conv => whnf
    repeat ((first | refine ⟨zH_of _, ?_⟩ | refine ⟨trivial, ?_⟩ | refine ⟨rfl, ?_⟩ | refine ⟨fun hc => absurd hc (by decide), fun _ => ?_⟩ | refine ⟨fun _ => ?_, fun hc => absurd (by decide) hc⟩ | refine ⟨fun _ => ?_, fun hc => absurd hc (by decide)⟩ | refine ⟨fun hc => absurd (by decide) hc, fun _ => ?_⟩); conv => whnf)
    try dsimp only
    refine ⟨vp_in_nI (show s' < 3 from hs') (by decide), ?_⟩
    conv => whnf
    repeat ((first | refine ⟨zH_of _, ?_⟩ | refine ⟨trivial, ?_⟩ | refine ⟨rfl, ?_⟩ | refine ⟨fun hc => absurd hc (by decide), fun _ => ?_⟩ | refine ⟨fun _ => ?_, fun hc => absurd (by decide) hc⟩ | refine ⟨fun _ => ?_, fun hc => absurd hc (by decide)⟩ | refine ⟨fun hc => absurd (by decide) hc, fun _ => ?_⟩); conv => whnf)
    try dsimp only
    rw [nI_clamp (n := s') (by omega), ms_d hS s' hs', nI_l (by omega), in_rg (by decide) (by omega), bI_0]
    refine ⟨fun h2 => ?_, fun h2 => ?_⟩
    · have h2 : ¬ lnB (d s') u = true := h2
      exact ⟨trivial, no (by simp [h2])⟩
    have h2 : lnB (d s') u = true := Classical.not_not.mp h2
    conv => whnf
    repeat ((first | refine ⟨zH_of _, ?_⟩ | refine ⟨trivial, ?_⟩ | refine ⟨rfl, ?_⟩ | refine ⟨fun hc => absurd hc (by decide), fun _ => ?_⟩ | refine ⟨fun _ => ?_, fun hc => absurd (by decide) hc⟩ | refine ⟨fun _ => ?_, fun hc => absurd hc (by decide)⟩ | refine ⟨fun hc => absurd (by decide) hc, fun _ => ?_⟩); conv => whnf)
    try dsimp only
    refine ⟨vp_in_nI (show s' < 3 from hs') (by decide), ?_⟩
    conv => whnf
    repeat ((first | refine ⟨zH_of _, ?_⟩ | refine ⟨trivial, ?_⟩ | refine ⟨rfl, ?_⟩ | refine ⟨fun hc => absurd hc (by decide), fun _ => ?_⟩ | refine ⟨fun _ => ?_, fun hc => absurd (by decide) hc⟩ | refine ⟨fun _ => ?_, fun hc => absurd hc (by decide)⟩ | refine ⟨fun hc => absurd (by decide) hc, fun _ => ?_⟩); conv => whnf)
    try dsimp only
    rw [nI_clamp (n := s') (by omega), ms_d hS s' hs', nI_l (by omega), in_rg (by decide) (by omega), bI_0]
    refine ⟨fun h3 => ?_, fun h3 => ?_⟩
    · have h3 : ¬ lnB (d s') v = true := h3
      exact ⟨trivial, no (by simp [h3])⟩
    have h3 : lnB (d s') v = true := Classical.not_not.mp h3
    conv => whnf
    repeat ((first | refine ⟨zH_of _, ?_⟩ | refine ⟨trivial, ?_⟩ | refine ⟨rfl, ?_⟩ | refine ⟨fun hc => absurd hc (by decide), fun _ => ?_⟩ | refine ⟨fun _ => ?_, fun hc => absurd (by decide) hc⟩ | refine ⟨fun _ => ?_, fun hc => absurd hc (by decide)⟩ | refine ⟨fun hc => absurd (by decide) hc, fun _ => ?_⟩); conv => whnf)
    try dsimp only
    refine ⟨fun h4 => ⟨trivial, no (by simp [h4])⟩, fun h4 => ?_⟩
    conv => whnf
    repeat ((first | refine ⟨zH_of _, ?_⟩ | refine ⟨trivial, ?_⟩ | refine ⟨rfl, ?_⟩ | refine ⟨fun hc => absurd hc (by decide), fun _ => ?_⟩ | refine ⟨fun _ => ?_, fun hc => absurd (by decide) hc⟩ | refine ⟨fun _ => ?_, fun hc => absurd hc (by decide)⟩ | refine ⟨fun hc => absurd (by decide) hc, fun _ => ?_⟩); conv => whnf)
    try dsimp only
    rw [ms_q hS, pk_sub (by omega), nI_l (by omega), in_rg (by decide) (by omega), fc_rg q23, bI_0, Classical.not_not]
    refine ⟨fun h5 => ?_, fun h5 => ⟨trivial, no (by simp [h5])⟩⟩
    rw [if_pos (by simp [h1, h2, h3, h4, h5])] at h
    obtain ⟨u', u1, u2, rfl⟩ := rgB_N h2 (by decide) (by omega)
    obtain ⟨v', v1, v2, rfl⟩ := rgB_N h3 (by decide) (by omega)
    obtain ⟨f', f1, f2, rfl⟩ := fcB_N h5 (by omega)
    rw [nc_N (by omega), nc_N (by omega), nc_N (by omega)] at h
    clear no
    have np := nx_pv hs'
    have pl3 := pv_lt s'
    obtain ⟨F, hFF⟩ : ∃ F, F = shA d q A s' (u' - 1) (v' - 1) f' := ⟨_, rfl⟩
    rw [← hFF] at h
    have Fs : ∀ i, F (3 * i + s') = shR q (A (3 * i + s')) (d (nx s')) (u' - 1) (v' - 1) f' (d (nx s')) := fun i => by
      rw [hFF]
      unfold shA
      rw [if_pos (by omega)]
    have Fp : ∀ i, F (3 * i + pv s') = shC q (A (3 * i + pv s')) (d s') (u' - 1) (v' - 1) f' (d (pv s')) := fun i => by
      rw [hFF]
      unfold shA
      rw [if_neg (by have := np.2; omega), if_pos (by omega)]
    have F0 : ∀ i u, u < 3 → u ≠ s' → u ≠ pv s' → F (3 * i + u) = A (3 * i + u) := fun i u h1 h2 h3 => by
      rw [hFF]
      unfold shA
      rw [if_neg (by omega), if_neg (by omega)]
    clear hFF
    have main := up_ind (P := fun i => ∀ wi' : Nat → Nat → Int32, (∀ y, y ≠ 47 → y ≠ 57 → wi' y = wi0 y) → RW wi' 57 (27 * c) A → MS wi' d q c (prT F A i) → Jm 106 [some (.ref 45), some (.int (nI s')), some (.int (nI u')), some (.int (nI v')), some (.int (nI f')), some (.int (nI i))] [] (GC ++ (GM ++ r), wi', wl) 0 0) c (fun i hi ih => by
      intro wi' hF hB hS'
      refine hs 400 106 _ _ _ _ _ ?_
      conv => whnf
      repeat ((first | refine ⟨zH_of _, ?_⟩ | refine ⟨trivial, ?_⟩ | refine ⟨rfl, ?_⟩ | refine ⟨fun hc => absurd hc (by decide), fun _ => ?_⟩ | refine ⟨fun _ => ?_, fun hc => absurd (by decide) hc⟩ | refine ⟨fun _ => ?_, fun hc => absurd hc (by decide)⟩ | refine ⟨fun hc => absurd (by decide) hc, fun _ => ?_⟩); conv => whnf)
      try dsimp only
      rw [ms_c hS', ltN (by omega) (by omega)]
      refine ⟨fun hc => ?_, fun hc => ?_⟩
      · obtain rfl : i = c := by omega
        have hS2 : MS wi' d q i F := ms_congr hS' (fun k hk p _ => by rw [prT_end hk])
        conv => whnf
        repeat ((first | refine ⟨zH_of _, ?_⟩ | refine ⟨trivial, ?_⟩ | refine ⟨rfl, ?_⟩ | refine ⟨fun hc => absurd hc (by decide), fun _ => ?_⟩ | refine ⟨fun _ => ?_, fun hc => absurd (by decide) hc⟩ | refine ⟨fun _ => ?_, fun hc => absurd hc (by decide)⟩ | refine ⟨fun hc => absurd (by decide) hc, fun _ => ?_⟩); conv => whnf)
        try dsimp only
        refine ⟨d, q, i, F, A, hS2, hB, ms_A hS, ?_⟩
        conv => whnf
        repeat ((first | refine ⟨zH_of _, ?_⟩ | refine ⟨trivial, ?_⟩ | refine ⟨rfl, ?_⟩ | refine ⟨fun hc => absurd hc (by decide), fun _ => ?_⟩ | refine ⟨fun _ => ?_, fun hc => absurd (by decide) hc⟩ | refine ⟨fun _ => ?_, fun hc => absurd hc (by decide)⟩ | refine ⟨fun hc => absurd (by decide) hc, fun _ => ?_⟩); conv => whnf)
        try dsimp only
        exact h wi' wl (FrM_trans hF0 (fun y hy => ⟨hF y (by omega) (by omega), rfl⟩)) (mt_now hC hS2 (fun i hi => by rw [hF 45 (by decide) (by decide)]) (fun y hy => hF y (by omega) (by omega)) rfl)
      · have ih := ih hc
        conv => whnf
        repeat ((first | refine ⟨zH_of _, ?_⟩ | refine ⟨trivial, ?_⟩ | refine ⟨rfl, ?_⟩ | refine ⟨fun hc => absurd hc (by decide), fun _ => ?_⟩ | refine ⟨fun _ => ?_, fun hc => absurd (by decide) hc⟩ | refine ⟨fun _ => ?_, fun hc => absurd hc (by decide)⟩ | refine ⟨fun hc => absurd (by decide) hc, fun _ => ?_⟩); conv => whnf)
        try dsimp only
        refine ⟨d, q, c, prT F A i, i, s', u' - 1, v' - 1, f', hS', rfl, hc, rfl, hs', pk_sub u1, by omega, pk_sub v1, by omega, rfl, f2, fun wi1 hF1 hS1 => ?_⟩
        rw [prT_ge (F := F) (A := A) (i := i) (k := 3 * i + s') (by omega), ← Fs] at hS1
        conv => whnf
        repeat ((first | refine ⟨zH_of _, ?_⟩ | refine ⟨trivial, ?_⟩ | refine ⟨rfl, ?_⟩ | refine ⟨fun hc => absurd hc (by decide), fun _ => ?_⟩ | refine ⟨fun _ => ?_, fun hc => absurd (by decide) hc⟩ | refine ⟨fun _ => ?_, fun hc => absurd hc (by decide)⟩ | refine ⟨fun hc => absurd (by decide) hc, fun _ => ?_⟩); conv => whnf)
        try dsimp only
        refine ⟨n30, ?_⟩
        rw [rem3b hs']
        conv => whnf
        repeat ((first | refine ⟨zH_of _, ?_⟩ | refine ⟨trivial, ?_⟩ | refine ⟨rfl, ?_⟩ | refine ⟨fun hc => absurd hc (by decide), fun _ => ?_⟩ | refine ⟨fun _ => ?_, fun hc => absurd (by decide) hc⟩ | refine ⟨fun _ => ?_, fun hc => absurd hc (by decide)⟩ | refine ⟨fun hc => absurd (by decide) hc, fun _ => ?_⟩); conv => whnf)
        try dsimp only
        refine ⟨d, q, c, _, i, pv s', u' - 1, v' - 1, f', hS1, rfl, hc, rfl, pl3, pk_sub u1, by rw [np.1]; omega, pk_sub v1, by rw [np.1]; omega, rfl, f2, fun wi2 hF2 hS2 => ?_⟩
        rw [upA_ne (show 3 * i + pv s' ≠ 3 * i + s' by have := np.2; omega), prT_ge (F := F) (A := A) (i := i) (k := 3 * i + pv s') (by omega), np.1, ← Fp, prT_up2 F A i s' (pv s') hs' pl3 (F0 i)] at hS2
        conv => whnf
        repeat ((first | refine ⟨zH_of _, ?_⟩ | refine ⟨trivial, ?_⟩ | refine ⟨rfl, ?_⟩ | refine ⟨fun hc => absurd hc (by decide), fun _ => ?_⟩ | refine ⟨fun _ => ?_, fun hc => absurd (by decide) hc⟩ | refine ⟨fun _ => ?_, fun hc => absurd hc (by decide)⟩ | refine ⟨fun hc => absurd (by decide) hc, fun _ => ?_⟩); conv => whnf)
        try dsimp only
        rw [nI_add]
        refine ih wi2 (fun y g1 g2 => by rw [hF2 y g1, hF1 y g1, hF y g1 g2]) (fun j hj => ?_) hS2
        rw [hF2 57 (by decide), hF1 57 (by decide)]
        exact hB j hj)
    have copy := up_ind (P := fun k => ∀ wi' : Nat → Nat → Int32, (∀ y, y ≠ 57 → wi' y = wi0 y) → RW wi' 57 k A → Jm 71 [some (.ref 45), some (.int (nI s')), some (.int (nI u')), some (.int (nI v')), some (.int (nI f')), some (.int (nI k))] [] (GC ++ (GM ++ r), wi', wl) 0 0) (27 * c) (fun k hk ih => by
      intro wi' hF hR
      have e2 : wi' 45 2 = nI c := by rw [hF 45 (by decide)]; exact ms_c hS
      refine hs 400 71 _ _ _ _ _ ?_
      conv => whnf
      repeat ((first | refine ⟨zH_of _, ?_⟩ | refine ⟨trivial, ?_⟩ | refine ⟨rfl, ?_⟩ | refine ⟨fun hc => absurd hc (by decide), fun _ => ?_⟩ | refine ⟨fun _ => ?_, fun hc => absurd (by decide) hc⟩ | refine ⟨fun _ => ?_, fun hc => absurd hc (by decide)⟩ | refine ⟨fun hc => absurd (by decide) hc, fun _ => ?_⟩); conv => whnf)
      try dsimp only
      rw [e2, pk_mul, ltN (by omega) (by omega)]
      refine ⟨fun hc => ?_, fun hc => ?_⟩
      · obtain rfl : k = 27 * c := by omega
        conv => whnf
        repeat ((first | refine ⟨zH_of _, ?_⟩ | refine ⟨trivial, ?_⟩ | refine ⟨rfl, ?_⟩ | refine ⟨fun hc => absurd hc (by decide), fun _ => ?_⟩ | refine ⟨fun _ => ?_, fun hc => absurd (by decide) hc⟩ | refine ⟨fun _ => ?_, fun hc => absurd hc (by decide)⟩ | refine ⟨fun hc => absurd (by decide) hc, fun _ => ?_⟩); conv => whnf)
        try dsimp only
        refine main 0 (Nat.zero_le _) wi' (fun y _ g => hF y g) hR ?_
        rw [prT_0]
        exact ms_fr hS (hF 46 (by decide)) (by rw [hF 45 (by decide)]) (by rw [hF 45 (by decide)]) (hF 47 (by decide))
      · have ih := ih hc
        conv => whnf
        repeat ((first | refine ⟨zH_of _, ?_⟩ | refine ⟨trivial, ?_⟩ | refine ⟨rfl, ?_⟩ | refine ⟨fun hc => absurd hc (by decide), fun _ => ?_⟩ | refine ⟨fun _ => ?_, fun hc => absurd (by decide) hc⟩ | refine ⟨fun _ => ?_, fun hc => absurd hc (by decide)⟩ | refine ⟨fun hc => absurd (by decide) hc, fun _ => ?_⟩); conv => whnf)
        try dsimp only
        refine ⟨vp_in_nI (show k < 1080 by omega) (by decide), ?_⟩
        conv => whnf
        repeat ((first | refine ⟨zH_of _, ?_⟩ | refine ⟨trivial, ?_⟩ | refine ⟨rfl, ?_⟩ | refine ⟨fun hc => absurd hc (by decide), fun _ => ?_⟩ | refine ⟨fun _ => ?_, fun hc => absurd (by decide) hc⟩ | refine ⟨fun _ => ?_, fun hc => absurd hc (by decide)⟩ | refine ⟨fun hc => absurd (by decide) hc, fun _ => ?_⟩); conv => whnf)
        try dsimp only
        refine ⟨vp_in_nI (show k < 1080 by omega) (by decide), ?_⟩
        conv => whnf
        repeat ((first | refine ⟨zH_of _, ?_⟩ | refine ⟨trivial, ?_⟩ | refine ⟨rfl, ?_⟩ | refine ⟨fun hc => absurd hc (by decide), fun _ => ?_⟩ | refine ⟨fun _ => ?_, fun hc => absurd (by decide) hc⟩ | refine ⟨fun _ => ?_, fun hc => absurd hc (by decide)⟩ | refine ⟨fun hc => absurd (by decide) hc, fun _ => ?_⟩); conv => whnf)
        try dsimp only
        rw [nI_clamp (n := k) (by omega), hF 47 (by decide), ms_f hS k hc, nI_add]
        refine ih _ (fun y hy => by rw [z_up_ne hy, hF y hy]) (fun j hj => ?_)
        by_cases e : j = k
        · rw [e, z_up_eq]
        · rw [z_up_nei e]
          exact hR j (by omega))
    conv => whnf
    repeat ((first | refine ⟨zH_of _, ?_⟩ | refine ⟨trivial, ?_⟩ | refine ⟨rfl, ?_⟩ | refine ⟨fun hc => absurd hc (by decide), fun _ => ?_⟩ | refine ⟨fun _ => ?_, fun hc => absurd (by decide) hc⟩ | refine ⟨fun _ => ?_, fun hc => absurd hc (by decide)⟩ | refine ⟨fun hc => absurd (by decide) hc, fun _ => ?_⟩); conv => whnf)
    try dsimp only
    exact copy 0 (Nat.zero_le _) wi0 (fun _ _ => rfl) (fun j hj => absurd hj (Nat.not_lt_zero j))

