theorem inS_B (v : Int32) : inF v.toInt64 (lN 1) (lN 3) = bI (szB v = true) := by
  rw [in_rg (by decide) (by decide)]
  rfl
theorem FrM_of {wi wi' : Nat → Nat → Int32} {wl : Nat → Nat → Int64} (h : ∀ y, y ≠ 45 → y ≠ 47 → wi' y = wi y) : FrM wi wl wi' wl := fun y hy => ⟨h y (by omega) (by omega), rfl⟩
def sp_X12_format : zSp := fun av w K => match av with
  | [.ref o, .int n, .int m, .int p, .int f] => o = 45 ∧ zH w.1 ∧ ∃ T, MT w.2.1 w.2.2 T ∧ ZT T ∧ ∀ wi' wl', FrM w.2.1 w.2.2 wi' wl' → MT wi' wl' (st_format T n m p f).1 → K (some (.int (st_format T n m p f).2)) (w.1, wi', wl')
  | _ => False
def rm_X12_format : Room := { frames := 3, cells := 0, slots := 0, locals := 68 }
def M_X12_format : zM := (k_X12_format, f_X12, [(80, 0, 0, 3, 0, 0, sp_X12_in), (68, 4, 10, 1, 0, 0, sp_X12_laysPlain)], ([], [(111, lN 3), (94, lN 2)], []), [], [], 1, false, (false, 0, fun _ => 0), (0, 0))
theorem ca_X12_format_0 (l : Launch) : z_cok l RX12 (headSpec (.code yX12_format cX12_format 5 (some .int) :: zTT) rm_X12_format).room (80, 0, 0, 3, 0, 0, sp_X12_in) := z_ca0 (c_X12_in l) mb_X12_in wt_1253 wt_1254 (by decide)
theorem ca_X12_format_1 (l : Launch) : z_cok l RX12 (headSpec (.code yX12_format cX12_format 5 (some .int) :: zTT) rm_X12_format).room (68, 4, 10, 1, 0, 0, sp_X12_laysPlain) := z_ca4 (c_X12_laysPlain l) mb_X12_laysPlain ⟨_, rfl, rfl⟩ wt_1124 wt_1126 wt_26 (by decide)
theorem O_X12_format (l : Launch) : z_OK l RX12 cX12_format (headSpec (.code yX12_format cX12_format 5 (some .int) :: zTT) rm_X12_format).room M_X12_format := ⟨ok_X12_format, fo_X12, List.forall_mem_cons.mpr ⟨ca_X12_format_0 l, List.forall_mem_cons.mpr ⟨ca_X12_format_1 l, fun _ h => absurd h List.not_mem_nil⟩⟩, fun _ h => absurd h List.not_mem_nil, List.forall_mem_cons.mpr ⟨wt_1260, List.forall_mem_cons.mpr ⟨wt_1261, fun _ h => absurd h List.not_mem_nil⟩⟩, fun _ h => absurd h List.not_mem_nil, fun _ h => absurd h List.not_mem_nil, rfl, rfl⟩
theorem c_X12_format (l : Launch) : z_CS l yX12_format cX12_format 5 (some .int) rm_X12_format sp_X12_format := by
  refine z_meth (by decide) (Or.inr (Or.inl ⟨rfl, rfl⟩)) (fun h => by cases h) rfl (O_X12_format l) ?_
  intro av w K h
  match av, h with
  | [.ref o, .int n, .int m, .int p, .int f], h =>
    obtain ⟨rfl, ⟨r, hG⟩, ⟨d, q, c, A, kp, tx, tl⟩, hC, hZ, h⟩ := h
    obtain ⟨G, wi, wl⟩ := w
    subst hG
    try dsimp only at h hC hZ
    have hC := mt_fld (i := 11) (v := nI 0) hC (by decide)
    have hF0 : FrM wi wl (z_up wi 45 11 (nI 0)) wl := fm_fld
    refine ⟨Nat.le_of_ble_eq_true rfl, fun Jm hs => hs 400 0 _ _ _ _ _ ?_⟩
    unfold st_format at h
    conv => whnf
    repeat ((first | refine ⟨zH_of _, ?_⟩ | refine ⟨trivial, ?_⟩ | refine ⟨rfl, ?_⟩ | refine ⟨fun hc => absurd hc (by decide), fun _ => ?_⟩ | refine ⟨fun _ => ?_, fun hc => absurd (by decide) hc⟩ | refine ⟨fun _ => ?_, fun hc => absurd hc (by decide)⟩ | refine ⟨fun hc => absurd (by decide) hc, fun _ => ?_⟩); conv => whnf)
    try dsimp only
    generalize z_up wi 45 11 (nI 0) = wi0 at *
    have no : ¬ (szB n && szB m && szB p && decide (¬ f < nI 2 ∧ ¬ nI 3 < f)) = true → K (some (.int (mI 1))) (GC ++ (GM ++ r), wi0, wl) := fun hn => by
      have h := h wi0 wl hF0
      rw [if_neg hn] at h
      exact h hC
    rw [inS_B, bI_0]
    refine ⟨fun h1 => ⟨trivial, no (by simp [h1])⟩, fun h1 => ?_⟩
    conv => whnf
    repeat ((first | refine ⟨zH_of _, ?_⟩ | refine ⟨trivial, ?_⟩ | refine ⟨rfl, ?_⟩ | refine ⟨fun hc => absurd hc (by decide), fun _ => ?_⟩ | refine ⟨fun _ => ?_, fun hc => absurd (by decide) hc⟩ | refine ⟨fun _ => ?_, fun hc => absurd hc (by decide)⟩ | refine ⟨fun hc => absurd (by decide) hc, fun _ => ?_⟩); conv => whnf)
    try dsimp only
    rw [inS_B, bI_0]
    refine ⟨fun h2 => ⟨trivial, no (by simp [h2])⟩, fun h2 => ?_⟩
    conv => whnf
    repeat ((first | refine ⟨zH_of _, ?_⟩ | refine ⟨trivial, ?_⟩ | refine ⟨rfl, ?_⟩ | refine ⟨fun hc => absurd hc (by decide), fun _ => ?_⟩ | refine ⟨fun _ => ?_, fun hc => absurd (by decide) hc⟩ | refine ⟨fun _ => ?_, fun hc => absurd hc (by decide)⟩ | refine ⟨fun hc => absurd (by decide) hc, fun _ => ?_⟩); conv => whnf)
    try dsimp only
    rw [inS_B, bI_0]
    refine ⟨fun h3 => ⟨trivial, no (by simp [h3])⟩, fun h3 => ?_⟩
    conv => whnf
    repeat ((first | refine ⟨zH_of _, ?_⟩ | refine ⟨trivial, ?_⟩ | refine ⟨rfl, ?_⟩ | refine ⟨fun hc => absurd hc (by decide), fun _ => ?_⟩ | refine ⟨fun _ => ?_, fun hc => absurd (by decide) hc⟩ | refine ⟨fun _ => ?_, fun hc => absurd hc (by decide)⟩ | refine ⟨fun hc => absurd (by decide) hc, fun _ => ?_⟩); conv => whnf)
    try dsimp only
    have e4 : inF f.toInt64 (lN 2) (lN 3) = bI (rgB 2 3 f = true) := in_rg (by decide) (by decide) f
    rw [e4, bI_0, Classical.not_not]
    have h1 := Classical.not_not.mp h1
    have h2 := Classical.not_not.mp h2
    have h3 := Classical.not_not.mp h3
    refine ⟨fun h4 => ?_, fun h4 => ⟨trivial, no (fun z => h4 (by
      rw [Bool.and_eq_true] at z
      exact z.2))⟩⟩
    have h4' : decide (¬ f < nI 2 ∧ ¬ nI 3 < f) = true := h4
    rw [if_pos (by rw [h1, h2, h3, h4']; rfl)] at h
    obtain ⟨n', n1, n3, rfl⟩ := szB_N h1
    obtain ⟨m', m1, m3, rfl⟩ := szB_N h2
    obtain ⟨p', p1, p3, rfl⟩ := szB_N h3
    obtain ⟨f', f1, f3, rfl⟩ := rgB_N h4 (by decide) (by decide)
    have hq : f' = 2 ∨ f' = 3 := by omega
    rw [nc_N (by omega)] at h
    generalize hd : mkD (nI n') (nI m') (nI p') = d' at *
    have d0 : d' 0 = n' := by rw [← hd]; exact nc_N (by omega)
    have d1 : d' 1 = m' := by rw [← hd]; exact nc_N (by omega)
    have d2 : d' 2 = p' := by rw [← hd]; exact nc_N (by omega)
    have hd3 : ∀ t, t < 3 → 1 ≤ d' t ∧ d' t ≤ 3 := fun t ht => by
      rcases lt3 ht with rfl | rfl | rfl <;> omega
    conv => whnf
    repeat ((first | refine ⟨zH_of _, ?_⟩ | refine ⟨trivial, ?_⟩ | refine ⟨rfl, ?_⟩ | refine ⟨fun hc => absurd hc (by decide), fun _ => ?_⟩ | refine ⟨fun _ => ?_, fun hc => absurd (by decide) hc⟩ | refine ⟨fun _ => ?_, fun hc => absurd hc (by decide)⟩ | refine ⟨fun hc => absurd (by decide) hc, fun _ => ?_⟩); conv => whnf)
    try dsimp only
    refine ⟨vp_in_nI (show 0 < 3 by decide) (by decide), ?_⟩
    conv => whnf
    repeat ((first | refine ⟨zH_of _, ?_⟩ | refine ⟨trivial, ?_⟩ | refine ⟨rfl, ?_⟩ | refine ⟨fun hc => absurd hc (by decide), fun _ => ?_⟩ | refine ⟨fun _ => ?_, fun hc => absurd (by decide) hc⟩ | refine ⟨fun _ => ?_, fun hc => absurd hc (by decide)⟩ | refine ⟨fun hc => absurd (by decide) hc, fun _ => ?_⟩); conv => whnf)
    try dsimp only
    refine ⟨vp_in_nI (show 1 < 3 by decide) (by decide), ?_⟩
    conv => whnf
    repeat ((first | refine ⟨zH_of _, ?_⟩ | refine ⟨trivial, ?_⟩ | refine ⟨rfl, ?_⟩ | refine ⟨fun hc => absurd hc (by decide), fun _ => ?_⟩ | refine ⟨fun _ => ?_, fun hc => absurd (by decide) hc⟩ | refine ⟨fun _ => ?_, fun hc => absurd hc (by decide)⟩ | refine ⟨fun hc => absurd (by decide) hc, fun _ => ?_⟩); conv => whnf)
    try dsimp only
    refine ⟨vp_in_nI (show 2 < 3 by decide) (by decide), ?_⟩
    conv => whnf
    repeat ((first | refine ⟨zH_of _, ?_⟩ | refine ⟨trivial, ?_⟩ | refine ⟨rfl, ?_⟩ | refine ⟨fun hc => absurd hc (by decide), fun _ => ?_⟩ | refine ⟨fun _ => ?_, fun hc => absurd (by decide) hc⟩ | refine ⟨fun _ => ?_, fun hc => absurd hc (by decide)⟩ | refine ⟨fun hc => absurd (by decide) hc, fun _ => ?_⟩); conv => whnf)
    try dsimp only
    rw [nI_clamp (n := 0) (by decide), nI_clamp (n := 1) (by decide), nI_clamp (n := 2) (by decide)]
    refine ⟨d', f', fun t ht => ?_, ?_, hq, hd3, fun wi1 hF1 hI1 hS1 => ?_⟩
    · rw [z_up_ne (by decide), z_up_ne (by decide)]
      rcases lt3 ht with rfl | rfl | rfl
      · rw [z_up_nei (by decide), z_up_nei (by decide), z_up_eq, d0]
      · rw [z_up_nei (by decide), z_up_eq, d1]
      · rw [z_up_eq, d2]
    · rw [z_up_nei (by decide), z_up_eq]
    · have i4 : wi1 45 4 = mI 1 := by rw [hI1 4 (by decide), z_up_eq]
      have i8 : wi1 45 8 = wi0 45 8 := by rw [hI1 8 (by decide), z_up_nei (by decide), z_up_nei (by decide), z_up_ne (by decide), z_up_ne (by decide), z_up_ne (by decide)]
      have i10 : wi1 45 10 = wi0 45 10 := by rw [hI1 10 (by decide), z_up_nei (by decide), z_up_nei (by decide), z_up_ne (by decide), z_up_ne (by decide), z_up_ne (by decide)]
      have e : ∀ y, y ≠ 45 → y ≠ 46 → y ≠ 47 → wi1 y = wi0 y := fun y g1 g2 g3 => by rw [hF1 y g1 g3, z_up_ne g1, z_up_ne g1, z_up_ne g2, z_up_ne g2, z_up_ne g2]
      have h := h wi1 wl (FrM_trans hF0 (fun y hy => ⟨e y (by omega) (by omega) (by omega), rfl⟩)) ⟨hS1, Or.inl ⟨rfl, i4⟩, xm_fr (mt_X hC) i8 (e 50 (by decide) (by decide) (by decide)), tm_fr (mt_T hC) i10 rfl⟩
      rw [← ms_c hS1] at h
      conv => whnf
      repeat ((first | refine ⟨zH_of _, ?_⟩ | refine ⟨trivial, ?_⟩ | refine ⟨rfl, ?_⟩ | refine ⟨fun hc => absurd hc (by decide), fun _ => ?_⟩ | refine ⟨fun _ => ?_, fun hc => absurd (by decide) hc⟩ | refine ⟨fun _ => ?_, fun hc => absurd hc (by decide)⟩ | refine ⟨fun hc => absurd (by decide) hc, fun _ => ?_⟩); conv => whnf)
      try dsimp only
      exact h
def sp_X12_goes : zSp := fun av w K => match av with
  | [.ref o, .int i] => o = 45 ∧ zH w.1 ∧ ∃ d q c A i', MS w.2.1 d q c A ∧ i = nI i' ∧ i' < c ∧ ∀ wi' : Nat → Nat → Int32, (∀ y, y ≠ 45 → y ≠ 47 → wi' y = w.2.1 y) → (∀ i, i ≠ 2 → wi' 45 i = w.2.1 45 i) → MS wi' d q (c - 1) (rmA A i') → K none (w.1, wi', w.2.2)
  | _ => False
def rm_X12_goes : Room := { frames := 0, cells := 0, slots := 0, locals := 0 }
def M_X12_goes : zM := (k_X12_goes, f_X12, [], ([], [], []), [], [(15, [true, true, true])], 0, false, (false, 0, fun _ => 0), (0, 0))
theorem O_X12_goes (l : Launch) : z_OK l RX12 cX12_goes (headSpec (.code yX12_goes cX12_goes 3 none :: zTT) rm_X12_goes).room M_X12_goes := ⟨ok_X12_goes, fo_X12, fun _ h => absurd h List.not_mem_nil, fun _ h => absurd h List.not_mem_nil, fun _ h => absurd h List.not_mem_nil, fun _ h => absurd h List.not_mem_nil, fun _ h => absurd h List.not_mem_nil, rfl, rfl⟩
theorem c_X12_goes (l : Launch) : z_CS l yX12_goes cX12_goes 3 none rm_X12_goes sp_X12_goes := by
  refine z_meth (by decide) (Or.inl ⟨rfl, rfl⟩) (fun h => by cases h) rfl (O_X12_goes l) ?_
  intro av w K h
  match av, h with
  | [.ref o, .int i], h =>
    obtain ⟨rfl, ⟨r, hG⟩, d, q, c, A, i', hS, rfl, hi, h⟩ := h
    obtain ⟨G, wi, wl⟩ := w
    subst hG
    try dsimp only at h hS
    have h40 := ms_40 hS
    have hf := ms_f hS
    refine ⟨Nat.le_of_ble_eq_true rfl, fun Jm hs => ?_⟩
    have loop := up_ind (P := fun k => 27 * i' ≤ k → ∀ wi' : Nat → Nat → Int32, (∀ y, y ≠ 45 → y ≠ 47 → wi' y = wi y) → (∀ i, i ≠ 2 → wi' 45 i = wi 45 i) → wi' 45 2 = nI (c - 1) → (∀ j, j < k → wi' 47 j = nI (fl (rmA A i') j)) → (∀ j, k ≤ j → j < 27 * c → wi' 47 j = nI (fl A j)) → Jm 15 [some (.ref 45), some (.int (nI i')), some (.int (nI k))] [] (GC ++ (GM ++ r), wi', wl) 0 0) (27 * (c - 1)) (fun k hk ih => by
      intro hik wi' hF hI h2 hA1 hA2
      refine hs 400 15 _ _ _ _ _ ?_
      conv => whnf
      repeat ((first | refine ⟨zH_of _, ?_⟩ | refine ⟨trivial, ?_⟩ | refine ⟨rfl, ?_⟩ | refine ⟨fun hc => absurd hc (by decide), fun _ => ?_⟩ | refine ⟨fun _ => ?_, fun hc => absurd (by decide) hc⟩ | refine ⟨fun _ => ?_, fun hc => absurd hc (by decide)⟩ | refine ⟨fun hc => absurd (by decide) hc, fun _ => ?_⟩); conv => whnf)
      try dsimp only
      rw [h2, pk_mul, ltN (by omega) (by omega)]
      refine ⟨fun hc => ?_, fun hc => ?_⟩
      · obtain rfl : k = 27 * (c - 1) := by omega
        refine h wi' hF hI ⟨fun t ht => by rw [hF 46 (by decide) (by decide)]; exact ms_d hS t ht, ⟨by rw [hI 1 (by decide)]; exact ms_q hS, h2⟩, hA1, ms_q23 hS, ms_hd hS, by omega, fun j hj p hp => ?_⟩
        unfold rmA
        split
        · exact ms_A hS j (by omega) p hp
        · exact ms_A hS (j + 3) (by omega) p hp
      · have ih := ih hc
        conv => whnf
        repeat ((first | refine ⟨zH_of _, ?_⟩ | refine ⟨trivial, ?_⟩ | refine ⟨rfl, ?_⟩ | refine ⟨fun hc => absurd hc (by decide), fun _ => ?_⟩ | refine ⟨fun _ => ?_, fun hc => absurd (by decide) hc⟩ | refine ⟨fun _ => ?_, fun hc => absurd hc (by decide)⟩ | refine ⟨fun hc => absurd (by decide) hc, fun _ => ?_⟩); conv => whnf)
        try dsimp only
        rw [nI_add]
        refine ⟨vp_in_nI (show k + 27 < 1080 by omega) (by decide), ?_⟩
        conv => whnf
        repeat ((first | refine ⟨zH_of _, ?_⟩ | refine ⟨trivial, ?_⟩ | refine ⟨rfl, ?_⟩ | refine ⟨fun hc => absurd hc (by decide), fun _ => ?_⟩ | refine ⟨fun _ => ?_, fun hc => absurd (by decide) hc⟩ | refine ⟨fun _ => ?_, fun hc => absurd hc (by decide)⟩ | refine ⟨fun hc => absurd (by decide) hc, fun _ => ?_⟩); conv => whnf)
        try dsimp only
        refine ⟨vp_in_nI (show k < 1080 by omega) (by decide), ?_⟩
        conv => whnf
        repeat ((first | refine ⟨zH_of _, ?_⟩ | refine ⟨trivial, ?_⟩ | refine ⟨rfl, ?_⟩ | refine ⟨fun hc => absurd hc (by decide), fun _ => ?_⟩ | refine ⟨fun _ => ?_, fun hc => absurd (by decide) hc⟩ | refine ⟨fun _ => ?_, fun hc => absurd hc (by decide)⟩ | refine ⟨fun hc => absurd (by decide) hc, fun _ => ?_⟩); conv => whnf)
        try dsimp only
        rw [nI_clamp (n := k) (by omega), nI_clamp (n := k + 27) (by omega), hA2 (k + 27) (by omega) (by omega), nI_add]
        refine ih (by omega) _ (fun y g1 g2 => by rw [z_up_ne g2, hF y g1 g2]) (fun i g => by rw [z_up_ne (by decide), hI i g]) (by rw [z_up_ne (by decide)]; exact h2) (fun j hj => ?_) (fun j hj hj2 => ?_)
        · by_cases e : j = k
          · subst e
            rw [z_up_eq]
            unfold fl rmA
            rw [if_neg (by omega), show (j + 27) / 9 = j / 9 + 3 by omega, show (j + 27) % 9 = j % 9 by omega]
          · rw [z_up_nei e]
            exact hA1 j (by omega)
        · rw [z_up_nei (by omega)]
          exact hA2 j (by omega) hj2)
    refine hs 400 0 _ _ _ _ _ ?_
    conv => whnf
    repeat ((first | refine ⟨zH_of _, ?_⟩ | refine ⟨trivial, ?_⟩ | refine ⟨rfl, ?_⟩ | refine ⟨fun hc => absurd hc (by decide), fun _ => ?_⟩ | refine ⟨fun _ => ?_, fun hc => absurd (by decide) hc⟩ | refine ⟨fun _ => ?_, fun hc => absurd hc (by decide)⟩ | refine ⟨fun hc => absurd (by decide) hc, fun _ => ?_⟩); conv => whnf)
    try dsimp only
    rw [ms_c hS, pk_sub (by omega), pk_mul]
    refine loop (27 * i') (by omega) (Nat.le_refl _) _ (fun y g1 _ => z_up_ne g1) (fun i g => z_up_nei g) z_up_eq (fun j hj => ?_) (fun j hj hj2 => ?_)
    · rw [z_up_ne (by decide), hf j (by omega)]
      unfold fl rmA
      rw [if_pos (by omega)]
    · rw [z_up_ne (by decide)]
      exact hf j hj2
def sp_X12_drops : zSp := fun av w K => match av with
  | [.ref o, .int i] => o = 45 ∧ zH w.1 ∧ ∃ T, MT w.2.1 w.2.2 T ∧ ZT T ∧ ∀ wi' wl', FrM w.2.1 w.2.2 wi' wl' → MT wi' wl' (st_drops T i).1 → K (some (.int (st_drops T i).2)) (w.1, wi', wl')
  | _ => False
def rm_X12_drops : Room := { frames := 2, cells := 0, slots := 0, locals := 46 }
def M_X12_drops : zM := (k_X12_drops, f_X12, [(163, 4, 10, 2, 0, 0, sp_X12_isProduct), (167, 4, 10, 2, 0, 0, sp_X12_goes)], ([], [], []), [], [], 1, false, (false, 0, fun _ => 0), (0, 0))
theorem ca_X12_drops_0 (l : Launch) : z_cok l RX12 (headSpec (.code yX12_drops cX12_drops 2 (some .int) :: zTT) rm_X12_drops).room (163, 4, 10, 2, 0, 0, sp_X12_isProduct) := z_ca4 (c_X12_isProduct l) mb_X12_isProduct ⟨_, rfl, rfl⟩ wt_1326 wt_1328 wt_42 (by decide)
theorem ca_X12_drops_1 (l : Launch) : z_cok l RX12 (headSpec (.code yX12_drops cX12_drops 2 (some .int) :: zTT) rm_X12_drops).room (167, 4, 10, 2, 0, 0, sp_X12_goes) := z_ca4 (c_X12_goes l) mb_X12_goes ⟨_, rfl, rfl⟩ wt_1330 wt_1332 wt_43 (by decide)
theorem O_X12_drops (l : Launch) : z_OK l RX12 cX12_drops (headSpec (.code yX12_drops cX12_drops 2 (some .int) :: zTT) rm_X12_drops).room M_X12_drops := ⟨ok_X12_drops, fo_X12, List.forall_mem_cons.mpr ⟨ca_X12_drops_0 l, List.forall_mem_cons.mpr ⟨ca_X12_drops_1 l, fun _ h => absurd h List.not_mem_nil⟩⟩, fun _ h => absurd h List.not_mem_nil, fun _ h => absurd h List.not_mem_nil, fun _ h => absurd h List.not_mem_nil, fun _ h => absurd h List.not_mem_nil, rfl, rfl⟩
theorem c_X12_drops (l : Launch) : z_CS l yX12_drops cX12_drops 2 (some .int) rm_X12_drops sp_X12_drops := by
  refine z_meth (by decide) (Or.inr (Or.inl ⟨rfl, rfl⟩)) (fun h => by cases h) rfl (O_X12_drops l) ?_
  intro av w K h
  match av, h with
  | [.ref o, .int i], h =>
    obtain ⟨rfl, ⟨r, hG⟩, ⟨d, q, c, A, kp, tx, tl⟩, hC, hZ, h⟩ := h
    obtain ⟨G, wi, wl⟩ := w
    subst hG
    try dsimp only at h hC hZ
    have hC := mt_fld (i := 11) (v := nI 0) hC (by decide)
    have hF0 : FrM wi wl (z_up wi 45 11 (nI 0)) wl := fm_fld
    refine ⟨Nat.le_of_ble_eq_true rfl, fun Jm hs => hs 400 0 _ _ _ _ _ ?_⟩
    unfold st_drops at h
    dsimp only at h
    conv => whnf
    repeat ((first | refine ⟨zH_of _, ?_⟩ | refine ⟨trivial, ?_⟩ | refine ⟨rfl, ?_⟩ | refine ⟨fun hc => absurd hc (by decide), fun _ => ?_⟩ | refine ⟨fun _ => ?_, fun hc => absurd (by decide) hc⟩ | refine ⟨fun _ => ?_, fun hc => absurd hc (by decide)⟩ | refine ⟨fun hc => absurd (by decide) hc, fun _ => ?_⟩); conv => whnf)
    try dsimp only
    generalize z_up wi 45 11 (nI 0) = wi0 at *
    have hS := mt_S hC
    have h40 := ms_40 hS
    refine ⟨c, ms_c hS, by omega, ?_⟩
    conv => whnf
    repeat ((first | refine ⟨zH_of _, ?_⟩ | refine ⟨trivial, ?_⟩ | refine ⟨rfl, ?_⟩ | refine ⟨fun hc => absurd hc (by decide), fun _ => ?_⟩ | refine ⟨fun _ => ?_, fun hc => absurd (by decide) hc⟩ | refine ⟨fun _ => ?_, fun hc => absurd hc (by decide)⟩ | refine ⟨fun hc => absurd (by decide) hc, fun _ => ?_⟩); conv => whnf)
    try dsimp only
    rw [bI_0, Classical.not_not]
    refine ⟨fun hn => ?_, fun hn => ?_⟩
    · obtain ⟨i', hi', rfl⟩ := idB_N hn (by omega)
      rw [if_pos hn, nc_N (by omega)] at h
      conv => whnf
      repeat ((first | refine ⟨zH_of _, ?_⟩ | refine ⟨trivial, ?_⟩ | refine ⟨rfl, ?_⟩ | refine ⟨fun hc => absurd hc (by decide), fun _ => ?_⟩ | refine ⟨fun _ => ?_, fun hc => absurd (by decide) hc⟩ | refine ⟨fun _ => ?_, fun hc => absurd hc (by decide)⟩ | refine ⟨fun hc => absurd (by decide) hc, fun _ => ?_⟩); conv => whnf)
      try dsimp only
      refine ⟨d, q, c, A, i', hS, rfl, hi', fun wi1 hF1 hI1 hS1 => ?_⟩
      have h := h wi1 wl (FrM_trans hF0 (FrM_of hF1)) (mt_now hC hS1 (fun i hi => hI1 i (by omega)) (fun y hy => hF1 y (by omega) (by omega)) rfl)
      rw [← ms_c hS1] at h
      conv => whnf
      repeat ((first | refine ⟨zH_of _, ?_⟩ | refine ⟨trivial, ?_⟩ | refine ⟨rfl, ?_⟩ | refine ⟨fun hc => absurd hc (by decide), fun _ => ?_⟩ | refine ⟨fun _ => ?_, fun hc => absurd (by decide) hc⟩ | refine ⟨fun _ => ?_, fun hc => absurd hc (by decide)⟩ | refine ⟨fun hc => absurd (by decide) hc, fun _ => ?_⟩); conv => whnf)
      try dsimp only
      exact h
    · rw [if_neg hn] at h
      exact ⟨trivial, h wi0 wl hF0 hC⟩
def sp_X12_form : zSp := fun av w K => match av with
  | [.ref o, .int i, .int t] => o = 45 ∧ zH w.1 ∧ ∃ T, MT w.2.1 w.2.2 T ∧ ZT T ∧ ∀ wi' wl', FrM w.2.1 w.2.2 wi' wl' → MT wi' wl' (st_form T i t).1 → K (some (.int (st_form T i t).2)) (w.1, wi', wl')
  | _ => False
def rm_X12_form : Room := { frames := 2, cells := 0, slots := 0, locals := 46 }
def M_X12_form : zM := (k_X12_form, f_X12, [(163, 4, 10, 2, 0, 0, sp_X12_isProduct), (170, 0, 0, 1, 0, 0, sp_X12_isTable), (107, 0, 0, 3, 0, 0, sp_X12_at)], ([], [], []), [], [(28, [true, true, true, true, true])], 1, false, (false, 0, fun _ => 0), (0, 0))
theorem ca_X12_form_0 (l : Launch) : z_cok l RX12 (headSpec (.code yX12_form cX12_form 5 (some .int) :: zTT) rm_X12_form).room (163, 4, 10, 2, 0, 0, sp_X12_isProduct) := z_ca4 (c_X12_isProduct l) mb_X12_isProduct ⟨_, rfl, rfl⟩ wt_1326 wt_1328 wt_42 (by decide)
theorem ca_X12_form_1 (l : Launch) : z_cok l RX12 (headSpec (.code yX12_form cX12_form 5 (some .int) :: zTT) rm_X12_form).room (170, 0, 0, 1, 0, 0, sp_X12_isTable) := z_ca0 (c_X12_isTable l) mb_X12_isTable wt_1338 wt_1339 (by decide)
theorem ca_X12_form_2 (l : Launch) : z_cok l RX12 (headSpec (.code yX12_form cX12_form 5 (some .int) :: zTT) rm_X12_form).room (107, 0, 0, 3, 0, 0, sp_X12_at) := z_ca0 (c_X12_at l) mb_X12_at wt_1136 wt_1137 (by decide)
theorem O_X12_form (l : Launch) : z_OK l RX12 cX12_form (headSpec (.code yX12_form cX12_form 5 (some .int) :: zTT) rm_X12_form).room M_X12_form := ⟨ok_X12_form, fo_X12, List.forall_mem_cons.mpr ⟨ca_X12_form_0 l, List.forall_mem_cons.mpr ⟨ca_X12_form_1 l, List.forall_mem_cons.mpr ⟨ca_X12_form_2 l, fun _ h => absurd h List.not_mem_nil⟩⟩⟩, fun _ h => absurd h List.not_mem_nil, fun _ h => absurd h List.not_mem_nil, fun _ h => absurd h List.not_mem_nil, fun _ h => absurd h List.not_mem_nil, rfl, rfl⟩
theorem c_X12_form (l : Launch) : z_CS l yX12_form cX12_form 5 (some .int) rm_X12_form sp_X12_form := by
  refine z_meth (by decide) (Or.inr (Or.inl ⟨rfl, rfl⟩)) (fun h => by cases h) rfl (O_X12_form l) ?_
  intro av w K h
  match av, h with
  | [.ref o, .int i, .int t], h =>
    obtain ⟨rfl, ⟨r, hG⟩, ⟨d, q, c, A, kp, tx, tl⟩, hC, hZ, h⟩ := h
    obtain ⟨G, wi, wl⟩ := w
    subst hG
    try dsimp only at h hC hZ
    have hC := mt_fld (i := 11) (v := nI 0) hC (by decide)
    have hF0 : FrM wi wl (z_up wi 45 11 (nI 0)) wl := fm_fld
    refine ⟨Nat.le_of_ble_eq_true rfl, fun Jm hs => ?_⟩
    have h := h _ wl hF0
    unfold st_form at h
    dsimp only at h
    refine hs 400 0 _ _ _ _ _ ?_
    conv => whnf
    repeat ((first | refine ⟨zH_of _, ?_⟩ | refine ⟨trivial, ?_⟩ | refine ⟨rfl, ?_⟩ | refine ⟨fun hc => absurd hc (by decide), fun _ => ?_⟩ | refine ⟨fun _ => ?_, fun hc => absurd (by decide) hc⟩ | refine ⟨fun _ => ?_, fun hc => absurd hc (by decide)⟩ | refine ⟨fun hc => absurd (by decide) hc, fun _ => ?_⟩); conv => whnf)
    try dsimp only
    generalize z_up wi 45 11 (nI 0) = wi0 at *
    have hS := mt_S hC
    have h40 := ms_40 hS
    have no : ¬ (idB c i && idB 3 t) = true → K (some (.int (mI 1))) (GC ++ (GM ++ r), wi0, wl) := fun hn => by
      rw [if_neg hn] at h
      exact h hC
    refine ⟨c, ms_c hS, by omega, ?_⟩
    conv => whnf
    repeat ((first | refine ⟨zH_of _, ?_⟩ | refine ⟨trivial, ?_⟩ | refine ⟨rfl, ?_⟩ | refine ⟨fun hc => absurd hc (by decide), fun _ => ?_⟩ | refine ⟨fun _ => ?_, fun hc => absurd (by decide) hc⟩ | refine ⟨fun _ => ?_, fun hc => absurd hc (by decide)⟩ | refine ⟨fun hc => absurd (by decide) hc, fun _ => ?_⟩); conv => whnf)
    try dsimp only
    rw [bI_0]
    refine ⟨fun h1 => ⟨trivial, no (by simp [h1])⟩, fun h1 => ?_⟩
    conv => whnf
    repeat ((first | refine ⟨zH_of _, ?_⟩ | refine ⟨trivial, ?_⟩ | refine ⟨rfl, ?_⟩ | refine ⟨fun hc => absurd hc (by decide), fun _ => ?_⟩ | refine ⟨fun _ => ?_, fun hc => absurd (by decide) hc⟩ | refine ⟨fun _ => ?_, fun hc => absurd hc (by decide)⟩ | refine ⟨fun hc => absurd (by decide) hc, fun _ => ?_⟩); conv => whnf)
    try dsimp only
    rw [bI_0, Classical.not_not]
    refine ⟨fun h2 => ?_, fun h2 => ⟨trivial, no (by simp [h2])⟩⟩
    have h1 := Classical.not_not.mp h1
    rw [if_pos (by simp [h1, h2])] at h
    obtain ⟨i', hi, rfl⟩ := idB_N h1 (by omega)
    obtain ⟨t', ht, rfl⟩ := idB_N h2 (by omega)
    rw [nc_N (by omega), nc_N (by omega)] at h
    have loop : ∀ (n m : Nat), n ≤ 9 → coR q (A (3 * i' + t')) n m = coR q (A (3 * i' + t')) 9 0 → Jm 28 [some (.ref 45), some (.int (nI i')), some (.int (nI t')), some (.int (nI m)), some (.int (nI n - nI 1))] [] (GC ++ (GM ++ r), wi0, wl) 0 0 := by
      intro n
      induction n with
      | zero =>
        intro m _ he
        refine hs 400 28 _ _ _ _ _ ?_
        conv => whnf
        repeat ((first | refine ⟨zH_of _, ?_⟩ | refine ⟨trivial, ?_⟩ | refine ⟨rfl, ?_⟩ | refine ⟨fun hc => absurd hc (by decide), fun _ => ?_⟩ | refine ⟨fun _ => ?_, fun hc => absurd (by decide) hc⟩ | refine ⟨fun _ => ?_, fun hc => absurd hc (by decide)⟩ | refine ⟨fun hc => absurd (by decide) hc, fun _ => ?_⟩); conv => whnf)
        try dsimp only
        rw [← he] at h
        exact h hC
      | succ n ih =>
        intro m hn he
        refine hs 400 28 _ _ _ _ _ ?_
        have e : nI (n + 1) - nI 1 = nI n := by rw [pk_sub (by omega)]; rfl
        rw [e]
        conv => whnf
        repeat ((first | refine ⟨zH_of _, ?_⟩ | refine ⟨trivial, ?_⟩ | refine ⟨rfl, ?_⟩ | refine ⟨fun hc => absurd hc (by decide), fun _ => ?_⟩ | refine ⟨fun _ => ?_, fun hc => absurd (by decide) hc⟩ | refine ⟨fun _ => ?_, fun hc => absurd hc (by decide)⟩ | refine ⟨fun hc => absurd (by decide) hc, fun _ => ?_⟩); conv => whnf)
        try dsimp only
        refine ⟨fun hc => absurd hc (nI_nlt (Nat.zero_le _) (by omega)), fun hc => ?_⟩
        conv => whnf
        repeat ((first | refine ⟨zH_of _, ?_⟩ | refine ⟨trivial, ?_⟩ | refine ⟨rfl, ?_⟩ | refine ⟨fun hc => absurd hc (by decide), fun _ => ?_⟩ | refine ⟨fun _ => ?_, fun hc => absurd (by decide) hc⟩ | refine ⟨fun _ => ?_, fun hc => absurd hc (by decide)⟩ | refine ⟨fun hc => absurd (by decide) hc, fun _ => ?_⟩); conv => whnf)
        try dsimp only
        rw [at_N]
        refine ⟨vp_in_nI (show 27 * i' + 9 * t' + n < 1080 by omega) (by decide), ?_⟩
        conv => whnf
        repeat ((first | refine ⟨zH_of _, ?_⟩ | refine ⟨trivial, ?_⟩ | refine ⟨rfl, ?_⟩ | refine ⟨fun hc => absurd hc (by decide), fun _ => ?_⟩ | refine ⟨fun _ => ?_, fun hc => absurd (by decide) hc⟩ | refine ⟨fun _ => ?_, fun hc => absurd hc (by decide)⟩ | refine ⟨fun hc => absurd (by decide) hc, fun _ => ?_⟩); conv => whnf)
        try dsimp only
        rw [nI_clamp (by omega), ms_at hS hi ht (by omega), ms_q hS, pk_mul, nI_add]
        exact ih (m * q + A (3 * i' + t') n) (by omega) he
    conv => whnf
    repeat ((first | refine ⟨zH_of _, ?_⟩ | refine ⟨trivial, ?_⟩ | refine ⟨rfl, ?_⟩ | refine ⟨fun hc => absurd hc (by decide), fun _ => ?_⟩ | refine ⟨fun _ => ?_, fun hc => absurd (by decide) hc⟩ | refine ⟨fun _ => ?_, fun hc => absurd hc (by decide)⟩ | refine ⟨fun hc => absurd (by decide) hc, fun _ => ?_⟩); conv => whnf)
    try dsimp only
    exact loop 9 0 (Nat.le_refl 9) rfl
def sp_X12_number : zSp := fun av w K => match av with
  | [.ref o, .int i, .int t, .int p] => o = 45 ∧ zH w.1 ∧ ∃ T, MT w.2.1 w.2.2 T ∧ ZT T ∧ ∀ wi' wl', FrM w.2.1 w.2.2 wi' wl' → MT wi' wl' (st_number T i t p).1 → K (some (.int (st_number T i t p).2)) (w.1, wi', wl')
  | _ => False
def rm_X12_number : Room := { frames := 3, cells := 0, slots := 0, locals := 64 }
def M_X12_number : zM := (k_X12_number, f_X12, [(163, 4, 10, 2, 0, 0, sp_X12_isProduct), (170, 0, 0, 1, 0, 0, sp_X12_isTable), (173, 4, 10, 3, 0, 0, sp_X12_isPlace), (107, 0, 0, 3, 0, 0, sp_X12_at)], ([], [], []), [], [], 1, false, (false, 0, fun _ => 0), (0, 0))
theorem ca_X12_number_0 (l : Launch) : z_cok l RX12 (headSpec (.code yX12_number cX12_number 4 (some .int) :: zTT) rm_X12_number).room (163, 4, 10, 2, 0, 0, sp_X12_isProduct) := z_ca4 (c_X12_isProduct l) mb_X12_isProduct ⟨_, rfl, rfl⟩ wt_1326 wt_1328 wt_42 (by decide)
theorem ca_X12_number_1 (l : Launch) : z_cok l RX12 (headSpec (.code yX12_number cX12_number 4 (some .int) :: zTT) rm_X12_number).room (170, 0, 0, 1, 0, 0, sp_X12_isTable) := z_ca0 (c_X12_isTable l) mb_X12_isTable wt_1338 wt_1339 (by decide)
theorem ca_X12_number_2 (l : Launch) : z_cok l RX12 (headSpec (.code yX12_number cX12_number 4 (some .int) :: zTT) rm_X12_number).room (173, 4, 10, 3, 0, 0, sp_X12_isPlace) := z_ca4 (c_X12_isPlace l) mb_X12_isPlace ⟨_, rfl, rfl⟩ wt_1345 wt_1347 wt_44 (by decide)
theorem ca_X12_number_3 (l : Launch) : z_cok l RX12 (headSpec (.code yX12_number cX12_number 4 (some .int) :: zTT) rm_X12_number).room (107, 0, 0, 3, 0, 0, sp_X12_at) := z_ca0 (c_X12_at l) mb_X12_at wt_1136 wt_1137 (by decide)
theorem O_X12_number (l : Launch) : z_OK l RX12 cX12_number (headSpec (.code yX12_number cX12_number 4 (some .int) :: zTT) rm_X12_number).room M_X12_number := ⟨ok_X12_number, fo_X12, List.forall_mem_cons.mpr ⟨ca_X12_number_0 l, List.forall_mem_cons.mpr ⟨ca_X12_number_1 l, List.forall_mem_cons.mpr ⟨ca_X12_number_2 l, List.forall_mem_cons.mpr ⟨ca_X12_number_3 l, fun _ h => absurd h List.not_mem_nil⟩⟩⟩⟩, fun _ h => absurd h List.not_mem_nil, fun _ h => absurd h List.not_mem_nil, fun _ h => absurd h List.not_mem_nil, fun _ h => absurd h List.not_mem_nil, rfl, rfl⟩
theorem c_X12_number (l : Launch) : z_CS l yX12_number cX12_number 4 (some .int) rm_X12_number sp_X12_number := by
  refine z_meth (by decide) (Or.inr (Or.inl ⟨rfl, rfl⟩)) (fun h => by cases h) rfl (O_X12_number l) ?_
  intro av w K h
  match av, h with
  | [.ref o, .int i, .int t, .int p], h =>
    obtain ⟨rfl, ⟨r, hG⟩, ⟨d, q, c, A, kp, tx, tl⟩, hC, hZ, h⟩ := h
    obtain ⟨G, wi, wl⟩ := w
    subst hG
    try dsimp only at h hC hZ
    have hC := mt_fld (i := 11) (v := nI 0) hC (by decide)
    have hF0 : FrM wi wl (z_up wi 45 11 (nI 0)) wl := fm_fld
    refine ⟨Nat.le_of_ble_eq_true rfl, fun Jm hs => ?_⟩
    have h := h _ wl hF0
    unfold st_number at h
    dsimp only at h
    refine hs 400 0 _ _ _ _ _ ?_
    conv => whnf
    repeat ((first | refine ⟨zH_of _, ?_⟩ | refine ⟨trivial, ?_⟩ | refine ⟨rfl, ?_⟩ | refine ⟨fun hc => absurd hc (by decide), fun _ => ?_⟩ | refine ⟨fun _ => ?_, fun hc => absurd (by decide) hc⟩ | refine ⟨fun _ => ?_, fun hc => absurd hc (by decide)⟩ | refine ⟨fun hc => absurd (by decide) hc, fun _ => ?_⟩); conv => whnf)
    try dsimp only
    generalize z_up wi 45 11 (nI 0) = wi0 at *
    have hS := mt_S hC
    have h40 := ms_40 hS
    have no : ¬ (idB c i && (idB 3 t && idB (pl d t.toNatClampNeg) p)) = true → K (some (.int (mI 1))) (GC ++ (GM ++ r), wi0, wl) := fun hn => by
      rw [if_neg hn] at h
      exact h hC
    refine ⟨c, ms_c hS, by omega, ?_⟩
    conv => whnf
    repeat ((first | refine ⟨zH_of _, ?_⟩ | refine ⟨trivial, ?_⟩ | refine ⟨rfl, ?_⟩ | refine ⟨fun hc => absurd hc (by decide), fun _ => ?_⟩ | refine ⟨fun _ => ?_, fun hc => absurd (by decide) hc⟩ | refine ⟨fun _ => ?_, fun hc => absurd hc (by decide)⟩ | refine ⟨fun hc => absurd (by decide) hc, fun _ => ?_⟩); conv => whnf)
    try dsimp only
    rw [bI_0]
    refine ⟨fun h1 => ⟨trivial, no (by simp [h1])⟩, fun h1 => ?_⟩
    conv => whnf
    repeat ((first | refine ⟨zH_of _, ?_⟩ | refine ⟨trivial, ?_⟩ | refine ⟨rfl, ?_⟩ | refine ⟨fun hc => absurd hc (by decide), fun _ => ?_⟩ | refine ⟨fun _ => ?_, fun hc => absurd (by decide) hc⟩ | refine ⟨fun _ => ?_, fun hc => absurd hc (by decide)⟩ | refine ⟨fun hc => absurd (by decide) hc, fun _ => ?_⟩); conv => whnf)
    try dsimp only
    rw [bI_0]
    refine ⟨fun h2 => ⟨trivial, no (by simp [h2])⟩, fun h2 => ?_⟩
    have h1 := Classical.not_not.mp h1
    have h2 := Classical.not_not.mp h2
    obtain ⟨i', hi, rfl⟩ := idB_N h1 (by omega)
    obtain ⟨t', ht, rfl⟩ := idB_N h2 (by omega)
    rw [nc_N (n := t') (by omega)] at h no
    have p9 := pl_le (ms_hd hS) ht
    conv => whnf
    repeat ((first | refine ⟨zH_of _, ?_⟩ | refine ⟨trivial, ?_⟩ | refine ⟨rfl, ?_⟩ | refine ⟨fun hc => absurd hc (by decide), fun _ => ?_⟩ | refine ⟨fun _ => ?_, fun hc => absurd (by decide) hc⟩ | refine ⟨fun _ => ?_, fun hc => absurd hc (by decide)⟩ | refine ⟨fun hc => absurd (by decide) hc, fun _ => ?_⟩); conv => whnf)
    try dsimp only
    refine ⟨d, q, c, A, t', hS, rfl, ht, ?_⟩
    conv => whnf
    repeat ((first | refine ⟨zH_of _, ?_⟩ | refine ⟨trivial, ?_⟩ | refine ⟨rfl, ?_⟩ | refine ⟨fun hc => absurd hc (by decide), fun _ => ?_⟩ | refine ⟨fun _ => ?_, fun hc => absurd (by decide) hc⟩ | refine ⟨fun _ => ?_, fun hc => absurd hc (by decide)⟩ | refine ⟨fun hc => absurd (by decide) hc, fun _ => ?_⟩); conv => whnf)
    try dsimp only
    rw [bI_0]
    refine ⟨fun h3 => ⟨trivial, no (by simp [h3])⟩, fun h3 => ?_⟩
    have h3 := Classical.not_not.mp h3
    rw [if_pos (by simp [h1, h2, h3])] at h
    obtain ⟨p', hp, rfl⟩ := idB_N h3 (by omega)
    rw [nc_N (by omega), nc_N (by omega), ← ms_at hS hi ht (by omega)] at h
    conv => whnf
    repeat ((first | refine ⟨zH_of _, ?_⟩ | refine ⟨trivial, ?_⟩ | refine ⟨rfl, ?_⟩ | refine ⟨fun hc => absurd hc (by decide), fun _ => ?_⟩ | refine ⟨fun _ => ?_, fun hc => absurd (by decide) hc⟩ | refine ⟨fun _ => ?_, fun hc => absurd hc (by decide)⟩ | refine ⟨fun hc => absurd (by decide) hc, fun _ => ?_⟩); conv => whnf)
    try dsimp only
    rw [at_N]
    refine ⟨vp_in_nI (show 27 * i' + 9 * t' + p' < 1080 by omega) (by decide), ?_⟩
    conv => whnf
    repeat ((first | refine ⟨zH_of _, ?_⟩ | refine ⟨trivial, ?_⟩ | refine ⟨rfl, ?_⟩ | refine ⟨fun hc => absurd hc (by decide), fun _ => ?_⟩ | refine ⟨fun _ => ?_, fun hc => absurd (by decide) hc⟩ | refine ⟨fun _ => ?_, fun hc => absurd hc (by decide)⟩ | refine ⟨fun hc => absurd (by decide) hc, fun _ => ?_⟩); conv => whnf)
    try dsimp only
    rw [nI_clamp (by omega)]
    exact h hC

