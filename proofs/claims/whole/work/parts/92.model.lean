/-! the reference: what is kept -/
theorem nI_nm {n : Nat} (h : n ≤ 40) : ¬ nI n = mI 1 := by
  have k : ∀ n, n < 41 → ¬ nI n = mI 1 := by decide
  exact k n (by omega)
def sp_X12_keeps : zSp := fun av w K => match av with
  | [.ref o] => o = 45 ∧ zH w.1 ∧ ∃ T, MT w.2.1 w.2.2 T ∧ ZT T ∧ ∀ wi' wl', FrM w.2.1 w.2.2 wi' wl' → MT wi' wl' (st_keeps T).1 → K (some (.int (st_keeps T).2)) (w.1, wi', wl')
  | _ => False
def rm_X12_keeps : Room := { frames := 0, cells := 0, slots := 0, locals := 0 }
def M_X12_keeps : zM := (k_X12_keeps, f_X12, [], ([], [], []), [], [(15, [true, true]), (46, [true, true])], 1, false, (false, 0, fun _ => 0), (0, 0))
theorem O_X12_keeps (l : Launch) : z_OK l RX12 cX12_keeps (headSpec (.code yX12_keeps cX12_keeps 2 (some .int) :: zTT) rm_X12_keeps).room M_X12_keeps := ⟨ok_X12_keeps, fo_X12, fun _ h => absurd h List.not_mem_nil, fun _ h => absurd h List.not_mem_nil, fun _ h => absurd h List.not_mem_nil, fun _ h => absurd h List.not_mem_nil, fun _ h => absurd h List.not_mem_nil, rfl, rfl⟩
theorem c_X12_keeps (l : Launch) : z_CS l yX12_keeps cX12_keeps 2 (some .int) rm_X12_keeps sp_X12_keeps := by
  refine z_meth (by decide) (Or.inr (Or.inl ⟨rfl, rfl⟩)) (fun h => by cases h) rfl (O_X12_keeps l) ?_
  intro av w K h
  match av, h with
  | [.ref o], h =>
    obtain ⟨rfl, ⟨r, hG⟩, ⟨d, q, c, A, kp, tx, tl⟩, hC, hZ, h⟩ := h
    obtain ⟨G, wi, wl⟩ := w
    subst hG
    try dsimp only at h hC hZ
    have hC := mt_fld (i := 11) (v := nI 0) hC (by decide)
    have hF0 : FrM wi wl (z_up wi 45 11 (nI 0)) wl := fm_fld
    refine ⟨Nat.le_of_ble_eq_true rfl, fun Jm hs => ?_⟩
    unfold st_keeps at h
    dsimp only at h
    refine hs 400 0 _ _ _ _ _ ?_
    conv => whnf
    repeat ((first | refine ⟨zH_of _, ?_⟩ | refine ⟨trivial, ?_⟩ | refine ⟨rfl, ?_⟩ | refine ⟨fun hc => absurd hc (by decide), fun _ => ?_⟩ | refine ⟨fun _ => ?_, fun hc => absurd (by decide) hc⟩ | refine ⟨fun _ => ?_, fun hc => absurd hc (by decide)⟩ | refine ⟨fun hc => absurd (by decide) hc, fun _ => ?_⟩); conv => whnf)
    try dsimp only
    generalize z_up wi 45 11 (nI 0) = wi0 at *
    have hS := mt_S hC
    have h40 := ms_40 hS
    rw [ms_c hS]
    have stay : ∀ {wi' : Nat → Nat → Int32}, (∀ y, y ≠ 45 → y ≠ 48 → y ≠ 49 → wi' y = wi0 y) → (∀ j, j ≠ 4 → wi' 45 j = wi0 45 j) → MS wi' d q c A := fun {wi'} h1 h2 => ms_fr hS (h1 46 (by decide) (by decide) (by decide)) (h2 1 (by decide)) (h2 2 (by decide)) (h1 47 (by decide) (by decide) (by decide))
    have side := up_ind (P := fun k => ∀ wi' : Nat → Nat → Int32, (∀ y, y ≠ 45 → y ≠ 48 → y ≠ 49 → wi' y = wi0 y) → (∀ j, j ≠ 4 → wi' 45 j = wi0 45 j) → wi' 45 4 = nI c → RW wi' 49 (27 * c) A → (∀ t, t < k → wi' 48 t = nI (d t)) → Jm 46 [some (.ref 45), some (.int (nI k))] [] (GC ++ (GM ++ r), wi', wl) 0 0) 3 (fun k hk ih => by
      intro wi' hF hI h4 hR hD
      have S2 := stay hF hI
      refine hs 400 46 _ _ _ _ _ ?_
      conv => whnf
      repeat ((first | refine ⟨zH_of _, ?_⟩ | refine ⟨trivial, ?_⟩ | refine ⟨rfl, ?_⟩ | refine ⟨fun hc => absurd hc (by decide), fun _ => ?_⟩ | refine ⟨fun _ => ?_, fun hc => absurd (by decide) hc⟩ | refine ⟨fun _ => ?_, fun hc => absurd hc (by decide)⟩ | refine ⟨fun hc => absurd (by decide) hc, fun _ => ?_⟩); conv => whnf)
      try dsimp only
      rw [ltN (by omega) (by omega)]
      refine ⟨fun hc => ?_, fun hc => ?_⟩
      · obtain rfl : k = 3 := by omega
        have h := h wi' wl (FrM_trans hF0 (fun y hy => ⟨hF y (by omega) (by omega) (by omega), rfl⟩)) ⟨S2, Or.inr ⟨rfl, h4, hD, hR, h40, ms_hd S2, ms_A S2⟩, xm_fr (mt_X hC) (hI 8 (by decide)) (hF 50 (by decide) (by decide) (by decide)), tm_fr (mt_T hC) (hI 10 (by decide)) rfl⟩
        rw [← ms_c S2] at h
        conv => whnf
        repeat ((first | refine ⟨zH_of _, ?_⟩ | refine ⟨trivial, ?_⟩ | refine ⟨rfl, ?_⟩ | refine ⟨fun hc => absurd hc (by decide), fun _ => ?_⟩ | refine ⟨fun _ => ?_, fun hc => absurd (by decide) hc⟩ | refine ⟨fun _ => ?_, fun hc => absurd hc (by decide)⟩ | refine ⟨fun hc => absurd (by decide) hc, fun _ => ?_⟩); conv => whnf)
        try dsimp only
        exact h
      · have ih := ih hc
        conv => whnf
        repeat ((first | refine ⟨zH_of _, ?_⟩ | refine ⟨trivial, ?_⟩ | refine ⟨rfl, ?_⟩ | refine ⟨fun hc => absurd hc (by decide), fun _ => ?_⟩ | refine ⟨fun _ => ?_, fun hc => absurd (by decide) hc⟩ | refine ⟨fun _ => ?_, fun hc => absurd hc (by decide)⟩ | refine ⟨fun hc => absurd (by decide) hc, fun _ => ?_⟩); conv => whnf)
        try dsimp only
        refine ⟨vp_in_nI (show k < 3 from hc) (by decide), ?_⟩
        conv => whnf
        repeat ((first | refine ⟨zH_of _, ?_⟩ | refine ⟨trivial, ?_⟩ | refine ⟨rfl, ?_⟩ | refine ⟨fun hc => absurd hc (by decide), fun _ => ?_⟩ | refine ⟨fun _ => ?_, fun hc => absurd (by decide) hc⟩ | refine ⟨fun _ => ?_, fun hc => absurd hc (by decide)⟩ | refine ⟨fun hc => absurd (by decide) hc, fun _ => ?_⟩); conv => whnf)
        try dsimp only
        refine ⟨vp_in_nI (show k < 3 from hc) (by decide), ?_⟩
        rw [nI_clamp (n := k) (by omega), ms_d S2 k hc]
        conv => whnf
        repeat ((first | refine ⟨zH_of _, ?_⟩ | refine ⟨trivial, ?_⟩ | refine ⟨rfl, ?_⟩ | refine ⟨fun hc => absurd hc (by decide), fun _ => ?_⟩ | refine ⟨fun _ => ?_, fun hc => absurd (by decide) hc⟩ | refine ⟨fun _ => ?_, fun hc => absurd hc (by decide)⟩ | refine ⟨fun hc => absurd (by decide) hc, fun _ => ?_⟩); conv => whnf)
        try dsimp only
        rw [nI_add]
        refine ih _ (fun y g1 g2 g3 => by rw [z_up_ne g2, hF y g1 g2 g3]) (fun j hj => by rw [z_up_ne (by decide), hI j hj]) (by rw [z_up_ne (by decide)]; exact h4) (fun j hj => by rw [z_up_ne (by decide)]; exact hR j hj) (fun t ht => ?_)
        by_cases e : t = k
        · rw [e, z_up_eq]
        · rw [z_up_nei e]
          exact hD t (by omega))
    have copy := up_ind (P := fun k => ∀ wi' : Nat → Nat → Int32, (∀ y, y ≠ 45 → y ≠ 48 → y ≠ 49 → wi' y = wi0 y) → (∀ j, j ≠ 4 → wi' 45 j = wi0 45 j) → wi' 45 4 = nI c → RW wi' 49 k A → Jm 15 [some (.ref 45), some (.int (nI k))] [] (GC ++ (GM ++ r), wi', wl) 0 0) (27 * c) (fun k hk ih => by
      intro wi' hF hI h4 hR
      have S2 := stay hF hI
      refine hs 400 15 _ _ _ _ _ ?_
      conv => whnf
      repeat ((first | refine ⟨zH_of _, ?_⟩ | refine ⟨trivial, ?_⟩ | refine ⟨rfl, ?_⟩ | refine ⟨fun hc => absurd hc (by decide), fun _ => ?_⟩ | refine ⟨fun _ => ?_, fun hc => absurd (by decide) hc⟩ | refine ⟨fun _ => ?_, fun hc => absurd hc (by decide)⟩ | refine ⟨fun hc => absurd (by decide) hc, fun _ => ?_⟩); conv => whnf)
      try dsimp only
      rw [ms_c S2, pk_mul, ltN (by omega) (by omega)]
      refine ⟨fun hc => ?_, fun hc => ?_⟩
      · obtain rfl : k = 27 * c := by omega
        conv => whnf
        repeat ((first | refine ⟨zH_of _, ?_⟩ | refine ⟨trivial, ?_⟩ | refine ⟨rfl, ?_⟩ | refine ⟨fun hc => absurd hc (by decide), fun _ => ?_⟩ | refine ⟨fun _ => ?_, fun hc => absurd (by decide) hc⟩ | refine ⟨fun _ => ?_, fun hc => absurd hc (by decide)⟩ | refine ⟨fun hc => absurd (by decide) hc, fun _ => ?_⟩); conv => whnf)
        try dsimp only
        exact side 0 (Nat.zero_le _) wi' hF hI h4 hR (fun t ht => absurd ht (Nat.not_lt_zero t))
      · have ih := ih hc
        conv => whnf
        repeat ((first | refine ⟨zH_of _, ?_⟩ | refine ⟨trivial, ?_⟩ | refine ⟨rfl, ?_⟩ | refine ⟨fun hc => absurd hc (by decide), fun _ => ?_⟩ | refine ⟨fun _ => ?_, fun hc => absurd (by decide) hc⟩ | refine ⟨fun _ => ?_, fun hc => absurd hc (by decide)⟩ | refine ⟨fun hc => absurd (by decide) hc, fun _ => ?_⟩); conv => whnf)
        try dsimp only
        refine ⟨vp_in_nI (show k < 1080 by omega) (by decide), ?_⟩
        conv => whnf
        repeat ((first | refine ⟨zH_of _, ?_⟩ | refine ⟨trivial, ?_⟩ | refine ⟨rfl, ?_⟩ | refine ⟨fun hc => absurd hc (by decide), fun _ => ?_⟩ | refine ⟨fun _ => ?_, fun hc => absurd (by decide) hc⟩ | refine ⟨fun _ => ?_, fun hc => absurd hc (by decide)⟩ | refine ⟨fun hc => absurd (by decide) hc, fun _ => ?_⟩); conv => whnf)
        try dsimp only
        refine ⟨vp_in_nI (show k < 1080 by omega) (by decide), ?_⟩
        rw [nI_clamp (n := k) (by omega), ms_f S2 k hc]
        conv => whnf
        repeat ((first | refine ⟨zH_of _, ?_⟩ | refine ⟨trivial, ?_⟩ | refine ⟨rfl, ?_⟩ | refine ⟨fun hc => absurd hc (by decide), fun _ => ?_⟩ | refine ⟨fun _ => ?_, fun hc => absurd (by decide) hc⟩ | refine ⟨fun _ => ?_, fun hc => absurd hc (by decide)⟩ | refine ⟨fun hc => absurd (by decide) hc, fun _ => ?_⟩); conv => whnf)
        try dsimp only
        rw [nI_add]
        refine ih _ (fun y g1 g2 g3 => by rw [z_up_ne g3, hF y g1 g2 g3]) (fun j hj => by rw [z_up_ne (by decide), hI j hj]) (by rw [z_up_ne (by decide)]; exact h4) (fun j hj => ?_)
        by_cases e : j = k
        · rw [e, z_up_eq]
        · rw [z_up_nei e]
          exact hR j (by omega))
    conv => whnf
    repeat ((first | refine ⟨zH_of _, ?_⟩ | refine ⟨trivial, ?_⟩ | refine ⟨rfl, ?_⟩ | refine ⟨fun hc => absurd hc (by decide), fun _ => ?_⟩ | refine ⟨fun _ => ?_, fun hc => absurd (by decide) hc⟩ | refine ⟨fun _ => ?_, fun hc => absurd hc (by decide)⟩ | refine ⟨fun hc => absurd (by decide) hc, fun _ => ?_⟩); conv => whnf)
    try dsimp only
    exact copy 0 (Nat.zero_le _) _ (fun y g1 _ _ => z_up_ne g1) (fun j hj => z_up_nei hj) z_up_eq (fun j hj => absurd hj (Nat.not_lt_zero j))
def sp_X12_isKeptSo : zSp := fun av w K => match av with
  | [.ref o] => o = 45 ∧ zH w.1 ∧ ∃ d q c A d2, MS w.2.1 d q c A ∧ (∀ t, t < 3 → w.2.1 48 t = nI (d2 t)) ∧ (∀ t, t < 3 → 1 ≤ d2 t ∧ d2 t ≤ 3) ∧ K (some (.int (bI (shB d d2 = true)))) w
  | _ => False
def rm_X12_isKeptSo : Room := { frames := 0, cells := 0, slots := 0, locals := 0 }
def M_X12_isKeptSo : zM := (k_X12_isKeptSo, f_X12, [], ([], [], []), [], [], 2, false, (false, 0, fun _ => 0), (0, 0))
theorem O_X12_isKeptSo (l : Launch) : z_OK l RX12 cX12_isKeptSo (headSpec (.code yX12_isKeptSo cX12_isKeptSo 1 (some .boolean) :: zTT) rm_X12_isKeptSo).room M_X12_isKeptSo := ⟨ok_X12_isKeptSo, fo_X12, fun _ h => absurd h List.not_mem_nil, fun _ h => absurd h List.not_mem_nil, fun _ h => absurd h List.not_mem_nil, fun _ h => absurd h List.not_mem_nil, fun _ h => absurd h List.not_mem_nil, rfl, rfl⟩
theorem c_X12_isKeptSo (l : Launch) : z_CS l yX12_isKeptSo cX12_isKeptSo 1 (some .boolean) rm_X12_isKeptSo sp_X12_isKeptSo := by
  refine z_meth (by decide) (Or.inr (Or.inr (Or.inl ⟨rfl, rfl⟩))) (fun h => by cases h) rfl (O_X12_isKeptSo l) ?_
  intro av w K h
  match av, h with
  | [.ref o], h =>
    obtain ⟨rfl, ⟨r, hG⟩, d, q, c, A, d2, hS, hD, h2, h⟩ := h
    obtain ⟨G, wi, wl⟩ := w
    subst hG
    try dsimp only at h hS hD
    have hd := ms_hd hS
    have x0 := hd 0 (by decide)
    have x1 := hd 1 (by decide)
    have x2 := hd 2 (by decide)
    have y0 := h2 0 (by decide)
    have y1 := h2 1 (by decide)
    have y2 := h2 2 (by decide)
    refine ⟨Nat.le_of_ble_eq_true rfl, fun Jm hs => hs 400 0 _ _ _ _ _ ?_⟩
    have no : ¬ shB d d2 = true → K (some (.int (nI 0))) (GC ++ (GM ++ r), wi, wl) := fun z => by
      rw [bI_f z] at h
      exact h
    have sh : shB d d2 = true ↔ d 0 = d2 0 ∧ d 1 = d2 1 ∧ d 2 = d2 2 := by
      unfold shB
      rw [Bool.and_eq_true, Bool.and_eq_true, beq_iff_eq, beq_iff_eq, beq_iff_eq]
      exact ⟨fun z => ⟨z.1.1, z.1.2, z.2⟩, fun z => ⟨⟨z.1, z.2.1⟩, z.2.2⟩⟩
    conv => whnf
    repeat ((first | refine ⟨zH_of _, ?_⟩ | refine ⟨trivial, ?_⟩ | refine ⟨rfl, ?_⟩ | refine ⟨fun hc => absurd hc (by decide), fun _ => ?_⟩ | refine ⟨fun _ => ?_, fun hc => absurd (by decide) hc⟩ | refine ⟨fun _ => ?_, fun hc => absurd hc (by decide)⟩ | refine ⟨fun hc => absurd (by decide) hc, fun _ => ?_⟩); conv => whnf)
    try dsimp only
    refine ⟨vp_in_nI (show 0 < 3 by decide) (by decide), ?_⟩
    conv => whnf
    repeat ((first | refine ⟨zH_of _, ?_⟩ | refine ⟨trivial, ?_⟩ | refine ⟨rfl, ?_⟩ | refine ⟨fun hc => absurd hc (by decide), fun _ => ?_⟩ | refine ⟨fun _ => ?_, fun hc => absurd (by decide) hc⟩ | refine ⟨fun _ => ?_, fun hc => absurd hc (by decide)⟩ | refine ⟨fun hc => absurd (by decide) hc, fun _ => ?_⟩); conv => whnf)
    try dsimp only
    refine ⟨vp_in_nI (show 0 < 3 by decide) (by decide), ?_⟩
    conv => whnf
    repeat ((first | refine ⟨zH_of _, ?_⟩ | refine ⟨trivial, ?_⟩ | refine ⟨rfl, ?_⟩ | refine ⟨fun hc => absurd hc (by decide), fun _ => ?_⟩ | refine ⟨fun _ => ?_, fun hc => absurd (by decide) hc⟩ | refine ⟨fun _ => ?_, fun hc => absurd hc (by decide)⟩ | refine ⟨fun hc => absurd (by decide) hc, fun _ => ?_⟩); conv => whnf)
    try dsimp only
    rw [nI_clamp (n := 0) (by decide), ms_d hS 0 (by decide), hD 0 (by decide), nI_eq (by omega) (by omega)]
    refine ⟨fun h1 => ?_, fun h1 => ?_⟩
    · conv => whnf
      repeat ((first | refine ⟨zH_of _, ?_⟩ | refine ⟨trivial, ?_⟩ | refine ⟨rfl, ?_⟩ | refine ⟨fun hc => absurd hc (by decide), fun _ => ?_⟩ | refine ⟨fun _ => ?_, fun hc => absurd (by decide) hc⟩ | refine ⟨fun _ => ?_, fun hc => absurd hc (by decide)⟩ | refine ⟨fun hc => absurd (by decide) hc, fun _ => ?_⟩); conv => whnf)
      try dsimp only
      exact ⟨Or.inl rfl, no (fun z => h1 (sh.mp z).1.symm)⟩
    conv => whnf
    repeat ((first | refine ⟨zH_of _, ?_⟩ | refine ⟨trivial, ?_⟩ | refine ⟨rfl, ?_⟩ | refine ⟨fun hc => absurd hc (by decide), fun _ => ?_⟩ | refine ⟨fun _ => ?_, fun hc => absurd (by decide) hc⟩ | refine ⟨fun _ => ?_, fun hc => absurd hc (by decide)⟩ | refine ⟨fun hc => absurd (by decide) hc, fun _ => ?_⟩); conv => whnf)
    try dsimp only
    refine ⟨vp_in_nI (show 1 < 3 by decide) (by decide), ?_⟩
    conv => whnf
    repeat ((first | refine ⟨zH_of _, ?_⟩ | refine ⟨trivial, ?_⟩ | refine ⟨rfl, ?_⟩ | refine ⟨fun hc => absurd hc (by decide), fun _ => ?_⟩ | refine ⟨fun _ => ?_, fun hc => absurd (by decide) hc⟩ | refine ⟨fun _ => ?_, fun hc => absurd hc (by decide)⟩ | refine ⟨fun hc => absurd (by decide) hc, fun _ => ?_⟩); conv => whnf)
    try dsimp only
    refine ⟨vp_in_nI (show 1 < 3 by decide) (by decide), ?_⟩
    conv => whnf
    repeat ((first | refine ⟨zH_of _, ?_⟩ | refine ⟨trivial, ?_⟩ | refine ⟨rfl, ?_⟩ | refine ⟨fun hc => absurd hc (by decide), fun _ => ?_⟩ | refine ⟨fun _ => ?_, fun hc => absurd (by decide) hc⟩ | refine ⟨fun _ => ?_, fun hc => absurd hc (by decide)⟩ | refine ⟨fun hc => absurd (by decide) hc, fun _ => ?_⟩); conv => whnf)
    try dsimp only
    rw [nI_clamp (n := 1) (by decide), ms_d hS 1 (by decide), hD 1 (by decide), nI_eq (by omega) (by omega)]
    refine ⟨fun h1 => ?_, fun h2 => ?_⟩
    · conv => whnf
      repeat ((first | refine ⟨zH_of _, ?_⟩ | refine ⟨trivial, ?_⟩ | refine ⟨rfl, ?_⟩ | refine ⟨fun hc => absurd hc (by decide), fun _ => ?_⟩ | refine ⟨fun _ => ?_, fun hc => absurd (by decide) hc⟩ | refine ⟨fun _ => ?_, fun hc => absurd hc (by decide)⟩ | refine ⟨fun hc => absurd (by decide) hc, fun _ => ?_⟩); conv => whnf)
      try dsimp only
      exact ⟨Or.inl rfl, no (fun z => h1 (sh.mp z).2.1.symm)⟩
    conv => whnf
    repeat ((first | refine ⟨zH_of _, ?_⟩ | refine ⟨trivial, ?_⟩ | refine ⟨rfl, ?_⟩ | refine ⟨fun hc => absurd hc (by decide), fun _ => ?_⟩ | refine ⟨fun _ => ?_, fun hc => absurd (by decide) hc⟩ | refine ⟨fun _ => ?_, fun hc => absurd hc (by decide)⟩ | refine ⟨fun hc => absurd (by decide) hc, fun _ => ?_⟩); conv => whnf)
    try dsimp only
    refine ⟨vp_in_nI (show 2 < 3 by decide) (by decide), ?_⟩
    conv => whnf
    repeat ((first | refine ⟨zH_of _, ?_⟩ | refine ⟨trivial, ?_⟩ | refine ⟨rfl, ?_⟩ | refine ⟨fun hc => absurd hc (by decide), fun _ => ?_⟩ | refine ⟨fun _ => ?_, fun hc => absurd (by decide) hc⟩ | refine ⟨fun _ => ?_, fun hc => absurd hc (by decide)⟩ | refine ⟨fun hc => absurd (by decide) hc, fun _ => ?_⟩); conv => whnf)
    try dsimp only
    refine ⟨vp_in_nI (show 2 < 3 by decide) (by decide), ?_⟩
    conv => whnf
    repeat ((first | refine ⟨zH_of _, ?_⟩ | refine ⟨trivial, ?_⟩ | refine ⟨rfl, ?_⟩ | refine ⟨fun hc => absurd hc (by decide), fun _ => ?_⟩ | refine ⟨fun _ => ?_, fun hc => absurd (by decide) hc⟩ | refine ⟨fun _ => ?_, fun hc => absurd hc (by decide)⟩ | refine ⟨fun hc => absurd (by decide) hc, fun _ => ?_⟩); conv => whnf)
    try dsimp only
    rw [nI_clamp (n := 2) (by decide), ms_d hS 2 (by decide), hD 2 (by decide), nI_eq (by omega) (by omega)]
    refine ⟨fun h1 => ?_, fun h3 => ?_⟩
    · conv => whnf
      repeat ((first | refine ⟨zH_of _, ?_⟩ | refine ⟨trivial, ?_⟩ | refine ⟨rfl, ?_⟩ | refine ⟨fun hc => absurd hc (by decide), fun _ => ?_⟩ | refine ⟨fun _ => ?_, fun hc => absurd (by decide) hc⟩ | refine ⟨fun _ => ?_, fun hc => absurd hc (by decide)⟩ | refine ⟨fun hc => absurd (by decide) hc, fun _ => ?_⟩); conv => whnf)
      try dsimp only
      exact ⟨Or.inl rfl, no (fun z => h1 (sh.mp z).2.2.symm)⟩
    rw [bI_t (sh.mpr ⟨h1.symm, h2.symm, h3.symm⟩)] at h
    conv => whnf
    repeat ((first | refine ⟨zH_of _, ?_⟩ | refine ⟨trivial, ?_⟩ | refine ⟨rfl, ?_⟩ | refine ⟨fun hc => absurd hc (by decide), fun _ => ?_⟩ | refine ⟨fun _ => ?_, fun hc => absurd (by decide) hc⟩ | refine ⟨fun _ => ?_, fun hc => absurd hc (by decide)⟩ | refine ⟨fun hc => absurd (by decide) hc, fun _ => ?_⟩); conv => whnf)
    try dsimp only
    exact ⟨Or.inr rfl, h⟩
theorem sh_d {d d2 : Nat → Nat} (h : shB d d2 = true) : ∀ t, t < 3 → d t = d2 t := fun t ht => by
  unfold shB at h
  rw [Bool.and_eq_true, Bool.and_eq_true, beq_iff_eq, beq_iff_eq, beq_iff_eq] at h
  rcases lt3 ht with rfl | rfl | rfl
  · exact h.1.1
  · exact h.1.2
  · exact h.2
def sp_X12_others : zSp := fun av w K => match av with
  | [.ref o] => o = 45 ∧ zH w.1 ∧ ∃ T, MT w.2.1 w.2.2 T ∧ ZT T ∧ ∀ wi' wl', FrM w.2.1 w.2.2 wi' wl' → MT wi' wl' (st_others T).1 → K (some (.int (st_others T).2)) (w.1, wi', wl')
  | _ => False
def rm_X12_others : Room := { frames := 4, cells := 0, slots := 0, locals := 102 }
def M_X12_others : zM := (k_X12_others, f_X12, [(342, 4, 10, 1, 0, 0, sp_X12_isKeptSo), (319, 4, 10, 5, 0, 0, sp_X12_without), (192, 4, 10, 2, 0, 0, sp_X12_tell)], ([], [], []), [], [], 1, false, (false, 0, fun _ => 0), (0, 0))
theorem ca_X12_others_0 (l : Launch) : z_cok l RX12 (headSpec (.code yX12_others cX12_others 2 (some .int) :: zTT) rm_X12_others).room (342, 4, 10, 1, 0, 0, sp_X12_isKeptSo) := z_ca4 (c_X12_isKeptSo l) mb_X12_isKeptSo ⟨_, rfl, rfl⟩ wt_1628 wt_1630 wt_84 (by decide)
theorem ca_X12_others_1 (l : Launch) : z_cok l RX12 (headSpec (.code yX12_others cX12_others 2 (some .int) :: zTT) rm_X12_others).room (319, 4, 10, 5, 0, 0, sp_X12_without) := z_ca4 (c_X12_without l) mb_X12_without ⟨_, rfl, rfl⟩ wt_1589 wt_1591 wt_80 (by decide)
theorem ca_X12_others_2 (l : Launch) : z_cok l RX12 (headSpec (.code yX12_others cX12_others 2 (some .int) :: zTT) rm_X12_others).room (192, 4, 10, 2, 0, 0, sp_X12_tell) := z_ca4 (c_X12_tell l) mb_X12_tell ⟨_, rfl, rfl⟩ wt_1369 wt_1371 wt_49 (by decide)
theorem O_X12_others (l : Launch) : z_OK l RX12 cX12_others (headSpec (.code yX12_others cX12_others 2 (some .int) :: zTT) rm_X12_others).room M_X12_others := ⟨ok_X12_others, fo_X12, List.forall_mem_cons.mpr ⟨ca_X12_others_0 l, List.forall_mem_cons.mpr ⟨ca_X12_others_1 l, List.forall_mem_cons.mpr ⟨ca_X12_others_2 l, fun _ h => absurd h List.not_mem_nil⟩⟩⟩, fun _ h => absurd h List.not_mem_nil, fun _ h => absurd h List.not_mem_nil, fun _ h => absurd h List.not_mem_nil, fun _ h => absurd h List.not_mem_nil, rfl, rfl⟩
theorem c_X12_others (l : Launch) : z_CS l yX12_others cX12_others 2 (some .int) rm_X12_others sp_X12_others := by
  refine z_meth (by decide) (Or.inr (Or.inl ⟨rfl, rfl⟩)) (fun h => by cases h) rfl (O_X12_others l) ?_
  intro av w K h
  match av, h with
  | [.ref o], h =>
    obtain ⟨rfl, ⟨r, hG⟩, ⟨d, q, c, A, ⟨kf, d2, c2, B⟩, tx, tl⟩, hC, hZ, h⟩ := h
    obtain ⟨G, wi, wl⟩ := w
    subst hG
    try dsimp only at h hC hZ
    have hC := mt_fld (i := 11) (v := nI 0) hC (by decide)
    have hF0 : FrM wi wl (z_up wi 45 11 (nI 0)) wl := fm_fld
    refine ⟨Nat.le_of_ble_eq_true rfl, fun Jm hs => ?_⟩
    unfold st_others kpM wTl at h
    dsimp only at h
    refine hs 400 0 _ _ _ _ _ ?_
    conv => whnf
    repeat ((first | refine ⟨zH_of _, ?_⟩ | refine ⟨trivial, ?_⟩ | refine ⟨rfl, ?_⟩ | refine ⟨fun hc => absurd hc (by decide), fun _ => ?_⟩ | refine ⟨fun _ => ?_, fun hc => absurd (by decide) hc⟩ | refine ⟨fun _ => ?_, fun hc => absurd hc (by decide)⟩ | refine ⟨fun hc => absurd (by decide) hc, fun _ => ?_⟩); conv => whnf)
    try dsimp only
    generalize z_up wi 45 11 (nI 0) = wi0 at *
    have hS := mt_S hC
    have h40 := ms_40 hS
    rcases mt_K hC with ⟨k1, k2⟩ | ⟨k1, k2, k3, k4, k5, k6, k7⟩
    · dsimp only at k1
      subst k1
      rw [if_neg (by decide)] at h
      rw [k2]
      exact ⟨fun z => absurd rfl z, fun _ => ⟨trivial, h wi0 wl hF0 hC⟩⟩
    dsimp only at k1 k2 k3 k4 k5 k6 k7
    subst k1
    rw [if_pos rfl] at h
    rw [k2]
    refine ⟨fun _ => ?_, fun z => absurd z (nI_nm k5)⟩
    conv => whnf
    repeat ((first | refine ⟨zH_of _, ?_⟩ | refine ⟨trivial, ?_⟩ | refine ⟨rfl, ?_⟩ | refine ⟨fun hc => absurd hc (by decide), fun _ => ?_⟩ | refine ⟨fun _ => ?_, fun hc => absurd (by decide) hc⟩ | refine ⟨fun _ => ?_, fun hc => absurd hc (by decide)⟩ | refine ⟨fun hc => absurd (by decide) hc, fun _ => ?_⟩); conv => whnf)
    try dsimp only
    refine ⟨d, q, c, A, d2, hS, k3, k6, ?_⟩
    conv => whnf
    repeat ((first | refine ⟨zH_of _, ?_⟩ | refine ⟨trivial, ?_⟩ | refine ⟨rfl, ?_⟩ | refine ⟨fun hc => absurd hc (by decide), fun _ => ?_⟩ | refine ⟨fun _ => ?_, fun hc => absurd (by decide) hc⟩ | refine ⟨fun _ => ?_, fun hc => absurd hc (by decide)⟩ | refine ⟨fun hc => absurd (by decide) hc, fun _ => ?_⟩); conv => whnf)
    try dsimp only
    rw [bI_0, Classical.not_not]
    refine ⟨fun hsh => ?_, fun hsh => ?_⟩
    · rw [if_neg hsh] at h
      have T1 : TF wi0 wl (z_up wi0 45 10 (nI 0)) wl := tf_fld (by decide)
      have M1 : TM (z_up wi0 45 10 (nI 0)) wl 0 (fun _ => 0) := tm_0
      have e2 : z_up wi0 45 10 (nI 0) 45 2 = nI c := by rw [z_up_nei (by decide)]; exact ms_c hS
      have e4 : z_up wi0 45 10 (nI 0) 45 4 = nI c2 := by rw [z_up_nei (by decide)]; exact k2
      rw [pk_sub (Nat.zero_le _)] at h
      conv => whnf
      repeat ((first | refine ⟨zH_of _, ?_⟩ | refine ⟨trivial, ?_⟩ | refine ⟨rfl, ?_⟩ | refine ⟨fun hc => absurd hc (by decide), fun _ => ?_⟩ | refine ⟨fun _ => ?_, fun hc => absurd (by decide) hc⟩ | refine ⟨fun _ => ?_, fun hc => absurd hc (by decide)⟩ | refine ⟨fun hc => absurd (by decide) hc, fun _ => ?_⟩); conv => whnf)
      try dsimp only
      rw [ms_c hS]
      conv => whnf
      repeat ((first | refine ⟨zH_of _, ?_⟩ | refine ⟨trivial, ?_⟩ | refine ⟨rfl, ?_⟩ | refine ⟨fun hc => absurd hc (by decide), fun _ => ?_⟩ | refine ⟨fun _ => ?_, fun hc => absurd (by decide) hc⟩ | refine ⟨fun _ => ?_, fun hc => absurd hc (by decide)⟩ | refine ⟨fun hc => absurd (by decide) hc, fun _ => ?_⟩); conv => whnf)
      try dsimp only
      generalize z_up wi0 45 10 (nI 0) = wi1 at *
      rw [e2, e4, pk_sub (Nat.le_refl c), Nat.sub_self, pk_sub (Nat.zero_le _), nI_l (by omega)]
      refine ⟨0, _, M1, by decide, fun wi2 wl2 a1 a2 a3 M2 => ?_⟩
      have T2 := tf_trans T1 (tf_tell a1 a2 a3)
      conv => whnf
      repeat ((first | refine ⟨zH_of _, ?_⟩ | refine ⟨trivial, ?_⟩ | refine ⟨rfl, ?_⟩ | refine ⟨fun hc => absurd hc (by decide), fun _ => ?_⟩ | refine ⟨fun _ => ?_, fun hc => absurd (by decide) hc⟩ | refine ⟨fun _ => ?_, fun hc => absurd hc (by decide)⟩ | refine ⟨fun hc => absurd (by decide) hc, fun _ => ?_⟩); conv => whnf)
      try dsimp only
      exact h wi2 wl2 (FrM_trans hF0 (tf_fr T2)) (tf_mt T2 hC M2)
    · rw [if_pos hsh] at h
      have m1 := tk_le (fun i k => alB q A i B k) c2 c
      have m2 := fb_ct_le (tkB (fun i k => alB q A i B k) c2 c) c2
      unfold mtN at h
      conv => whnf
      repeat ((first | refine ⟨zH_of _, ?_⟩ | refine ⟨trivial, ?_⟩ | refine ⟨rfl, ?_⟩ | refine ⟨fun hc => absurd hc (by decide), fun _ => ?_⟩ | refine ⟨fun _ => ?_, fun hc => absurd (by decide) hc⟩ | refine ⟨fun _ => ?_, fun hc => absurd hc (by decide)⟩ | refine ⟨fun hc => absurd (by decide) hc, fun _ => ?_⟩); conv => whnf)
      try dsimp only
      refine ⟨Or.inr rfl, d, q, c, A, c2, B, hS, ms_c hS, k2, k5, k4, k7, fun wi1 hF1 => ?_⟩
      generalize fb_ct (tkB (fun i k => alB q A i B k) c2 c) c2 = n at *
      have T1 : TF wi1 wl (z_up wi1 45 10 (nI 0)) wl := tf_fld (by decide)
      have M1 : TM (z_up wi1 45 10 (nI 0)) wl 0 (fun _ => 0) := tm_0
      have e2 : z_up wi1 45 10 (nI 0) 45 2 = nI c := by rw [z_up_nei (by decide), hF1 45 (by decide)]; exact ms_c hS
      have e4 : z_up wi1 45 10 (nI 0) 45 4 = nI c2 := by rw [z_up_nei (by decide), hF1 45 (by decide)]; exact k2
      have hC1 : MT wi1 wl (d, q, c, A, (true, d2, c2, B), tx, tl) := mt_same hC (fun i hi => by rw [hF1 45 (by decide)]) (fun y hy => hF1 y (by omega)) rfl
      rw [pk_sub m1] at h
      conv => whnf
      repeat ((first | refine ⟨zH_of _, ?_⟩ | refine ⟨trivial, ?_⟩ | refine ⟨rfl, ?_⟩ | refine ⟨fun hc => absurd hc (by decide), fun _ => ?_⟩ | refine ⟨fun _ => ?_, fun hc => absurd (by decide) hc⟩ | refine ⟨fun _ => ?_, fun hc => absurd hc (by decide)⟩ | refine ⟨fun hc => absurd (by decide) hc, fun _ => ?_⟩); conv => whnf)
      try dsimp only
      generalize z_up wi1 45 10 (nI 0) = wi3 at *
      rw [e2, e4, pk_sub (Nat.sub_le c n), show c - (c - n) = n by omega, pk_sub m2, nI_l (by omega)]
      refine ⟨0, _, M1, by decide, fun wi2 wl2 a1 a2 a3 M2 => ?_⟩
      have T2 := tf_trans T1 (tf_tell a1 a2 a3)
      conv => whnf
      repeat ((first | refine ⟨zH_of _, ?_⟩ | refine ⟨trivial, ?_⟩ | refine ⟨rfl, ?_⟩ | refine ⟨fun hc => absurd hc (by decide), fun _ => ?_⟩ | refine ⟨fun _ => ?_, fun hc => absurd (by decide) hc⟩ | refine ⟨fun _ => ?_, fun hc => absurd hc (by decide)⟩ | refine ⟨fun hc => absurd (by decide) hc, fun _ => ?_⟩); conv => whnf)
      try dsimp only
      exact h wi2 wl2 (FrM_trans hF0 (FrM_trans (fun y hy => ⟨hF1 y (by omega), rfl⟩) (tf_fr T2))) (tf_mt T2 hC1 M2)
def sp_X12_back : zSp := fun av w K => match av with
  | [.ref o] => o = 45 ∧ zH w.1 ∧ ∃ T, MT w.2.1 w.2.2 T ∧ ZT T ∧ ∀ wi' wl', FrM w.2.1 w.2.2 wi' wl' → MT wi' wl' (st_back T).1 → K (some (.int (st_back T).2)) (w.1, wi', wl')
  | _ => False
def rm_X12_back : Room := { frames := 1, cells := 0, slots := 0, locals := 20 }
def M_X12_back : zM := (k_X12_back, f_X12, [(342, 4, 10, 1, 0, 0, sp_X12_isKeptSo)], ([], [], []), [], [(36, [true, true])], 1, false, (false, 0, fun _ => 0), (0, 0))
theorem ca_X12_back_0 (l : Launch) : z_cok l RX12 (headSpec (.code yX12_back cX12_back 2 (some .int) :: zTT) rm_X12_back).room (342, 4, 10, 1, 0, 0, sp_X12_isKeptSo) := z_ca4 (c_X12_isKeptSo l) mb_X12_isKeptSo ⟨_, rfl, rfl⟩ wt_1628 wt_1630 wt_84 (by decide)
theorem O_X12_back (l : Launch) : z_OK l RX12 cX12_back (headSpec (.code yX12_back cX12_back 2 (some .int) :: zTT) rm_X12_back).room M_X12_back := ⟨ok_X12_back, fo_X12, List.forall_mem_cons.mpr ⟨ca_X12_back_0 l, fun _ h => absurd h List.not_mem_nil⟩, fun _ h => absurd h List.not_mem_nil, fun _ h => absurd h List.not_mem_nil, fun _ h => absurd h List.not_mem_nil, fun _ h => absurd h List.not_mem_nil, rfl, rfl⟩
theorem c_X12_back (l : Launch) : z_CS l yX12_back cX12_back 2 (some .int) rm_X12_back sp_X12_back := by
  refine z_meth (by decide) (Or.inr (Or.inl ⟨rfl, rfl⟩)) (fun h => by cases h) rfl (O_X12_back l) ?_
  intro av w K h
  match av, h with
  | [.ref o], h =>
    obtain ⟨rfl, ⟨r, hG⟩, ⟨d, q, c, A, ⟨kf, d2, c2, B⟩, tx, tl⟩, hC, hZ, h⟩ := h
    obtain ⟨G, wi, wl⟩ := w
    subst hG
    try dsimp only at h hC hZ
    have hC := mt_fld (i := 11) (v := nI 0) hC (by decide)
    have hF0 : FrM wi wl (z_up wi 45 11 (nI 0)) wl := fm_fld
    refine ⟨Nat.le_of_ble_eq_true rfl, fun Jm hs => ?_⟩
    unfold st_back at h
    dsimp only at h
    refine hs 400 0 _ _ _ _ _ ?_
    conv => whnf
    repeat ((first | refine ⟨zH_of _, ?_⟩ | refine ⟨trivial, ?_⟩ | refine ⟨rfl, ?_⟩ | refine ⟨fun hc => absurd hc (by decide), fun _ => ?_⟩ | refine ⟨fun _ => ?_, fun hc => absurd (by decide) hc⟩ | refine ⟨fun _ => ?_, fun hc => absurd hc (by decide)⟩ | refine ⟨fun hc => absurd (by decide) hc, fun _ => ?_⟩); conv => whnf)
    try dsimp only
    generalize z_up wi 45 11 (nI 0) = wi0 at *
    have hS := mt_S hC
    rcases mt_K hC with ⟨k1, k2⟩ | ⟨k1, k2, k3, k4, k5, k6, k7⟩
    · dsimp only at k1
      subst k1
      rw [if_neg (by decide)] at h
      rw [k2]
      exact ⟨fun z => absurd rfl z, fun _ => ⟨trivial, h wi0 wl hF0 hC⟩⟩
    dsimp only at k1 k2 k3 k4 k5 k6 k7
    subst k1
    rw [if_pos rfl] at h
    rw [k2]
    refine ⟨fun _ => ?_, fun z => absurd z (nI_nm k5)⟩
    conv => whnf
    repeat ((first | refine ⟨zH_of _, ?_⟩ | refine ⟨trivial, ?_⟩ | refine ⟨rfl, ?_⟩ | refine ⟨fun hc => absurd hc (by decide), fun _ => ?_⟩ | refine ⟨fun _ => ?_, fun hc => absurd (by decide) hc⟩ | refine ⟨fun _ => ?_, fun hc => absurd hc (by decide)⟩ | refine ⟨fun hc => absurd (by decide) hc, fun _ => ?_⟩); conv => whnf)
    try dsimp only
    refine ⟨d, q, c, A, d2, hS, k3, k6, ?_⟩
    conv => whnf
    repeat ((first | refine ⟨zH_of _, ?_⟩ | refine ⟨trivial, ?_⟩ | refine ⟨rfl, ?_⟩ | refine ⟨fun hc => absurd hc (by decide), fun _ => ?_⟩ | refine ⟨fun _ => ?_, fun hc => absurd (by decide) hc⟩ | refine ⟨fun _ => ?_, fun hc => absurd hc (by decide)⟩ | refine ⟨fun hc => absurd (by decide) hc, fun _ => ?_⟩); conv => whnf)
    try dsimp only
    rw [bI_0, Classical.not_not]
    refine ⟨fun hsh => ?_, fun hsh => ?_⟩
    case refine_2 =>
      rw [if_neg hsh] at h
      exact ⟨trivial, h wi0 wl hF0 hC⟩
    rw [if_pos hsh] at h
    have dd := sh_d hsh
    have loop := up_ind (P := fun k => ∀ wi' : Nat → Nat → Int32, (∀ y, y ≠ 45 → y ≠ 47 → wi' y = wi0 y) → (∀ j, j ≠ 2 → wi' 45 j = wi0 45 j) → wi' 45 2 = nI c2 → RW wi' 47 k B → Jm 36 [some (.ref 45), some (.int (nI k))] [] (GC ++ (GM ++ r), wi', wl) 0 0) (27 * c2) (fun k hk ih => by
      intro wi' hF hI h2 hR
      refine hs 400 36 _ _ _ _ _ ?_
      conv => whnf
      repeat ((first | refine ⟨zH_of _, ?_⟩ | refine ⟨trivial, ?_⟩ | refine ⟨rfl, ?_⟩ | refine ⟨fun hc => absurd hc (by decide), fun _ => ?_⟩ | refine ⟨fun _ => ?_, fun hc => absurd (by decide) hc⟩ | refine ⟨fun _ => ?_, fun hc => absurd hc (by decide)⟩ | refine ⟨fun hc => absurd (by decide) hc, fun _ => ?_⟩); conv => whnf)
      try dsimp only
      rw [h2, pk_mul, ltN (by omega) (by omega)]
      refine ⟨fun hc => ?_, fun hc => ?_⟩
      · obtain rfl : k = 27 * c2 := by omega
        have S2 : MS wi' d2 q c2 B := ⟨fun t ht => by rw [hF 46 (by decide) (by decide), ms_d hS t ht, dd t ht], ⟨by rw [hI 1 (by decide)]; exact ms_q hS, h2⟩, hR, ms_q23 hS, k6, k5, k7⟩
        have h := h wi' wl (FrM_trans hF0 (FrM_of hF)) (mt_now hC S2 (fun i hi => hI i (by omega)) (fun y hy => hF y (by omega) (by omega)) rfl)
        rw [← h2] at h
        conv => whnf
        repeat ((first | refine ⟨zH_of _, ?_⟩ | refine ⟨trivial, ?_⟩ | refine ⟨rfl, ?_⟩ | refine ⟨fun hc => absurd hc (by decide), fun _ => ?_⟩ | refine ⟨fun _ => ?_, fun hc => absurd (by decide) hc⟩ | refine ⟨fun _ => ?_, fun hc => absurd hc (by decide)⟩ | refine ⟨fun hc => absurd (by decide) hc, fun _ => ?_⟩); conv => whnf)
        try dsimp only
        exact h
      · have ih := ih hc
        conv => whnf
        repeat ((first | refine ⟨zH_of _, ?_⟩ | refine ⟨trivial, ?_⟩ | refine ⟨rfl, ?_⟩ | refine ⟨fun hc => absurd hc (by decide), fun _ => ?_⟩ | refine ⟨fun _ => ?_, fun hc => absurd (by decide) hc⟩ | refine ⟨fun _ => ?_, fun hc => absurd hc (by decide)⟩ | refine ⟨fun hc => absurd (by decide) hc, fun _ => ?_⟩); conv => whnf)
        try dsimp only
        refine ⟨vp_in_nI (show k < 1080 by omega) (by decide), ?_⟩
        conv => whnf
        repeat ((first | refine ⟨zH_of _, ?_⟩ | refine ⟨trivial, ?_⟩ | refine ⟨rfl, ?_⟩ | refine ⟨fun hc => absurd hc (by decide), fun _ => ?_⟩ | refine ⟨fun _ => ?_, fun hc => absurd (by decide) hc⟩ | refine ⟨fun _ => ?_, fun hc => absurd hc (by decide)⟩ | refine ⟨fun hc => absurd (by decide) hc, fun _ => ?_⟩); conv => whnf)
        try dsimp only
        refine ⟨vp_in_nI (show k < 1080 by omega) (by decide), ?_⟩
        rw [nI_clamp (n := k) (by omega), hF 49 (by decide) (by decide), k4 k hc]
        conv => whnf
        repeat ((first | refine ⟨zH_of _, ?_⟩ | refine ⟨trivial, ?_⟩ | refine ⟨rfl, ?_⟩ | refine ⟨fun hc => absurd hc (by decide), fun _ => ?_⟩ | refine ⟨fun _ => ?_, fun hc => absurd (by decide) hc⟩ | refine ⟨fun _ => ?_, fun hc => absurd hc (by decide)⟩ | refine ⟨fun hc => absurd (by decide) hc, fun _ => ?_⟩); conv => whnf)
        try dsimp only
        rw [nI_add]
        refine ih _ (fun y g1 g2 => by rw [z_up_ne g2, hF y g1 g2]) (fun j hj => by rw [z_up_ne (by decide), hI j hj]) (by rw [z_up_ne (by decide)]; exact h2) (fun j hj => ?_)
        by_cases e : j = k
        · rw [e, z_up_eq]
        · rw [z_up_nei e]
          exact hR j (by omega))
    conv => whnf
    repeat ((first | refine ⟨zH_of _, ?_⟩ | refine ⟨trivial, ?_⟩ | refine ⟨rfl, ?_⟩ | refine ⟨fun hc => absurd hc (by decide), fun _ => ?_⟩ | refine ⟨fun _ => ?_, fun hc => absurd (by decide) hc⟩ | refine ⟨fun _ => ?_, fun hc => absurd hc (by decide)⟩ | refine ⟨fun hc => absurd (by decide) hc, fun _ => ?_⟩); conv => whnf)
    try dsimp only
    rw [k2]
    exact loop 0 (Nat.zero_le _) _ (fun y g1 _ => z_up_ne g1) (fun j hj => z_up_nei hj) z_up_eq (fun j hj => absurd hj (Nat.not_lt_zero j))

