/-! the reference: uses of a place -/
theorem us_tot {q : Nat} (hq : q = 2 ∨ q = 3) {A : Nat → Nat → Nat} {t p : Nat} : ∀ c, (∀ i, i < c → A (3 * i + t) p < q) → usN A t p 0 c + usS A t p c (q - 1) = c
  | 0, _ => by
    rcases hq with rfl | rfl <;> rfl
  | c + 1, h => by
    have ih := us_tot hq c (fun i hi => h i (by omega))
    have x := h c (Nat.lt_succ_self c)
    have s : ∀ v, usN A t p v (c + 1) = usN A t p v c + (if (A (3 * c + t) p == v) = true then 1 else 0) := fun _ => rfl
    rcases hq with rfl | rfl
    · have e : ∀ c, usS A t p c (2 - 1) = usN A t p 1 c := fun c => Nat.zero_add _
      rw [e] at ih ⊢
      rw [s, s]
      generalize A (3 * c + t) p = y at *
      rcases (show y = 0 ∨ y = 1 by omega) with rfl | rfl <;> simp <;> omega
    · have e : ∀ c, usS A t p c (3 - 1) = usN A t p 1 c + usN A t p 2 c := fun c => by
        show 0 + usN A t p 1 c + usN A t p 2 c = _
        rw [Nat.zero_add]
      rw [e] at ih ⊢
      rw [s, s, s]
      generalize A (3 * c + t) p = y at *
      rcases (show y = 0 ∨ y = 1 ∨ y = 2 by omega) with rfl | rfl | rfl <;> simp <;> omega
theorem usB_iff {A : Nat → Nat → Nat} {t p : Nat} : ∀ c, usB A t c p = false ↔ usN A t p 0 c = c
  | 0 => ⟨fun _ => rfl, fun _ => rfl⟩
  | c + 1 => by
    have ih := usB_iff (A := A) (t := t) (p := p) c
    have l : usN A t p 0 c ≤ c := fb_ct_le _ c
    have s : usN A t p 0 (c + 1) = usN A t p 0 c + (if (A (3 * c + t) p == 0) = true then 1 else 0) := rfl
    rw [s]
    show (usB A t c p || A (3 * c + t) p != 0) = false ↔ _
    by_cases e : A (3 * c + t) p = 0
    · simp [e, ih]
    · simp [e]
      intro _
      omega
theorem un_ct {d : Nat → Nat} {A : Nat → Nat → Nat} {t c : Nat} (hd : ∀ t, t < 3 → 1 ≤ d t ∧ d t ≤ 3) (h : ZS d c A) (ht : t < 3) : unN d A t c = fb_ct (fun k => usN A t k 0 c == c) (pl d t) := by
  have p9 := pl_le hd ht
  unfold unN
  have e1 : fb_ct (usB A t c) 9 = fb_ct (usB A t c) (pl d t) := ct_more p9.2 (fun k h1 h2 => usB_0 h ht h1 h2 c (Nat.le_refl c))
  have e2 := fb_ct_not (usB A t c) (pl d t)
  have e3 : fb_ct (fun k => !usB A t c k) (pl d t) = fb_ct (fun k => usN A t k 0 c == c) (pl d t) := fb_ct_cong (fun k _ => by
    have i := usB_iff (A := A) (t := t) (p := k) c
    cases g : usB A t c k with
    | false => simp [i.mp g]
    | true =>
      have : ¬ usN A t k 0 c = c := fun z => by
        rw [i.mpr z] at g
        cases g
      simp [this])
  omega
def sp_X12_usesOf : zSp := fun av w K => match av with
  | [.ref o, .int t, .int p, .int v] => o = 45 ∧ zH w.1 ∧ ∃ d q c A t' p' v', MS w.2.1 d q c A ∧ t = nI t' ∧ t' < 3 ∧ p = nI p' ∧ p' < 9 ∧ v = nI v' ∧ v' < 3 ∧ K (some (.int (nI (usN A t' p' v' c)))) w
  | _ => False
def rm_X12_usesOf : Room := { frames := 1, cells := 0, slots := 0, locals := 22 }
def M_X12_usesOf : zM := (k_X12_usesOf, f_X12, [(107, 0, 0, 3, 0, 0, sp_X12_at)], ([], [], []), [], [(6, [true, true, true, true, true, true])], 1, false, (false, 0, fun _ => 0), (0, 0))
theorem ca_X12_usesOf_0 (l : Launch) : z_cok l RX12 (headSpec (.code yX12_usesOf cX12_usesOf 6 (some .int) :: zTT) rm_X12_usesOf).room (107, 0, 0, 3, 0, 0, sp_X12_at) := z_ca0 (c_X12_at l) mb_X12_at wt_1136 wt_1137 (by decide)
theorem O_X12_usesOf (l : Launch) : z_OK l RX12 cX12_usesOf (headSpec (.code yX12_usesOf cX12_usesOf 6 (some .int) :: zTT) rm_X12_usesOf).room M_X12_usesOf := ⟨ok_X12_usesOf, fo_X12, List.forall_mem_cons.mpr ⟨ca_X12_usesOf_0 l, fun _ h => absurd h List.not_mem_nil⟩, fun _ h => absurd h List.not_mem_nil, fun _ h => absurd h List.not_mem_nil, fun _ h => absurd h List.not_mem_nil, fun _ h => absurd h List.not_mem_nil, rfl, rfl⟩
theorem c_X12_usesOf (l : Launch) : z_CS l yX12_usesOf cX12_usesOf 6 (some .int) rm_X12_usesOf sp_X12_usesOf := by
  refine z_meth (by decide) (Or.inr (Or.inl ⟨rfl, rfl⟩)) (fun h => by cases h) rfl (O_X12_usesOf l) ?_
  intro av w K h
  match av, h with
  | [.ref o, .int t, .int p, .int v], h =>
    obtain ⟨rfl, ⟨r, hG⟩, d, q, c, A, t', p', v', hS, rfl, ht, rfl, hp, rfl, hv, h⟩ := h
    obtain ⟨G, wi, wl⟩ := w
    subst hG
    try dsimp only at h hS
    have h40 := ms_40 hS
    have ul : ∀ i, usN A t' p' v' i ≤ i := fun i => fb_ct_le _ i
    refine ⟨Nat.le_of_ble_eq_true rfl, fun Jm hs => ?_⟩
    have loop := up_ind (P := fun i => Jm 6 [some (.ref 45), some (.int (nI t')), some (.int (nI p')), some (.int (nI v')), some (.int (nI (usN A t' p' v' i))), some (.int (nI i))] [] (GC ++ (GM ++ r), wi, wl) 0 0) c (fun i hi ih => by
      refine hs 400 6 _ _ _ _ _ ?_
      conv => whnf
      repeat ((first | refine ⟨zH_of _, ?_⟩ | refine ⟨trivial, ?_⟩ | refine ⟨rfl, ?_⟩ | refine ⟨fun hc => absurd hc (by decide), fun _ => ?_⟩ | refine ⟨fun _ => ?_, fun hc => absurd (by decide) hc⟩ | refine ⟨fun _ => ?_, fun hc => absurd hc (by decide)⟩ | refine ⟨fun hc => absurd (by decide) hc, fun _ => ?_⟩); conv => whnf)
      try dsimp only
      rw [ms_c hS, ltN (by omega) (by omega)]
      refine ⟨fun hc => ?_, fun hc => ?_⟩
      · obtain rfl : i = c := by omega
        conv => whnf
        repeat ((first | refine ⟨zH_of _, ?_⟩ | refine ⟨trivial, ?_⟩ | refine ⟨rfl, ?_⟩ | refine ⟨fun hc => absurd hc (by decide), fun _ => ?_⟩ | refine ⟨fun _ => ?_, fun hc => absurd (by decide) hc⟩ | refine ⟨fun _ => ?_, fun hc => absurd hc (by decide)⟩ | refine ⟨fun hc => absurd (by decide) hc, fun _ => ?_⟩); conv => whnf)
        try dsimp only
        exact h
      · have ih := ih hc
        have x := ms_A3 hS (3 * i + t') (by omega) p' hp
        conv => whnf
        repeat ((first | refine ⟨zH_of _, ?_⟩ | refine ⟨trivial, ?_⟩ | refine ⟨rfl, ?_⟩ | refine ⟨fun hc => absurd hc (by decide), fun _ => ?_⟩ | refine ⟨fun _ => ?_, fun hc => absurd (by decide) hc⟩ | refine ⟨fun _ => ?_, fun hc => absurd hc (by decide)⟩ | refine ⟨fun hc => absurd (by decide) hc, fun _ => ?_⟩); conv => whnf)
        try dsimp only
        rw [at_N]
        refine ⟨vp_in_nI (show 27 * i + 9 * t' + p' < 1080 by omega) (by decide), ?_⟩
        conv => whnf
        repeat ((first | refine ⟨zH_of _, ?_⟩ | refine ⟨trivial, ?_⟩ | refine ⟨rfl, ?_⟩ | refine ⟨fun hc => absurd hc (by decide), fun _ => ?_⟩ | refine ⟨fun _ => ?_, fun hc => absurd (by decide) hc⟩ | refine ⟨fun _ => ?_, fun hc => absurd hc (by decide)⟩ | refine ⟨fun hc => absurd (by decide) hc, fun _ => ?_⟩); conv => whnf)
        try dsimp only
        rw [nI_clamp (by omega), ms_at hS hc ht hp, nI_eq (by omega) (by omega)]
        refine ⟨fun hq => ?_, fun hq => ?_⟩
        · have e : usN A t' p' v' (i + 1) = usN A t' p' v' i := ct_f (by simp [hq])
          rw [e] at ih
          conv => whnf
          repeat ((first | refine ⟨zH_of _, ?_⟩ | refine ⟨trivial, ?_⟩ | refine ⟨rfl, ?_⟩ | refine ⟨fun hc => absurd hc (by decide), fun _ => ?_⟩ | refine ⟨fun _ => ?_, fun hc => absurd (by decide) hc⟩ | refine ⟨fun _ => ?_, fun hc => absurd hc (by decide)⟩ | refine ⟨fun hc => absurd (by decide) hc, fun _ => ?_⟩); conv => whnf)
          try dsimp only
          rw [nI_add, nI_add]
          exact ih
        · have e : usN A t' p' v' (i + 1) = usN A t' p' v' i + 1 := ct_t (by simp [hq])
          rw [e] at ih
          conv => whnf
          repeat ((first | refine ⟨zH_of _, ?_⟩ | refine ⟨trivial, ?_⟩ | refine ⟨rfl, ?_⟩ | refine ⟨fun hc => absurd hc (by decide), fun _ => ?_⟩ | refine ⟨fun _ => ?_, fun hc => absurd (by decide) hc⟩ | refine ⟨fun _ => ?_, fun hc => absurd hc (by decide)⟩ | refine ⟨fun hc => absurd (by decide) hc, fun _ => ?_⟩); conv => whnf)
          try dsimp only
          rw [nI_add, nI_add]
          exact ih)
    exact hs 400 0 _ _ _ _ _ (loop 0 (Nat.zero_le _))
def sp_X12_uses : zSp := fun av w K => match av with
  | [.ref o, .int t, .int p] => o = 45 ∧ zH w.1 ∧ ∃ T, MT w.2.1 w.2.2 T ∧ ZT T ∧ ∀ wi' wl', FrM w.2.1 w.2.2 wi' wl' → MT wi' wl' (st_uses T t p).1 → K (some (.int (st_uses T t p).2)) (w.1, wi', wl')
  | _ => False
def rm_X12_uses : Room := { frames := 3, cells := 0, slots := 0, locals := 64 }
def M_X12_uses : zM := (k_X12_uses, f_X12, [(170, 0, 0, 1, 0, 0, sp_X12_isTable), (173, 4, 10, 3, 0, 0, sp_X12_isPlace), (309, 4, 10, 4, 0, 0, sp_X12_usesOf), (192, 4, 10, 2, 0, 0, sp_X12_tell), (96, 4, 10, 2, 0, 0, sp_X12_placesOf)], ([], [], []), [], [(30, [true, true, true, true, false]), (61, [true, true, true, true, true])], 1, false, (false, 0, fun _ => 0), (0, 0))
theorem ca_X12_uses_0 (l : Launch) : z_cok l RX12 (headSpec (.code yX12_uses cX12_uses 5 (some .int) :: zTT) rm_X12_uses).room (170, 0, 0, 1, 0, 0, sp_X12_isTable) := z_ca0 (c_X12_isTable l) mb_X12_isTable wt_1338 wt_1339 (by decide)
theorem ca_X12_uses_1 (l : Launch) : z_cok l RX12 (headSpec (.code yX12_uses cX12_uses 5 (some .int) :: zTT) rm_X12_uses).room (173, 4, 10, 3, 0, 0, sp_X12_isPlace) := z_ca4 (c_X12_isPlace l) mb_X12_isPlace ⟨_, rfl, rfl⟩ wt_1345 wt_1347 wt_44 (by decide)
theorem ca_X12_uses_2 (l : Launch) : z_cok l RX12 (headSpec (.code yX12_uses cX12_uses 5 (some .int) :: zTT) rm_X12_uses).room (309, 4, 10, 4, 0, 0, sp_X12_usesOf) := z_ca4 (c_X12_usesOf l) mb_X12_usesOf ⟨_, rfl, rfl⟩ wt_1565 wt_1567 wt_76 (by decide)
theorem ca_X12_uses_3 (l : Launch) : z_cok l RX12 (headSpec (.code yX12_uses cX12_uses 5 (some .int) :: zTT) rm_X12_uses).room (192, 4, 10, 2, 0, 0, sp_X12_tell) := z_ca4 (c_X12_tell l) mb_X12_tell ⟨_, rfl, rfl⟩ wt_1369 wt_1371 wt_49 (by decide)
theorem ca_X12_uses_4 (l : Launch) : z_cok l RX12 (headSpec (.code yX12_uses cX12_uses 5 (some .int) :: zTT) rm_X12_uses).room (96, 4, 10, 2, 0, 0, sp_X12_placesOf) := z_ca4 (c_X12_placesOf l) mb_X12_placesOf ⟨_, rfl, rfl⟩ wt_1349 wt_1351 wt_45 (by decide)
theorem O_X12_uses (l : Launch) : z_OK l RX12 cX12_uses (headSpec (.code yX12_uses cX12_uses 5 (some .int) :: zTT) rm_X12_uses).room M_X12_uses := ⟨ok_X12_uses, fo_X12, List.forall_mem_cons.mpr ⟨ca_X12_uses_0 l, List.forall_mem_cons.mpr ⟨ca_X12_uses_1 l, List.forall_mem_cons.mpr ⟨ca_X12_uses_2 l, List.forall_mem_cons.mpr ⟨ca_X12_uses_3 l, List.forall_mem_cons.mpr ⟨ca_X12_uses_4 l, fun _ h => absurd h List.not_mem_nil⟩⟩⟩⟩⟩, fun _ h => absurd h List.not_mem_nil, fun _ h => absurd h List.not_mem_nil, fun _ h => absurd h List.not_mem_nil, fun _ h => absurd h List.not_mem_nil, rfl, rfl⟩
theorem c_X12_uses (l : Launch) : z_CS l yX12_uses cX12_uses 5 (some .int) rm_X12_uses sp_X12_uses := by
  refine z_meth (by decide) (Or.inr (Or.inl ⟨rfl, rfl⟩)) (fun h => by cases h) rfl (O_X12_uses l) ?_
  intro av w K h
  match av, h with
  | [.ref o, .int t, .int p], h =>
    obtain ⟨rfl, ⟨r, hG⟩, ⟨d, q, c, A, kp, tx, tl⟩, hC, hZ, h⟩ := h
    obtain ⟨G, wi, wl⟩ := w
    subst hG
    try dsimp only at h hC hZ
    have hC := mt_fld (i := 11) (v := nI 0) hC (by decide)
    have hF0 : FrM wi wl (z_up wi 45 11 (nI 0)) wl := fm_fld
    refine ⟨Nat.le_of_ble_eq_true rfl, fun Jm hs => ?_⟩
    unfold st_uses wTl at h
    dsimp only at h
    have q23 := ms_q23 (mt_S hC)
    refine hs 400 0 _ _ _ _ _ ?_
    conv => whnf
    repeat ((first | refine ⟨zH_of _, ?_⟩ | refine ⟨trivial, ?_⟩ | refine ⟨rfl, ?_⟩ | refine ⟨fun hc => absurd hc (by decide), fun _ => ?_⟩ | refine ⟨fun _ => ?_, fun hc => absurd (by decide) hc⟩ | refine ⟨fun _ => ?_, fun hc => absurd hc (by decide)⟩ | refine ⟨fun hc => absurd (by decide) hc, fun _ => ?_⟩); conv => whnf)
    try dsimp only
    generalize z_up wi 45 11 (nI 0) = wi0 at *
    have hS := mt_S hC
    have h40 := ms_40 hS
    have no : ¬ (idB 3 t && idB (pl d t.toNatClampNeg) p) = true → K (some (.int (mI 1))) (GC ++ (GM ++ r), wi0, wl) := fun hn => by
      rw [if_neg hn] at h
      exact h wi0 wl hF0 hC
    rw [bI_0]
    refine ⟨fun h1 => ⟨trivial, no (by simp [h1])⟩, fun h1 => ?_⟩
    have h1 := Classical.not_not.mp h1
    obtain ⟨t', ht, rfl⟩ := idB_N h1 (by omega)
    rw [nc_N (by omega)] at h no
    have p9 := pl_le (ms_hd hS) ht
    conv => whnf
    repeat ((first | refine ⟨zH_of _, ?_⟩ | refine ⟨trivial, ?_⟩ | refine ⟨rfl, ?_⟩ | refine ⟨fun hc => absurd hc (by decide), fun _ => ?_⟩ | refine ⟨fun _ => ?_, fun hc => absurd (by decide) hc⟩ | refine ⟨fun _ => ?_, fun hc => absurd hc (by decide)⟩ | refine ⟨fun hc => absurd (by decide) hc, fun _ => ?_⟩); conv => whnf)
    try dsimp only
    refine ⟨d, q, c, A, t', hS, rfl, ht, ?_⟩
    conv => whnf
    repeat ((first | refine ⟨zH_of _, ?_⟩ | refine ⟨trivial, ?_⟩ | refine ⟨rfl, ?_⟩ | refine ⟨fun hc => absurd hc (by decide), fun _ => ?_⟩ | refine ⟨fun _ => ?_, fun hc => absurd (by decide) hc⟩ | refine ⟨fun _ => ?_, fun hc => absurd hc (by decide)⟩ | refine ⟨fun hc => absurd (by decide) hc, fun _ => ?_⟩); conv => whnf)
    try dsimp only
    rw [bI_0, Classical.not_not]
    refine ⟨fun h2 => ?_, fun h2 => ⟨trivial, no (by simp [h2])⟩⟩
    rw [if_pos (by simp [h1, h2])] at h
    obtain ⟨p', hp, rfl⟩ := idB_N h2 (by omega)
    rw [nc_N (by omega)] at h
    clear no
    have hp9 : p' < 9 := by omega
    have tot := us_tot q23 (A := A) (t := t') (p := p') c (fun i hi => ms_A hS _ (by omega) _ hp9)
    have une := un_ct (ms_hd hS) hZ.1 ht
    dsimp only at une
    have uN_le : ∀ p v i, usN A t' p v i ≤ i := fun p v i => fb_ct_le _ i
    obtain ⟨X, hX⟩ : ∃ X, X = usX d q A t' p' c := ⟨_, rfl⟩
    rw [← hX] at h
    have X1 : ∀ k, k + 1 < q → X k = lN (usN A t' p' (k + 1) c) := fun k hk => by rw [hX]; exact if_pos hk
    have X2 : X (q - 1) = lN (unN d A t' c) := by rw [hX]; exact if_neg (by omega)
    clear hX
    have ctl := fb_ct_le (fun k => usN A t' k 0 c == c)
    have idle := up_ind (P := fun k => ∀ wi' wl', TF wi0 wl wi' wl' → TM wi' wl' (q - 1) X → Jm 61 [some (.ref 45), some (.int (nI t')), some (.int (nI p')), some (.int (nI (fb_ct (fun k => usN A t' k 0 c == c) k))), some (.int (nI k))] [] (GC ++ (GM ++ r), wi', wl') 0 0) (pl d t') (fun k hk ih => by
      intro wi' wl' hF hT
      have S1 := tf_ms hF hS
      have ck := ctl k
      refine hs 400 61 _ _ _ _ _ ?_
      conv => whnf
      repeat ((first | refine ⟨zH_of _, ?_⟩ | refine ⟨trivial, ?_⟩ | refine ⟨rfl, ?_⟩ | refine ⟨fun hc => absurd hc (by decide), fun _ => ?_⟩ | refine ⟨fun _ => ?_, fun hc => absurd (by decide) hc⟩ | refine ⟨fun _ => ?_, fun hc => absurd hc (by decide)⟩ | refine ⟨fun hc => absurd (by decide) hc, fun _ => ?_⟩); conv => whnf)
      try dsimp only
      refine ⟨t', rfl, ht, ?_⟩
      rw [mpl S1 ht]
      conv => whnf
      repeat ((first | refine ⟨zH_of _, ?_⟩ | refine ⟨trivial, ?_⟩ | refine ⟨rfl, ?_⟩ | refine ⟨fun hc => absurd hc (by decide), fun _ => ?_⟩ | refine ⟨fun _ => ?_, fun hc => absurd (by decide) hc⟩ | refine ⟨fun _ => ?_, fun hc => absurd hc (by decide)⟩ | refine ⟨fun hc => absurd (by decide) hc, fun _ => ?_⟩); conv => whnf)
      try dsimp only
      rw [ltN (by omega) (by omega)]
      refine ⟨fun hc => ?_, fun hc => ?_⟩
      · obtain hkn : k = pl d t' := by omega
        rw [hkn, ← une]
        rw [hkn, ← une] at ck
        conv => whnf
        repeat ((first | refine ⟨zH_of _, ?_⟩ | refine ⟨trivial, ?_⟩ | refine ⟨rfl, ?_⟩ | refine ⟨fun hc => absurd hc (by decide), fun _ => ?_⟩ | refine ⟨fun _ => ?_, fun hc => absurd (by decide) hc⟩ | refine ⟨fun _ => ?_, fun hc => absurd hc (by decide)⟩ | refine ⟨fun hc => absurd (by decide) hc, fun _ => ?_⟩); conv => whnf)
        try dsimp only
        rw [nI_l (by omega)]
        refine ⟨q - 1, X, hT, by omega, fun wi2 wl2 a1 a2 a3 T2 => ?_⟩
        have F2 := tf_trans hF (tf_tell a1 a2 a3)
        have S2 := tf_ms F2 hS
        have u0 := uN_le p' 0 c
        have T2 := tm_same T2 X2.symm
        rw [show q - 1 + 1 = q by omega] at T2
        have h := h wi2 wl2 (FrM_trans hF0 (tf_fr F2)) (tf_mt F2 hC T2)
        rw [show usS A t' p' c (q - 1) = c - usN A t' p' 0 c by omega] at h
        conv => whnf
        repeat ((first | refine ⟨zH_of _, ?_⟩ | refine ⟨trivial, ?_⟩ | refine ⟨rfl, ?_⟩ | refine ⟨fun hc => absurd hc (by decide), fun _ => ?_⟩ | refine ⟨fun _ => ?_, fun hc => absurd (by decide) hc⟩ | refine ⟨fun _ => ?_, fun hc => absurd hc (by decide)⟩ | refine ⟨fun hc => absurd (by decide) hc, fun _ => ?_⟩); conv => whnf)
        try dsimp only
        refine ⟨d, q, c, A, t', p', 0, S2, rfl, ht, rfl, hp9, rfl, by decide, ?_⟩
        rw [ms_c S2]
        conv => whnf
        repeat ((first | refine ⟨zH_of _, ?_⟩ | refine ⟨trivial, ?_⟩ | refine ⟨rfl, ?_⟩ | refine ⟨fun hc => absurd hc (by decide), fun _ => ?_⟩ | refine ⟨fun _ => ?_, fun hc => absurd (by decide) hc⟩ | refine ⟨fun _ => ?_, fun hc => absurd hc (by decide)⟩ | refine ⟨fun hc => absurd (by decide) hc, fun _ => ?_⟩); conv => whnf)
        try dsimp only
        rw [pk_sub u0]
        exact h
      · have ih := ih hc
        have u0 := uN_le k 0 c
        conv => whnf
        repeat ((first | refine ⟨zH_of _, ?_⟩ | refine ⟨trivial, ?_⟩ | refine ⟨rfl, ?_⟩ | refine ⟨fun hc => absurd hc (by decide), fun _ => ?_⟩ | refine ⟨fun _ => ?_, fun hc => absurd (by decide) hc⟩ | refine ⟨fun _ => ?_, fun hc => absurd hc (by decide)⟩ | refine ⟨fun hc => absurd (by decide) hc, fun _ => ?_⟩); conv => whnf)
        try dsimp only
        refine ⟨d, q, c, A, t', k, 0, S1, rfl, ht, rfl, by omega, rfl, by decide, ?_⟩
        conv => whnf
        repeat ((first | refine ⟨zH_of _, ?_⟩ | refine ⟨trivial, ?_⟩ | refine ⟨rfl, ?_⟩ | refine ⟨fun hc => absurd hc (by decide), fun _ => ?_⟩ | refine ⟨fun _ => ?_, fun hc => absurd (by decide) hc⟩ | refine ⟨fun _ => ?_, fun hc => absurd hc (by decide)⟩ | refine ⟨fun hc => absurd (by decide) hc, fun _ => ?_⟩); conv => whnf)
        try dsimp only
        rw [ms_c S1, nI_eq (by omega) (by omega)]
        refine ⟨fun hq => ?_, fun hq => ?_⟩
        · have e : fb_ct (fun k => usN A t' k 0 c == c) (k + 1) = fb_ct (fun k => usN A t' k 0 c == c) k := ct_f (by simp [hq])
          rw [e] at ih
          conv => whnf
          repeat ((first | refine ⟨zH_of _, ?_⟩ | refine ⟨trivial, ?_⟩ | refine ⟨rfl, ?_⟩ | refine ⟨fun hc => absurd hc (by decide), fun _ => ?_⟩ | refine ⟨fun _ => ?_, fun hc => absurd (by decide) hc⟩ | refine ⟨fun _ => ?_, fun hc => absurd hc (by decide)⟩ | refine ⟨fun hc => absurd (by decide) hc, fun _ => ?_⟩); conv => whnf)
          try dsimp only
          rw [nI_add, nI_add]
          exact ih wi' wl' hF hT
        · have e : fb_ct (fun k => usN A t' k 0 c == c) (k + 1) = fb_ct (fun k => usN A t' k 0 c == c) k + 1 := ct_t (by simp [hq])
          rw [e] at ih
          conv => whnf
          repeat ((first | refine ⟨zH_of _, ?_⟩ | refine ⟨trivial, ?_⟩ | refine ⟨rfl, ?_⟩ | refine ⟨fun hc => absurd hc (by decide), fun _ => ?_⟩ | refine ⟨fun _ => ?_, fun hc => absurd (by decide) hc⟩ | refine ⟨fun _ => ?_, fun hc => absurd hc (by decide)⟩ | refine ⟨fun hc => absurd (by decide) hc, fun _ => ?_⟩); conv => whnf)
          try dsimp only
          rw [nI_add, nI_add]
          exact ih wi' wl' hF hT)
    have vals := up_ind (P := fun k => ∀ wi' wl', TF wi0 wl wi' wl' → TM wi' wl' k X → Jm 30 [some (.ref 45), some (.int (nI t')), some (.int (nI p')), some (.int (nI (k + 1))), none] [] (GC ++ (GM ++ r), wi', wl') 0 0) (q - 1) (fun k hk ih => by
      intro wi' wl' hF hT
      have S1 := tf_ms hF hS
      refine hs 400 30 _ _ _ _ _ ?_
      conv => whnf
      repeat ((first | refine ⟨zH_of _, ?_⟩ | refine ⟨trivial, ?_⟩ | refine ⟨rfl, ?_⟩ | refine ⟨fun hc => absurd hc (by decide), fun _ => ?_⟩ | refine ⟨fun _ => ?_, fun hc => absurd (by decide) hc⟩ | refine ⟨fun _ => ?_, fun hc => absurd hc (by decide)⟩ | refine ⟨fun hc => absurd (by decide) hc, fun _ => ?_⟩); conv => whnf)
      try dsimp only
      rw [ms_q S1, ltN (by omega) (by omega)]
      refine ⟨fun hc => ?_, fun hc => ?_⟩
      · obtain hkn : k = q - 1 := by omega
        rw [hkn] at hT
        conv => whnf
        repeat ((first | refine ⟨zH_of _, ?_⟩ | refine ⟨trivial, ?_⟩ | refine ⟨rfl, ?_⟩ | refine ⟨fun hc => absurd hc (by decide), fun _ => ?_⟩ | refine ⟨fun _ => ?_, fun hc => absurd (by decide) hc⟩ | refine ⟨fun _ => ?_, fun hc => absurd hc (by decide)⟩ | refine ⟨fun hc => absurd (by decide) hc, fun _ => ?_⟩); conv => whnf)
        try dsimp only
        exact idle 0 (Nat.zero_le _) wi' wl' hF hT
      · have ih := ih (by omega)
        have u0 := uN_le p' (k + 1) c
        conv => whnf
        repeat ((first | refine ⟨zH_of _, ?_⟩ | refine ⟨trivial, ?_⟩ | refine ⟨rfl, ?_⟩ | refine ⟨fun hc => absurd hc (by decide), fun _ => ?_⟩ | refine ⟨fun _ => ?_, fun hc => absurd (by decide) hc⟩ | refine ⟨fun _ => ?_, fun hc => absurd hc (by decide)⟩ | refine ⟨fun hc => absurd (by decide) hc, fun _ => ?_⟩); conv => whnf)
        try dsimp only
        refine ⟨d, q, c, A, t', p', k + 1, S1, rfl, ht, rfl, hp9, rfl, by omega, ?_⟩
        conv => whnf
        repeat ((first | refine ⟨zH_of _, ?_⟩ | refine ⟨trivial, ?_⟩ | refine ⟨rfl, ?_⟩ | refine ⟨fun hc => absurd hc (by decide), fun _ => ?_⟩ | refine ⟨fun _ => ?_, fun hc => absurd (by decide) hc⟩ | refine ⟨fun _ => ?_, fun hc => absurd hc (by decide)⟩ | refine ⟨fun hc => absurd (by decide) hc, fun _ => ?_⟩); conv => whnf)
        try dsimp only
        rw [nI_l (by omega)]
        refine ⟨k, X, hT, by omega, fun wi2 wl2 a1 a2 a3 T2 => ?_⟩
        conv => whnf
        repeat ((first | refine ⟨zH_of _, ?_⟩ | refine ⟨trivial, ?_⟩ | refine ⟨rfl, ?_⟩ | refine ⟨fun hc => absurd hc (by decide), fun _ => ?_⟩ | refine ⟨fun _ => ?_, fun hc => absurd (by decide) hc⟩ | refine ⟨fun _ => ?_, fun hc => absurd hc (by decide)⟩ | refine ⟨fun hc => absurd (by decide) hc, fun _ => ?_⟩); conv => whnf)
        try dsimp only
        rw [nI_add]
        exact ih wi2 wl2 (tf_trans hF (tf_tell a1 a2 a3)) (tm_same T2 (X1 k hc).symm))
    conv => whnf
    repeat ((first | refine ⟨zH_of _, ?_⟩ | refine ⟨trivial, ?_⟩ | refine ⟨rfl, ?_⟩ | refine ⟨fun hc => absurd hc (by decide), fun _ => ?_⟩ | refine ⟨fun _ => ?_, fun hc => absurd (by decide) hc⟩ | refine ⟨fun _ => ?_, fun hc => absurd hc (by decide)⟩ | refine ⟨fun hc => absurd (by decide) hc, fun _ => ?_⟩); conv => whnf)
    try dsimp only
    exact vals 0 (Nat.zero_le _) _ wl (tf_fld (by decide)) tm_0

