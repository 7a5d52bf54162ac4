/-! flips, joins; what is given -/
def wTl (T : zT) (tl : Nat × (Nat → Int64)) : zT := (T.1, T.2.1, T.2.2.1, T.2.2.2.1, T.2.2.2.2.1, T.2.2.2.2.2.1, tl)
def st_flips (T : zT) : zT × Int32 := (wTl T (3, t3 (lN (flN T.2.1 T.2.2.2.1 0 T.2.2.1)) (lN (flN T.2.1 T.2.2.2.1 1 T.2.2.1)) (lN (flN T.2.1 T.2.2.2.1 2 T.2.2.1))), nI (flAll T.2.1 T.2.2.2.1 T.2.2.1))
def sp_X11_flips : zSp := fun av w K => match av with
  | [.ref o] => o = 0 ∧ zG w.1 ∧ ∃ T, CT w.2.1 w.2.2 T ∧ ∀ wi' wl', FrC w.2.1 w.2.2 wi' wl' → CT wi' wl' (st_flips T).1 → K (some (.int (st_flips T).2)) (w.1, wi', wl')
  | _ => False
def st_flip (T : zT) (i j t : Int32) : zT × Int32 :=
  if (idB T.2.2.1 i && (idB T.2.2.1 j && idB 3 t)) = true then
    if i = j then (T, mI 2)
    else if lkB T.2.1 T.2.2.2.1 t.toNatClampNeg i.toNatClampNeg j.toNatClampNeg = false then (T, mI 3)
    else ((T.1, T.2.1, T.2.2.1, tfA T.2.1 T.2.2.2.1 i.toNatClampNeg j.toNatClampNeg t.toNatClampNeg, T.2.2.2.2), nI (fb_ct (hzB (tfA T.2.1 T.2.2.2.1 i.toNatClampNeg j.toNatClampNeg t.toNatClampNeg)) T.2.2.1))
  else (T, mI 1)
def sp_X11_flip : zSp := fun av w K => match av with
  | [.ref o, .int i, .int j, .int t] => o = 0 ∧ zG w.1 ∧ ∃ T, CT w.2.1 w.2.2 T ∧ ∀ wi' wl', FrC w.2.1 w.2.2 wi' wl' → CT wi' wl' (st_flip T i j t).1 → K (some (.int (st_flip T i j t).2)) (w.1, wi', wl')
  | _ => False
def rm_X11_flip : Room := { frames := 4, cells := 0, slots := 0, locals := 92 }
def M_X11_flip : zM := (k_X11_flip, f_X11, [(121, 4, 5, 2, 0, 0, sp_X6_isProduct), (128, 0, 0, 1, 0, 0, sp_X11_isTable), (204, 4, 5, 4, 0, 0, sp_X6_likeBy), (210, 4, 5, 4, 0, 0, sp_X6_turnFlip), (213, 4, 5, 1, 0, 0, sp_X6_zeros)], ([], [], []), [], [], 1, false, (false, 0, fun _ => 0), (0, 0, []))
theorem ca_X11_flip_0 (l : Launch) : z_cok l RX11 (headSpec (.code yX11_flip cX11_flip 4 (some .int) :: zTT) rm_X11_flip).room (false, 0, fun _ => 0) (121, 4, 5, 2, 0, 0, sp_X6_isProduct) := z_ca4 (c_X6_isProduct l) mb_X6_isProduct ⟨_, rfl, rfl⟩ wt_416 wt_417 wt_418 (by decide)
theorem ca_X11_flip_1 (l : Launch) : z_cok l RX11 (headSpec (.code yX11_flip cX11_flip 4 (some .int) :: zTT) rm_X11_flip).room (false, 0, fun _ => 0) (128, 0, 0, 1, 0, 0, sp_X11_isTable) := z_ca0 (c_X11_isTable l) mb_X11_isTable wt_505 wt_506 (by decide)
theorem ca_X11_flip_2 (l : Launch) : z_cok l RX11 (headSpec (.code yX11_flip cX11_flip 4 (some .int) :: zTT) rm_X11_flip).room (false, 0, fun _ => 0) (204, 4, 5, 4, 0, 0, sp_X6_likeBy) := z_ca4 (c_X6_likeBy l) mb_X6_likeBy ⟨_, rfl, rfl⟩ wt_508 wt_509 wt_510 (by decide)
theorem ca_X11_flip_3 (l : Launch) : z_cok l RX11 (headSpec (.code yX11_flip cX11_flip 4 (some .int) :: zTT) rm_X11_flip).room (false, 0, fun _ => 0) (210, 4, 5, 4, 0, 0, sp_X6_turnFlip) := z_ca4 (c_X6_turnFlip l) mb_X6_turnFlip ⟨_, rfl, rfl⟩ wt_522 wt_523 wt_524 (by decide)
theorem ca_X11_flip_4 (l : Launch) : z_cok l RX11 (headSpec (.code yX11_flip cX11_flip 4 (some .int) :: zTT) rm_X11_flip).room (false, 0, fun _ => 0) (213, 4, 5, 1, 0, 0, sp_X6_zeros) := z_ca4 (c_X6_zeros l) mb_X6_zeros ⟨_, rfl, rfl⟩ wt_535 wt_536 wt_537 (by decide)
theorem O_X11_flip (l : Launch) : z_OK l RX11 cX11_flip (headSpec (.code yX11_flip cX11_flip 4 (some .int) :: zTT) rm_X11_flip).room M_X11_flip := ⟨ok_X11_flip, fo_X11, List.forall_mem_cons.mpr ⟨ca_X11_flip_0 l, List.forall_mem_cons.mpr ⟨ca_X11_flip_1 l, List.forall_mem_cons.mpr ⟨ca_X11_flip_2 l, List.forall_mem_cons.mpr ⟨ca_X11_flip_3 l, List.forall_mem_cons.mpr ⟨ca_X11_flip_4 l, fun _ h => absurd h List.not_mem_nil⟩⟩⟩⟩⟩, fun _ h => absurd h List.not_mem_nil, fun _ h => absurd h List.not_mem_nil, fun _ h => absurd h List.not_mem_nil, fun _ h => absurd h List.not_mem_nil, rfl, rfl, fun _ h => absurd h List.not_mem_nil⟩
theorem c_X11_flip (l : Launch) : z_CS l yX11_flip cX11_flip 4 (some .int) rm_X11_flip sp_X11_flip := by
  refine z_meth (by decide) (Or.inr (Or.inl ⟨rfl, rfl⟩)) (fun h => by cases h) rfl (O_X11_flip l) ?_
  intro av w K h
  match av, h with
  | [.ref o, .int i, .int j, .int t], h =>
    obtain ⟨rfl, ⟨r, hG⟩, ⟨d, q, c, A, kp, tx, tl⟩, hC, h⟩ := h
    obtain ⟨G, wi, wl⟩ := w
    subst hG
    try dsimp only at h hC
    refine ⟨Nat.le_of_ble_eq_true rfl, fun Jm hs => hs 400 0 _ _ _ _ _ ?_⟩
    unfold st_flip at h
    dsimp only at h
    have hS := ct_S hC
    have h40 := cs_40 hS
    have no : ¬ (idB c i && (idB c j && idB 3 t)) = true → K (some (.int (mI 1))) (GC ++ r, wi, wl) := fun hn => by
      rw [if_neg hn] at h
      exact h wi wl (FrC_refl _ _) hC
    conv => whnf
    repeat ((first | refine ⟨zG_of _, ?_⟩ | refine ⟨trivial, ?_⟩ | refine ⟨rfl, ?_⟩ | refine ⟨fun hc => absurd hc (by decide), fun _ => ?_⟩ | refine ⟨fun _ => ?_, fun hc => absurd (by decide) hc⟩ | refine ⟨fun _ => ?_, fun hc => absurd hc (by decide)⟩ | refine ⟨fun hc => absurd (by decide) hc, fun _ => ?_⟩); conv => whnf)
    try dsimp only
    rw [isP_S hS, bI_0]
    refine ⟨fun h1 => ⟨trivial, no (by simp [h1])⟩, fun h1 => ?_⟩
    conv => whnf
    repeat ((first | refine ⟨zG_of _, ?_⟩ | refine ⟨trivial, ?_⟩ | refine ⟨rfl, ?_⟩ | refine ⟨fun hc => absurd hc (by decide), fun _ => ?_⟩ | refine ⟨fun _ => ?_, fun hc => absurd (by decide) hc⟩ | refine ⟨fun _ => ?_, fun hc => absurd hc (by decide)⟩ | refine ⟨fun hc => absurd (by decide) hc, fun _ => ?_⟩); conv => whnf)
    try dsimp only
    rw [isP_S hS, bI_0]
    refine ⟨fun h2 => ⟨trivial, no (by simp [h2])⟩, fun h2 => ?_⟩
    conv => whnf
    repeat ((first | refine ⟨zG_of _, ?_⟩ | refine ⟨trivial, ?_⟩ | refine ⟨rfl, ?_⟩ | refine ⟨fun hc => absurd hc (by decide), fun _ => ?_⟩ | refine ⟨fun _ => ?_, fun hc => absurd (by decide) hc⟩ | refine ⟨fun _ => ?_, fun hc => absurd hc (by decide)⟩ | refine ⟨fun hc => absurd (by decide) hc, fun _ => ?_⟩); conv => whnf)
    try dsimp only
    rw [isT_B, bI_0, Classical.not_not]
    refine ⟨fun h3 => ?_, fun h3 => ⟨trivial, no (by simp [h3])⟩⟩
    have h1 := Classical.not_not.mp h1
    have h2 := Classical.not_not.mp h2
    rw [if_pos (by simp [h1, h2, h3])] at h
    conv => whnf
    repeat ((first | refine ⟨zG_of _, ?_⟩ | refine ⟨trivial, ?_⟩ | refine ⟨rfl, ?_⟩ | refine ⟨fun hc => absurd hc (by decide), fun _ => ?_⟩ | refine ⟨fun _ => ?_, fun hc => absurd (by decide) hc⟩ | refine ⟨fun _ => ?_, fun hc => absurd hc (by decide)⟩ | refine ⟨fun hc => absurd (by decide) hc, fun _ => ?_⟩); conv => whnf)
    try dsimp only
    refine ⟨fun h4 => ?_, fun h4 => ?_⟩
    · rw [if_neg h4] at h
      obtain ⟨i', hi, rfl⟩ := idB_N h1 (by omega)
      obtain ⟨j', hj, rfl⟩ := idB_N h2 (by omega)
      obtain ⟨t', ht, rfl⟩ := idB_N h3 (by omega)
      rw [nc_N (by omega), nc_N (by omega), nc_N (by omega)] at h
      have lk : flike (atF (wi 8) 120 (nI 3 * nI i' + nI t')) (atF (wi 8) 120 (nI 3 * nI j' + nI t')) (wi 6 4) = nI (likeN q (A (3 * i' + t')) (A (3 * j' + t'))) := lk_S hS hi hj ht
      have l3 := likeN_lt q (A (3 * i' + t')) (A (3 * j' + t'))
      conv => whnf
      repeat ((first | refine ⟨zG_of _, ?_⟩ | refine ⟨trivial, ?_⟩ | refine ⟨rfl, ?_⟩ | refine ⟨fun hc => absurd hc (by decide), fun _ => ?_⟩ | refine ⟨fun _ => ?_, fun hc => absurd (by decide) hc⟩ | refine ⟨fun _ => ?_, fun hc => absurd hc (by decide)⟩ | refine ⟨fun hc => absurd (by decide) hc, fun _ => ?_⟩); conv => whnf)
      try dsimp only
      rw [lk, eq0N (by omega)]
      refine ⟨fun hz => ?_, fun hz => ?_⟩
      · rw [if_neg (by simp [lkB, hz])] at h
        conv => whnf
        repeat ((first | refine ⟨zG_of _, ?_⟩ | refine ⟨trivial, ?_⟩ | refine ⟨rfl, ?_⟩ | refine ⟨fun hc => absurd hc (by decide), fun _ => ?_⟩ | refine ⟨fun _ => ?_, fun hc => absurd (by decide) hc⟩ | refine ⟨fun _ => ?_, fun hc => absurd hc (by decide)⟩ | refine ⟨fun hc => absurd (by decide) hc, fun _ => ?_⟩); conv => whnf)
        try dsimp only
        refine ⟨d, q, c, A, i', j', t', hS, rfl, hi, rfl, hj, rfl, ht, fun wi1 hF1 hS1 => ?_⟩
        conv => whnf
        repeat ((first | refine ⟨zG_of _, ?_⟩ | refine ⟨trivial, ?_⟩ | refine ⟨rfl, ?_⟩ | refine ⟨fun hc => absurd hc (by decide), fun _ => ?_⟩ | refine ⟨fun _ => ?_, fun hc => absurd (by decide) hc⟩ | refine ⟨fun _ => ?_, fun hc => absurd hc (by decide)⟩ | refine ⟨fun hc => absurd (by decide) hc, fun _ => ?_⟩); conv => whnf)
        try dsimp only
        refine ⟨d, q, c, _, hS1, ?_⟩
        conv => whnf
        repeat ((first | refine ⟨zG_of _, ?_⟩ | refine ⟨trivial, ?_⟩ | refine ⟨rfl, ?_⟩ | refine ⟨fun hc => absurd hc (by decide), fun _ => ?_⟩ | refine ⟨fun _ => ?_, fun hc => absurd (by decide) hc⟩ | refine ⟨fun _ => ?_, fun hc => absurd hc (by decide)⟩ | refine ⟨fun hc => absurd (by decide) hc, fun _ => ?_⟩); conv => whnf)
        try dsimp only
        exact h wi1 wl (fun y hy => ⟨hF1 y (by omega) (by omega), rfl⟩) (ct_now hC hS1 (tfA_z (ct_Z hC) hi hj ht) (fun y hy => hF1 y (by omega) (by omega)) rfl)
      · rw [if_pos (by simp [lkB, hz])] at h
        exact ⟨trivial, h wi wl (FrC_refl _ _) hC⟩
    · rw [if_pos h4] at h
      exact ⟨trivial, h wi wl (FrC_refl _ _) hC⟩
def st_joins (T : zT) : zT × Int32 := ((T.1, T.2.1, (jAll T.2.1 40 (T.2.2.1, T.2.2.2.1, 0, 0)).1, (jAll T.2.1 40 (T.2.2.1, T.2.2.2.1, 0, 0)).2.1, T.2.2.2.2.1, T.2.2.2.2.2.1, (2, upL (upL (fun _ => 0) 0 (lN (jAll T.2.1 40 (T.2.2.1, T.2.2.2.1, 0, 0)).2.2.1)) 1 (lN (jAll T.2.1 40 (T.2.2.1, T.2.2.2.1, 0, 0)).2.2.2))), nI ((jAll T.2.1 40 (T.2.2.1, T.2.2.2.1, 0, 0)).2.2.1 + (jAll T.2.1 40 (T.2.2.1, T.2.2.2.1, 0, 0)).2.2.2))
def sp_X11_joins : zSp := fun av w K => match av with
  | [.ref o] => o = 0 ∧ zG w.1 ∧ ∃ T, CT w.2.1 w.2.2 T ∧ ∀ wi' wl', FrC w.2.1 w.2.2 wi' wl' → CT wi' wl' (st_joins T).1 → K (some (.int (st_joins T).2)) (w.1, wi', wl')
  | _ => False
def rm_X11_joins : Room := { frames := 6, cells := 0, slots := 0, locals := 139 }
def M_X11_joins : zM := (k_X11_joins, f_X11, [(217, 4, 3, 2, 0, 0, sp_X4_join), (150, 4, 8, 1, 0, 0, sp_X9_clear), (167, 4, 8, 2, 0, 0, sp_X9_add)], ([], [], []), [], [], 1, false, (false, 0, fun _ => 0), (0, 0, []))
theorem ca_X11_joins_0 (l : Launch) : z_cok l RX11 (headSpec (.code yX11_joins cX11_joins 1 (some .int) :: zTT) rm_X11_joins).room (false, 0, fun _ => 0) (217, 4, 3, 2, 0, 0, sp_X4_join) := z_ca4 (c_X4_join l) mb_X4_join ⟨_, rfl, rfl⟩ wt_547 wt_548 wt_549 (by decide)
theorem ca_X11_joins_1 (l : Launch) : z_cok l RX11 (headSpec (.code yX11_joins cX11_joins 1 (some .int) :: zTT) rm_X11_joins).room (false, 0, fun _ => 0) (150, 4, 8, 1, 0, 0, sp_X9_clear) := z_ca4 (c_X9_clear l) mb_X9_clear ⟨_, rfl, rfl⟩ wt_429 wt_430 wt_431 (by decide)
theorem ca_X11_joins_2 (l : Launch) : z_cok l RX11 (headSpec (.code yX11_joins cX11_joins 1 (some .int) :: zTT) rm_X11_joins).room (false, 0, fun _ => 0) (167, 4, 8, 2, 0, 0, sp_X9_add) := z_ca4 (c_X9_add l) mb_X9_add ⟨_, rfl, rfl⟩ wt_469 wt_470 wt_471 (by decide)
theorem O_X11_joins (l : Launch) : z_OK l RX11 cX11_joins (headSpec (.code yX11_joins cX11_joins 1 (some .int) :: zTT) rm_X11_joins).room M_X11_joins := ⟨ok_X11_joins, fo_X11, List.forall_mem_cons.mpr ⟨ca_X11_joins_0 l, List.forall_mem_cons.mpr ⟨ca_X11_joins_1 l, List.forall_mem_cons.mpr ⟨ca_X11_joins_2 l, fun _ h => absurd h List.not_mem_nil⟩⟩⟩, fun _ h => absurd h List.not_mem_nil, fun _ h => absurd h List.not_mem_nil, fun _ h => absurd h List.not_mem_nil, fun _ h => absurd h List.not_mem_nil, rfl, rfl, fun _ h => absurd h List.not_mem_nil⟩
theorem c_X11_joins (l : Launch) : z_CS l yX11_joins cX11_joins 1 (some .int) rm_X11_joins sp_X11_joins := by
  refine z_meth (by decide) (Or.inr (Or.inl ⟨rfl, rfl⟩)) (fun h => by cases h) rfl (O_X11_joins l) ?_
  intro av w K h
  match av, h with
  | [.ref o], h =>
    obtain ⟨rfl, ⟨r, hG⟩, ⟨d, q, c, A, kp, tx, tl⟩, hC, h⟩ := h
    obtain ⟨G, wi, wl⟩ := w
    subst hG
    try dsimp only at h hC
    refine ⟨Nat.le_of_ble_eq_true rfl, fun Jm hs => hs 400 0 _ _ _ _ _ ?_⟩
    unfold st_joins at h
    dsimp only at h
    have hS := ct_S hC
    have hz := jAll_z (q := q) 40 c A 0 0 (ct_Z hC)
    have hl := jAll_c (q := q) 40 c A 0 0
    generalize hJ : jAll q 40 (c, A, 0, 0) = J at h hz hl
    conv => whnf
    repeat ((first | refine ⟨zG_of _, ?_⟩ | refine ⟨trivial, ?_⟩ | refine ⟨rfl, ?_⟩ | refine ⟨fun hc => absurd hc (by decide), fun _ => ?_⟩ | refine ⟨fun _ => ?_, fun hc => absurd (by decide) hc⟩ | refine ⟨fun _ => ?_, fun hc => absurd hc (by decide)⟩ | refine ⟨fun hc => absurd (by decide) hc, fun _ => ?_⟩); conv => whnf)
    try dsimp only
    refine ⟨d, q, c, A, hS, ?_⟩
    rw [hJ]
    intro wi1 hF1 hS1 h18 h19
    have hX : CT wi1 wl (d, q, J.1, J.2.1, kp, tx, tl) := ct_now hC hS1 hz (fun y hy => hF1 y (by omega) (by omega) (by omega)) rfl
    conv => whnf
    repeat ((first | refine ⟨zG_of _, ?_⟩ | refine ⟨trivial, ?_⟩ | refine ⟨rfl, ?_⟩ | refine ⟨fun hc => absurd hc (by decide), fun _ => ?_⟩ | refine ⟨fun _ => ?_, fun hc => absurd (by decide) hc⟩ | refine ⟨fun _ => ?_, fun hc => absurd hc (by decide)⟩ | refine ⟨fun hc => absurd (by decide) hc, fun _ => ?_⟩); conv => whnf)
    try dsimp only
    intro wi2 hF2 hT2
    have e18 : wi2 18 0 = nI J.2.2.1 := by rw [hF2 18 (by decide)]; exact h18
    conv => whnf
    repeat ((first | refine ⟨zG_of _, ?_⟩ | refine ⟨trivial, ?_⟩ | refine ⟨rfl, ?_⟩ | refine ⟨fun hc => absurd hc (by decide), fun _ => ?_⟩ | refine ⟨fun _ => ?_, fun hc => absurd (by decide) hc⟩ | refine ⟨fun _ => ?_, fun hc => absurd hc (by decide)⟩ | refine ⟨fun hc => absurd (by decide) hc, fun _ => ?_⟩); conv => whnf)
    try dsimp only
    refine ⟨0, _, hT2, by decide, fun wi3 wl3 hF3 hL3 hT3 => ?_⟩
    have f19 : wi3 18 1 = nI J.2.2.2 := by rw [hF3 18 (by decide), hF2 18 (by decide)]; exact h19
    rw [e18, nI_l (by omega)] at hT3
    conv => whnf
    repeat ((first | refine ⟨zG_of _, ?_⟩ | refine ⟨trivial, ?_⟩ | refine ⟨rfl, ?_⟩ | refine ⟨fun hc => absurd hc (by decide), fun _ => ?_⟩ | refine ⟨fun _ => ?_, fun hc => absurd (by decide) hc⟩ | refine ⟨fun _ => ?_, fun hc => absurd hc (by decide)⟩ | refine ⟨fun hc => absurd (by decide) hc, fun _ => ?_⟩); conv => whnf)
    try dsimp only
    refine ⟨1, _, hT3, by decide, fun wi4 wl4 hF4 hL4 hT4 => ?_⟩
    rw [f19, nI_l (by omega)] at hT4
    have g18 : wi4 18 0 = nI J.2.2.1 := by rw [hF4 18 (by decide), hF3 18 (by decide), hF2 18 (by decide)]; exact h18
    have g19 : wi4 18 1 = nI J.2.2.2 := by rw [hF4 18 (by decide), hF3 18 (by decide), hF2 18 (by decide)]; exact h19
    conv => whnf
    repeat ((first | refine ⟨zG_of _, ?_⟩ | refine ⟨trivial, ?_⟩ | refine ⟨rfl, ?_⟩ | refine ⟨fun hc => absurd hc (by decide), fun _ => ?_⟩ | refine ⟨fun _ => ?_, fun hc => absurd (by decide) hc⟩ | refine ⟨fun _ => ?_, fun hc => absurd hc (by decide)⟩ | refine ⟨fun hc => absurd (by decide) hc, fun _ => ?_⟩); conv => whnf)
    try dsimp only
    rw [g18, g19, nI_add]
    exact h wi4 wl4 (fun y hy => ⟨by rw [hF4 y (by omega), hF3 y (by omega), hF2 y (by omega), hF1 y (by omega) (by omega) (by omega)], by rw [hL4 y (by omega), hL3 y (by omega)]⟩) (ct_told hX (fun y hy => by rw [hF4 y hy, hF3 y hy, hF2 y hy]) hT4)
def st_given (T : zT) (x y z : Int32) : zT × Int32 :=
  if (idB (pl T.1 0) x && (idB (pl T.1 1) y && idB (pl T.1 2) z)) = true then (wTl T (2, upL (upL (fun _ => 0) 0 (lN (ndN T.1 x.toNatClampNeg y.toNatClampNeg z.toNatClampNeg))) 1 (lN (fb_ct (mtB T.2.2.2.1 x.toNatClampNeg y.toNatClampNeg z.toNatClampNeg) T.2.2.1))), nI (gvN T.2.2.2.1 T.2.2.1 x.toNatClampNeg y.toNatClampNeg z.toNatClampNeg % T.2.1)) else (T, mI 1)
theorem isPl_L {wi : Nat → Nat → Int32} {d : Nat → Nat} {q c : Nat} {A : Nat → Nat → Nat} (h : CS wi 6 d q c A) {t : Nat} (ht : t < 3) (p : Int32) : isPlF wi (nI t) p = bI (idB (pl d t) p = true) := by
  rw [isPl_S h, nc_N (by omega)]
  refine bI_cg ?_
  rw [Bool.and_eq_true]
  exact ⟨fun k => k.2, fun k => ⟨idB_of ht (by decide), k⟩⟩
def sp_X11_given : zSp := fun av w K => match av with
  | [.ref o, .int x, .int y, .int z] => o = 0 ∧ zG w.1 ∧ ∃ T, CT w.2.1 w.2.2 T ∧ ∀ wi' wl', FrC w.2.1 w.2.2 wi' wl' → CT wi' wl' (st_given T x y z).1 → K (some (.int (st_given T x y z).2)) (w.1, wi', wl')
  | _ => False
