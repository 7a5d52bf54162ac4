def st_back (T : zT) : zT × Int32 :=
  if T.2.2.2.2.1.1 = true then
    if shB T.1 T.2.2.2.2.1.2.1 = true then ((T.2.2.2.2.1.2.1, T.2.1, T.2.2.2.2.1.2.2.1, T.2.2.2.2.1.2.2.2, T.2.2.2.2), nI T.2.2.2.2.1.2.2.1)
    else (T, mI 3)
  else (T, mI 2)
def sp_X11_back : zSp := fun av w K => match av with
  | [.ref o] => o = 0 ∧ zG w.1 ∧ ∃ T, CT w.2.1 w.2.2 T ∧ ∀ wi' wl', FrC w.2.1 w.2.2 wi' wl' → CT wi' wl' (st_back T).1 → K (some (.int (st_back T).2)) (w.1, wi', wl')
  | _ => False
def rm_X11_back : Room := { frames := 2, cells := 0, slots := 0, locals := 44 }
def M_X11_back : zM := (k_X11_back, f_X11, [(346, 4, 5, 2, 0, 0, sp_X6_hasShapeOf), (107, 4, 5, 2, 0, 0, sp_X6_takeAll)], ([], [], []), [], [], 1, false, (false, 0, fun _ => 0), (0, 0, []))
theorem ca_X11_back_0 (l : Launch) : z_cok l RX11 (headSpec (.code yX11_back cX11_back 1 (some .int) :: zTT) rm_X11_back).room (false, 0, fun _ => 0) (346, 4, 5, 2, 0, 0, sp_X6_hasShapeOf) := z_ca4 (c_X6_hasShapeOf l) mb_X6_hasShapeOf ⟨_, rfl, rfl⟩ wt_773 wt_774 wt_775 (by decide)
theorem ca_X11_back_1 (l : Launch) : z_cok l RX11 (headSpec (.code yX11_back cX11_back 1 (some .int) :: zTT) rm_X11_back).room (false, 0, fun _ => 0) (107, 4, 5, 2, 0, 0, sp_X6_takeAll) := z_ca4 (c_X6_takeAll l) mb_X6_takeAll ⟨_, rfl, rfl⟩ wt_725 wt_726 wt_727 (by decide)
theorem O_X11_back (l : Launch) : z_OK l RX11 cX11_back (headSpec (.code yX11_back cX11_back 1 (some .int) :: zTT) rm_X11_back).room M_X11_back := ⟨ok_X11_back, fo_X11, List.forall_mem_cons.mpr ⟨ca_X11_back_0 l, List.forall_mem_cons.mpr ⟨ca_X11_back_1 l, fun _ h => absurd h List.not_mem_nil⟩⟩, fun _ h => absurd h List.not_mem_nil, fun _ h => absurd h List.not_mem_nil, fun _ h => absurd h List.not_mem_nil, fun _ h => absurd h List.not_mem_nil, rfl, rfl, fun _ h => absurd h List.not_mem_nil⟩
theorem c_X11_back (l : Launch) : z_CS l yX11_back cX11_back 1 (some .int) rm_X11_back sp_X11_back := by
  refine z_meth (by decide) (Or.inr (Or.inl ⟨rfl, rfl⟩)) (fun h => by cases h) rfl (O_X11_back l) ?_
  intro av w K h
  match av, h with
  | [.ref o], h =>
    obtain ⟨rfl, ⟨r, hG⟩, ⟨d, q, c, A, ⟨kf, d2, c2, B⟩, tx, tl⟩, hC, h⟩ := h
    obtain ⟨G, wi, wl⟩ := w
    subst hG
    try dsimp only at h hC
    refine ⟨Nat.le_of_ble_eq_true rfl, fun Jm hs => ?_⟩
    refine hs 400 0 _ _ _ _ _ ?_
    unfold st_back at h
    dsimp only at h
    rcases ct_K hC with ⟨k1, k2⟩ | ⟨k1, k2, hS9, hZ9⟩
    · dsimp only at k1
      subst k1
      rw [if_neg (by decide)] at h
      conv => whnf
      repeat ((first | refine ⟨zG_of _, ?_⟩ | refine ⟨trivial, ?_⟩ | refine ⟨rfl, ?_⟩ | refine ⟨fun hc => absurd hc (by decide), fun _ => ?_⟩ | refine ⟨fun _ => ?_, fun hc => absurd (by decide) hc⟩ | refine ⟨fun _ => ?_, fun hc => absurd hc (by decide)⟩ | refine ⟨fun hc => absurd (by decide) hc, fun _ => ?_⟩); conv => whnf)
      try dsimp only
      rw [k2]
      refine ⟨fun z => absurd rfl z, fun _ => ⟨trivial, h wi wl (FrC_refl _ _) hC⟩⟩
    · dsimp only at k1 hS9 hZ9
      subst k1
      rw [if_pos rfl] at h
      have hS := ct_S hC
      conv => whnf
      repeat ((first | refine ⟨zG_of _, ?_⟩ | refine ⟨trivial, ?_⟩ | refine ⟨rfl, ?_⟩ | refine ⟨fun hc => absurd hc (by decide), fun _ => ?_⟩ | refine ⟨fun _ => ?_, fun hc => absurd (by decide) hc⟩ | refine ⟨fun _ => ?_, fun hc => absurd hc (by decide)⟩ | refine ⟨fun hc => absurd (by decide) hc, fun _ => ?_⟩); conv => whnf)
      try dsimp only
      rw [k2]
      refine ⟨fun _ => ?_, fun z => absurd z (by decide)⟩
      conv => whnf
      repeat ((first | refine ⟨zG_of _, ?_⟩ | refine ⟨trivial, ?_⟩ | refine ⟨rfl, ?_⟩ | refine ⟨fun hc => absurd hc (by decide), fun _ => ?_⟩ | refine ⟨fun _ => ?_, fun hc => absurd (by decide) hc⟩ | refine ⟨fun _ => ?_, fun hc => absurd hc (by decide)⟩ | refine ⟨fun hc => absurd (by decide) hc, fun _ => ?_⟩); conv => whnf)
      try dsimp only
      rw [shape_S hS hS9, bI_0, Classical.not_not]
      refine ⟨fun hq => ?_, fun hq => ?_⟩
      · rw [if_pos hq] at h
        conv => whnf
        repeat ((first | refine ⟨zG_of _, ?_⟩ | refine ⟨trivial, ?_⟩ | refine ⟨rfl, ?_⟩ | refine ⟨fun hc => absurd hc (by decide), fun _ => ?_⟩ | refine ⟨fun _ => ?_, fun hc => absurd (by decide) hc⟩ | refine ⟨fun _ => ?_, fun hc => absurd hc (by decide)⟩ | refine ⟨fun hc => absurd (by decide) hc, fun _ => ?_⟩); conv => whnf)
        try dsimp only
        refine ⟨by simp, zG_of _, d2, q, c2, B, hS9, fun wi1 hF1 hS1 => ?_⟩
        have h := h wi1 wl (fun y hy => ⟨hF1 y (by omega) (by omega), rfl⟩) (ct_now hC hS1 hZ9 (fun y hy => hF1 y (by omega) (by omega)) rfl)
        rw [← cs_c hS1] at h
        conv => whnf
        repeat ((first | refine ⟨zG_of _, ?_⟩ | refine ⟨trivial, ?_⟩ | refine ⟨rfl, ?_⟩ | refine ⟨fun hc => absurd hc (by decide), fun _ => ?_⟩ | refine ⟨fun _ => ?_, fun hc => absurd (by decide) hc⟩ | refine ⟨fun _ => ?_, fun hc => absurd hc (by decide)⟩ | refine ⟨fun hc => absurd (by decide) hc, fun _ => ?_⟩); conv => whnf)
        try dsimp only
        exact h
      · rw [if_neg hq] at h
        exact ⟨trivial, h wi wl (FrC_refl _ _) hC⟩
/-- what a count answers -/
def coA (T : zT) (n : Nat) : Int32 :=
  if n = 0 then nI (T.1 0) else if n = 1 then nI (T.1 1) else if n = 2 then nI (T.1 2) else if n = 3 then nI T.2.1 else if n = 4 then nI T.2.2.1
  else if n = 5 then (if T.2.2.2.2.1.1 = true then nI T.2.2.2.2.1.2.2.1 else mI 1) else if n = 6 then nI T.2.2.2.2.2.2.1 else if n = 7 then nI T.2.2.2.2.2.1.1
  else if n = 8 then nI (fb_ct (hzB T.2.2.2.1) T.2.2.1) else if n = 9 then nI (fb_sm (nzS T.2.2.2.1) (3 * T.2.2.1))
  else if n = 10 then nI (fb_ct (ulB T.2.1 T.2.2.2.1 0) T.2.2.1) else if n = 11 then nI (fb_ct (ulB T.2.1 T.2.2.2.1 1) T.2.2.1) else if n = 12 then nI (fb_ct (ulB T.2.1 T.2.2.2.1 2) T.2.2.1)
  else nI (fb_ct (sgB T.2.2.2.1) T.2.2.1)
def st_count (T : zT) (v : Int32) : zT × Int32 := (T, if idB 14 v = true then coA T v.toNatClampNeg else mI 1)
def sp_X11_count : zSp := fun av w K => match av with
  | [.ref o, .int v] => o = 0 ∧ zG w.1 ∧ ∃ T, CT w.2.1 w.2.2 T ∧ ∀ wi' wl', FrC w.2.1 w.2.2 wi' wl' → CT wi' wl' (st_count T v).1 → K (some (.int (st_count T v).2)) (w.1, wi', wl')
  | _ => False
def rm_X11_count : Room := { frames := 5, cells := 0, slots := 0, locals := 116 }
def M_X11_count : zM := (k_X11_count, f_X11, [(213, 4, 5, 1, 0, 0, sp_X6_zeros), (362, 4, 5, 1, 0, 0, sp_X6_notZero), (365, 4, 5, 2, 0, 0, sp_X6_unlikeForms), (368, 4, 5, 1, 0, 0, sp_X6_singles)], ([], [], []), sw_X11_count, [], 1, false, (false, 0, fun _ => 0), (0, 0, []))
theorem ca_X11_count_0 (l : Launch) : z_cok l RX11 (headSpec (.code yX11_count cX11_count 2 (some .int) :: zTT) rm_X11_count).room (false, 0, fun _ => 0) (213, 4, 5, 1, 0, 0, sp_X6_zeros) := z_ca4 (c_X6_zeros l) mb_X6_zeros ⟨_, rfl, rfl⟩ wt_535 wt_536 wt_537 (by decide)
theorem ca_X11_count_1 (l : Launch) : z_cok l RX11 (headSpec (.code yX11_count cX11_count 2 (some .int) :: zTT) rm_X11_count).room (false, 0, fun _ => 0) (362, 4, 5, 1, 0, 0, sp_X6_notZero) := z_ca4 (c_X6_notZero l) mb_X6_notZero ⟨_, rfl, rfl⟩ wt_862 wt_863 wt_864 (by decide)
theorem ca_X11_count_2 (l : Launch) : z_cok l RX11 (headSpec (.code yX11_count cX11_count 2 (some .int) :: zTT) rm_X11_count).room (false, 0, fun _ => 0) (365, 4, 5, 2, 0, 0, sp_X6_unlikeForms) := z_ca4 (c_X6_unlikeForms l) mb_X6_unlikeForms ⟨_, rfl, rfl⟩ wt_872 wt_873 wt_874 (by decide)
theorem ca_X11_count_3 (l : Launch) : z_cok l RX11 (headSpec (.code yX11_count cX11_count 2 (some .int) :: zTT) rm_X11_count).room (false, 0, fun _ => 0) (368, 4, 5, 1, 0, 0, sp_X6_singles) := z_ca4 (c_X6_singles l) mb_X6_singles ⟨_, rfl, rfl⟩ wt_877 wt_878 wt_879 (by decide)
theorem O_X11_count (l : Launch) : z_OK l RX11 cX11_count (headSpec (.code yX11_count cX11_count 2 (some .int) :: zTT) rm_X11_count).room M_X11_count := ⟨ok_X11_count, fo_X11, List.forall_mem_cons.mpr ⟨ca_X11_count_0 l, List.forall_mem_cons.mpr ⟨ca_X11_count_1 l, List.forall_mem_cons.mpr ⟨ca_X11_count_2 l, List.forall_mem_cons.mpr ⟨ca_X11_count_3 l, fun _ h => absurd h List.not_mem_nil⟩⟩⟩⟩, fun _ h => absurd h List.not_mem_nil, fun _ h => absurd h List.not_mem_nil, fun _ h => absurd h List.not_mem_nil, swok_X11_count, rfl, rfl, fun _ h => absurd h List.not_mem_nil⟩
theorem c_X11_count (l : Launch) : z_CS l yX11_count cX11_count 2 (some .int) rm_X11_count sp_X11_count := by
  refine z_meth (by decide) (Or.inr (Or.inl ⟨rfl, rfl⟩)) (fun h => by cases h) rfl (O_X11_count l) ?_
  intro av w K h
  match av, h with
  | [.ref o, .int v], h =>
    obtain ⟨rfl, ⟨r, hG⟩, ⟨d, q, c, A, ⟨kf, d2, c2, B⟩, tx, tl⟩, hC, h⟩ := h
    obtain ⟨G, wi, wl⟩ := w
    subst hG
    try dsimp only at h hC
    refine ⟨Nat.le_of_ble_eq_true rfl, fun Jm hs => ?_⟩
    refine hs 400 0 _ _ _ _ _ ?_
    have h := h wi wl (FrC_refl _ _)
    unfold st_count at h
    dsimp only at h
    have h := h hC
    have hS := ct_S hC
    have no : ¬ idB 14 v = true → K (some (.int (mI 1))) (GC ++ r, wi, wl) := fun hn => by
      rw [if_neg hn] at h
      exact h
    have yes : ∀ n, v = Int32.ofInt n → 0 ≤ n → n < 14 → K (some (.int (coA (d, q, c, A, (kf, d2, c2, B), tx, tl) n.toNat))) (GC ++ r, wi, wl) := fun n e h0 h14 => by
      have e2 : v = nI n.toNat := by
        rw [e]
        show Int32.ofInt n = Int32.ofInt (n.toNat : Int)
        rw [Int.toNat_of_nonneg h0]
      subst e2
      rw [if_pos (idB_of (by omega) (by decide)), nc_N (by omega)] at h
      exact h
    conv => whnf
    repeat ((first | refine ⟨zG_of _, ?_⟩ | refine ⟨trivial, ?_⟩ | refine ⟨rfl, ?_⟩ | refine ⟨fun hc => absurd hc (by decide), fun _ => ?_⟩ | refine ⟨fun _ => ?_, fun hc => absurd (by decide) hc⟩ | refine ⟨fun _ => ?_, fun hc => absurd hc (by decide)⟩ | refine ⟨fun hc => absurd (by decide) hc, fun _ => ?_⟩); conv => whnf)
    try dsimp only
    refine ⟨⟨fun e => ?_, fun e => ?_, fun e => ?_, fun e => ?_, fun e => ?_, fun e => ?_, fun e => ?_, fun e => ?_, fun e => ?_, fun e => ?_, fun e => ?_, fun e => ?_, fun e => ?_, fun e => ?_, trivial⟩, fun e => ?_⟩
    · have h := yes 0 e (by decide) (by decide)
      change K (some (.int (nI (d 0)))) _ at h
      rw [← cs_1 hS] at h
      conv => whnf
      repeat ((first | refine ⟨zG_of _, ?_⟩ | refine ⟨trivial, ?_⟩ | refine ⟨rfl, ?_⟩ | refine ⟨fun hc => absurd hc (by decide), fun _ => ?_⟩ | refine ⟨fun _ => ?_, fun hc => absurd (by decide) hc⟩ | refine ⟨fun _ => ?_, fun hc => absurd hc (by decide)⟩ | refine ⟨fun hc => absurd (by decide) hc, fun _ => ?_⟩); conv => whnf)
      try dsimp only
      exact h
    · have h := yes 1 e (by decide) (by decide)
      change K (some (.int (nI (d 1)))) _ at h
      rw [← cs_2 hS] at h
      conv => whnf
      repeat ((first | refine ⟨zG_of _, ?_⟩ | refine ⟨trivial, ?_⟩ | refine ⟨rfl, ?_⟩ | refine ⟨fun hc => absurd hc (by decide), fun _ => ?_⟩ | refine ⟨fun _ => ?_, fun hc => absurd (by decide) hc⟩ | refine ⟨fun _ => ?_, fun hc => absurd hc (by decide)⟩ | refine ⟨fun hc => absurd (by decide) hc, fun _ => ?_⟩); conv => whnf)
      try dsimp only
      exact h
    · have h := yes 2 e (by decide) (by decide)
      change K (some (.int (nI (d 2)))) _ at h
      rw [← cs_3 hS] at h
      conv => whnf
      repeat ((first | refine ⟨zG_of _, ?_⟩ | refine ⟨trivial, ?_⟩ | refine ⟨rfl, ?_⟩ | refine ⟨fun hc => absurd hc (by decide), fun _ => ?_⟩ | refine ⟨fun _ => ?_, fun hc => absurd (by decide) hc⟩ | refine ⟨fun _ => ?_, fun hc => absurd hc (by decide)⟩ | refine ⟨fun hc => absurd (by decide) hc, fun _ => ?_⟩); conv => whnf)
      try dsimp only
      exact h
    · have h := yes 3 e (by decide) (by decide)
      change K (some (.int (nI q))) _ at h
      rw [← cs_q hS] at h
      conv => whnf
      repeat ((first | refine ⟨zG_of _, ?_⟩ | refine ⟨trivial, ?_⟩ | refine ⟨rfl, ?_⟩ | refine ⟨fun hc => absurd hc (by decide), fun _ => ?_⟩ | refine ⟨fun _ => ?_, fun hc => absurd (by decide) hc⟩ | refine ⟨fun _ => ?_, fun hc => absurd hc (by decide)⟩ | refine ⟨fun hc => absurd (by decide) hc, fun _ => ?_⟩); conv => whnf)
      try dsimp only
      exact h
    · have h := yes 4 e (by decide) (by decide)
      change K (some (.int (nI c))) _ at h
      rw [← cs_c hS] at h
      conv => whnf
      repeat ((first | refine ⟨zG_of _, ?_⟩ | refine ⟨trivial, ?_⟩ | refine ⟨rfl, ?_⟩ | refine ⟨fun hc => absurd hc (by decide), fun _ => ?_⟩ | refine ⟨fun _ => ?_, fun hc => absurd (by decide) hc⟩ | refine ⟨fun _ => ?_, fun hc => absurd hc (by decide)⟩ | refine ⟨fun hc => absurd (by decide) hc, fun _ => ?_⟩); conv => whnf)
      try dsimp only
      exact h
    · have h := yes 5 e (by decide) (by decide)
      change K (some (.int (if kf = true then nI c2 else mI 1))) _ at h
      rcases ct_K hC with ⟨k1, k2⟩ | ⟨k1, k2, hS9, hZ9⟩
      · dsimp only at k1
        rw [k1, if_neg (by decide)] at h
        conv => whnf
        repeat ((first | refine ⟨zG_of _, ?_⟩ | refine ⟨trivial, ?_⟩ | refine ⟨rfl, ?_⟩ | refine ⟨fun hc => absurd hc (by decide), fun _ => ?_⟩ | refine ⟨fun _ => ?_, fun hc => absurd (by decide) hc⟩ | refine ⟨fun _ => ?_, fun hc => absurd hc (by decide)⟩ | refine ⟨fun hc => absurd (by decide) hc, fun _ => ?_⟩); conv => whnf)
        try dsimp only
        rw [k2]
        exact ⟨fun _ => ⟨trivial, h⟩, fun z => absurd rfl z⟩
      · dsimp only at k1 hS9
        rw [k1, if_pos rfl, ← cs_c hS9] at h
        conv => whnf
        repeat ((first | refine ⟨zG_of _, ?_⟩ | refine ⟨trivial, ?_⟩ | refine ⟨rfl, ?_⟩ | refine ⟨fun hc => absurd hc (by decide), fun _ => ?_⟩ | refine ⟨fun _ => ?_, fun hc => absurd (by decide) hc⟩ | refine ⟨fun _ => ?_, fun hc => absurd hc (by decide)⟩ | refine ⟨fun hc => absurd (by decide) hc, fun _ => ?_⟩); conv => whnf)
        try dsimp only
        rw [k2]
        refine ⟨fun z => absurd z (by decide), fun _ => ?_⟩
        conv => whnf
        repeat ((first | refine ⟨zG_of _, ?_⟩ | refine ⟨trivial, ?_⟩ | refine ⟨rfl, ?_⟩ | refine ⟨fun hc => absurd hc (by decide), fun _ => ?_⟩ | refine ⟨fun _ => ?_, fun hc => absurd (by decide) hc⟩ | refine ⟨fun _ => ?_, fun hc => absurd hc (by decide)⟩ | refine ⟨fun hc => absurd (by decide) hc, fun _ => ?_⟩); conv => whnf)
        try dsimp only
        exact h
    · have h := yes 6 e (by decide) (by decide)
      change K (some (.int (nI tl.1))) _ at h
      rw [← (ct_T hC).1] at h
      conv => whnf
      repeat ((first | refine ⟨zG_of _, ?_⟩ | refine ⟨trivial, ?_⟩ | refine ⟨rfl, ?_⟩ | refine ⟨fun hc => absurd hc (by decide), fun _ => ?_⟩ | refine ⟨fun _ => ?_, fun hc => absurd (by decide) hc⟩ | refine ⟨fun _ => ?_, fun hc => absurd hc (by decide)⟩ | refine ⟨fun hc => absurd (by decide) hc, fun _ => ?_⟩); conv => whnf)
      try dsimp only
      exact h
    · have h := yes 7 e (by decide) (by decide)
      change K (some (.int (nI tx.1))) _ at h
      rw [← (ct_X hC).1] at h
      conv => whnf
      repeat ((first | refine ⟨zG_of _, ?_⟩ | refine ⟨trivial, ?_⟩ | refine ⟨rfl, ?_⟩ | refine ⟨fun hc => absurd hc (by decide), fun _ => ?_⟩ | refine ⟨fun _ => ?_, fun hc => absurd (by decide) hc⟩ | refine ⟨fun _ => ?_, fun hc => absurd hc (by decide)⟩ | refine ⟨fun hc => absurd (by decide) hc, fun _ => ?_⟩); conv => whnf)
      try dsimp only
      exact h
    · have h := yes 8 e (by decide) (by decide)
      change K (some (.int (nI (fb_ct (hzB A) c)))) _ at h
      conv => whnf
      repeat ((first | refine ⟨zG_of _, ?_⟩ | refine ⟨trivial, ?_⟩ | refine ⟨rfl, ?_⟩ | refine ⟨fun hc => absurd hc (by decide), fun _ => ?_⟩ | refine ⟨fun _ => ?_, fun hc => absurd (by decide) hc⟩ | refine ⟨fun _ => ?_, fun hc => absurd hc (by decide)⟩ | refine ⟨fun hc => absurd (by decide) hc, fun _ => ?_⟩); conv => whnf)
      try dsimp only
      refine ⟨d, q, c, A, hS, ?_⟩
      conv => whnf
      repeat ((first | refine ⟨zG_of _, ?_⟩ | refine ⟨trivial, ?_⟩ | refine ⟨rfl, ?_⟩ | refine ⟨fun hc => absurd hc (by decide), fun _ => ?_⟩ | refine ⟨fun _ => ?_, fun hc => absurd (by decide) hc⟩ | refine ⟨fun _ => ?_, fun hc => absurd hc (by decide)⟩ | refine ⟨fun hc => absurd (by decide) hc, fun _ => ?_⟩); conv => whnf)
      try dsimp only
      exact h
    · have h := yes 9 e (by decide) (by decide)
      change K (some (.int (nI (fb_sm (nzS A) (3 * c))))) _ at h
      conv => whnf
      repeat ((first | refine ⟨zG_of _, ?_⟩ | refine ⟨trivial, ?_⟩ | refine ⟨rfl, ?_⟩ | refine ⟨fun hc => absurd hc (by decide), fun _ => ?_⟩ | refine ⟨fun _ => ?_, fun hc => absurd (by decide) hc⟩ | refine ⟨fun _ => ?_, fun hc => absurd hc (by decide)⟩ | refine ⟨fun hc => absurd (by decide) hc, fun _ => ?_⟩); conv => whnf)
      try dsimp only
      refine ⟨d, q, c, A, hS, ?_⟩
      conv => whnf
      repeat ((first | refine ⟨zG_of _, ?_⟩ | refine ⟨trivial, ?_⟩ | refine ⟨rfl, ?_⟩ | refine ⟨fun hc => absurd hc (by decide), fun _ => ?_⟩ | refine ⟨fun _ => ?_, fun hc => absurd (by decide) hc⟩ | refine ⟨fun _ => ?_, fun hc => absurd hc (by decide)⟩ | refine ⟨fun hc => absurd (by decide) hc, fun _ => ?_⟩); conv => whnf)
      try dsimp only
      exact h
    · have h := yes 10 e (by decide) (by decide)
      change K (some (.int (nI (fb_ct (ulB q A 0) c)))) _ at h
      subst e
      conv => whnf
      repeat ((first | refine ⟨zG_of _, ?_⟩ | refine ⟨trivial, ?_⟩ | refine ⟨rfl, ?_⟩ | refine ⟨fun hc => absurd hc (by decide), fun _ => ?_⟩ | refine ⟨fun _ => ?_, fun hc => absurd (by decide) hc⟩ | refine ⟨fun _ => ?_, fun hc => absurd hc (by decide)⟩ | refine ⟨fun hc => absurd (by decide) hc, fun _ => ?_⟩); conv => whnf)
      try dsimp only
      refine ⟨d, q, c, A, 0, hS, by decide, by decide, ?_⟩
      conv => whnf
      repeat ((first | refine ⟨zG_of _, ?_⟩ | refine ⟨trivial, ?_⟩ | refine ⟨rfl, ?_⟩ | refine ⟨fun hc => absurd hc (by decide), fun _ => ?_⟩ | refine ⟨fun _ => ?_, fun hc => absurd (by decide) hc⟩ | refine ⟨fun _ => ?_, fun hc => absurd hc (by decide)⟩ | refine ⟨fun hc => absurd (by decide) hc, fun _ => ?_⟩); conv => whnf)
      try dsimp only
      exact h
    · have h := yes 11 e (by decide) (by decide)
      change K (some (.int (nI (fb_ct (ulB q A 1) c)))) _ at h
      subst e
      conv => whnf
      repeat ((first | refine ⟨zG_of _, ?_⟩ | refine ⟨trivial, ?_⟩ | refine ⟨rfl, ?_⟩ | refine ⟨fun hc => absurd hc (by decide), fun _ => ?_⟩ | refine ⟨fun _ => ?_, fun hc => absurd (by decide) hc⟩ | refine ⟨fun _ => ?_, fun hc => absurd hc (by decide)⟩ | refine ⟨fun hc => absurd (by decide) hc, fun _ => ?_⟩); conv => whnf)
      try dsimp only
      refine ⟨d, q, c, A, 1, hS, by decide, by decide, ?_⟩
      conv => whnf
      repeat ((first | refine ⟨zG_of _, ?_⟩ | refine ⟨trivial, ?_⟩ | refine ⟨rfl, ?_⟩ | refine ⟨fun hc => absurd hc (by decide), fun _ => ?_⟩ | refine ⟨fun _ => ?_, fun hc => absurd (by decide) hc⟩ | refine ⟨fun _ => ?_, fun hc => absurd hc (by decide)⟩ | refine ⟨fun hc => absurd (by decide) hc, fun _ => ?_⟩); conv => whnf)
      try dsimp only
      exact h
    · have h := yes 12 e (by decide) (by decide)
      change K (some (.int (nI (fb_ct (ulB q A 2) c)))) _ at h
      subst e
      conv => whnf
      repeat ((first | refine ⟨zG_of _, ?_⟩ | refine ⟨trivial, ?_⟩ | refine ⟨rfl, ?_⟩ | refine ⟨fun hc => absurd hc (by decide), fun _ => ?_⟩ | refine ⟨fun _ => ?_, fun hc => absurd (by decide) hc⟩ | refine ⟨fun _ => ?_, fun hc => absurd hc (by decide)⟩ | refine ⟨fun hc => absurd (by decide) hc, fun _ => ?_⟩); conv => whnf)
      try dsimp only
      refine ⟨d, q, c, A, 2, hS, by decide, by decide, ?_⟩
      conv => whnf
      repeat ((first | refine ⟨zG_of _, ?_⟩ | refine ⟨trivial, ?_⟩ | refine ⟨rfl, ?_⟩ | refine ⟨fun hc => absurd hc (by decide), fun _ => ?_⟩ | refine ⟨fun _ => ?_, fun hc => absurd (by decide) hc⟩ | refine ⟨fun _ => ?_, fun hc => absurd hc (by decide)⟩ | refine ⟨fun hc => absurd (by decide) hc, fun _ => ?_⟩); conv => whnf)
      try dsimp only
      exact h
    · have h := yes 13 e (by decide) (by decide)
      change K (some (.int (nI (fb_ct (sgB A) c)))) _ at h
      conv => whnf
      repeat ((first | refine ⟨zG_of _, ?_⟩ | refine ⟨trivial, ?_⟩ | refine ⟨rfl, ?_⟩ | refine ⟨fun hc => absurd hc (by decide), fun _ => ?_⟩ | refine ⟨fun _ => ?_, fun hc => absurd (by decide) hc⟩ | refine ⟨fun _ => ?_, fun hc => absurd hc (by decide)⟩ | refine ⟨fun hc => absurd (by decide) hc, fun _ => ?_⟩); conv => whnf)
      try dsimp only
      refine ⟨d, q, c, A, hS, ?_⟩
      conv => whnf
      repeat ((first | refine ⟨zG_of _, ?_⟩ | refine ⟨trivial, ?_⟩ | refine ⟨rfl, ?_⟩ | refine ⟨fun hc => absurd hc (by decide), fun _ => ?_⟩ | refine ⟨fun _ => ?_, fun hc => absurd (by decide) hc⟩ | refine ⟨fun _ => ?_, fun hc => absurd hc (by decide)⟩ | refine ⟨fun hc => absurd (by decide) hc, fun _ => ?_⟩); conv => whnf)
      try dsimp only
      exact h
    · refine ⟨trivial, no (fun z => ?_)⟩
      obtain ⟨n, hn, rfl⟩ := idB_N z (by decide)
      rw [nI_toInt (by omega)] at e
      simp only [List.length_cons, List.length_nil] at e
      omega

