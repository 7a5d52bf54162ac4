/-! what is kept; counts -/
def st_keeps (T : zT) : zT × Int32 := ((T.1, T.2.1, T.2.2.1, T.2.2.2.1, (true, T.1, T.2.2.1, T.2.2.2.1), T.2.2.2.2.2), nI T.2.2.1)
def sp_X11_keeps : zSp := fun av w K => match av with
  | [.ref o] => o = 0 ∧ zG w.1 ∧ ∃ T, CT w.2.1 w.2.2 T ∧ ∀ wi' wl', FrC w.2.1 w.2.2 wi' wl' → CT wi' wl' (st_keeps T).1 → K (some (.int (st_keeps T).2)) (w.1, wi', wl')
  | _ => False
def rm_X11_keeps : Room := { frames := 2, cells := 0, slots := 0, locals := 44 }
def M_X11_keeps : zM := (k_X11_keeps, f_X11, [(107, 4, 5, 2, 0, 0, sp_X6_takeAll)], ([], [], []), [], [], 1, false, (false, 0, fun _ => 0), (0, 0, []))
theorem ca_X11_keeps_0 (l : Launch) : z_cok l RX11 (headSpec (.code yX11_keeps cX11_keeps 1 (some .int) :: zTT) rm_X11_keeps).room (false, 0, fun _ => 0) (107, 4, 5, 2, 0, 0, sp_X6_takeAll) := z_ca4 (c_X6_takeAll l) mb_X6_takeAll ⟨_, rfl, rfl⟩ wt_725 wt_726 wt_727 (by decide)
theorem O_X11_keeps (l : Launch) : z_OK l RX11 cX11_keeps (headSpec (.code yX11_keeps cX11_keeps 1 (some .int) :: zTT) rm_X11_keeps).room M_X11_keeps := ⟨ok_X11_keeps, fo_X11, List.forall_mem_cons.mpr ⟨ca_X11_keeps_0 l, fun _ h => absurd h List.not_mem_nil⟩, fun _ h => absurd h List.not_mem_nil, fun _ h => absurd h List.not_mem_nil, fun _ h => absurd h List.not_mem_nil, fun _ h => absurd h List.not_mem_nil, rfl, rfl, fun _ h => absurd h List.not_mem_nil⟩
theorem c_X11_keeps (l : Launch) : z_CS l yX11_keeps cX11_keeps 1 (some .int) rm_X11_keeps sp_X11_keeps := by
  refine z_meth (by decide) (Or.inr (Or.inl ⟨rfl, rfl⟩)) (fun h => by cases h) rfl (O_X11_keeps l) ?_
  intro av w K h
  match av, h with
  | [.ref o], h =>
    obtain ⟨rfl, ⟨r, hG⟩, ⟨d, q, c, A, kp, tx, tl⟩, hC, h⟩ := h
    obtain ⟨G, wi, wl⟩ := w
    subst hG
    try dsimp only at h hC
    refine ⟨Nat.le_of_ble_eq_true rfl, fun Jm hs => hs 400 0 _ _ _ _ _ ?_⟩
    unfold st_keeps at h
    dsimp only at h
    conv => whnf
    repeat ((first | refine ⟨zG_of _, ?_⟩ | refine ⟨trivial, ?_⟩ | refine ⟨rfl, ?_⟩ | refine ⟨fun hc => absurd hc (by decide), fun _ => ?_⟩ | refine ⟨fun _ => ?_, fun hc => absurd (by decide) hc⟩ | refine ⟨fun _ => ?_, fun hc => absurd hc (by decide)⟩ | refine ⟨fun hc => absurd (by decide) hc, fun _ => ?_⟩); conv => whnf)
    try dsimp only
    refine ⟨by simp, zG_of _, d, q, c, A, ct_S hC, fun wi1 hF1 hS1 => ?_⟩
    have hS9 : CS (z_up wi1 0 10 (nI 1)) 9 d q c A := cs_fr hS1 (z_up_ne (by decide)) (z_up_ne (by decide))
    have hF : ∀ y, y ≠ 0 → y ≠ 9 → y ≠ 11 → z_up wi1 0 10 (nI 1) y = wi y := fun y g1 g2 g3 => by rw [z_up_ne g1, hF1 y g2 g3]
    have h := h (z_up wi1 0 10 (nI 1)) wl (fun y hy => ⟨hF y (by omega) (by omega) (by omega), rfl⟩) ⟨cs_fr (ct_S hC) (hF 6 (by decide) (by decide) (by decide)) (hF 8 (by decide) (by decide) (by decide)), ct_Z hC, Or.inr ⟨rfl, z_up_eq, hS9, ct_Z hC⟩, tl_fr (ct_X hC) (hF 1 (by decide) (by decide) (by decide)) (hF 3 (by decide) (by decide) (by decide)), ts_fr (ct_T hC) (hF 4 (by decide) (by decide) (by decide)) rfl⟩
    rw [← cs_c hS9] at h
    conv => whnf
    repeat ((first | refine ⟨zG_of _, ?_⟩ | refine ⟨trivial, ?_⟩ | refine ⟨rfl, ?_⟩ | refine ⟨fun hc => absurd hc (by decide), fun _ => ?_⟩ | refine ⟨fun _ => ?_, fun hc => absurd (by decide) hc⟩ | refine ⟨fun _ => ?_, fun hc => absurd hc (by decide)⟩ | refine ⟨fun hc => absurd (by decide) hc, fun _ => ?_⟩); conv => whnf)
    try dsimp only
    refine ⟨Or.inr rfl, ?_⟩
    conv => whnf
    repeat ((first | refine ⟨zG_of _, ?_⟩ | refine ⟨trivial, ?_⟩ | refine ⟨rfl, ?_⟩ | refine ⟨fun hc => absurd hc (by decide), fun _ => ?_⟩ | refine ⟨fun _ => ?_, fun hc => absurd (by decide) hc⟩ | refine ⟨fun _ => ?_, fun hc => absurd hc (by decide)⟩ | refine ⟨fun hc => absurd (by decide) hc, fun _ => ?_⟩); conv => whnf)
    try dsimp only
    exact h
def shB (d d2 : Nat → Nat) : Bool := d 0 == d2 0 && d 1 == d2 1 && d 2 == d2 2
theorem shape_S {wi : Nat → Nat → Int32} {o o2 : Nat} {d d2 : Nat → Nat} {q c c2 : Nat} {A B : Nat → Nat → Nat} (h : CS wi o d q c A) (h2 : CS wi o2 d2 q c2 B) : shapeF wi o o2 = bI (shB d d2 = true) := by
  have a0 := cs_d h 0 (by decide)
  have a1 := cs_d h 1 (by decide)
  have a2 := cs_d h 2 (by decide)
  have b0 := cs_d h2 0 (by decide)
  have b1 := cs_d h2 1 (by decide)
  have b2 := cs_d h2 2 (by decide)
  unfold shapeF shB
  refine bI_cg ?_
  rw [cs_1 h, cs_2 h, cs_3 h, cs_1 h2, cs_2 h2, cs_3 h2, nI_eq (by omega) (by omega), nI_eq (by omega) (by omega), nI_eq (by omega) (by omega)]
  simp [and_assoc]
def kpM (T : zT) : Nat := if shB T.1 T.2.2.2.2.1.2.1 = true then mtN T.2.1 T.2.2.2.1 T.2.2.1 T.2.2.2.2.1.2.2.2 T.2.2.2.2.1.2.2.1 else 0
def st_others (T : zT) : zT × Int32 := if T.2.2.2.2.1.1 = true then (wTl T (1, upL (fun _ => 0) 0 (lN (T.2.2.2.2.1.2.2.1 - kpM T))), nI T.2.2.1 - nI (kpM T)) else (T, mI 2)
def sp_X11_others : zSp := fun av w K => match av with
  | [.ref o] => o = 0 ∧ zG w.1 ∧ ∃ T, CT w.2.1 w.2.2 T ∧ ∀ wi' wl', FrC w.2.1 w.2.2 wi' wl' → CT wi' wl' (st_others T).1 → K (some (.int (st_others T).2)) (w.1, wi', wl')
  | _ => False
def rm_X11_others : Room := { frames := 4, cells := 0, slots := 0, locals := 93 }
def M_X11_others : zM := (k_X11_others, f_X11, [(346, 4, 5, 2, 0, 0, sp_X6_hasShapeOf), (349, 4, 5, 2, 0, 0, sp_X6_matches), (150, 4, 8, 1, 0, 0, sp_X9_clear), (167, 4, 8, 2, 0, 0, sp_X9_add)], ([], [], []), [], [(39, [true, false])], 1, false, (false, 0, fun _ => 0), (0, 0, []))
theorem ca_X11_others_0 (l : Launch) : z_cok l RX11 (headSpec (.code yX11_others cX11_others 2 (some .int) :: zTT) rm_X11_others).room (false, 0, fun _ => 0) (346, 4, 5, 2, 0, 0, sp_X6_hasShapeOf) := z_ca4 (c_X6_hasShapeOf l) mb_X6_hasShapeOf ⟨_, rfl, rfl⟩ wt_773 wt_774 wt_775 (by decide)
theorem ca_X11_others_1 (l : Launch) : z_cok l RX11 (headSpec (.code yX11_others cX11_others 2 (some .int) :: zTT) rm_X11_others).room (false, 0, fun _ => 0) (349, 4, 5, 2, 0, 0, sp_X6_matches) := z_ca4 (c_X6_matches l) mb_X6_matches ⟨_, rfl, rfl⟩ wt_777 wt_778 wt_779 (by decide)
theorem ca_X11_others_2 (l : Launch) : z_cok l RX11 (headSpec (.code yX11_others cX11_others 2 (some .int) :: zTT) rm_X11_others).room (false, 0, fun _ => 0) (150, 4, 8, 1, 0, 0, sp_X9_clear) := z_ca4 (c_X9_clear l) mb_X9_clear ⟨_, rfl, rfl⟩ wt_429 wt_430 wt_431 (by decide)
theorem ca_X11_others_3 (l : Launch) : z_cok l RX11 (headSpec (.code yX11_others cX11_others 2 (some .int) :: zTT) rm_X11_others).room (false, 0, fun _ => 0) (167, 4, 8, 2, 0, 0, sp_X9_add) := z_ca4 (c_X9_add l) mb_X9_add ⟨_, rfl, rfl⟩ wt_469 wt_470 wt_471 (by decide)
theorem O_X11_others (l : Launch) : z_OK l RX11 cX11_others (headSpec (.code yX11_others cX11_others 2 (some .int) :: zTT) rm_X11_others).room M_X11_others := ⟨ok_X11_others, fo_X11, List.forall_mem_cons.mpr ⟨ca_X11_others_0 l, List.forall_mem_cons.mpr ⟨ca_X11_others_1 l, List.forall_mem_cons.mpr ⟨ca_X11_others_2 l, List.forall_mem_cons.mpr ⟨ca_X11_others_3 l, fun _ h => absurd h List.not_mem_nil⟩⟩⟩⟩, fun _ h => absurd h List.not_mem_nil, fun _ h => absurd h List.not_mem_nil, fun _ h => absurd h List.not_mem_nil, fun _ h => absurd h List.not_mem_nil, rfl, rfl, fun _ h => absurd h List.not_mem_nil⟩
theorem c_X11_others (l : Launch) : z_CS l yX11_others cX11_others 2 (some .int) rm_X11_others sp_X11_others := by
  refine z_meth (by decide) (Or.inr (Or.inl ⟨rfl, rfl⟩)) (fun h => by cases h) rfl (O_X11_others l) ?_
  intro av w K h
  match av, h with
  | [.ref o], h =>
    obtain ⟨rfl, ⟨r, hG⟩, ⟨d, q, c, A, ⟨kf, d2, c2, B⟩, tx, tl⟩, hC, h⟩ := h
    obtain ⟨G, wi, wl⟩ := w
    subst hG
    try dsimp only at h hC
    refine ⟨Nat.le_of_ble_eq_true rfl, fun Jm hs => ?_⟩
    refine hs 400 0 _ _ _ _ _ ?_
    unfold st_others wTl kpM at h
    dsimp only at h
    rcases ct_K hC with ⟨k1, k2⟩ | ⟨k1, k2, hS9, hZ9⟩
    · dsimp only at k1
      subst k1
      rw [if_neg (by decide)] at h
      conv => whnf
      repeat ((first | refine ⟨zG_of _, ?_⟩ | refine ⟨trivial, ?_⟩ | refine ⟨rfl, ?_⟩ | refine ⟨fun hc => absurd hc (by decide), fun _ => ?_⟩ | refine ⟨fun _ => ?_, fun hc => absurd (by decide) hc⟩ | refine ⟨fun _ => ?_, fun hc => absurd hc (by decide)⟩ | refine ⟨fun hc => absurd (by decide) hc, fun _ => ?_⟩); conv => whnf)
      try dsimp only
      rw [k2]
      refine ⟨fun z => absurd rfl z, fun _ => ⟨trivial, h wi wl (FrC_refl _ _) hC⟩⟩
    · dsimp only at k1 hS9 hZ9
      subst k1
      rw [if_pos rfl] at h
      have hS := ct_S hC
      have h41 := cs_40 hS9
      have rest : ∀ m, m ≤ c2 → m = (if shB d d2 = true then mtN q A c B c2 else 0) → Jm 39 [some (.ref 0), none] [.int (nI m)] (GC ++ r, wi, wl) 0 0 := fun m hm he => by
        rw [← he] at h
        refine hs 400 39 _ _ _ _ _ ?_
        conv => whnf
        repeat ((first | refine ⟨zG_of _, ?_⟩ | refine ⟨trivial, ?_⟩ | refine ⟨rfl, ?_⟩ | refine ⟨fun hc => absurd hc (by decide), fun _ => ?_⟩ | refine ⟨fun _ => ?_, fun hc => absurd (by decide) hc⟩ | refine ⟨fun _ => ?_, fun hc => absurd hc (by decide)⟩ | refine ⟨fun hc => absurd (by decide) hc, fun _ => ?_⟩); conv => whnf)
        try dsimp only
        intro wi1 hF1 hT1
        have e9 : wi1 9 5 = nI c2 := by rw [hF1 9 (by decide)]; exact cs_c hS9
        conv => whnf
        repeat ((first | refine ⟨zG_of _, ?_⟩ | refine ⟨trivial, ?_⟩ | refine ⟨rfl, ?_⟩ | refine ⟨fun hc => absurd hc (by decide), fun _ => ?_⟩ | refine ⟨fun _ => ?_, fun hc => absurd (by decide) hc⟩ | refine ⟨fun _ => ?_, fun hc => absurd hc (by decide)⟩ | refine ⟨fun hc => absurd (by decide) hc, fun _ => ?_⟩); conv => whnf)
        try dsimp only
        rw [e9, pk_sub hm, nI_l (by omega)]
        refine ⟨0, _, hT1, by decide, fun wi2 wl2 hF2 hL2 hT2 => ?_⟩
        have e6 : wi2 6 5 = nI c := by rw [hF2 6 (by decide), hF1 6 (by decide)]; exact cs_c hS
        conv => whnf
        repeat ((first | refine ⟨zG_of _, ?_⟩ | refine ⟨trivial, ?_⟩ | refine ⟨rfl, ?_⟩ | refine ⟨fun hc => absurd hc (by decide), fun _ => ?_⟩ | refine ⟨fun _ => ?_, fun hc => absurd (by decide) hc⟩ | refine ⟨fun _ => ?_, fun hc => absurd hc (by decide)⟩ | refine ⟨fun hc => absurd (by decide) hc, fun _ => ?_⟩); conv => whnf)
        try dsimp only
        rw [e6]
        exact h wi2 wl2 (fun y hy => ⟨by rw [hF2 y (by omega), hF1 y (by omega)], hL2 y (by omega)⟩) (ct_told hC (fun y hy => by rw [hF2 y hy, hF1 y hy]) hT2)
      conv => whnf
      repeat ((first | refine ⟨zG_of _, ?_⟩ | refine ⟨trivial, ?_⟩ | refine ⟨rfl, ?_⟩ | refine ⟨fun hc => absurd hc (by decide), fun _ => ?_⟩ | refine ⟨fun _ => ?_, fun hc => absurd (by decide) hc⟩ | refine ⟨fun _ => ?_, fun hc => absurd hc (by decide)⟩ | refine ⟨fun hc => absurd (by decide) hc, fun _ => ?_⟩); conv => whnf)
      try dsimp only
      rw [k2]
      refine ⟨fun _ => ?_, fun z => absurd z (by decide)⟩
      conv => whnf
      repeat ((first | refine ⟨zG_of _, ?_⟩ | refine ⟨trivial, ?_⟩ | refine ⟨rfl, ?_⟩ | refine ⟨fun hc => absurd hc (by decide), fun _ => ?_⟩ | refine ⟨fun _ => ?_, fun hc => absurd (by decide) hc⟩ | refine ⟨fun _ => ?_, fun hc => absurd hc (by decide)⟩ | refine ⟨fun hc => absurd (by decide) hc, fun _ => ?_⟩); conv => whnf)
      try dsimp only
      rw [shape_S hS hS9, bI_0]
      refine ⟨fun hq => ?_, fun hq => ?_⟩
      · conv => whnf
        repeat ((first | refine ⟨zG_of _, ?_⟩ | refine ⟨trivial, ?_⟩ | refine ⟨rfl, ?_⟩ | refine ⟨fun hc => absurd hc (by decide), fun _ => ?_⟩ | refine ⟨fun _ => ?_, fun hc => absurd (by decide) hc⟩ | refine ⟨fun _ => ?_, fun hc => absurd hc (by decide)⟩ | refine ⟨fun hc => absurd (by decide) hc, fun _ => ?_⟩); conv => whnf)
        try dsimp only
        exact rest 0 (Nat.zero_le _) (if_neg hq).symm
      · have hq := Classical.not_not.mp hq
        conv => whnf
        repeat ((first | refine ⟨zG_of _, ?_⟩ | refine ⟨trivial, ?_⟩ | refine ⟨rfl, ?_⟩ | refine ⟨fun hc => absurd hc (by decide), fun _ => ?_⟩ | refine ⟨fun _ => ?_, fun hc => absurd (by decide) hc⟩ | refine ⟨fun _ => ?_, fun hc => absurd hc (by decide)⟩ | refine ⟨fun hc => absurd (by decide) hc, fun _ => ?_⟩); conv => whnf)
        try dsimp only
        refine ⟨Or.inl rfl, d, q, c, A, d2, c2, B, hS, hS9, ?_⟩
        conv => whnf
        repeat ((first | refine ⟨zG_of _, ?_⟩ | refine ⟨trivial, ?_⟩ | refine ⟨rfl, ?_⟩ | refine ⟨fun hc => absurd hc (by decide), fun _ => ?_⟩ | refine ⟨fun _ => ?_, fun hc => absurd (by decide) hc⟩ | refine ⟨fun _ => ?_, fun hc => absurd hc (by decide)⟩ | refine ⟨fun hc => absurd (by decide) hc, fun _ => ?_⟩); conv => whnf)
        try dsimp only
        exact rest (mtN q A c B c2) (fb_ct_le _ _) (if_pos hq).symm
def ukB (d : Nat → Nat) (q : Nat) (A : Nat → Nat → Nat) (c : Nat) (B : Nat → Nat → Nat) (c2 m : Nat) : Bool := decide (m / 81 < pl d 0) && decide (m / 9 % 9 < pl d 1) && decide (m % 9 < pl d 2) && !(gvN A c (m / 81) (m / 9 % 9) (m % 9) % q == gvN B c2 (m / 81) (m / 9 % 9) (m % 9) % q)
theorem uk_at {d : Nat → Nat} {q : Nat} {A B : Nat → Nat → Nat} {c c2 x y z : Nat} (hy : y < 9) (hz : z < 9) : ukB d q A c B c2 (x * 81 + y * 9 + z) = (decide (x < pl d 0) && decide (y < pl d 1) && decide (z < pl d 2) && !(gvN A c x y z % q == gvN B c2 x y z % q)) := by
  unfold ukB
  rw [show (x * 81 + y * 9 + z) / 81 = x by omega, show (x * 81 + y * 9 + z) / 9 % 9 = y by omega, show (x * 81 + y * 9 + z) % 9 = z by omega]
theorem uk_far {d : Nat → Nat} {q : Nat} {A B : Nat → Nat → Nat} {c c2 m : Nat} (h : pl d 0 ≤ m / 81 ∨ pl d 1 ≤ m / 9 % 9 ∨ pl d 2 ≤ m % 9) : ukB d q A c B c2 m = false := by
  cases e : ukB d q A c B c2 m with
  | false => rfl
  | true =>
    unfold ukB at e
    simp only [Bool.and_eq_true, decide_eq_true_eq] at e
    omega
def ukG (m : Nat) : Nat → Int64 := t3 (lN (m / 81)) (lN (m / 9 % 9)) (lN (m % 9))
def st_unlikes (T : zT) : zT × Int32 :=
  if T.2.2.2.2.1.1 = true then
    if shB T.1 T.2.2.2.2.1.2.1 = true then (wTl T (fv ukG (ukB T.1 T.2.1 T.2.2.2.1 T.2.2.1 T.2.2.2.2.1.2.2.2 T.2.2.2.2.1.2.2.1) 3 729), nI (fb_ct (ukB T.1 T.2.1 T.2.2.2.1 T.2.2.1 T.2.2.2.2.1.2.2.2 T.2.2.2.2.1.2.2.1) 729))
    else (T, mI 3)
  else (T, mI 2)
def sp_X11_unlikes : zSp := fun av w K => match av with
  | [.ref o] => o = 0 ∧ zG w.1 ∧ ∃ T, CT w.2.1 w.2.2 T ∧ ∀ wi' wl', FrC w.2.1 w.2.2 wi' wl' → CT wi' wl' (st_unlikes T).1 → K (some (.int (st_unlikes T).2)) (w.1, wi', wl')
  | _ => False
def rm_X11_unlikes : Room := { frames := 3, cells := 0, slots := 0, locals := 69 }
def M_X11_unlikes : zM := (k_X11_unlikes, f_X11, [(346, 4, 5, 2, 0, 0, sp_X6_hasShapeOf), (150, 4, 8, 1, 0, 0, sp_X9_clear), (153, 4, 5, 2, 0, 0, sp_X6_places), (157, 4, 5, 4, 0, 0, sp_X6_givenAt), (164, 4, 9, 5, 0, 0, sp_X11_tellFirst)], ([], [], []), [], [(38, [true, true, true, false, false]), (52, [true, true, true, true, false]), (67, [true, true, true, true, true]), (117, [true, true, true, true, true])], 1, false, (false, 0, fun _ => 0), (0, 0, []))
theorem ca_X11_unlikes_0 (l : Launch) : z_cok l RX11 (headSpec (.code yX11_unlikes cX11_unlikes 5 (some .int) :: zTT) rm_X11_unlikes).room (false, 0, fun _ => 0) (346, 4, 5, 2, 0, 0, sp_X6_hasShapeOf) := z_ca4 (c_X6_hasShapeOf l) mb_X6_hasShapeOf ⟨_, rfl, rfl⟩ wt_773 wt_774 wt_775 (by decide)
theorem ca_X11_unlikes_1 (l : Launch) : z_cok l RX11 (headSpec (.code yX11_unlikes cX11_unlikes 5 (some .int) :: zTT) rm_X11_unlikes).room (false, 0, fun _ => 0) (150, 4, 8, 1, 0, 0, sp_X9_clear) := z_ca4 (c_X9_clear l) mb_X9_clear ⟨_, rfl, rfl⟩ wt_429 wt_430 wt_431 (by decide)
theorem ca_X11_unlikes_2 (l : Launch) : z_cok l RX11 (headSpec (.code yX11_unlikes cX11_unlikes 5 (some .int) :: zTT) rm_X11_unlikes).room (false, 0, fun _ => 0) (153, 4, 5, 2, 0, 0, sp_X6_places) := z_ca4 (c_X6_places l) mb_X6_places ⟨_, rfl, rfl⟩ wt_433 wt_434 wt_435 (by decide)
theorem ca_X11_unlikes_3 (l : Launch) : z_cok l RX11 (headSpec (.code yX11_unlikes cX11_unlikes 5 (some .int) :: zTT) rm_X11_unlikes).room (false, 0, fun _ => 0) (157, 4, 5, 4, 0, 0, sp_X6_givenAt) := z_ca4 (c_X6_givenAt l) mb_X6_givenAt ⟨_, rfl, rfl⟩ wt_438 wt_439 wt_440 (by decide)
theorem ca_X11_unlikes_4 (l : Launch) : z_cok l RX11 (headSpec (.code yX11_unlikes cX11_unlikes 5 (some .int) :: zTT) rm_X11_unlikes).room (false, 0, fun _ => 0) (164, 4, 9, 5, 0, 0, sp_X11_tellFirst) := z_ca4 (c_X11_tellFirst l) mb_X11_tellFirst ⟨_, rfl, rfl⟩ wt_461 wt_463 wt_7 (by decide)
theorem O_X11_unlikes (l : Launch) : z_OK l RX11 cX11_unlikes (headSpec (.code yX11_unlikes cX11_unlikes 5 (some .int) :: zTT) rm_X11_unlikes).room M_X11_unlikes := ⟨ok_X11_unlikes, fo_X11, List.forall_mem_cons.mpr ⟨ca_X11_unlikes_0 l, List.forall_mem_cons.mpr ⟨ca_X11_unlikes_1 l, List.forall_mem_cons.mpr ⟨ca_X11_unlikes_2 l, List.forall_mem_cons.mpr ⟨ca_X11_unlikes_3 l, List.forall_mem_cons.mpr ⟨ca_X11_unlikes_4 l, fun _ h => absurd h List.not_mem_nil⟩⟩⟩⟩⟩, fun _ h => absurd h List.not_mem_nil, fun _ h => absurd h List.not_mem_nil, fun _ h => absurd h List.not_mem_nil, fun _ h => absurd h List.not_mem_nil, rfl, rfl, fun _ h => absurd h List.not_mem_nil⟩
theorem c_X11_unlikes (l : Launch) : z_CS l yX11_unlikes cX11_unlikes 5 (some .int) rm_X11_unlikes sp_X11_unlikes := by
  refine z_meth (by decide) (Or.inr (Or.inl ⟨rfl, rfl⟩)) (fun h => by cases h) rfl (O_X11_unlikes l) ?_
  intro av w K h
  match av, h with
  | [.ref o], h =>
    obtain ⟨rfl, ⟨r, hG⟩, ⟨d, q, c, A, ⟨kf, d2, c2, B⟩, tx, tl⟩, hC, h⟩ := h
    obtain ⟨G, wi, wl⟩ := w
    subst hG
    try dsimp only at h hC
    unfold st_unlikes wTl at h
    dsimp only at h
    rcases ct_K hC with ⟨k1, k2⟩ | ⟨k1, k2, hS9, hZ9⟩
    · dsimp only at k1
      subst k1
      rw [if_neg (by decide)] at h
      refine ⟨Nat.le_of_ble_eq_true rfl, fun Jm hs => hs 400 0 _ _ _ _ _ ?_⟩
      conv => whnf
      repeat ((first | refine ⟨zG_of _, ?_⟩ | refine ⟨trivial, ?_⟩ | refine ⟨rfl, ?_⟩ | refine ⟨fun hc => absurd hc (by decide), fun _ => ?_⟩ | refine ⟨fun _ => ?_, fun hc => absurd (by decide) hc⟩ | refine ⟨fun _ => ?_, fun hc => absurd hc (by decide)⟩ | refine ⟨fun hc => absurd (by decide) hc, fun _ => ?_⟩); conv => whnf)
      try dsimp only
      rw [k2]
      exact ⟨fun z => absurd rfl z, fun _ => ⟨trivial, h wi wl (FrC_refl _ _) hC⟩⟩
    dsimp only at k1 hS9 hZ9
    subst k1
    rw [if_pos rfl] at h
    have hS := ct_S hC
    by_cases hsh : ¬ shB d d2 = true
    · rw [if_neg hsh] at h
      refine ⟨Nat.le_of_ble_eq_true rfl, fun Jm hs => hs 400 0 _ _ _ _ _ ?_⟩
      conv => whnf
      repeat ((first | refine ⟨zG_of _, ?_⟩ | refine ⟨trivial, ?_⟩ | refine ⟨rfl, ?_⟩ | refine ⟨fun hc => absurd hc (by decide), fun _ => ?_⟩ | refine ⟨fun _ => ?_, fun hc => absurd (by decide) hc⟩ | refine ⟨fun _ => ?_, fun hc => absurd hc (by decide)⟩ | refine ⟨fun hc => absurd (by decide) hc, fun _ => ?_⟩); conv => whnf)
      try dsimp only
      rw [k2]
      refine ⟨fun _ => ?_, fun z => absurd z (by decide)⟩
      conv => whnf
      repeat ((first | refine ⟨zG_of _, ?_⟩ | refine ⟨trivial, ?_⟩ | refine ⟨rfl, ?_⟩ | refine ⟨fun hc => absurd hc (by decide), fun _ => ?_⟩ | refine ⟨fun _ => ?_, fun hc => absurd (by decide) hc⟩ | refine ⟨fun _ => ?_, fun hc => absurd hc (by decide)⟩ | refine ⟨fun hc => absurd (by decide) hc, fun _ => ?_⟩); conv => whnf)
      try dsimp only
      rw [shape_S hS hS9, bI_f hsh]
      refine ⟨fun z => absurd rfl z, fun _ => ⟨trivial, h wi wl (FrC_refl _ _) hC⟩⟩
    have hsh := Classical.not_not.mp hsh
    rw [if_pos hsh] at h
    have h40 := cs_40 hS
    have q23 := cs_q23 hS
    have p0 := pl_le (cs_d hS) (t := 0) (by decide)
    have p1 := pl_le (cs_d hS) (t := 1) (by decide)
    have p2 := pl_le (cs_d hS) (t := 2) (by decide)
    generalize hf : ukB d q A c B c2 = f at h
    have fle : ∀ m, fb_ct f m ≤ m := fb_ct_le f
    refine ⟨Nat.le_of_ble_eq_true rfl, fun Jm hs => ?_⟩
    have loop := up_ind (P := fun x => ∀ (wi' : Nat → Nat → Int32) (wl' : Nat → Nat → Int64), (∀ y, y ≠ 4 → wi' y = wi y) → (∀ y, y ≠ 5 → wl' y = wl y) → TS wi' wl' (fv ukG f 3 (x * 81)).1 (fv ukG f 3 (x * 81)).2 → Jm 38 [some (.ref 0), some (.int (nI (fb_ct f (x * 81)))), some (.int (nI x)), none, none] [] (GC ++ r, wi', wl') 0 0) (pl d 0) (fun x hx ihx => by
      intro wi' wl' hF hL hT
      have hS' : CS wi' 6 d q c A := cs_fr hS (hF 6 (by decide)) (hF 8 (by decide))
      have e := ltN (i := x) (n := pl d 0) (by omega) (by omega)
      rw [← show plF wi' 6 (nI 0) = nI (pl d 0) from pl_S hS' (by decide)] at e
      refine hs 400 38 _ _ _ _ _ ?_
      conv => whnf
      repeat ((first | refine ⟨zG_of _, ?_⟩ | refine ⟨trivial, ?_⟩ | refine ⟨rfl, ?_⟩ | refine ⟨fun hc => absurd hc (by decide), fun _ => ?_⟩ | refine ⟨fun _ => ?_, fun hc => absurd (by decide) hc⟩ | refine ⟨fun _ => ?_, fun hc => absurd hc (by decide)⟩ | refine ⟨fun hc => absurd (by decide) hc, fun _ => ?_⟩); conv => whnf)
      try dsimp only
      refine ⟨fun hc => ?_, fun hc => ?_⟩
      · have hc : ¬ x < pl d 0 := fun k => hc (e.mpr k)
        have z0 : ∀ k, x * 81 ≤ k → k < 729 → f k = false := fun k h1 h2 => by
          rw [← hf]
          exact uk_far (Or.inl (by omega))
        rw [fv_more (show x * 81 ≤ 729 by omega) z0, ct_more (show x * 81 ≤ 729 by omega) z0] at h
        exact ⟨trivial, h wi' wl' (fun y hy => ⟨hF y (by omega), hL y (by omega)⟩) (ct_told hC hF hT)⟩
      · have hc := e.mp hc
        have ihxn := ihx hc
        have loopy := up_ind (P := fun y => ∀ (wi' : Nat → Nat → Int32) (wl' : Nat → Nat → Int64), (∀ y, y ≠ 4 → wi' y = wi y) → (∀ y, y ≠ 5 → wl' y = wl y) → TS wi' wl' (fv ukG f 3 (x * 81 + y * 9)).1 (fv ukG f 3 (x * 81 + y * 9)).2 → Jm 52 [some (.ref 0), some (.int (nI (fb_ct f (x * 81 + y * 9)))), some (.int (nI x)), some (.int (nI y)), none] [] (GC ++ r, wi', wl') 0 0) (pl d 1) (fun y hy ihy => by
          intro wi' wl' hF hL hT
          have hS' : CS wi' 6 d q c A := cs_fr hS (hF 6 (by decide)) (hF 8 (by decide))
          have e := ltN (i := y) (n := pl d 1) (by omega) (by omega)
          rw [← show plF wi' 6 (nI 1) = nI (pl d 1) from pl_S hS' (by decide)] at e
          refine hs 400 52 _ _ _ _ _ ?_
          conv => whnf
          repeat ((first | refine ⟨zG_of _, ?_⟩ | refine ⟨trivial, ?_⟩ | refine ⟨rfl, ?_⟩ | refine ⟨fun hc => absurd hc (by decide), fun _ => ?_⟩ | refine ⟨fun _ => ?_, fun hc => absurd (by decide) hc⟩ | refine ⟨fun _ => ?_, fun hc => absurd hc (by decide)⟩ | refine ⟨fun hc => absurd (by decide) hc, fun _ => ?_⟩); conv => whnf)
          try dsimp only
          refine ⟨fun hc2 => ?_, fun hc2 => ?_⟩
          · have hc2 : ¬ y < pl d 1 := fun k => hc2 (e.mpr k)
            have z0 : ∀ k, x * 81 + y * 9 ≤ k → k < (x + 1) * 81 → f k = false := fun k h1 h2 => by
              rw [← hf]
              exact uk_far (Or.inr (Or.inl (by omega)))
            rw [fv_more (show x * 81 + y * 9 ≤ (x + 1) * 81 by omega) z0, ct_more (show x * 81 + y * 9 ≤ (x + 1) * 81 by omega) z0] at ihxn
            conv => whnf
            repeat ((first | refine ⟨zG_of _, ?_⟩ | refine ⟨trivial, ?_⟩ | refine ⟨rfl, ?_⟩ | refine ⟨fun hc => absurd hc (by decide), fun _ => ?_⟩ | refine ⟨fun _ => ?_, fun hc => absurd (by decide) hc⟩ | refine ⟨fun _ => ?_, fun hc => absurd hc (by decide)⟩ | refine ⟨fun hc => absurd (by decide) hc, fun _ => ?_⟩); conv => whnf)
            try dsimp only
            rw [nI_add]
            exact ihxn wi' wl' hF hL hT
          · have hc2 := e.mp hc2
            have ihyn := ihy hc2
            have loopz := up_ind (P := fun z => ∀ (wi' : Nat → Nat → Int32) (wl' : Nat → Nat → Int64), (∀ y, y ≠ 4 → wi' y = wi y) → (∀ y, y ≠ 5 → wl' y = wl y) → TS wi' wl' (fv ukG f 3 (x * 81 + y * 9 + z)).1 (fv ukG f 3 (x * 81 + y * 9 + z)).2 → Jm 67 [some (.ref 0), some (.int (nI (fb_ct f (x * 81 + y * 9 + z)))), some (.int (nI x)), some (.int (nI y)), some (.int (nI z))] [] (GC ++ r, wi', wl') 0 0) (pl d 2) (fun z hz ihz => by
              intro wi' wl' hF hL hT
              have hS' : CS wi' 6 d q c A := cs_fr hS (hF 6 (by decide)) (hF 8 (by decide))
              have e := ltN (i := z) (n := pl d 2) (by omega) (by omega)
              rw [← show plF wi' 6 (nI 2) = nI (pl d 2) from pl_S hS' (by decide)] at e
              refine hs 400 67 _ _ _ _ _ ?_
              conv => whnf
              repeat ((first | refine ⟨zG_of _, ?_⟩ | refine ⟨trivial, ?_⟩ | refine ⟨rfl, ?_⟩ | refine ⟨fun hc => absurd hc (by decide), fun _ => ?_⟩ | refine ⟨fun _ => ?_, fun hc => absurd (by decide) hc⟩ | refine ⟨fun _ => ?_, fun hc => absurd hc (by decide)⟩ | refine ⟨fun hc => absurd (by decide) hc, fun _ => ?_⟩); conv => whnf)
              try dsimp only
              refine ⟨fun hc3 => ?_, fun hc3 => ?_⟩
              · have hc3 : ¬ z < pl d 2 := fun k => hc3 (e.mpr k)
                have z0 : ∀ k, x * 81 + y * 9 + z ≤ k → k < x * 81 + (y + 1) * 9 → f k = false := fun k h1 h2 => by
                  rw [← hf]
                  exact uk_far (Or.inr (Or.inr (by omega)))
                rw [fv_more (show x * 81 + y * 9 + z ≤ x * 81 + (y + 1) * 9 by omega) z0, ct_more (show x * 81 + y * 9 + z ≤ x * 81 + (y + 1) * 9 by omega) z0] at ihyn
                conv => whnf
                repeat ((first | refine ⟨zG_of _, ?_⟩ | refine ⟨trivial, ?_⟩ | refine ⟨rfl, ?_⟩ | refine ⟨fun hc => absurd hc (by decide), fun _ => ?_⟩ | refine ⟨fun _ => ?_, fun hc => absurd (by decide) hc⟩ | refine ⟨fun _ => ?_, fun hc => absurd hc (by decide)⟩ | refine ⟨fun hc => absurd (by decide) hc, fun _ => ?_⟩); conv => whnf)
                try dsimp only
                rw [nI_add]
                exact ihyn wi' wl' hF hL hT
              · have hc3 := e.mp hc3
                have ihzn := ihz hc3
                have hS9' : CS wi' 9 d2 q c2 B := cs_fr hS9 (hF 9 (by decide)) (hF 11 (by decide))
                have gl : gvN A c x y z % q < q := Nat.mod_lt _ (by omega)
                have gl2 : gvN B c2 x y z % q < q := Nat.mod_lt _ (by omega)
                have fa := uk_at (d := d) (q := q) (A := A) (B := B) (c := c) (c2 := c2) (x := x) (y := y) (z := z) (by omega) (by omega)
                rw [hf, decide_eq_true hc, decide_eq_true hc2, decide_eq_true hc3] at fa
                have fm := fle (x * 81 + y * 9 + z)
                conv => whnf
                repeat ((first | refine ⟨zG_of _, ?_⟩ | refine ⟨trivial, ?_⟩ | refine ⟨rfl, ?_⟩ | refine ⟨fun hc => absurd hc (by decide), fun _ => ?_⟩ | refine ⟨fun _ => ?_, fun hc => absurd (by decide) hc⟩ | refine ⟨fun _ => ?_, fun hc => absurd hc (by decide)⟩ | refine ⟨fun hc => absurd (by decide) hc, fun _ => ?_⟩); conv => whnf)
                try dsimp only
                refine ⟨Or.inl rfl, zG_of _, d, q, c, A, x, y, z, hS', rfl, by omega, rfl, by omega, rfl, by omega, ?_⟩
                conv => whnf
                repeat ((first | refine ⟨zG_of _, ?_⟩ | refine ⟨trivial, ?_⟩ | refine ⟨rfl, ?_⟩ | refine ⟨fun hc => absurd hc (by decide), fun _ => ?_⟩ | refine ⟨fun _ => ?_, fun hc => absurd (by decide) hc⟩ | refine ⟨fun _ => ?_, fun hc => absurd hc (by decide)⟩ | refine ⟨fun hc => absurd (by decide) hc, fun _ => ?_⟩); conv => whnf)
                try dsimp only
                refine ⟨Or.inr rfl, zG_of _, d2, q, c2, B, x, y, z, hS9', rfl, by omega, rfl, by omega, rfl, by omega, ?_⟩
                conv => whnf
                repeat ((first | refine ⟨zG_of _, ?_⟩ | refine ⟨trivial, ?_⟩ | refine ⟨rfl, ?_⟩ | refine ⟨fun hc => absurd hc (by decide), fun _ => ?_⟩ | refine ⟨fun _ => ?_, fun hc => absurd (by decide) hc⟩ | refine ⟨fun _ => ?_, fun hc => absurd hc (by decide)⟩ | refine ⟨fun hc => absurd (by decide) hc, fun _ => ?_⟩); conv => whnf)
                try dsimp only
                rw [nI_eq (by omega) (by omega)]
                refine ⟨fun hq => ?_, fun hq => ?_⟩
                · have fs : f (x * 81 + y * 9 + z) = false := by rw [fa]; simp [hq]
                  have z0 : ∀ k, x * 81 + y * 9 + z ≤ k → k < x * 81 + y * 9 + (z + 1) → f k = false := fun k h1 h2 => by
                    rw [show k = x * 81 + y * 9 + z by omega]
                    exact fs
                  rw [fv_more (by omega) z0, ct_more (by omega) z0] at ihzn
                  conv => whnf
                  repeat ((first | refine ⟨zG_of _, ?_⟩ | refine ⟨trivial, ?_⟩ | refine ⟨rfl, ?_⟩ | refine ⟨fun hc => absurd hc (by decide), fun _ => ?_⟩ | refine ⟨fun _ => ?_, fun hc => absurd (by decide) hc⟩ | refine ⟨fun _ => ?_, fun hc => absurd hc (by decide)⟩ | refine ⟨fun hc => absurd (by decide) hc, fun _ => ?_⟩); conv => whnf)
                  try dsimp only
                  refine hs 400 117 _ _ _ _ _ ?_
                  conv => whnf
                  repeat ((first | refine ⟨zG_of _, ?_⟩ | refine ⟨trivial, ?_⟩ | refine ⟨rfl, ?_⟩ | refine ⟨fun hc => absurd hc (by decide), fun _ => ?_⟩ | refine ⟨fun _ => ?_, fun hc => absurd (by decide) hc⟩ | refine ⟨fun _ => ?_, fun hc => absurd hc (by decide)⟩ | refine ⟨fun hc => absurd (by decide) hc, fun _ => ?_⟩); conv => whnf)
                  try dsimp only
                  rw [nI_add]
                  exact ihzn wi' wl' hF hL hT
                · have ft : f (x * 81 + y * 9 + z) = true := by rw [fa]; simpa using hq
                  have ect : fb_ct f (x * 81 + y * 9 + (z + 1)) = fb_ct f (x * 81 + y * 9 + z) + 1 := ct_t ft
                  rw [ect] at ihzn
                  conv => whnf
                  repeat ((first | refine ⟨zG_of _, ?_⟩ | refine ⟨trivial, ?_⟩ | refine ⟨rfl, ?_⟩ | refine ⟨fun hc => absurd hc (by decide), fun _ => ?_⟩ | refine ⟨fun _ => ?_, fun hc => absurd (by decide) hc⟩ | refine ⟨fun _ => ?_, fun hc => absurd hc (by decide)⟩ | refine ⟨fun hc => absurd (by decide) hc, fun _ => ?_⟩); conv => whnf)
                  try dsimp only
                  refine ⟨fun hz0 => ?_, fun hz0 => ?_⟩
                  · rw [eq0N (by omega)] at hz0
                    have k : fi f (x * 81 + y * 9 + z) < x * 81 + y * 9 + z := fi_ct.mpr (by omega)
                    have ev : fv ukG f 3 (x * 81 + y * 9 + (z + 1)) = fv ukG f 3 (x * 81 + y * 9 + z) := by
                      unfold fv
                      rw [if_pos k, show x * 81 + y * 9 + (z + 1) = x * 81 + y * 9 + z + 1 by omega, fi, if_pos k, if_pos (by omega)]
                    rw [ev] at ihzn
                    conv => whnf
                    repeat ((first | refine ⟨zG_of _, ?_⟩ | refine ⟨trivial, ?_⟩ | refine ⟨rfl, ?_⟩ | refine ⟨fun hc => absurd hc (by decide), fun _ => ?_⟩ | refine ⟨fun _ => ?_, fun hc => absurd (by decide) hc⟩ | refine ⟨fun _ => ?_, fun hc => absurd hc (by decide)⟩ | refine ⟨fun hc => absurd (by decide) hc, fun _ => ?_⟩); conv => whnf)
                    try dsimp only
                    refine hs 400 117 _ _ _ _ _ ?_
                    conv => whnf
                    repeat ((first | refine ⟨zG_of _, ?_⟩ | refine ⟨trivial, ?_⟩ | refine ⟨rfl, ?_⟩ | refine ⟨fun hc => absurd hc (by decide), fun _ => ?_⟩ | refine ⟨fun _ => ?_, fun hc => absurd (by decide) hc⟩ | refine ⟨fun _ => ?_, fun hc => absurd hc (by decide)⟩ | refine ⟨fun hc => absurd (by decide) hc, fun _ => ?_⟩); conv => whnf)
                    try dsimp only
                    rw [nI_add, nI_add]
                    exact ihzn wi' wl' hF hL hT
                  · rw [eq0N (by omega)] at hz0
                    intro wi1 wl1 hF1 hL1 hT1
                    rw [nI_l (by omega), nI_l (by omega), nI_l (by omega)] at hT1
                    have kn : ∀ j, j < x * 81 + y * 9 + z → ¬ f j = true := fun j hj => by
                      rw [fb_ct_zero.mp hz0 j hj]
                      decide
                    have ek : fi f (x * 81 + y * 9 + (z + 1)) = x * 81 + y * 9 + z := fi_at (by omega) ft kn
                    have ev : fv ukG f 3 (x * 81 + y * 9 + (z + 1)) = (3, ukG (x * 81 + y * 9 + z)) := by
                      unfold fv
                      rw [ek, if_pos (by omega)]
                    rw [ev] at ihzn
                    conv => whnf
                    repeat ((first | refine ⟨zG_of _, ?_⟩ | refine ⟨trivial, ?_⟩ | refine ⟨rfl, ?_⟩ | refine ⟨fun hc => absurd hc (by decide), fun _ => ?_⟩ | refine ⟨fun _ => ?_, fun hc => absurd (by decide) hc⟩ | refine ⟨fun _ => ?_, fun hc => absurd hc (by decide)⟩ | refine ⟨fun hc => absurd (by decide) hc, fun _ => ?_⟩); conv => whnf)
                    try dsimp only
                    refine hs 400 117 _ _ _ _ _ ?_
                    conv => whnf
                    repeat ((first | refine ⟨zG_of _, ?_⟩ | refine ⟨trivial, ?_⟩ | refine ⟨rfl, ?_⟩ | refine ⟨fun hc => absurd hc (by decide), fun _ => ?_⟩ | refine ⟨fun _ => ?_, fun hc => absurd (by decide) hc⟩ | refine ⟨fun _ => ?_, fun hc => absurd hc (by decide)⟩ | refine ⟨fun hc => absurd (by decide) hc, fun _ => ?_⟩); conv => whnf)
                    try dsimp only
                    rw [nI_add, nI_add]
                    refine ihzn wi1 wl1 (fun y hy => by rw [hF1 y hy, hF y hy]) (fun y hy => by rw [hL1 y hy, hL y hy]) ?_
                    unfold ukG
                    rw [show (x * 81 + y * 9 + z) / 81 = x by omega, show (x * 81 + y * 9 + z) / 9 % 9 = y by omega, show (x * 81 + y * 9 + z) % 9 = z by omega]
                    exact hT1)
            conv => whnf
            repeat ((first | refine ⟨zG_of _, ?_⟩ | refine ⟨trivial, ?_⟩ | refine ⟨rfl, ?_⟩ | refine ⟨fun hc => absurd hc (by decide), fun _ => ?_⟩ | refine ⟨fun _ => ?_, fun hc => absurd (by decide) hc⟩ | refine ⟨fun _ => ?_, fun hc => absurd hc (by decide)⟩ | refine ⟨fun hc => absurd (by decide) hc, fun _ => ?_⟩); conv => whnf)
            try dsimp only
            exact loopz 0 (Nat.zero_le _) wi' wl' hF hL hT)
        conv => whnf
        repeat ((first | refine ⟨zG_of _, ?_⟩ | refine ⟨trivial, ?_⟩ | refine ⟨rfl, ?_⟩ | refine ⟨fun hc => absurd hc (by decide), fun _ => ?_⟩ | refine ⟨fun _ => ?_, fun hc => absurd (by decide) hc⟩ | refine ⟨fun _ => ?_, fun hc => absurd hc (by decide)⟩ | refine ⟨fun hc => absurd (by decide) hc, fun _ => ?_⟩); conv => whnf)
        try dsimp only
        exact loopy 0 (Nat.zero_le _) wi' wl' hF hL hT)
    refine hs 400 0 _ _ _ _ _ ?_
    conv => whnf
    repeat ((first | refine ⟨zG_of _, ?_⟩ | refine ⟨trivial, ?_⟩ | refine ⟨rfl, ?_⟩ | refine ⟨fun hc => absurd hc (by decide), fun _ => ?_⟩ | refine ⟨fun _ => ?_, fun hc => absurd (by decide) hc⟩ | refine ⟨fun _ => ?_, fun hc => absurd hc (by decide)⟩ | refine ⟨fun hc => absurd (by decide) hc, fun _ => ?_⟩); conv => whnf)
    try dsimp only
    rw [k2]
    refine ⟨fun _ => ?_, fun z => absurd z (by decide)⟩
    conv => whnf
    repeat ((first | refine ⟨zG_of _, ?_⟩ | refine ⟨trivial, ?_⟩ | refine ⟨rfl, ?_⟩ | refine ⟨fun hc => absurd hc (by decide), fun _ => ?_⟩ | refine ⟨fun _ => ?_, fun hc => absurd (by decide) hc⟩ | refine ⟨fun _ => ?_, fun hc => absurd hc (by decide)⟩ | refine ⟨fun hc => absurd (by decide) hc, fun _ => ?_⟩); conv => whnf)
    try dsimp only
    rw [shape_S hS hS9, bI_t hsh]
    refine ⟨fun _ => ?_, fun z => absurd z (by decide)⟩
    conv => whnf
    repeat ((first | refine ⟨zG_of _, ?_⟩ | refine ⟨trivial, ?_⟩ | refine ⟨rfl, ?_⟩ | refine ⟨fun hc => absurd hc (by decide), fun _ => ?_⟩ | refine ⟨fun _ => ?_, fun hc => absurd (by decide) hc⟩ | refine ⟨fun _ => ?_, fun hc => absurd hc (by decide)⟩ | refine ⟨fun hc => absurd (by decide) hc, fun _ => ?_⟩); conv => whnf)
    try dsimp only
    intro wi1 hF1 hT1
    have l0 := loop 0 (Nat.zero_le _) wi1 wl hF1 (fun _ _ => rfl) hT1
    rw [Nat.zero_mul] at l0
    conv => whnf
    repeat ((first | refine ⟨zG_of _, ?_⟩ | refine ⟨trivial, ?_⟩ | refine ⟨rfl, ?_⟩ | refine ⟨fun hc => absurd hc (by decide), fun _ => ?_⟩ | refine ⟨fun _ => ?_, fun hc => absurd (by decide) hc⟩ | refine ⟨fun _ => ?_, fun hc => absurd hc (by decide)⟩ | refine ⟨fun hc => absurd (by decide) hc, fun _ => ?_⟩); conv => whnf)
    try dsimp only
    exact l0

