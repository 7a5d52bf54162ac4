/-! a product split in two, plus, scaled; walks of flips -/
def spA (q : Nat) (A : Nat → Nat → Nat) (c i w : Nat) (a : Nat → Nat) : Nat → Nat → Nat := upA (upA (adA A c A i) (3 * c + w) (fSub q (A (3 * i + w)) a)) (3 * i + w) a
def tb0 (w : Int32) : Nat := if idB 3 w = true then w.toNatClampNeg else 0
theorem tb0_lt (w : Int32) : tb0 w < 3 := by
  unfold tb0
  split
  · rename_i h
    obtain ⟨n, h1, rfl⟩ := idB_N h (by decide)
    rw [nc_N (by omega)]
    exact h1
  · decide
def spR (T : zT) (w : Int32) : Bool × Nat × (Nat → Nat) := fmP T.2.2.2.2.2.1.2 T.2.2.2.2.2.1.1 T.1 T.2.1 (tb0 w) 0
def st_splits (T : zT) (i w : Int32) : zT × Int32 :=
  if ffI (spR T w).1 (spR T w).2.1 T.2.2.2.2.2.1.1 < nI 0 then
    if (idB T.2.2.1 i && idB 3 w) = true then
      if T.2.2.1 = 40 then (txt0 T, mI 2)
      else if eqB (T.2.2.2.1 (3 * i.toNatClampNeg + w.toNatClampNeg)) (spR T w).2.2 = true then (txt0 T, mI 3)
      else ((T.1, T.2.1, T.2.2.1 + 1, spA T.2.1 T.2.2.2.1 T.2.2.1 i.toNatClampNeg w.toNatClampNeg (spR T w).2.2, T.2.2.2.2.1, (0, T.2.2.2.2.2.1.2), T.2.2.2.2.2.2), nI (T.2.2.1 + 1))
    else (txt0 T, mI 1)
  else (txt0 T, mI 21 - ffI (spR T w).1 (spR T w).2.1 T.2.2.2.2.2.1.1)
def sp_X11_splits : zSp := fun av w K => match av with
  | [.ref o, .int i, .int u] => o = 0 ∧ zG w.1 ∧ ∃ T, CT w.2.1 w.2.2 T ∧ ∀ wi' wl', FrC w.2.1 w.2.2 wi' wl' → CT wi' wl' (st_splits T i u).1 → K (some (.int (st_splits T i u).2)) (w.1, wi', wl')
  | _ => False
def rm_X11_splits : Room := { frames := 5, cells := 0, slots := 0, locals := 114 }
def M_X11_splits : zM := (k_X11_splits, f_X11, [(128, 0, 0, 1, 0, 0, sp_X11_isTable), (239, 4, 7, 3, 0, 0, sp_X8_readForm), (104, 4, 7, 1, 0, 0, sp_X8_empty), (121, 4, 5, 2, 0, 0, sp_X6_isProduct), (113, 4, 5, 1, 0, 0, sp_X6_isFull), (131, 4, 5, 3, 0, 0, sp_X6_formAt), (117, 4, 5, 3, 0, 0, sp_X6_addFrom), (245, 0, 0, 3, 0, 0, sp_X2_less), (248, 4, 5, 4, 0, 0, sp_X6_setForm)], ([], [], []), [], [(20, [true, true, true, false, false, false])], 1, false, (false, 0, fun _ => 0), (0, 0, []))
theorem ca_X11_splits_0 (l : Launch) : z_cok l RX11 (headSpec (.code yX11_splits cX11_splits 6 (some .int) :: zTT) rm_X11_splits).room (false, 0, fun _ => 0) (128, 0, 0, 1, 0, 0, sp_X11_isTable) := z_ca0 (c_X11_isTable l) mb_X11_isTable wt_505 wt_506 (by decide)
theorem ca_X11_splits_1 (l : Launch) : z_cok l RX11 (headSpec (.code yX11_splits cX11_splits 6 (some .int) :: zTT) rm_X11_splits).room (false, 0, fun _ => 0) (239, 4, 7, 3, 0, 0, sp_X8_readForm) := z_ca4 (c_X8_readForm l) mb_X8_readForm ⟨_, rfl, rfl⟩ wt_630 wt_631 wt_632 (by decide)
theorem ca_X11_splits_2 (l : Launch) : z_cok l RX11 (headSpec (.code yX11_splits cX11_splits 6 (some .int) :: zTT) rm_X11_splits).room (false, 0, fun _ => 0) (104, 4, 7, 1, 0, 0, sp_X8_empty) := z_ca4 (c_X8_empty l) mb_X8_empty ⟨_, rfl, rfl⟩ wt_398 wt_399 wt_400 (by decide)
theorem ca_X11_splits_3 (l : Launch) : z_cok l RX11 (headSpec (.code yX11_splits cX11_splits 6 (some .int) :: zTT) rm_X11_splits).room (false, 0, fun _ => 0) (121, 4, 5, 2, 0, 0, sp_X6_isProduct) := z_ca4 (c_X6_isProduct l) mb_X6_isProduct ⟨_, rfl, rfl⟩ wt_416 wt_417 wt_418 (by decide)
theorem ca_X11_splits_4 (l : Launch) : z_cok l RX11 (headSpec (.code yX11_splits cX11_splits 6 (some .int) :: zTT) rm_X11_splits).room (false, 0, fun _ => 0) (113, 4, 5, 1, 0, 0, sp_X6_isFull) := z_ca4 (c_X6_isFull l) mb_X6_isFull ⟨_, rfl, rfl⟩ wt_402 wt_285 wt_286 (by decide)
theorem ca_X11_splits_5 (l : Launch) : z_cok l RX11 (headSpec (.code yX11_splits cX11_splits 6 (some .int) :: zTT) rm_X11_splits).room (false, 0, fun _ => 0) (131, 4, 5, 3, 0, 0, sp_X6_formAt) := z_ca4 (c_X6_formAt l) mb_X6_formAt ⟨_, rfl, rfl⟩ wt_634 wt_408 wt_409 (by decide)
theorem ca_X11_splits_6 (l : Launch) : z_cok l RX11 (headSpec (.code yX11_splits cX11_splits 6 (some .int) :: zTT) rm_X11_splits).room (false, 0, fun _ => 0) (117, 4, 5, 3, 0, 0, sp_X6_addFrom) := z_ca4 (c_X6_addFrom l) mb_X6_addFrom ⟨_, rfl, rfl⟩ wt_403 wt_404 wt_405 (by decide)
theorem ca_X11_splits_7 (l : Launch) : z_cok l RX11 (headSpec (.code yX11_splits cX11_splits 6 (some .int) :: zTT) rm_X11_splits).room (false, 0, fun _ => 0) (245, 0, 0, 3, 0, 0, sp_X2_less) := z_ca0 (c_X2_less l) mb_X2_less wt_635 wt_532 (by decide)
theorem ca_X11_splits_8 (l : Launch) : z_cok l RX11 (headSpec (.code yX11_splits cX11_splits 6 (some .int) :: zTT) rm_X11_splits).room (false, 0, fun _ => 0) (248, 4, 5, 4, 0, 0, sp_X6_setForm) := z_ca4 (c_X6_setForm l) mb_X6_setForm ⟨_, rfl, rfl⟩ wt_636 wt_289 wt_290 (by decide)
theorem O_X11_splits (l : Launch) : z_OK l RX11 cX11_splits (headSpec (.code yX11_splits cX11_splits 6 (some .int) :: zTT) rm_X11_splits).room M_X11_splits := ⟨ok_X11_splits, fo_X11, List.forall_mem_cons.mpr ⟨ca_X11_splits_0 l, List.forall_mem_cons.mpr ⟨ca_X11_splits_1 l, List.forall_mem_cons.mpr ⟨ca_X11_splits_2 l, List.forall_mem_cons.mpr ⟨ca_X11_splits_3 l, List.forall_mem_cons.mpr ⟨ca_X11_splits_4 l, List.forall_mem_cons.mpr ⟨ca_X11_splits_5 l, List.forall_mem_cons.mpr ⟨ca_X11_splits_6 l, List.forall_mem_cons.mpr ⟨ca_X11_splits_7 l, List.forall_mem_cons.mpr ⟨ca_X11_splits_8 l, fun _ h => absurd h List.not_mem_nil⟩⟩⟩⟩⟩⟩⟩⟩⟩, fun _ h => absurd h List.not_mem_nil, fun _ h => absurd h List.not_mem_nil, fun _ h => absurd h List.not_mem_nil, fun _ h => absurd h List.not_mem_nil, rfl, rfl, fun _ h => absurd h List.not_mem_nil⟩
theorem c_X11_splits (l : Launch) : z_CS l yX11_splits cX11_splits 6 (some .int) rm_X11_splits sp_X11_splits := by
  refine z_meth (by decide) (Or.inr (Or.inl ⟨rfl, rfl⟩)) (fun h => by cases h) rfl (O_X11_splits l) ?_
  intro av w K h
  match av, h with
  | [.ref o, .int i, .int u], h =>
    obtain ⟨rfl, ⟨r, hG⟩, ⟨d, q, c, A, kp, ⟨L, x⟩, tl⟩, hC, h⟩ := h
    obtain ⟨G, wi, wl⟩ := w
    subst hG
    try dsimp only at h hC
    unfold st_splits spR txt0 at h
    dsimp only at h
    have hS := ct_S hC
    have h40 := cs_40 hS
    have q23 := cs_q23 hS
    have hL : L ≤ 400 := (ct_X hC).2.1
    have ht0 := tb0_lt u
    have hle := fmP_le (x := x) (L := L) (q := q) (k := 0) (cs_d hS) ht0 (Nat.zero_le _)
    have hlt := fmP_lt (x := x) (L := L) (d := d) (t := tb0 u) (k := 0) (show 2 ≤ q by omega)
    have hzb := fmP_z x L d q (tb0 u) 0
    refine ⟨Nat.le_of_ble_eq_true rfl, fun Jm hs => ?_⟩
    have go : Jm 20 [some (.ref 0), some (.int i), some (.int u), none, none, none] [.int (nI (tb0 u)), .ref 6, .ref 1] (GC ++ r, wi, wl) 0 0 := by
      refine hs 400 20 _ _ _ _ _ ?_
      conv => whnf
      repeat ((first | refine ⟨zG_of _, ?_⟩ | refine ⟨trivial, ?_⟩ | refine ⟨rfl, ?_⟩ | refine ⟨fun hc => absurd hc (by decide), fun _ => ?_⟩ | refine ⟨fun _ => ?_, fun hc => absurd (by decide) hc⟩ | refine ⟨fun _ => ?_, fun hc => absurd hc (by decide)⟩ | refine ⟨fun hc => absurd (by decide) hc, fun _ => ?_⟩); conv => whnf)
      try dsimp only
      refine ⟨L, x, d, q, c, A, tb0 u, ct_X hC, hS, rfl, ht0, fun wi1 hF1 hT1 hf1 => ?_⟩
      generalize hR : fmP x L d q (tb0 u) 0 = R at *
      conv => whnf
      repeat ((first | refine ⟨zG_of _, ?_⟩ | refine ⟨trivial, ?_⟩ | refine ⟨rfl, ?_⟩ | refine ⟨fun hc => absurd hc (by decide), fun _ => ?_⟩ | refine ⟨fun _ => ?_, fun hc => absurd (by decide) hc⟩ | refine ⟨fun _ => ?_, fun hc => absurd hc (by decide)⟩ | refine ⟨fun hc => absurd (by decide) hc, fun _ => ?_⟩); conv => whnf)
      try dsimp only
      refine ⟨L, x, hT1, fun wi2 hF2 hT2 _ => ?_⟩
      have hF : ∀ y, y ≠ 1 → wi2 y = wi y := fun y g1 => by rw [hF2 y g1, hF1 y g1]
      have hX : CT wi2 wl (d, q, c, A, kp, (0, x), tl) := ct_text hC (fun y hy => hF y (by omega)) hT2 rfl
      have hFC : FrC wi wl wi2 wl := fun y hy => ⟨hF y (by omega), rfl⟩
      have hS2 := ct_S hX
      rw [hf1]
      conv => whnf
      repeat ((first | refine ⟨zG_of _, ?_⟩ | refine ⟨trivial, ?_⟩ | refine ⟨rfl, ?_⟩ | refine ⟨fun hc => absurd hc (by decide), fun _ => ?_⟩ | refine ⟨fun _ => ?_, fun hc => absurd (by decide) hc⟩ | refine ⟨fun _ => ?_, fun hc => absurd hc (by decide)⟩ | refine ⟨fun hc => absurd (by decide) hc, fun _ => ?_⟩); conv => whnf)
      try dsimp only
      refine ⟨fun hn => ?_, fun hn => ?_⟩
      · rw [if_pos hn] at h
        have no : ¬ (idB c i && idB 3 u) = true → K (some (.int (mI 1))) (GC ++ r, wi2, wl) := fun hn => by
          rw [if_neg hn] at h
          exact h wi2 wl hFC hX
        conv => whnf
        repeat ((first | refine ⟨zG_of _, ?_⟩ | refine ⟨trivial, ?_⟩ | refine ⟨rfl, ?_⟩ | refine ⟨fun hc => absurd hc (by decide), fun _ => ?_⟩ | refine ⟨fun _ => ?_, fun hc => absurd (by decide) hc⟩ | refine ⟨fun _ => ?_, fun hc => absurd hc (by decide)⟩ | refine ⟨fun hc => absurd (by decide) hc, fun _ => ?_⟩); conv => whnf)
        try dsimp only
        rw [isP_S hS2, bI_0]
        refine ⟨fun h1 => ⟨trivial, no (by simp [h1])⟩, fun h1 => ?_⟩
        conv => whnf
        repeat ((first | refine ⟨zG_of _, ?_⟩ | refine ⟨trivial, ?_⟩ | refine ⟨rfl, ?_⟩ | refine ⟨fun hc => absurd hc (by decide), fun _ => ?_⟩ | refine ⟨fun _ => ?_, fun hc => absurd (by decide) hc⟩ | refine ⟨fun _ => ?_, fun hc => absurd hc (by decide)⟩ | refine ⟨fun hc => absurd (by decide) hc, fun _ => ?_⟩); conv => whnf)
        try dsimp only
        rw [isT_B, bI_0, Classical.not_not]
        refine ⟨fun h2 => ?_, fun h2 => ⟨trivial, no (by simp [h2])⟩⟩
        have h1 := Classical.not_not.mp h1
        rw [if_pos (by simp [h1, h2])] at h
        have et : tb0 u = u.toNatClampNeg := if_pos h2
        rw [et] at ht0 hzb
        obtain ⟨i', hi, rfl⟩ := idB_N h1 (by omega)
        obtain ⟨u', hu, rfl⟩ := idB_N h2 (by omega)
        rw [nc_N (by omega)] at h hzb
        rw [nc_N (by omega)] at h
        conv => whnf
        repeat ((first | refine ⟨zG_of _, ?_⟩ | refine ⟨trivial, ?_⟩ | refine ⟨rfl, ?_⟩ | refine ⟨fun hc => absurd hc (by decide), fun _ => ?_⟩ | refine ⟨fun _ => ?_, fun hc => absurd (by decide) hc⟩ | refine ⟨fun _ => ?_, fun hc => absurd hc (by decide)⟩ | refine ⟨fun hc => absurd (by decide) hc, fun _ => ?_⟩); conv => whnf)
        try dsimp only
        rw [full_S hS2, bI_0, Classical.not_not]
        refine ⟨fun hc => ?_, fun hc => ?_⟩
        · rw [if_neg (by omega)] at h
          have e : atF (wi2 8) 120 (nI 3 * nI i' + nI u') = pk R.2.2 ↔ eqB (A (3 * i' + u')) R.2.2 = true := by
            rw [show atF (wi2 8) 120 (nI 3 * nI i' + nI u') = pk (A (3 * i' + u')) from fm_S hS2 hi hu]
            exact eqB_pk (cs_A3 hS _ (by omega)) (lt3_of q23 hlt)
          have ev : atF (wi2 8) 120 (nI 3 * nI i' + nI u') = pk (A (3 * i' + u')) := fm_S hS2 hi hu
          conv => whnf
          repeat ((first | refine ⟨zG_of _, ?_⟩ | refine ⟨trivial, ?_⟩ | refine ⟨rfl, ?_⟩ | refine ⟨fun hc => absurd hc (by decide), fun _ => ?_⟩ | refine ⟨fun _ => ?_, fun hc => absurd (by decide) hc⟩ | refine ⟨fun _ => ?_, fun hc => absurd hc (by decide)⟩ | refine ⟨fun hc => absurd (by decide) hc, fun _ => ?_⟩); conv => whnf)
          try dsimp only
          rw [e]
          refine ⟨fun he => ?_, fun he => ?_⟩
          · rw [if_neg he] at h
            conv => whnf
            repeat ((first | refine ⟨zG_of _, ?_⟩ | refine ⟨trivial, ?_⟩ | refine ⟨rfl, ?_⟩ | refine ⟨fun hc => absurd hc (by decide), fun _ => ?_⟩ | refine ⟨fun _ => ?_, fun hc => absurd (by decide) hc⟩ | refine ⟨fun _ => ?_, fun hc => absurd hc (by decide)⟩ | refine ⟨fun hc => absurd (by decide) hc, fun _ => ?_⟩); conv => whnf)
            try dsimp only
            refine Or.inr ⟨⟨rfl, rfl⟩, d, q, c, A, i', hS2, hc, rfl, hi, fun wi3 hF3 hS3 => ?_⟩
            conv => whnf
            repeat ((first | refine ⟨zG_of _, ?_⟩ | refine ⟨trivial, ?_⟩ | refine ⟨rfl, ?_⟩ | refine ⟨fun hc => absurd hc (by decide), fun _ => ?_⟩ | refine ⟨fun _ => ?_, fun hc => absurd (by decide) hc⟩ | refine ⟨fun _ => ?_, fun hc => absurd hc (by decide)⟩ | refine ⟨fun hc => absurd (by decide) hc, fun _ => ?_⟩); conv => whnf)
            try dsimp only
            rw [ev]
            refine ⟨Or.inl rfl, zG_of _, c, u', by rw [cs_c hS3, pk_sub (by omega)]; rfl, hc, rfl, hu, fun wi4 e4 => ?_⟩
            have k4 := cs_set hS3 (show c < c + 1 by omega) hu (a := fSub q (A (3 * i' + u')) R.2.2) (by
              rw [cs_q hS3]
              exact fless_pk q23 (cs_A hS _ (by omega)) hlt) (fun p _ => fSub_lt q23 _ _ p) e4
            conv => whnf
            repeat ((first | refine ⟨zG_of _, ?_⟩ | refine ⟨trivial, ?_⟩ | refine ⟨rfl, ?_⟩ | refine ⟨fun hc => absurd hc (by decide), fun _ => ?_⟩ | refine ⟨fun _ => ?_, fun hc => absurd (by decide) hc⟩ | refine ⟨fun _ => ?_, fun hc => absurd hc (by decide)⟩ | refine ⟨fun hc => absurd (by decide) hc, fun _ => ?_⟩); conv => whnf)
            try dsimp only
            refine ⟨Or.inl rfl, zG_of _, i', u', rfl, by omega, rfl, hu, fun wi5 e5 => ?_⟩
            have k5 := cs_set k4.1 (show i' < c + 1 by omega) hu (a := R.2.2) rfl hlt e5
            have hz5 : ZS d (c + 1) (spA q A c i' u' R.2.2) := zs_up (zs_up (adA_z (ct_Z hC) (ct_Z hC) hi) hu (zb_sub (zs_at (ct_Z hC) hi hu) hzb)) hu hzb
            have hF5 : ∀ y, y ≠ 6 → y ≠ 8 → wi5 y = wi2 y := fun y g1 g2 => by rw [k5.2 y g1 g2, k4.2 y g1 g2, hF3 y g1 g2]
            have h := h wi5 wl (fun y hy => ⟨by rw [hF5 y (by omega) (by omega), hF y (by omega)], rfl⟩) (ct_now hX k5.1 hz5 (fun y hy => hF5 y (by omega) (by omega)) rfl)
            rw [← cs_c k5.1] at h
            conv => whnf
            repeat ((first | refine ⟨zG_of _, ?_⟩ | refine ⟨trivial, ?_⟩ | refine ⟨rfl, ?_⟩ | refine ⟨fun hc => absurd hc (by decide), fun _ => ?_⟩ | refine ⟨fun _ => ?_, fun hc => absurd (by decide) hc⟩ | refine ⟨fun _ => ?_, fun hc => absurd hc (by decide)⟩ | refine ⟨fun hc => absurd (by decide) hc, fun _ => ?_⟩); conv => whnf)
            try dsimp only
            exact h
          · rw [if_pos he] at h
            exact ⟨trivial, h wi2 wl hFC hX⟩
        · rw [if_pos (by omega)] at h
          exact ⟨trivial, h wi2 wl hFC hX⟩
      · rw [if_neg hn] at h
        exact ⟨trivial, h wi2 wl hFC hX⟩
    refine hs 400 0 _ _ _ _ _ ?_
    conv => whnf
    repeat ((first | refine ⟨zG_of _, ?_⟩ | refine ⟨trivial, ?_⟩ | refine ⟨rfl, ?_⟩ | refine ⟨fun hc => absurd hc (by decide), fun _ => ?_⟩ | refine ⟨fun _ => ?_, fun hc => absurd (by decide) hc⟩ | refine ⟨fun _ => ?_, fun hc => absurd hc (by decide)⟩ | refine ⟨fun hc => absurd (by decide) hc, fun _ => ?_⟩); conv => whnf)
    try dsimp only
    rw [isT_B, bI_0]
    refine ⟨fun hu => ?_, fun hu => ?_⟩
    · have e : tb0 u = 0 := if_neg hu
      rw [e] at go
      exact go
    · have hu := Classical.not_not.mp hu
      have e : nI (tb0 u) = u := by
        unfold tb0
        rw [if_pos hu]
        obtain ⟨n, h1, rfl⟩ := idB_N hu (by decide)
        rw [nc_N (by omega)]
      rw [e] at go
      exact go
def plX (q : Nat) (A : Nat → Nat → Nat) (c i j w : Nat) : Nat → Nat → Nat :=
  let A1 := adA A c A j
  let A2 := upA A1 (3 * c + w) (fSub q (A1 (3 * j + w)) (A1 (3 * i + w)))
  let A3 := upA A2 (3 * j + w) (A2 (3 * i + w))
  let A4 := upA A3 (3 * j + nx (nx w)) (fSub q (A3 (3 * j + nx (nx w))) (A3 (3 * i + nx (nx w))))
  upA A4 (3 * i + nx w) (fAdd q (A4 (3 * i + nx w)) (A4 (3 * j + nx w)))
theorem plX_z {d : Nat → Nat} {q c i j w : Nat} {A : Nat → Nat → Nat} (h : ZS d c A) (hi : i < c) (hj : j < c) (hw : w < 3) : ZS d (c + 1) (plX q A c i j w) := by
  have z1 : ZS d (c + 1) (adA A c A j) := adA_z h h hj
  have z2 := zs_up (i := c) z1 hw (zb_sub (q := q) (zs_at z1 (show j < c + 1 by omega) hw) (zs_at z1 (show i < c + 1 by omega) hw))
  have z3 := zs_up (i := j) z2 hw (zs_at z2 (show i < c + 1 by omega) hw)
  have z4 := zs_up (i := j) z3 (nx_lt (nx w)) (zb_sub (q := q) (zs_at z3 (show j < c + 1 by omega) (nx_lt (nx w))) (zs_at z3 (show i < c + 1 by omega) (nx_lt (nx w))))
  exact zs_up (i := i) z4 (nx_lt w) (zb_add (q := q) (zs_at z4 (show i < c + 1 by omega) (nx_lt w)) (zs_at z4 (show j < c + 1 by omega) (nx_lt w)))
def st_plus (T : zT) (i j w : Int32) : zT × Int32 :=
  if (idB T.2.2.1 i && (idB T.2.2.1 j && idB 3 w)) = true then
    if i = j then (T, mI 2)
    else if T.2.2.1 = 40 then (T, mI 3)
    else ((T.1, T.2.1, T.2.2.1 + 1, plX T.2.1 T.2.2.2.1 T.2.2.1 i.toNatClampNeg j.toNatClampNeg w.toNatClampNeg, T.2.2.2.2), nI (T.2.2.1 + 1))
  else (T, mI 1)
def sp_X11_plus : zSp := fun av w K => match av with
  | [.ref o, .int i, .int j, .int t] => o = 0 ∧ zG w.1 ∧ ∃ T, CT w.2.1 w.2.2 T ∧ ∀ wi' wl', FrC w.2.1 w.2.2 wi' wl' → CT wi' wl' (st_plus T i j t).1 → K (some (.int (st_plus T i j t).2)) (w.1, wi', wl')
  | _ => False
def rm_X11_plus : Room := { frames := 4, cells := 0, slots := 0, locals := 89 }
def M_X11_plus : zM := (k_X11_plus, f_X11, [(121, 4, 5, 2, 0, 0, sp_X6_isProduct), (128, 0, 0, 1, 0, 0, sp_X11_isTable), (113, 4, 5, 1, 0, 0, sp_X6_isFull), (251, 0, 0, 1, 0, 0, sp_X11_behind), (117, 4, 5, 3, 0, 0, sp_X6_addFrom), (131, 4, 5, 3, 0, 0, sp_X6_formAt), (245, 0, 0, 3, 0, 0, sp_X2_less), (248, 4, 5, 4, 0, 0, sp_X6_setForm), (254, 0, 0, 3, 0, 0, sp_X2_sum)], ([], [], []), [], [], 1, false, (false, 0, fun _ => 0), (0, 0, []))
theorem ca_X11_plus_0 (l : Launch) : z_cok l RX11 (headSpec (.code yX11_plus cX11_plus 6 (some .int) :: zTT) rm_X11_plus).room (false, 0, fun _ => 0) (121, 4, 5, 2, 0, 0, sp_X6_isProduct) := z_ca4 (c_X6_isProduct l) mb_X6_isProduct ⟨_, rfl, rfl⟩ wt_416 wt_417 wt_418 (by decide)
theorem ca_X11_plus_1 (l : Launch) : z_cok l RX11 (headSpec (.code yX11_plus cX11_plus 6 (some .int) :: zTT) rm_X11_plus).room (false, 0, fun _ => 0) (128, 0, 0, 1, 0, 0, sp_X11_isTable) := z_ca0 (c_X11_isTable l) mb_X11_isTable wt_505 wt_506 (by decide)
theorem ca_X11_plus_2 (l : Launch) : z_cok l RX11 (headSpec (.code yX11_plus cX11_plus 6 (some .int) :: zTT) rm_X11_plus).room (false, 0, fun _ => 0) (113, 4, 5, 1, 0, 0, sp_X6_isFull) := z_ca4 (c_X6_isFull l) mb_X6_isFull ⟨_, rfl, rfl⟩ wt_402 wt_285 wt_286 (by decide)
theorem ca_X11_plus_3 (l : Launch) : z_cok l RX11 (headSpec (.code yX11_plus cX11_plus 6 (some .int) :: zTT) rm_X11_plus).room (false, 0, fun _ => 0) (251, 0, 0, 1, 0, 0, sp_X11_behind) := z_ca0 (c_X11_behind l) mb_X11_behind wt_641 wt_386 (by decide)
theorem ca_X11_plus_4 (l : Launch) : z_cok l RX11 (headSpec (.code yX11_plus cX11_plus 6 (some .int) :: zTT) rm_X11_plus).room (false, 0, fun _ => 0) (117, 4, 5, 3, 0, 0, sp_X6_addFrom) := z_ca4 (c_X6_addFrom l) mb_X6_addFrom ⟨_, rfl, rfl⟩ wt_403 wt_404 wt_405 (by decide)
theorem ca_X11_plus_5 (l : Launch) : z_cok l RX11 (headSpec (.code yX11_plus cX11_plus 6 (some .int) :: zTT) rm_X11_plus).room (false, 0, fun _ => 0) (131, 4, 5, 3, 0, 0, sp_X6_formAt) := z_ca4 (c_X6_formAt l) mb_X6_formAt ⟨_, rfl, rfl⟩ wt_634 wt_408 wt_409 (by decide)
theorem ca_X11_plus_6 (l : Launch) : z_cok l RX11 (headSpec (.code yX11_plus cX11_plus 6 (some .int) :: zTT) rm_X11_plus).room (false, 0, fun _ => 0) (245, 0, 0, 3, 0, 0, sp_X2_less) := z_ca0 (c_X2_less l) mb_X2_less wt_635 wt_532 (by decide)
theorem ca_X11_plus_7 (l : Launch) : z_cok l RX11 (headSpec (.code yX11_plus cX11_plus 6 (some .int) :: zTT) rm_X11_plus).room (false, 0, fun _ => 0) (248, 4, 5, 4, 0, 0, sp_X6_setForm) := z_ca4 (c_X6_setForm l) mb_X6_setForm ⟨_, rfl, rfl⟩ wt_636 wt_289 wt_290 (by decide)
theorem ca_X11_plus_8 (l : Launch) : z_cok l RX11 (headSpec (.code yX11_plus cX11_plus 6 (some .int) :: zTT) rm_X11_plus).room (false, 0, fun _ => 0) (254, 0, 0, 3, 0, 0, sp_X2_sum) := z_ca0 (c_X2_sum l) mb_X2_sum wt_642 wt_529 (by decide)
theorem O_X11_plus (l : Launch) : z_OK l RX11 cX11_plus (headSpec (.code yX11_plus cX11_plus 6 (some .int) :: zTT) rm_X11_plus).room M_X11_plus := ⟨ok_X11_plus, fo_X11, List.forall_mem_cons.mpr ⟨ca_X11_plus_0 l, List.forall_mem_cons.mpr ⟨ca_X11_plus_1 l, List.forall_mem_cons.mpr ⟨ca_X11_plus_2 l, List.forall_mem_cons.mpr ⟨ca_X11_plus_3 l, List.forall_mem_cons.mpr ⟨ca_X11_plus_4 l, List.forall_mem_cons.mpr ⟨ca_X11_plus_5 l, List.forall_mem_cons.mpr ⟨ca_X11_plus_6 l, List.forall_mem_cons.mpr ⟨ca_X11_plus_7 l, List.forall_mem_cons.mpr ⟨ca_X11_plus_8 l, fun _ h => absurd h List.not_mem_nil⟩⟩⟩⟩⟩⟩⟩⟩⟩, fun _ h => absurd h List.not_mem_nil, fun _ h => absurd h List.not_mem_nil, fun _ h => absurd h List.not_mem_nil, fun _ h => absurd h List.not_mem_nil, rfl, rfl, fun _ h => absurd h List.not_mem_nil⟩
theorem c_X11_plus (l : Launch) : z_CS l yX11_plus cX11_plus 6 (some .int) rm_X11_plus sp_X11_plus := by
  refine z_meth (by decide) (Or.inr (Or.inl ⟨rfl, rfl⟩)) (fun h => by cases h) rfl (O_X11_plus l) ?_
  intro av w K h
  match av, h with
  | [.ref o, .int i, .int j, .int t], h =>
    obtain ⟨rfl, ⟨r, hG⟩, ⟨d, q, c, A, kp, tx, tl⟩, hC, h⟩ := h
    obtain ⟨G, wi, wl⟩ := w
    subst hG
    try dsimp only at h hC
    refine ⟨Nat.le_of_ble_eq_true rfl, fun Jm hs => hs 400 0 _ _ _ _ _ ?_⟩
    unfold st_plus at h
    dsimp only at h
    have hS := ct_S hC
    have h40 := cs_40 hS
    have q23 := cs_q23 hS
    have no : ¬ (idB c i && (idB c j && idB 3 t)) = true → K (some (.int (mI 1))) (GC ++ r, wi, wl) := fun hn => by
      rw [if_neg hn] at h
      exact h wi wl (FrC_refl _ _) hC
    conv => whnf
    repeat ((first | refine ⟨zG_of _, ?_⟩ | refine ⟨trivial, ?_⟩ | refine ⟨rfl, ?_⟩ | refine ⟨fun hc => absurd hc (by decide), fun _ => ?_⟩ | refine ⟨fun _ => ?_, fun hc => absurd (by decide) hc⟩ | refine ⟨fun _ => ?_, fun hc => absurd hc (by decide)⟩ | refine ⟨fun hc => absurd (by decide) hc, fun _ => ?_⟩); conv => whnf)
    try dsimp only
    rw [isP_S hS, bI_0]
    refine ⟨fun h1 => ⟨trivial, no (by simp [h1])⟩, fun h1 => ?_⟩
    conv => whnf
    repeat ((first | refine ⟨zG_of _, ?_⟩ | refine ⟨trivial, ?_⟩ | refine ⟨rfl, ?_⟩ | refine ⟨fun hc => absurd hc (by decide), fun _ => ?_⟩ | refine ⟨fun _ => ?_, fun hc => absurd (by decide) hc⟩ | refine ⟨fun _ => ?_, fun hc => absurd hc (by decide)⟩ | refine ⟨fun hc => absurd (by decide) hc, fun _ => ?_⟩); conv => whnf)
    try dsimp only
    rw [isP_S hS, bI_0]
    refine ⟨fun h2 => ⟨trivial, no (by simp [h2])⟩, fun h2 => ?_⟩
    conv => whnf
    repeat ((first | refine ⟨zG_of _, ?_⟩ | refine ⟨trivial, ?_⟩ | refine ⟨rfl, ?_⟩ | refine ⟨fun hc => absurd hc (by decide), fun _ => ?_⟩ | refine ⟨fun _ => ?_, fun hc => absurd (by decide) hc⟩ | refine ⟨fun _ => ?_, fun hc => absurd hc (by decide)⟩ | refine ⟨fun hc => absurd (by decide) hc, fun _ => ?_⟩); conv => whnf)
    try dsimp only
    rw [isT_B, bI_0, Classical.not_not]
    refine ⟨fun h3 => ?_, fun h3 => ⟨trivial, no (by simp [h3])⟩⟩
    have h1 := Classical.not_not.mp h1
    have h2 := Classical.not_not.mp h2
    rw [if_pos (by simp [h1, h2, h3])] at h
    conv => whnf
    repeat ((first | refine ⟨zG_of _, ?_⟩ | refine ⟨trivial, ?_⟩ | refine ⟨rfl, ?_⟩ | refine ⟨fun hc => absurd hc (by decide), fun _ => ?_⟩ | refine ⟨fun _ => ?_, fun hc => absurd (by decide) hc⟩ | refine ⟨fun _ => ?_, fun hc => absurd hc (by decide)⟩ | refine ⟨fun hc => absurd (by decide) hc, fun _ => ?_⟩); conv => whnf)
    try dsimp only
    refine ⟨fun h4 => ?_, fun h4 => ?_⟩
    · rw [if_neg h4] at h
      obtain ⟨i', hi, rfl⟩ := idB_N h1 (by omega)
      obtain ⟨j', hj, rfl⟩ := idB_N h2 (by omega)
      obtain ⟨t', ht, rfl⟩ := idB_N h3 (by omega)
      rw [nc_N (by omega), nc_N (by omega), nc_N (by omega)] at h
      conv => whnf
      repeat ((first | refine ⟨zG_of _, ?_⟩ | refine ⟨trivial, ?_⟩ | refine ⟨rfl, ?_⟩ | refine ⟨fun hc => absurd hc (by decide), fun _ => ?_⟩ | refine ⟨fun _ => ?_, fun hc => absurd (by decide) hc⟩ | refine ⟨fun _ => ?_, fun hc => absurd hc (by decide)⟩ | refine ⟨fun hc => absurd (by decide) hc, fun _ => ?_⟩); conv => whnf)
      try dsimp only
      rw [full_S hS, bI_0, Classical.not_not]
      refine ⟨fun hc => ?_, fun hc => ?_⟩
      · rw [if_neg (by omega)] at h
        have b1 := beh_nx ht
        have b2 := beh_nx (nx_lt t')
        conv => whnf
        repeat ((first | refine ⟨zG_of _, ?_⟩ | refine ⟨trivial, ?_⟩ | refine ⟨rfl, ?_⟩ | refine ⟨fun hc => absurd hc (by decide), fun _ => ?_⟩ | refine ⟨fun _ => ?_, fun hc => absurd (by decide) hc⟩ | refine ⟨fun _ => ?_, fun hc => absurd hc (by decide)⟩ | refine ⟨fun hc => absurd (by decide) hc, fun _ => ?_⟩); conv => whnf)
        try dsimp only
        rw [b1, b2]
        refine Or.inr ⟨⟨rfl, rfl⟩, d, q, c, A, j', hS, hc, rfl, hj, fun wi1 hF1 hS1 => ?_⟩
        have hi1 : i' < c + 1 := by omega
        have hj1 : j' < c + 1 := by omega
        have hc1 : c < c + 1 := by omega
        conv => whnf
        repeat ((first | refine ⟨zG_of _, ?_⟩ | refine ⟨trivial, ?_⟩ | refine ⟨rfl, ?_⟩ | refine ⟨fun hc => absurd hc (by decide), fun _ => ?_⟩ | refine ⟨fun _ => ?_, fun hc => absurd (by decide) hc⟩ | refine ⟨fun _ => ?_, fun hc => absurd hc (by decide)⟩ | refine ⟨fun hc => absurd (by decide) hc, fun _ => ?_⟩); conv => whnf)
        try dsimp only
        refine ⟨Or.inl rfl, zG_of _, c, t', by rw [cs_c hS1, pk_sub (by omega)]; rfl, hc, rfl, ht, fun wi2 e2 => ?_⟩
        have k2 := cs_set hS1 hc1 ht (vSub hS1 hj1 hi1 ht) (fun p _ => fSub_lt q23 _ _ p) e2
        conv => whnf
        repeat ((first | refine ⟨zG_of _, ?_⟩ | refine ⟨trivial, ?_⟩ | refine ⟨rfl, ?_⟩ | refine ⟨fun hc => absurd hc (by decide), fun _ => ?_⟩ | refine ⟨fun _ => ?_, fun hc => absurd (by decide) hc⟩ | refine ⟨fun _ => ?_, fun hc => absurd hc (by decide)⟩ | refine ⟨fun hc => absurd (by decide) hc, fun _ => ?_⟩); conv => whnf)
        try dsimp only
        refine ⟨Or.inl rfl, zG_of _, j', t', rfl, by omega, rfl, ht, fun wi3 e3 => ?_⟩
        have k3 := cs_set k2.1 hj1 ht (fm_S k2.1 hi1 ht) (cs_A k2.1 _ (by omega)) e3
        conv => whnf
        repeat ((first | refine ⟨zG_of _, ?_⟩ | refine ⟨trivial, ?_⟩ | refine ⟨rfl, ?_⟩ | refine ⟨fun hc => absurd hc (by decide), fun _ => ?_⟩ | refine ⟨fun _ => ?_, fun hc => absurd (by decide) hc⟩ | refine ⟨fun _ => ?_, fun hc => absurd hc (by decide)⟩ | refine ⟨fun hc => absurd (by decide) hc, fun _ => ?_⟩); conv => whnf)
        try dsimp only
        refine ⟨Or.inl rfl, zG_of _, j', nx (nx t'), rfl, by omega, rfl, nx_lt _, fun wi4 e4 => ?_⟩
        have k4 := cs_set k3.1 hj1 (nx_lt _) (vSub k3.1 hj1 hi1 (nx_lt _)) (fun p _ => fSub_lt q23 _ _ p) e4
        conv => whnf
        repeat ((first | refine ⟨zG_of _, ?_⟩ | refine ⟨trivial, ?_⟩ | refine ⟨rfl, ?_⟩ | refine ⟨fun hc => absurd hc (by decide), fun _ => ?_⟩ | refine ⟨fun _ => ?_, fun hc => absurd (by decide) hc⟩ | refine ⟨fun _ => ?_, fun hc => absurd hc (by decide)⟩ | refine ⟨fun hc => absurd (by decide) hc, fun _ => ?_⟩); conv => whnf)
        try dsimp only
        refine ⟨Or.inl rfl, zG_of _, i', nx t', rfl, by omega, rfl, nx_lt _, fun wi5 e5 => ?_⟩
        have k5 := cs_set k4.1 hi1 (nx_lt _) (vAdd k4.1 hi1 hj1 (nx_lt _)) (fun p _ => fAdd_lt q23 _ _ p) e5
        have hF5 : ∀ y, y ≠ 6 → y ≠ 8 → wi5 y = wi y := fun y g1 g2 => by rw [k5.2 y g1 g2, k4.2 y g1 g2, k3.2 y g1 g2, k2.2 y g1 g2, hF1 y g1 g2]
        have h := h wi5 wl (fun y hy => ⟨hF5 y (by omega) (by omega), rfl⟩) (ct_now hC k5.1 (plX_z (ct_Z hC) hi hj ht) (fun y hy => hF5 y (by omega) (by omega)) rfl)
        rw [← cs_c k5.1] at h
        conv => whnf
        repeat ((first | refine ⟨zG_of _, ?_⟩ | refine ⟨trivial, ?_⟩ | refine ⟨rfl, ?_⟩ | refine ⟨fun hc => absurd hc (by decide), fun _ => ?_⟩ | refine ⟨fun _ => ?_, fun hc => absurd (by decide) hc⟩ | refine ⟨fun _ => ?_, fun hc => absurd hc (by decide)⟩ | refine ⟨fun hc => absurd (by decide) hc, fun _ => ?_⟩); conv => whnf)
        try dsimp only
        exact h
      · rw [if_pos (by omega)] at h
        exact ⟨trivial, h wi wl (FrC_refl _ _) hC⟩
    · rw [if_pos h4] at h
      exact ⟨trivial, h wi wl (FrC_refl _ _) hC⟩
def fcB (q : Nat) (f : Int32) : Bool := decide (¬ f < nI 1 ∧ f < nI q)
theorem fcB_N {q : Nat} {f : Int32} (h : fcB q f = true) (hq : q < 2 ^ 31) : ∃ n, 1 ≤ n ∧ n < q ∧ f = nI n := by
  have h := of_decide_eq_true h
  obtain ⟨n, h1, rfl⟩ := nn_N (v := f) (fun k => h.1 (by
    rw [Int32.lt_iff_toInt_lt, nI_toInt (by decide)] at k ⊢
    omega))
  have h2 := h.1
  have h3 := h.2
  rw [ltN (by omega) (by omega)] at h2 h3
  exact ⟨n, by omega, by omega, rfl⟩
theorem isF_S {wi : Nat → Nat → Int32} {d : Nat → Nat} {q c : Nat} {A : Nat → Nat → Nat} (h : CS wi 6 d q c A) (f : Int32) : isFF wi f = bI (fcB q f = true) := by
  unfold isFF fcB
  rw [cs_q h]
  exact bI_cg decide_eq_true_iff.symm
def scX (q : Nat) (A : Nat → Nat → Nat) (i w f : Nat) : Nat → Nat → Nat :=
  let A1 := upA A (3 * i + w) (fMul q f (A (3 * i + w)))
  upA A1 (3 * i + nx w) (fMul q f (A1 (3 * i + nx w)))
def scB0 (A : Nat → Nat → Nat) (i : Nat) : Nat → Nat → Nat := adA (fun _ _ => 0) 0 A i
def st_scales (T : zT) (i w f : Int32) : zT × Int32 :=
  if (idB T.2.2.1 i && (idB 3 w && fcB T.2.1 f)) = true then
    ((T.1, T.2.1, T.2.2.1, scX T.2.1 T.2.2.2.1 i.toNatClampNeg w.toNatClampNeg f.toNatClampNeg, T.2.2.2.2), bI (alB T.2.1 (scX T.2.1 T.2.2.2.1 i.toNatClampNeg w.toNatClampNeg f.toNatClampNeg) i.toNatClampNeg (scB0 T.2.2.2.1 i.toNatClampNeg) 0 = true))
  else (T, mI 1)
def sp_X11_scales : zSp := fun av w K => match av with
  | [.ref o, .int i, .int t, .int f] => o = 0 ∧ zG w.1 ∧ ∃ T, CT w.2.1 w.2.2 T ∧ ∀ wi' wl', FrC w.2.1 w.2.2 wi' wl' → CT wi' wl' (st_scales T i t f).1 → K (some (.int (st_scales T i t f).2)) (w.1, wi', wl')
  | _ => False
