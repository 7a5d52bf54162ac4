/-! tables multiplied; products shed, split, added to, scaled -/
theorem ts_congr {wi : Nat → Nat → Int32} {wl : Nat → Nat → Int64} {n : Nat} {xs xs' : Nat → Int64} (h : TS wi wl n xs) (e : ∀ k, k < n → xs k = xs' k) : TS wi wl n xs' := ⟨h.1, h.2.1, fun k hk => (h.2.2 k hk).trans (e k hk)⟩
def muN (T : zT) : Bool × Nat × (Nat → Nat) := nuL T.2.2.2.2.2.1.2 T.2.2.2.2.2.1.1 T.2.1 (pl T.1 0 + pl T.1 1)
def muX (d : Nat → Nat) (q : Nat) (A : Nat → Nat → Nat) (c : Nat) (N : Nat → Nat) : Nat → Int64 := fun z => lN (cmN d q A N z c % q)
def muB (d : Nat → Nat) (q : Nat) (A : Nat → Nat → Nat) (c : Nat) (N : Nat → Nat) (z : Nat) : Bool := !(cmN d q A N z c % q == duN d N z (d 1) % q)
def st_multiplies (T : zT) : zT × Int32 := if ffI (muN T).1 (muN T).2.1 T.2.2.2.2.2.1.1 < nI 0 then (wTl (txt0 T) (pl T.1 2, muX T.1 T.2.1 T.2.2.2.1 T.2.2.1 (muN T).2.2), nI (fb_ct (muB T.1 T.2.1 T.2.2.2.1 T.2.2.1 (muN T).2.2) (pl T.1 2))) else (txt0 T, mI 21 - ffI (muN T).1 (muN T).2.1 T.2.2.2.2.2.1.1)
theorem nuL_le {x : Nat → Nat} {L q : Nat} (hq : q ≤ 3) : ∀ m, (nuL x L q m).2.1 ≤ L
  | 0 => Nat.zero_le _
  | m + 1 => by
    have ih := nuL_le (x := x) (L := L) hq m
    rw [nuL]
    split
    · split
      · exact ih
      · rename_i h0
        have hk : (if m = 0 then (nuL x L q m).2.1 else (nuL x L q m).2.1 + 1) ≤ L := by
          by_cases hm : m = 0
          · rw [if_pos hm]
            exact ih
          · rw [if_neg hm]
            have h44 : see x L (nuL x L q m).2.1 = 44 := Classical.not_not.mp (fun z => h0 ⟨hm, z⟩)
            exact see_lt h44 (by decide)
        generalize (if m = 0 then (nuL x L q m).2.1 else (nuL x L q m).2.1 + 1) = k at *
        by_cases h1 : 48 ≤ see x L k ∧ see x L k < 48 + q
        · rw [if_pos h1]
          exact see_lt (x := x) (L := L) (k := k) rfl (by omega)
        · rw [if_neg h1]
          exact hk
    · exact ih
def sp_X11_multiplies : zSp := fun av w K => match av with
  | [.ref o] => o = 0 ∧ zG w.1 ∧ ∃ T, CT w.2.1 w.2.2 T ∧ ∀ wi' wl', FrC w.2.1 w.2.2 wi' wl' → CT wi' wl' (st_multiplies T).1 → K (some (.int (st_multiplies T).2)) (w.1, wi', wl')
  | _ => False
def rm_X11_multiplies : Room := { frames := 4, cells := 0, slots := 0, locals := 91 }
def M_X11_multiplies : zM := (k_X11_multiplies, f_X11, [(153, 4, 5, 2, 0, 0, sp_X6_places), (178, 4, 7, 4, 0, 0, sp_X8_readNumbers), (104, 4, 7, 1, 0, 0, sp_X8_empty), (150, 4, 8, 1, 0, 0, sp_X9_clear), (182, 4, 1, 3, 0, 0, sp_X1_comesAt), (167, 4, 8, 2, 0, 0, sp_X9_add), (186, 4, 1, 3, 0, 0, sp_X1_dueAt)], ([], [], []), [], [(66, [true, true, true, true, false])], 1, false, (false, 0, fun _ => 0), (0, 0, []))
theorem ca_X11_multiplies_0 (l : Launch) : z_cok l RX11 (headSpec (.code yX11_multiplies cX11_multiplies 5 (some .int) :: zTT) rm_X11_multiplies).room (false, 0, fun _ => 0) (153, 4, 5, 2, 0, 0, sp_X6_places) := z_ca4 (c_X6_places l) mb_X6_places ⟨_, rfl, rfl⟩ wt_433 wt_434 wt_435 (by decide)
theorem ca_X11_multiplies_1 (l : Launch) : z_cok l RX11 (headSpec (.code yX11_multiplies cX11_multiplies 5 (some .int) :: zTT) rm_X11_multiplies).room (false, 0, fun _ => 0) (178, 4, 7, 4, 0, 0, sp_X8_readNumbers) := z_ca4 (c_X8_readNumbers l) mb_X8_readNumbers ⟨_, rfl, rfl⟩ wt_477 wt_478 wt_479 (by decide)
theorem ca_X11_multiplies_2 (l : Launch) : z_cok l RX11 (headSpec (.code yX11_multiplies cX11_multiplies 5 (some .int) :: zTT) rm_X11_multiplies).room (false, 0, fun _ => 0) (104, 4, 7, 1, 0, 0, sp_X8_empty) := z_ca4 (c_X8_empty l) mb_X8_empty ⟨_, rfl, rfl⟩ wt_398 wt_399 wt_400 (by decide)
theorem ca_X11_multiplies_3 (l : Launch) : z_cok l RX11 (headSpec (.code yX11_multiplies cX11_multiplies 5 (some .int) :: zTT) rm_X11_multiplies).room (false, 0, fun _ => 0) (150, 4, 8, 1, 0, 0, sp_X9_clear) := z_ca4 (c_X9_clear l) mb_X9_clear ⟨_, rfl, rfl⟩ wt_429 wt_430 wt_431 (by decide)
theorem ca_X11_multiplies_4 (l : Launch) : z_cok l RX11 (headSpec (.code yX11_multiplies cX11_multiplies 5 (some .int) :: zTT) rm_X11_multiplies).room (false, 0, fun _ => 0) (182, 4, 1, 3, 0, 0, sp_X1_comesAt) := z_ca4 (c_X1_comesAt l) mb_X1_comesAt ⟨_, rfl, rfl⟩ wt_482 wt_483 wt_484 (by decide)
theorem ca_X11_multiplies_5 (l : Launch) : z_cok l RX11 (headSpec (.code yX11_multiplies cX11_multiplies 5 (some .int) :: zTT) rm_X11_multiplies).room (false, 0, fun _ => 0) (167, 4, 8, 2, 0, 0, sp_X9_add) := z_ca4 (c_X9_add l) mb_X9_add ⟨_, rfl, rfl⟩ wt_469 wt_470 wt_471 (by decide)
theorem ca_X11_multiplies_6 (l : Launch) : z_cok l RX11 (headSpec (.code yX11_multiplies cX11_multiplies 5 (some .int) :: zTT) rm_X11_multiplies).room (false, 0, fun _ => 0) (186, 4, 1, 3, 0, 0, sp_X1_dueAt) := z_ca4 (c_X1_dueAt l) mb_X1_dueAt ⟨_, rfl, rfl⟩ wt_495 wt_496 wt_497 (by decide)
theorem O_X11_multiplies (l : Launch) : z_OK l RX11 cX11_multiplies (headSpec (.code yX11_multiplies cX11_multiplies 5 (some .int) :: zTT) rm_X11_multiplies).room M_X11_multiplies := ⟨ok_X11_multiplies, fo_X11, List.forall_mem_cons.mpr ⟨ca_X11_multiplies_0 l, List.forall_mem_cons.mpr ⟨ca_X11_multiplies_1 l, List.forall_mem_cons.mpr ⟨ca_X11_multiplies_2 l, List.forall_mem_cons.mpr ⟨ca_X11_multiplies_3 l, List.forall_mem_cons.mpr ⟨ca_X11_multiplies_4 l, List.forall_mem_cons.mpr ⟨ca_X11_multiplies_5 l, List.forall_mem_cons.mpr ⟨ca_X11_multiplies_6 l, fun _ h => absurd h List.not_mem_nil⟩⟩⟩⟩⟩⟩⟩, fun _ h => absurd h List.not_mem_nil, fun _ h => absurd h List.not_mem_nil, fun _ h => absurd h List.not_mem_nil, fun _ h => absurd h List.not_mem_nil, rfl, rfl, fun _ h => absurd h List.not_mem_nil⟩
theorem c_X11_multiplies (l : Launch) : z_CS l yX11_multiplies cX11_multiplies 5 (some .int) rm_X11_multiplies sp_X11_multiplies := by
  refine z_meth (by decide) (Or.inr (Or.inl ⟨rfl, rfl⟩)) (fun h => by cases h) rfl (O_X11_multiplies l) ?_
  intro av w K h
  match av, h with
  | [.ref o], h =>
    obtain ⟨rfl, ⟨r, hG⟩, ⟨d, q, c, A, kp, ⟨L, x⟩, tl⟩, hC, h⟩ := h
    obtain ⟨G, wi, wl⟩ := w
    subst hG
    try dsimp only at h hC
    unfold st_multiplies wTl txt0 muN at h
    dsimp only at h
    have hS := ct_S hC
    have h40 := cs_40 hS
    have q23 := cs_q23 hS
    have hL : L ≤ 400 := (ct_X hC).2.1
    have p0 := pl_le (cs_d hS) (t := 0) (by decide)
    have p1 := pl_le (cs_d hS) (t := 1) (by decide)
    have p2 := pl_le (cs_d hS) (t := 2) (by decide)
    have e0 : plF wi 6 (nI 0) = nI (pl d 0) := pl_S hS (by decide)
    have e1 : plF wi 6 (nI 1) = nI (pl d 1) := pl_S hS (by decide)
    have hle := nuL_le (x := x) (L := L) (q := q) (by omega) (pl d 0 + pl d 1)
    generalize hR : nuL x L q (pl d 0 + pl d 1) = R at h hle
    refine ⟨Nat.le_of_ble_eq_true rfl, fun Jm hs => ?_⟩
    refine hs 400 0 _ _ _ _ _ ?_
    conv => whnf
    repeat ((first | refine ⟨zG_of _, ?_⟩ | refine ⟨trivial, ?_⟩ | refine ⟨rfl, ?_⟩ | refine ⟨fun hc => absurd hc (by decide), fun _ => ?_⟩ | refine ⟨fun _ => ?_, fun hc => absurd (by decide) hc⟩ | refine ⟨fun _ => ?_, fun hc => absurd hc (by decide)⟩ | refine ⟨fun hc => absurd (by decide) hc, fun _ => ?_⟩); conv => whnf)
    try dsimp only
    refine ⟨L, x, pl d 0 + pl d 1, q, ct_X hC, ?_, by omega, cs_q hS, q23, fun wi1 hF1 hT1 hok => ?_⟩
    · show plF wi 6 (nI 0) + plF wi 6 (nI 1) = _
      rw [e0, e1, nI_add]
    · rw [hR]
      rw [hR] at hok
      conv => whnf
      repeat ((first | refine ⟨zG_of _, ?_⟩ | refine ⟨trivial, ?_⟩ | refine ⟨rfl, ?_⟩ | refine ⟨fun hc => absurd hc (by decide), fun _ => ?_⟩ | refine ⟨fun _ => ?_, fun hc => absurd (by decide) hc⟩ | refine ⟨fun _ => ?_, fun hc => absurd hc (by decide)⟩ | refine ⟨fun hc => absurd (by decide) hc, fun _ => ?_⟩); conv => whnf)
      try dsimp only
      refine ⟨L, x, hT1, fun wi2 hF2 hT2 _ => ?_⟩
      have hF : ∀ y, y ≠ 1 → y ≠ 17 → wi2 y = wi y := fun y g1 g2 => by rw [hF2 y g1, hF1 y g1 g2]
      have hX : CT wi2 wl (d, q, c, A, kp, (0, x), tl) := ct_text hC (fun y hy => hF y (by omega) (by omega)) hT2 rfl
      conv => whnf
      repeat ((first | refine ⟨zG_of _, ?_⟩ | refine ⟨trivial, ?_⟩ | refine ⟨rfl, ?_⟩ | refine ⟨fun hc => absurd hc (by decide), fun _ => ?_⟩ | refine ⟨fun _ => ?_, fun hc => absurd (by decide) hc⟩ | refine ⟨fun _ => ?_, fun hc => absurd hc (by decide)⟩ | refine ⟨fun hc => absurd (by decide) hc, fun _ => ?_⟩); conv => whnf)
      try dsimp only
      refine ⟨fun hn => ?_, fun hn => ?_⟩
      · rw [if_pos hn] at h
        have hok := hok (ff_ok (by omega) hn)
        have hN2 : FS wi2 3 (pl d 0 + pl d 1) R.2.2 := fun k hk => by
          rw [hF2 17 (by decide)]
          exact ⟨(hok k hk).1, by have := (hok k hk).2; omega⟩
        generalize hN : R.2.2 = N at *
        have loop := up_ind (P := fun z => ∀ (wi' : Nat → Nat → Int32) (wl' : Nat → Nat → Int64), (∀ y, y ≠ 4 → wi' y = wi2 y) → (∀ y, y ≠ 5 → wl' y = wl y) → TS wi' wl' z (muX d q A c N) → Jm 66 [some (.ref 0), some (.int (ffI R.1 R.2.1 L)), some (.int (nI (fb_ct (muB d q A c N) z))), some (.int (nI z)), none] [] (GC ++ r, wi', wl') 0 0) (pl d 2) (fun z hz ih => by
          intro wi' wl' hF' hL' hT'
          have hS' : CS wi' 6 d q c A := cs_fr (ct_S hX) (hF' 6 (by decide)) (hF' 8 (by decide))
          have hN' : FS wi' 3 (pl d 0 + pl d 1) N := fun k hk => by
            rw [hF' 17 (by decide)]
            exact hN2 k hk
          have e2 : rowsF wi' 6 (nI 2) * rowsF wi' 6 (behF (nI 2)) = nI (pl d 2) := pl_S hS' (by decide)
          refine hs 400 66 _ _ _ _ _ ?_
          conv => whnf
          repeat ((first | refine ⟨zG_of _, ?_⟩ | refine ⟨trivial, ?_⟩ | refine ⟨rfl, ?_⟩ | refine ⟨fun hc => absurd hc (by decide), fun _ => ?_⟩ | refine ⟨fun _ => ?_, fun hc => absurd (by decide) hc⟩ | refine ⟨fun _ => ?_, fun hc => absurd hc (by decide)⟩ | refine ⟨fun hc => absurd (by decide) hc, fun _ => ?_⟩); conv => whnf)
          try dsimp only
          rw [e2, ltN (by omega) (by omega)]
          refine ⟨fun hc => ?_, fun hc => ?_⟩
          · obtain hzn : z = pl d 2 := by omega
            rw [hzn]
            rw [hzn] at hT'
            exact ⟨trivial, h wi' wl' (fun y hy => ⟨by rw [hF' y (by omega), hF y (by omega) (by omega)], hL' y (by omega)⟩) (ct_told hX hF' hT')⟩
          · have ihn := ih hc
            have lc : cmN d q A N z c % q < q := Nat.mod_lt _ (by omega)
            have ld : duN d N z (d 1) % q < q := Nat.mod_lt _ (by omega)
            conv => whnf
            repeat ((first | refine ⟨zG_of _, ?_⟩ | refine ⟨trivial, ?_⟩ | refine ⟨rfl, ?_⟩ | refine ⟨fun hc => absurd hc (by decide), fun _ => ?_⟩ | refine ⟨fun _ => ?_, fun hc => absurd (by decide) hc⟩ | refine ⟨fun _ => ?_, fun hc => absurd hc (by decide)⟩ | refine ⟨fun hc => absurd (by decide) hc, fun _ => ?_⟩); conv => whnf)
            try dsimp only
            refine ⟨d, q, c, A, N, z, hS', hN', rfl, by omega, ?_⟩
            conv => whnf
            repeat ((first | refine ⟨zG_of _, ?_⟩ | refine ⟨trivial, ?_⟩ | refine ⟨rfl, ?_⟩ | refine ⟨fun hc => absurd hc (by decide), fun _ => ?_⟩ | refine ⟨fun _ => ?_, fun hc => absurd (by decide) hc⟩ | refine ⟨fun _ => ?_, fun hc => absurd hc (by decide)⟩ | refine ⟨fun hc => absurd (by decide) hc, fun _ => ?_⟩); conv => whnf)
            try dsimp only
            rw [nI_l (by omega)]
            refine ⟨z, _, hT', by omega, fun wi3 wl3 hF3 hL3 hT3 => ?_⟩
            have hS3 : CS wi3 6 d q c A := cs_fr hS' (hF3 6 (by decide)) (hF3 8 (by decide))
            have hN3 : FS wi3 3 (pl d 0 + pl d 1) N := fun k hk => by
              rw [hF3 17 (by decide)]
              exact hN' k hk
            have hT4 : TS wi3 wl3 (z + 1) (muX d q A c N) := ts_congr hT3 (fun k hk => by
              unfold upL
              by_cases e : k = z
              · rw [if_pos e, e]
                rfl
              · rw [if_neg e])
            conv => whnf
            repeat ((first | refine ⟨zG_of _, ?_⟩ | refine ⟨trivial, ?_⟩ | refine ⟨rfl, ?_⟩ | refine ⟨fun hc => absurd hc (by decide), fun _ => ?_⟩ | refine ⟨fun _ => ?_, fun hc => absurd (by decide) hc⟩ | refine ⟨fun _ => ?_, fun hc => absurd hc (by decide)⟩ | refine ⟨fun hc => absurd (by decide) hc, fun _ => ?_⟩); conv => whnf)
            try dsimp only
            refine ⟨d, q, c, A, N, z, hS3, hN3, rfl, hc, ?_⟩
            conv => whnf
            repeat ((first | refine ⟨zG_of _, ?_⟩ | refine ⟨trivial, ?_⟩ | refine ⟨rfl, ?_⟩ | refine ⟨fun hc => absurd hc (by decide), fun _ => ?_⟩ | refine ⟨fun _ => ?_, fun hc => absurd (by decide) hc⟩ | refine ⟨fun _ => ?_, fun hc => absurd hc (by decide)⟩ | refine ⟨fun hc => absurd (by decide) hc, fun _ => ?_⟩); conv => whnf)
            try dsimp only
            rw [nI_eq (by omega) (by omega)]
            refine ⟨fun hq => ?_, fun hq => ?_⟩
            · rw [ct_f (by simp [muB, hq])] at ihn
              conv => whnf
              repeat ((first | refine ⟨zG_of _, ?_⟩ | refine ⟨trivial, ?_⟩ | refine ⟨rfl, ?_⟩ | refine ⟨fun hc => absurd hc (by decide), fun _ => ?_⟩ | refine ⟨fun _ => ?_, fun hc => absurd (by decide) hc⟩ | refine ⟨fun _ => ?_, fun hc => absurd hc (by decide)⟩ | refine ⟨fun hc => absurd (by decide) hc, fun _ => ?_⟩); conv => whnf)
              try dsimp only
              rw [nI_add]
              exact ihn wi3 wl3 (fun y hy => by rw [hF3 y hy, hF' y hy]) (fun y hy => by rw [hL3 y hy, hL' y hy]) hT4
            · rw [ct_t (by simpa [muB] using hq)] at ihn
              conv => whnf
              repeat ((first | refine ⟨zG_of _, ?_⟩ | refine ⟨trivial, ?_⟩ | refine ⟨rfl, ?_⟩ | refine ⟨fun hc => absurd hc (by decide), fun _ => ?_⟩ | refine ⟨fun _ => ?_, fun hc => absurd (by decide) hc⟩ | refine ⟨fun _ => ?_, fun hc => absurd hc (by decide)⟩ | refine ⟨fun hc => absurd (by decide) hc, fun _ => ?_⟩); conv => whnf)
              try dsimp only
              rw [nI_add, nI_add]
              exact ihn wi3 wl3 (fun y hy => by rw [hF3 y hy, hF' y hy]) (fun y hy => by rw [hL3 y hy, hL' y hy]) hT4)
        conv => whnf
        repeat ((first | refine ⟨zG_of _, ?_⟩ | refine ⟨trivial, ?_⟩ | refine ⟨rfl, ?_⟩ | refine ⟨fun hc => absurd hc (by decide), fun _ => ?_⟩ | refine ⟨fun _ => ?_, fun hc => absurd (by decide) hc⟩ | refine ⟨fun _ => ?_, fun hc => absurd hc (by decide)⟩ | refine ⟨fun hc => absurd (by decide) hc, fun _ => ?_⟩); conv => whnf)
        try dsimp only
        intro wi3 hF3 hT3
        conv => whnf
        repeat ((first | refine ⟨zG_of _, ?_⟩ | refine ⟨trivial, ?_⟩ | refine ⟨rfl, ?_⟩ | refine ⟨fun hc => absurd hc (by decide), fun _ => ?_⟩ | refine ⟨fun _ => ?_, fun hc => absurd (by decide) hc⟩ | refine ⟨fun _ => ?_, fun hc => absurd hc (by decide)⟩ | refine ⟨fun hc => absurd (by decide) hc, fun _ => ?_⟩); conv => whnf)
        try dsimp only
        exact loop 0 (Nat.zero_le _) wi3 wl hF3 (fun _ _ => rfl) ⟨hT3.1, hT3.2.1, fun k hk => absurd hk (Nat.not_lt_zero k)⟩
      · rw [if_neg hn] at h
        exact ⟨trivial, h wi2 wl (fun y hy => ⟨hF y (by omega) (by omega), rfl⟩) hX⟩
/-- all shed, in at most n steps: products, forms, how many by each table, all -/
def shAll (q : Nat) : Nat → Nat × (Nat → Nat → Nat) × (Nat → Nat) × Nat → Nat × (Nat → Nat → Nat) × (Nat → Nat) × Nat
  | 0, S => S
  | n + 1, (c, A, W, k) => if sf q A c < 240 then shAll q n (c - 1, sfA q A c, setp W (sf q A c / 80) (W (sf q A c / 80) + 1), k + 1) else (c, A, W, k)
theorem shX_z {d : Nat → Nat} {q c v j : Nat} {A : Nat → Nat → Nat} {T Q : Nat → Nat} (h : ZS d c A) (hv : v < 3) (hj : j < c) {n : Nat} (hT : ∀ k, k < n → T k < c) : ∀ k, k ≤ n → ZS d c (shX q A v j T Q k)
  | 0, _ => h
  | k + 1, hk => by
    have ih := shX_z (q := q) (Q := Q) h hv hj hT k (by omega)
    exact zs_up ih hv (zb_add (zs_at ih (hT k (by omega)) hv) (zb_mul (zs_at ih hj hv)))
theorem sfA_z {d : Nat → Nat} {q c : Nat} {A : Nat → Nat → Nat} (h : ZS d c A) (hs : sf q A c < 240) : ZS d (c - 1) (sfA q A c) := by
  have k := (fi_lt hs).1
  change sfB q A c (sf q A c) = true at k
  unfold sfB at k
  simp only [Bool.and_eq_true, decide_eq_true_eq] at k
  unfold sfA sfX
  refine rmA_z (shX_z h (uN_lt (by omega) _) k.1.1 (fun m hm => ?_) _ (Nat.le_refl _)) k.1.1
  have := saL_T q A _ _ _ _ m hm
  omega
theorem shAll_z {d : Nat → Nat} {q : Nat} : ∀ (n c : Nat) (A : Nat → Nat → Nat) (W : Nat → Nat) (k : Nat), ZS d c A → ZS d (shAll q n (c, A, W, k)).1 (shAll q n (c, A, W, k)).2.1
  | 0, _, _, _, _, h => h
  | n + 1, c, A, W, k, h => by
    rw [shAll]
    split
    · rename_i h0
      exact shAll_z n _ _ _ _ (sfA_z h h0)
    · exact h
theorem shAll_W {q : Nat} : ∀ (n c : Nat) (A : Nat → Nat → Nat) (W : Nat → Nat) (k m : Nat), (∀ t, W t ≤ m) → ∀ t, (shAll q n (c, A, W, k)).2.2.1 t ≤ m + n
  | 0, _, _, _, _, _, h, t => h t
  | n + 1, c, A, W, k, m, h, t => by
    rw [shAll]
    split
    · have := shAll_W (q := q) n (c - 1) (sfA q A c) (setp W (sf q A c / 80) (W (sf q A c / 80) + 1)) (k + 1) (m + 1) (fun u => by
        have h1 := h u
        have h2 := h (sf q A c / 80)
        unfold setp
        split <;> omega) t
      omega
    · have := h t
      show W t ≤ _
      omega
def shT (T : zT) : Nat × (Nat → Nat → Nat) × (Nat → Nat) × Nat := shAll T.2.1 40 (T.2.2.1, T.2.2.2.1, fun _ => 0, 0)
def st_sheds (T : zT) : zT × Int32 := ((T.1, T.2.1, (shT T).1, (shT T).2.1, T.2.2.2.2.1, T.2.2.2.2.2.1, (3, t3 (lN ((shT T).2.2.1 0)) (lN ((shT T).2.2.1 1)) (lN ((shT T).2.2.1 2)))), nI (shT T).2.2.2)
def sp_X11_sheds : zSp := fun av w K => match av with
  | [.ref o] => o = 0 ∧ zG w.1 ∧ ∃ T, CT w.2.1 w.2.2 T ∧ ∀ wi' wl', FrC w.2.1 w.2.2 wi' wl' → CT wi' wl' (st_sheds T).1 → K (some (.int (st_sheds T).2)) (w.1, wi', wl')
  | _ => False
def rm_X11_sheds : Room := { frames := 6, cells := 0, slots := 0, locals := 147 }
def M_X11_sheds : zM := (k_X11_sheds, f_X11, [(229, 4, 2, 1, 0, 0, sp_X3_clear), (232, 4, 6, 2, 0, 0, sp_X7_shedFirst), (236, 4, 2, 2, 0, 0, sp_X3_at), (200, 4, 9, 4, 0, 0, sp_X11_tellThree)], ([], [], []), [], [(14, [true, true, true]), (43, [true, true, true])], 1, false, (false, 0, fun _ => 0), (0, 0, []))
theorem ca_X11_sheds_0 (l : Launch) : z_cok l RX11 (headSpec (.code yX11_sheds cX11_sheds 3 (some .int) :: zTT) rm_X11_sheds).room (false, 0, fun _ => 0) (229, 4, 2, 1, 0, 0, sp_X3_clear) := z_ca4 (c_X3_clear l) mb_X3_clear ⟨_, rfl, rfl⟩ wt_572 wt_573 wt_574 (by decide)
theorem ca_X11_sheds_1 (l : Launch) : z_cok l RX11 (headSpec (.code yX11_sheds cX11_sheds 3 (some .int) :: zTT) rm_X11_sheds).room (false, 0, fun _ => 0) (232, 4, 6, 2, 0, 0, sp_X7_shedFirst) := z_ca4 (c_X7_shedFirst l) mb_X7_shedFirst ⟨_, rfl, rfl⟩ wt_576 wt_577 wt_578 (by decide)
theorem ca_X11_sheds_2 (l : Launch) : z_cok l RX11 (headSpec (.code yX11_sheds cX11_sheds 3 (some .int) :: zTT) rm_X11_sheds).room (false, 0, fun _ => 0) (236, 4, 2, 2, 0, 0, sp_X3_at) := z_ca4 (c_X3_at l) mb_X3_at ⟨_, rfl, rfl⟩ wt_625 wt_366 wt_367 (by decide)
theorem ca_X11_sheds_3 (l : Launch) : z_cok l RX11 (headSpec (.code yX11_sheds cX11_sheds 3 (some .int) :: zTT) rm_X11_sheds).room (false, 0, fun _ => 0) (200, 4, 9, 4, 0, 0, sp_X11_tellThree) := z_ca4 (c_X11_tellThree l) mb_X11_tellThree ⟨_, rfl, rfl⟩ wt_465 wt_467 wt_8 (by decide)
theorem O_X11_sheds (l : Launch) : z_OK l RX11 cX11_sheds (headSpec (.code yX11_sheds cX11_sheds 3 (some .int) :: zTT) rm_X11_sheds).room M_X11_sheds := ⟨ok_X11_sheds, fo_X11, List.forall_mem_cons.mpr ⟨ca_X11_sheds_0 l, List.forall_mem_cons.mpr ⟨ca_X11_sheds_1 l, List.forall_mem_cons.mpr ⟨ca_X11_sheds_2 l, List.forall_mem_cons.mpr ⟨ca_X11_sheds_3 l, fun _ h => absurd h List.not_mem_nil⟩⟩⟩⟩, fun _ h => absurd h List.not_mem_nil, fun _ h => absurd h List.not_mem_nil, fun _ h => absurd h List.not_mem_nil, fun _ h => absurd h List.not_mem_nil, rfl, rfl, fun _ h => absurd h List.not_mem_nil⟩
theorem c_X11_sheds (l : Launch) : z_CS l yX11_sheds cX11_sheds 3 (some .int) rm_X11_sheds sp_X11_sheds := by
  refine z_meth (by decide) (Or.inr (Or.inl ⟨rfl, rfl⟩)) (fun h => by cases h) rfl (O_X11_sheds l) ?_
  intro av w K h
  match av, h with
  | [.ref o], h =>
    obtain ⟨rfl, ⟨r, hG⟩, ⟨d, q, c, A, kp, tx, tl⟩, hC, h⟩ := h
    obtain ⟨G, wi, wl⟩ := w
    subst hG
    try dsimp only at h hC
    unfold st_sheds shT at h
    dsimp only at h
    have hS := ct_S hC
    have hZ := shAll_z (q := q) 40 c A (fun _ => 0) 0 (ct_Z hC)
    have hW := shAll_W (q := q) 40 c A (fun _ => 0) 0 0 (fun _ => Nat.le_refl _)
    generalize hR : shAll q 40 (c, A, fun _ => 0, 0) = R at h hZ hW
    have w0 := hW 0
    have w1 := hW 1
    have w2 := hW 2
    refine ⟨Nat.le_of_ble_eq_true rfl, fun Jm hs => ?_⟩
    have fin : ∀ (wi' : Nat → Nat → Int32) (n : Nat), FX wi wi' → CS wi' 6 d q R.1 R.2.1 → (∀ t, t < 3 → wi' 30 t = nI (R.2.2.1 t)) → Jm 43 [some (.ref 0), some (.int (nI R.2.2.2)), some (.int (nI n))] [] (GC ++ r, wi', wl) 0 0 := by
      intro wi' n hF hS' hW'
      have hX : CT wi' wl (d, q, R.1, R.2.1, kp, tx, tl) := ct_now hC hS' hZ (fun y hy => hF y (by omega) (by omega) (by omega)) rfl
      have a0 : atF (wi' 30) 3 (nI 0) = nI (R.2.2.1 0) := by rw [atF_in (by decide) (by decide)]; exact hW' 0 (by decide)
      have a1 : atF (wi' 30) 3 (nI 1) = nI (R.2.2.1 1) := by rw [atF_in (by decide) (by decide)]; exact hW' 1 (by decide)
      have a2 : atF (wi' 30) 3 (nI 2) = nI (R.2.2.1 2) := by rw [atF_in (by decide) (by decide)]; exact hW' 2 (by decide)
      refine hs 400 43 _ _ _ _ _ ?_
      conv => whnf
      repeat ((first | refine ⟨zG_of _, ?_⟩ | refine ⟨trivial, ?_⟩ | refine ⟨rfl, ?_⟩ | refine ⟨fun hc => absurd hc (by decide), fun _ => ?_⟩ | refine ⟨fun _ => ?_, fun hc => absurd (by decide) hc⟩ | refine ⟨fun _ => ?_, fun hc => absurd hc (by decide)⟩ | refine ⟨fun hc => absurd (by decide) hc, fun _ => ?_⟩); conv => whnf)
      try dsimp only
      rw [a0, a1, a2]
      intro wi1 wl1 hF1 hL1 hT1
      rw [nI_l (by omega), nI_l (by omega), nI_l (by omega)] at hT1
      exact ⟨trivial, h wi1 wl1 (fun y hy => ⟨by rw [hF1 y (by omega), hF y (by omega) (by omega) (by omega)], hL1 y (by omega)⟩) (ct_told hX hF1 hT1)⟩
    have loop := up_ind (P := fun k => ∀ (wi' : Nat → Nat → Int32) (c' : Nat) (A' : Nat → Nat → Nat) (W : Nat → Nat), FX wi wi' → CS wi' 6 d q c' A' → (∀ t, t < 3 → wi' 30 t = nI (W t)) → shAll q (40 - k) (c', A', W, k) = R → Jm 14 [some (.ref 0), some (.int (nI k)), some (.int (nI k))] [] (GC ++ r, wi', wl) 0 0) 40 (fun k hk ih => by
      intro wi' c' A' W hF hS' hW' hR'
      refine hs 400 14 _ _ _ _ _ ?_
      conv => whnf
      repeat ((first | refine ⟨zG_of _, ?_⟩ | refine ⟨trivial, ?_⟩ | refine ⟨rfl, ?_⟩ | refine ⟨fun hc => absurd hc (by decide), fun _ => ?_⟩ | refine ⟨fun _ => ?_, fun hc => absurd (by decide) hc⟩ | refine ⟨fun _ => ?_, fun hc => absurd hc (by decide)⟩ | refine ⟨fun hc => absurd (by decide) hc, fun _ => ?_⟩); conv => whnf)
      try dsimp only
      rw [ltN (by omega) (by omega)]
      refine ⟨fun hc => ?_, fun hc => ?_⟩
      · obtain rfl : k = 40 := by omega
        have e : (c', A', W, 40) = R := hR'
        subst e
        conv => whnf
        repeat ((first | refine ⟨zG_of _, ?_⟩ | refine ⟨trivial, ?_⟩ | refine ⟨rfl, ?_⟩ | refine ⟨fun hc => absurd hc (by decide), fun _ => ?_⟩ | refine ⟨fun _ => ?_, fun hc => absurd (by decide) hc⟩ | refine ⟨fun _ => ?_, fun hc => absurd hc (by decide)⟩ | refine ⟨fun hc => absurd (by decide) hc, fun _ => ?_⟩); conv => whnf)
        try dsimp only
        exact fin wi' 40 hF hS' hW'
      · have ihn := ih hc
        rw [show 40 - k = 40 - (k + 1) + 1 by omega, shAll] at hR'
        conv => whnf
        repeat ((first | refine ⟨zG_of _, ?_⟩ | refine ⟨trivial, ?_⟩ | refine ⟨rfl, ?_⟩ | refine ⟨fun hc => absurd hc (by decide), fun _ => ?_⟩ | refine ⟨fun _ => ?_, fun hc => absurd (by decide) hc⟩ | refine ⟨fun _ => ?_, fun hc => absurd hc (by decide)⟩ | refine ⟨fun hc => absurd (by decide) hc, fun _ => ?_⟩); conv => whnf)
        try dsimp only
        refine ⟨d, q, c', A', W, hS', hW', fun hn wi1 hF1 => ?_, fun hn wi1 hF1 hS1 hW1 => ?_⟩
        · rw [if_neg hn] at hR'
          subst hR'
          conv => whnf
          repeat ((first | refine ⟨zG_of _, ?_⟩ | refine ⟨trivial, ?_⟩ | refine ⟨rfl, ?_⟩ | refine ⟨fun hc => absurd hc (by decide), fun _ => ?_⟩ | refine ⟨fun _ => ?_, fun hc => absurd (by decide) hc⟩ | refine ⟨fun _ => ?_, fun hc => absurd hc (by decide)⟩ | refine ⟨fun hc => absurd (by decide) hc, fun _ => ?_⟩); conv => whnf)
          try dsimp only
          exact fin wi1 k (fun y g1 g2 g3 => by rw [hF1 y (by omega), hF y g1 g2 g3]) (cs_fr hS' (hF1 6 (by omega)) (hF1 8 (by omega))) (fun t ht => by rw [hF1 30 (by omega)]; exact hW' t ht)
        · rw [if_pos hn] at hR'
          conv => whnf
          repeat ((first | refine ⟨zG_of _, ?_⟩ | refine ⟨trivial, ?_⟩ | refine ⟨rfl, ?_⟩ | refine ⟨fun hc => absurd hc (by decide), fun _ => ?_⟩ | refine ⟨fun _ => ?_, fun hc => absurd (by decide) hc⟩ | refine ⟨fun _ => ?_, fun hc => absurd hc (by decide)⟩ | refine ⟨fun hc => absurd (by decide) hc, fun _ => ?_⟩); conv => whnf)
          try dsimp only
          rw [nI_add]
          exact ihn wi1 _ _ _ (fun y g1 g2 g3 => by rw [hF1 y g1 g2 g3, hF y g1 g2 g3]) hS1 hW1 hR')
    refine hs 400 0 _ _ _ _ _ ?_
    conv => whnf
    repeat ((first | refine ⟨zG_of _, ?_⟩ | refine ⟨trivial, ?_⟩ | refine ⟨rfl, ?_⟩ | refine ⟨fun hc => absurd hc (by decide), fun _ => ?_⟩ | refine ⟨fun _ => ?_, fun hc => absurd (by decide) hc⟩ | refine ⟨fun _ => ?_, fun hc => absurd hc (by decide)⟩ | refine ⟨fun hc => absurd (by decide) hc, fun _ => ?_⟩); conv => whnf)
    try dsimp only
    refine loop 0 (Nat.zero_le _) _ c A (fun _ => 0) (fun y g1 g2 g3 => ?_) (cs_fr hS ?_ ?_) (fun t ht => ?_) hR
    · funext j
      unfold clrF
      rw [if_neg (fun z => by omega)]
    · funext j
      unfold clrF
      rw [if_neg (fun z => by omega)]
    · funext j
      unfold clrF
      rw [if_neg (fun z => by omega)]
    · unfold clrF
      rw [if_pos ⟨rfl, ht⟩]

