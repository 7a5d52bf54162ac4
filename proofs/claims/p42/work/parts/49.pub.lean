/-! walks; a scheme turned, its lines changed -/
def rgB (lo hi : Nat) (v : Int32) : Bool := decide (¬ v < nI lo ∧ ¬ nI hi < v)
theorem rgB_N {lo hi : Nat} {v : Int32} (h : rgB lo hi v = true) (hlo : lo < 2 ^ 31) (hhi : hi < 2 ^ 31) : ∃ n, lo ≤ n ∧ n ≤ hi ∧ v = nI n := by
  have h := of_decide_eq_true h
  obtain ⟨n, h1, rfl⟩ := nn_N (v := v) (fun k => h.1 (by
    rw [Int32.lt_iff_toInt_lt, nI_toInt (by decide)] at k
    rw [Int32.lt_iff_toInt_lt, nI_toInt hlo]
    omega))
  have h2 := h.1
  have h3 := h.2
  rw [ltN (by omega) (by omega)] at h2 h3
  exact ⟨n, by omega, by omega, rfl⟩
def wkN (X : Nat) : Nat := X * 16807 % 2147483647
/-- a walk: products, forms, what is drawn, how many flips were done -/
def wkS (q : Nat) (S : Nat × (Nat → Nat → Nat) × Nat × Nat) : Nat → Nat × (Nat → Nat → Nat) × Nat × Nat
  | 0 => S
  | k + 1 =>
    if flAll q (wkS q S k).2.1 (wkS q S k).1 = 0 then ((wkS q S k).1, (wkS q S k).2.1, wkN (wkS q S k).2.2.1, (wkS q S k).2.2.2)
    else ((jAll q 40 ((wkS q S k).1, dfA q (wkS q S k).2.1 (wkS q S k).1 (wkN (wkS q S k).2.2.1 % flAll q (wkS q S k).2.1 (wkS q S k).1), 0, 0)).1, (jAll q 40 ((wkS q S k).1, dfA q (wkS q S k).2.1 (wkS q S k).1 (wkN (wkS q S k).2.2.1 % flAll q (wkS q S k).2.1 (wkS q S k).1), 0, 0)).2.1, wkN (wkS q S k).2.2.1, (wkS q S k).2.2.2 + 1)
theorem ktA_z {d : Nat → Nat} {q c t k : Nat} {A : Nat → Nat → Nat} (h : ZS d c A) (ht : t < 3) (hk : k < fb_ct (pfB q A t c) 1600) : ZS d c (ktA q A c t k) := by
  have hp := (kt_spec hk).2.1
  unfold pfB at hp
  simp only [Bool.and_eq_true, decide_eq_true_eq] at hp
  exact tfA_z h hp.1.1.2 hp.1.2 ht
theorem dfA_z {d : Nat → Nat} {q c k : Nat} {A : Nat → Nat → Nat} (h : ZS d c A) (hc : c ≤ 40) (hA : ∀ k, k < 3 * c → ∀ p, p < 9 → A k p < 3) (hk : k < flAll q A c) : ZS d c (dfA q A c k) := by
  have ha : ∀ t, t < 3 → ∀ i, i < c → ∀ p, p < 9 → A (3 * i + t) p < 3 := fun t ht i hi => hA _ (by omega)
  have p0 := pf_count hc (q := q) (ha 0 (by decide))
  have p1 := pf_count hc (q := q) (ha 1 (by decide))
  have p2 := pf_count hc (q := q) (ha 2 (by decide))
  unfold flAll at hk
  unfold dfA
  split
  · exact ktA_z h (by decide) (by omega)
  · split
    · exact ktA_z h (by decide) (by omega)
    · exact ktA_z h (by decide) (by omega)
def wkT (T : zT) (s n : Int32) : Nat × (Nat → Nat → Nat) × Nat × Nat := wkS T.2.1 (T.2.2.1, T.2.2.2.1, s.toNatClampNeg, 0) n.toNatClampNeg
def st_walks (T : zT) (s n : Int32) : zT × Int32 := if (rgB 1 100 n && rgB 1 2147483646 s) = true then ((T.1, T.2.1, (wkT T s n).1, (wkT T s n).2.1, T.2.2.2.2.1, T.2.2.2.2.2.1, (2, upL (upL (fun _ => 0) 0 (lN (wkT T s n).2.2.2)) 1 (lN (wkT T s n).2.2.1))), nI (wkT T s n).1) else (T, mI 1)
def sp_X11_walks : zSp := fun av w K => match av with
  | [.ref o, .int s, .int n] => o = 0 ∧ zG w.1 ∧ ∃ T, CT w.2.1 w.2.2 T ∧ ∀ wi' wl', FrC w.2.1 w.2.2 wi' wl' → CT wi' wl' (st_walks T s n).1 → K (some (.int (st_walks T s n).2)) (w.1, wi', wl')
  | _ => False
def rm_X11_walks : Room := { frames := 6, cells := 0, slots := 0, locals := 143 }
def M_X11_walks : zM := (k_X11_walks, f_X11, [(290, 0, 0, 2, 0, 0, sp_X4_flipDrawn), (217, 4, 3, 2, 0, 0, sp_X4_join), (150, 4, 8, 1, 0, 0, sp_X9_clear), (167, 4, 8, 2, 0, 0, sp_X9_add)], ([(285, 2147483646)], [(286, lN 16807), (288, lN 2147483647)], []), [], [(34, [true, true, true, true, true, true, true])], 1, false, (false, 0, fun _ => 0), (0, 0, []))
theorem ca_X11_walks_0 (l : Launch) : z_cok l RX11 (headSpec (.code yX11_walks cX11_walks 7 (some .int) :: zTT) rm_X11_walks).room (false, 0, fun _ => 0) (290, 0, 0, 2, 0, 0, sp_X4_flipDrawn) := z_ca0 (c_X4_flipDrawn l) mb_X4_flipDrawn wt_689 wt_690 (by decide)
theorem ca_X11_walks_1 (l : Launch) : z_cok l RX11 (headSpec (.code yX11_walks cX11_walks 7 (some .int) :: zTT) rm_X11_walks).room (false, 0, fun _ => 0) (217, 4, 3, 2, 0, 0, sp_X4_join) := z_ca4 (c_X4_join l) mb_X4_join ⟨_, rfl, rfl⟩ wt_547 wt_548 wt_549 (by decide)
theorem ca_X11_walks_2 (l : Launch) : z_cok l RX11 (headSpec (.code yX11_walks cX11_walks 7 (some .int) :: zTT) rm_X11_walks).room (false, 0, fun _ => 0) (150, 4, 8, 1, 0, 0, sp_X9_clear) := z_ca4 (c_X9_clear l) mb_X9_clear ⟨_, rfl, rfl⟩ wt_429 wt_430 wt_431 (by decide)
theorem ca_X11_walks_3 (l : Launch) : z_cok l RX11 (headSpec (.code yX11_walks cX11_walks 7 (some .int) :: zTT) rm_X11_walks).room (false, 0, fun _ => 0) (167, 4, 8, 2, 0, 0, sp_X9_add) := z_ca4 (c_X9_add l) mb_X9_add ⟨_, rfl, rfl⟩ wt_469 wt_470 wt_471 (by decide)
theorem O_X11_walks (l : Launch) : z_OK l RX11 cX11_walks (headSpec (.code yX11_walks cX11_walks 7 (some .int) :: zTT) rm_X11_walks).room M_X11_walks := ⟨ok_X11_walks, fo_X11, List.forall_mem_cons.mpr ⟨ca_X11_walks_0 l, List.forall_mem_cons.mpr ⟨ca_X11_walks_1 l, List.forall_mem_cons.mpr ⟨ca_X11_walks_2 l, List.forall_mem_cons.mpr ⟨ca_X11_walks_3 l, fun _ h => absurd h List.not_mem_nil⟩⟩⟩⟩, List.forall_mem_cons.mpr ⟨wt_686, fun _ h => absurd h List.not_mem_nil⟩, List.forall_mem_cons.mpr ⟨wt_687, List.forall_mem_cons.mpr ⟨wt_688, fun _ h => absurd h List.not_mem_nil⟩⟩, fun _ h => absurd h List.not_mem_nil, fun _ h => absurd h List.not_mem_nil, rfl, rfl, fun _ h => absurd h List.not_mem_nil⟩
theorem c_X11_walks (l : Launch) : z_CS l yX11_walks cX11_walks 7 (some .int) rm_X11_walks sp_X11_walks := by
  refine z_meth (by decide) (Or.inr (Or.inl ⟨rfl, rfl⟩)) (fun h => by cases h) rfl (O_X11_walks l) ?_
  intro av w K h
  match av, h with
  | [.ref o, .int s, .int n], h =>
    obtain ⟨rfl, ⟨r, hG⟩, ⟨d, q, c, A, kp, tx, tl⟩, hC, h⟩ := h
    obtain ⟨G, wi, wl⟩ := w
    subst hG
    try dsimp only at h hC
    unfold st_walks wkT at h
    dsimp only at h
    have hS := ct_S hC
    refine ⟨Nat.le_of_ble_eq_true rfl, fun Jm hs => ?_⟩
    have no : ¬ (rgB 1 100 n && rgB 1 2147483646 s) = true → K (some (.int (mI 1))) (GC ++ r, wi, wl) := fun hn => by
      rw [if_neg hn] at h
      exact h wi wl (FrC_refl _ _) hC
    refine hs 400 0 _ _ _ _ _ ?_
    conv => whnf
    repeat ((first | refine ⟨zG_of _, ?_⟩ | refine ⟨trivial, ?_⟩ | refine ⟨rfl, ?_⟩ | refine ⟨fun hc => absurd hc (by decide), fun _ => ?_⟩ | refine ⟨fun _ => ?_, fun hc => absurd (by decide) hc⟩ | refine ⟨fun _ => ?_, fun hc => absurd hc (by decide)⟩ | refine ⟨fun hc => absurd (by decide) hc, fun _ => ?_⟩); conv => whnf)
    try dsimp only
    refine ⟨fun h1 => ⟨trivial, no (by simp [rgB, h1])⟩, fun h1 => ?_⟩
    conv => whnf
    repeat ((first | refine ⟨zG_of _, ?_⟩ | refine ⟨trivial, ?_⟩ | refine ⟨rfl, ?_⟩ | refine ⟨fun hc => absurd hc (by decide), fun _ => ?_⟩ | refine ⟨fun _ => ?_, fun hc => absurd (by decide) hc⟩ | refine ⟨fun _ => ?_, fun hc => absurd hc (by decide)⟩ | refine ⟨fun hc => absurd (by decide) hc, fun _ => ?_⟩); conv => whnf)
    try dsimp only
    refine ⟨fun h2 => ⟨trivial, no (by simp [rgB, h2])⟩, fun h2 => ?_⟩
    conv => whnf
    repeat ((first | refine ⟨zG_of _, ?_⟩ | refine ⟨trivial, ?_⟩ | refine ⟨rfl, ?_⟩ | refine ⟨fun hc => absurd hc (by decide), fun _ => ?_⟩ | refine ⟨fun _ => ?_, fun hc => absurd (by decide) hc⟩ | refine ⟨fun _ => ?_, fun hc => absurd hc (by decide)⟩ | refine ⟨fun hc => absurd (by decide) hc, fun _ => ?_⟩); conv => whnf)
    try dsimp only
    refine ⟨fun h3 => ⟨trivial, no (by simp [rgB, h3])⟩, fun h3 => ?_⟩
    conv => whnf
    repeat ((first | refine ⟨zG_of _, ?_⟩ | refine ⟨trivial, ?_⟩ | refine ⟨rfl, ?_⟩ | refine ⟨fun hc => absurd hc (by decide), fun _ => ?_⟩ | refine ⟨fun _ => ?_, fun hc => absurd (by decide) hc⟩ | refine ⟨fun _ => ?_, fun hc => absurd hc (by decide)⟩ | refine ⟨fun hc => absurd (by decide) hc, fun _ => ?_⟩); conv => whnf)
    try dsimp only
    refine ⟨fun h4 => ?_, fun h4 => ⟨trivial, no (by simp [rgB, show nI 2147483646 < s from h4])⟩⟩
    have h4 : ¬ nI 2147483646 < s := h4
    have r1 : rgB 1 100 n = true := by simp [rgB, h1, h2]
    have r2 : rgB 1 2147483646 s = true := by simp [rgB, h3, h4]
    rw [if_pos (by simp [r1, r2])] at h
    obtain ⟨n', n1, n2, rfl⟩ := rgB_N r1 (by decide) (by decide)
    obtain ⟨s', s1, s2, rfl⟩ := rgB_N r2 (by decide) (by decide)
    rw [nc_N (by omega), nc_N (by omega)] at h
    generalize hW : wkS q (c, A, s', 0) = W at h
    have loop := up_ind (P := fun k => ∀ wi' : Nat → Nat → Int32, Fr3 6 8 18 wi wi' → CS wi' 6 d q (W k).1 (W k).2.1 → ZS d (W k).1 (W k).2.1 → (W k).2.2.1 < 2147483647 → (W k).2.2.2 ≤ k → Jm 34 [some (.ref 0), some (.int (nI s')), some (.int (nI n')), some (.long (lN (W k).2.2.1)), none, some (.int (nI (W k).2.2.2)), some (.int (nI k))] [] (GC ++ r, wi', wl) 0 0) n' (fun k hk ih => by
      intro wi' hF hS' hZ' hX' hd'
      refine hs 400 34 _ _ _ _ _ ?_
      conv => whnf
      repeat ((first | refine ⟨zG_of _, ?_⟩ | refine ⟨trivial, ?_⟩ | refine ⟨rfl, ?_⟩ | refine ⟨fun hc => absurd hc (by decide), fun _ => ?_⟩ | refine ⟨fun _ => ?_, fun hc => absurd (by decide) hc⟩ | refine ⟨fun _ => ?_, fun hc => absurd hc (by decide)⟩ | refine ⟨fun hc => absurd (by decide) hc, fun _ => ?_⟩); conv => whnf)
      try dsimp only
      rw [ltN (by omega) (by omega)]
      refine ⟨fun hc => ?_, fun hc => ?_⟩
      · obtain hkn : k = n' := by omega
        rw [hkn] at hS' hZ' hX' hd' ⊢
        have hX : CT wi' wl (d, q, (W n').1, (W n').2.1, kp, tx, tl) := ct_now hC hS' hZ' (fun y hy => hF y (by omega) (by omega) (by omega)) rfl
        conv => whnf
        repeat ((first | refine ⟨zG_of _, ?_⟩ | refine ⟨trivial, ?_⟩ | refine ⟨rfl, ?_⟩ | refine ⟨fun hc => absurd hc (by decide), fun _ => ?_⟩ | refine ⟨fun _ => ?_, fun hc => absurd (by decide) hc⟩ | refine ⟨fun _ => ?_, fun hc => absurd hc (by decide)⟩ | refine ⟨fun hc => absurd (by decide) hc, fun _ => ?_⟩); conv => whnf)
        try dsimp only
        intro wi1 hF1 hT1
        conv => whnf
        repeat ((first | refine ⟨zG_of _, ?_⟩ | refine ⟨trivial, ?_⟩ | refine ⟨rfl, ?_⟩ | refine ⟨fun hc => absurd hc (by decide), fun _ => ?_⟩ | refine ⟨fun _ => ?_, fun hc => absurd (by decide) hc⟩ | refine ⟨fun _ => ?_, fun hc => absurd hc (by decide)⟩ | refine ⟨fun hc => absurd (by decide) hc, fun _ => ?_⟩); conv => whnf)
        try dsimp only
        rw [nI_l (by omega)]
        refine ⟨0, _, hT1, by decide, fun wi2 wl2 hF2 hL2 hT2 => ?_⟩
        conv => whnf
        repeat ((first | refine ⟨zG_of _, ?_⟩ | refine ⟨trivial, ?_⟩ | refine ⟨rfl, ?_⟩ | refine ⟨fun hc => absurd hc (by decide), fun _ => ?_⟩ | refine ⟨fun _ => ?_, fun hc => absurd (by decide) hc⟩ | refine ⟨fun _ => ?_, fun hc => absurd hc (by decide)⟩ | refine ⟨fun hc => absurd (by decide) hc, fun _ => ?_⟩); conv => whnf)
        try dsimp only
        refine ⟨1, _, hT2, by decide, fun wi3 wl3 hF3 hL3 hT3 => ?_⟩
        have hS3 : CS wi3 6 d q (W n').1 (W n').2.1 := cs_fr hS' (by rw [hF3 6 (by decide), hF2 6 (by decide), hF1 6 (by decide)]) (by rw [hF3 8 (by decide), hF2 8 (by decide), hF1 8 (by decide)])
        have h := h wi3 wl3 (fun y hy => ⟨by rw [hF3 y (by omega), hF2 y (by omega), hF1 y (by omega), hF y (by omega) (by omega) (by omega)], by rw [hL3 y (by omega), hL2 y (by omega)]⟩) (ct_told hX (fun y hy => by rw [hF3 y hy, hF2 y hy, hF1 y hy]) hT3)
        rw [← cs_c hS3] at h
        conv => whnf
        repeat ((first | refine ⟨zG_of _, ?_⟩ | refine ⟨trivial, ?_⟩ | refine ⟨rfl, ?_⟩ | refine ⟨fun hc => absurd hc (by decide), fun _ => ?_⟩ | refine ⟨fun _ => ?_, fun hc => absurd (by decide) hc⟩ | refine ⟨fun _ => ?_, fun hc => absurd hc (by decide)⟩ | refine ⟨fun hc => absurd (by decide) hc, fun _ => ?_⟩); conv => whnf)
        try dsimp only
        exact h
      · have ihn := ih hc
        have eW : W (k + 1) = wkS q (c, A, s', 0) (k + 1) := by rw [← hW]
        rw [wkS, hW] at eW
        have hn0 : wkN (W k).2.2.1 < 2147483647 := Nat.mod_lt _ (by decide)
        have ex : z_lrem (lN (W k).2.2.1 * lN 16807) (lN 2147483647) = lN (wkN (W k).2.2.1) := by
          rw [lN_mul, lremN (by omega) (by decide) (by decide)]
          rfl
        conv => whnf
        repeat ((first | refine ⟨zG_of _, ?_⟩ | refine ⟨trivial, ?_⟩ | refine ⟨rfl, ?_⟩ | refine ⟨fun hc => absurd hc (by decide), fun _ => ?_⟩ | refine ⟨fun _ => ?_, fun hc => absurd (by decide) hc⟩ | refine ⟨fun _ => ?_, fun hc => absurd hc (by decide)⟩ | refine ⟨fun hc => absurd (by decide) hc, fun _ => ?_⟩); conv => whnf)
        try dsimp only
        refine ⟨fun z => absurd z (by decide), ?_⟩
        conv => whnf
        repeat ((first | refine ⟨zG_of _, ?_⟩ | refine ⟨trivial, ?_⟩ | refine ⟨rfl, ?_⟩ | refine ⟨fun hc => absurd hc (by decide), fun _ => ?_⟩ | refine ⟨fun _ => ?_, fun hc => absurd (by decide) hc⟩ | refine ⟨fun _ => ?_, fun hc => absurd hc (by decide)⟩ | refine ⟨fun hc => absurd (by decide) hc, fun _ => ?_⟩); conv => whnf)
        try dsimp only
        rw [ex]
        refine ⟨d, q, (W k).1, (W k).2.1, wkN (W k).2.2.1, hS', rfl, by omega, fun h0 => ?_, fun h0 wi1 hF1 hS1 => ?_⟩
        · rw [if_pos h0] at eW
          rw [eW] at ihn
          conv => whnf
          repeat ((first | refine ⟨zG_of _, ?_⟩ | refine ⟨trivial, ?_⟩ | refine ⟨rfl, ?_⟩ | refine ⟨fun hc => absurd hc (by decide), fun _ => ?_⟩ | refine ⟨fun _ => ?_, fun hc => absurd (by decide) hc⟩ | refine ⟨fun _ => ?_, fun hc => absurd hc (by decide)⟩ | refine ⟨fun hc => absurd (by decide) hc, fun _ => ?_⟩); conv => whnf)
          try dsimp only
          rw [nI_add]
          exact ihn wi' hF hS' hZ' hn0 (by show (W k).2.2.2 ≤ k + 1; omega)
        · rw [if_neg h0] at eW
          rw [eW] at ihn
          have hz1 : ZS d (W k).1 (dfA q (W k).2.1 (W k).1 (wkN (W k).2.2.1 % flAll q (W k).2.1 (W k).1)) := dfA_z hZ' (cs_40 hS') (cs_A3 hS') (Nat.mod_lt _ (by omega))
          conv => whnf
          repeat ((first | refine ⟨zG_of _, ?_⟩ | refine ⟨trivial, ?_⟩ | refine ⟨rfl, ?_⟩ | refine ⟨fun hc => absurd hc (by decide), fun _ => ?_⟩ | refine ⟨fun _ => ?_, fun hc => absurd (by decide) hc⟩ | refine ⟨fun _ => ?_, fun hc => absurd hc (by decide)⟩ | refine ⟨fun hc => absurd (by decide) hc, fun _ => ?_⟩); conv => whnf)
          try dsimp only
          refine ⟨d, q, (W k).1, _, hS1, fun wi2 hF2 hS2 _ _ => ?_⟩
          conv => whnf
          repeat ((first | refine ⟨zG_of _, ?_⟩ | refine ⟨trivial, ?_⟩ | refine ⟨rfl, ?_⟩ | refine ⟨fun hc => absurd hc (by decide), fun _ => ?_⟩ | refine ⟨fun _ => ?_, fun hc => absurd (by decide) hc⟩ | refine ⟨fun _ => ?_, fun hc => absurd hc (by decide)⟩ | refine ⟨fun hc => absurd (by decide) hc, fun _ => ?_⟩); conv => whnf)
          try dsimp only
          rw [nI_add, nI_add]
          exact ihn wi2 (Fr3_trans hF (Fr3_trans (Fr_3 hF1) hF2)) hS2 (jAll_z 40 _ _ 0 0 hz1) hn0 (by show (W k).2.2.2 + 1 ≤ k + 1; omega))
    have w0 : W 0 = (c, A, s', 0) := by rw [← hW]; rfl
    have l0 := loop 0 (Nat.zero_le _) wi (fun _ _ _ _ => rfl)
    rw [w0] at l0
    have l0 := l0 hS (ct_Z hC) (by show s' < 2147483647; omega) (Nat.le_refl _)
    conv => whnf
    repeat ((first | refine ⟨zG_of _, ?_⟩ | refine ⟨trivial, ?_⟩ | refine ⟨rfl, ?_⟩ | refine ⟨fun hc => absurd hc (by decide), fun _ => ?_⟩ | refine ⟨fun _ => ?_, fun hc => absurd (by decide) hc⟩ | refine ⟨fun _ => ?_, fun hc => absurd hc (by decide)⟩ | refine ⟨fun hc => absurd (by decide) hc, fun _ => ?_⟩); conv => whnf)
    try dsimp only
    rw [nI_l (by omega)]
    exact l0
def lnB (n : Nat) (v : Int32) : Bool := rgB 1 n v
theorem isL_S {wi : Nat → Nat → Int32} {d : Nat → Nat} {q c : Nat} {A : Nat → Nat → Nat} (h : CS wi 6 d q c A) {t : Nat} (ht : t < 3) (v : Int32) : isLF wi (nI t) v = bI (lnB (d t) v = true) := by
  unfold isLF lnB rgB
  rw [rows_S h ht]
  exact bI_cg decide_eq_true_iff.symm
theorem pv_facts : ∀ s, s < 3 → nx (pv s) = s ∧ pv s ≠ s ∧ nx s ≠ s ∧ nx (nx s) = pv s ∧ nx s ≠ pv s := by decide
theorem third_t {s t : Nat} (hs : s < 3) (ht : t < 3) (h1 : t ≠ s) (h2 : t ≠ pv s) : t = nx s := by
  rcases lt3 hs with rfl | rfl | rfl <;> rcases lt3 ht with rfl | rfl | rfl <;> first | rfl | exact absurd rfl h1 | exact absurd rfl h2
theorem nrA_z {d : Nat → Nat} {c s l : Nat} {A : Nat → Nat → Nat} (h : ZS d c A) (hs : s < 3) (hl : l < d s) (h2 : 2 ≤ d s) : ZS (upD d s (d s - 1)) c (nrA d A s l) := by
  intro k hk p hp hp9
  have pf := pv_facts s hs
  have km := mod3_lt k
  have z0 := h k hk
  unfold nrA
  by_cases e1 : k % 3 = s
  · rw [if_pos e1]
    rw [e1] at hp z0
    have e : pl (upD d s (d s - 1)) s = (d s - 1) * d (nx s) := by
      show upD d s (d s - 1) s * upD d s (d s - 1) (nx s) = _
      unfold upD
      rw [if_pos rfl, if_neg pf.2.2.1]
    rw [e] at hp
    have g1 : l * d (nx s) ≤ (d s - 1) * d (nx s) := Nat.mul_le_mul_right _ (by omega)
    unfold woR
    rw [if_neg (by omega)]
    split
    · refine z0 _ ?_ (by assumption)
      show d s * d (nx s) ≤ _
      have : d s * d (nx s) = (d s - 1) * d (nx s) + d (nx s) := by
        rw [← Nat.succ_mul]
        congr 1
        omega
      omega
    · rfl
  · rw [if_neg e1]
    by_cases e2 : k % 3 = pv s
    · rw [if_pos e2]
      rw [e2] at hp
      have e : pl (upD d s (d s - 1)) (pv s) = d (pv s) * (d s - 1) := by
        show upD d s (d s - 1) (pv s) * upD d s (d s - 1) (nx (pv s)) = _
        unfold upD
        rw [if_neg pf.2.1, pf.1, if_pos rfl]
      rw [e] at hp
      unfold woC
      rw [if_neg (by omega)]
    · rw [if_neg e2]
      have e3 := third_t hs km e1 e2
      rw [e3] at hp z0
      refine z0 p ?_ hp9
      have e : pl (upD d s (d s - 1)) (nx s) = pl d (nx s) := by
        show upD d s (d s - 1) (nx s) * upD d s (d s - 1) (nx (nx s)) = d (nx s) * d (nx (nx s))
        unfold upD
        rw [if_neg pf.2.2.1, if_neg (by rw [pf.2.2.2.1]; exact pf.2.1)]
      rw [e] at hp
      exact hp
def st_narrows (T : zT) (s v : Int32) : zT × Int32 :=
  if (idB 3 s && lnB (T.1 s.toNatClampNeg) v) = true then
    if T.1 s.toNatClampNeg ≤ 1 then (T, mI 2)
    else ((upD T.1 s.toNatClampNeg (T.1 s.toNatClampNeg - 1), T.2.1, T.2.2.1, nrA T.1 T.2.2.2.1 s.toNatClampNeg (v.toNatClampNeg - 1), T.2.2.2.2), nI (fb_ct (hzB (nrA T.1 T.2.2.2.1 s.toNatClampNeg (v.toNatClampNeg - 1))) T.2.2.1))
  else (T, mI 1)
def sp_X11_narrows : zSp := fun av w K => match av with
  | [.ref o, .int s, .int v] => o = 0 ∧ zG w.1 ∧ ∃ T, CT w.2.1 w.2.2 T ∧ ∀ wi' wl', FrC w.2.1 w.2.2 wi' wl' → CT wi' wl' (st_narrows T s v).1 → K (some (.int (st_narrows T s v).2)) (w.1, wi', wl')
  | _ => False
def rm_X11_narrows : Room := { frames := 4, cells := 0, slots := 0, locals := 86 }
def M_X11_narrows : zM := (k_X11_narrows, f_X11, [(128, 0, 0, 1, 0, 0, sp_X11_isTable), (267, 4, 9, 3, 0, 0, sp_X11_isLine), (270, 4, 5, 2, 0, 0, sp_X6_rows), (273, 0, 0, 3, 0, 0, sp_X10_narrow), (213, 4, 5, 1, 0, 0, sp_X6_zeros)], ([], [], []), [], [], 1, false, (false, 0, fun _ => 0), (0, 0, []))
theorem ca_X11_narrows_0 (l : Launch) : z_cok l RX11 (headSpec (.code yX11_narrows cX11_narrows 3 (some .int) :: zTT) rm_X11_narrows).room (false, 0, fun _ => 0) (128, 0, 0, 1, 0, 0, sp_X11_isTable) := z_ca0 (c_X11_isTable l) mb_X11_isTable wt_505 wt_506 (by decide)
theorem ca_X11_narrows_1 (l : Launch) : z_cok l RX11 (headSpec (.code yX11_narrows cX11_narrows 3 (some .int) :: zTT) rm_X11_narrows).room (false, 0, fun _ => 0) (267, 4, 9, 3, 0, 0, sp_X11_isLine) := z_ca4 (c_X11_isLine l) mb_X11_isLine ⟨_, rfl, rfl⟩ wt_647 wt_649 wt_13 (by decide)
theorem ca_X11_narrows_2 (l : Launch) : z_cok l RX11 (headSpec (.code yX11_narrows cX11_narrows 3 (some .int) :: zTT) rm_X11_narrows).room (false, 0, fun _ => 0) (270, 4, 5, 2, 0, 0, sp_X6_rows) := z_ca4 (c_X6_rows l) mb_X6_rows ⟨_, rfl, rfl⟩ wt_651 wt_378 wt_379 (by decide)
theorem ca_X11_narrows_3 (l : Launch) : z_cok l RX11 (headSpec (.code yX11_narrows cX11_narrows 3 (some .int) :: zTT) rm_X11_narrows).room (false, 0, fun _ => 0) (273, 0, 0, 3, 0, 0, sp_X10_narrow) := z_ca0 (c_X10_narrow l) mb_X10_narrow wt_652 wt_653 (by decide)
theorem ca_X11_narrows_4 (l : Launch) : z_cok l RX11 (headSpec (.code yX11_narrows cX11_narrows 3 (some .int) :: zTT) rm_X11_narrows).room (false, 0, fun _ => 0) (213, 4, 5, 1, 0, 0, sp_X6_zeros) := z_ca4 (c_X6_zeros l) mb_X6_zeros ⟨_, rfl, rfl⟩ wt_535 wt_536 wt_537 (by decide)
theorem O_X11_narrows (l : Launch) : z_OK l RX11 cX11_narrows (headSpec (.code yX11_narrows cX11_narrows 3 (some .int) :: zTT) rm_X11_narrows).room M_X11_narrows := ⟨ok_X11_narrows, fo_X11, List.forall_mem_cons.mpr ⟨ca_X11_narrows_0 l, List.forall_mem_cons.mpr ⟨ca_X11_narrows_1 l, List.forall_mem_cons.mpr ⟨ca_X11_narrows_2 l, List.forall_mem_cons.mpr ⟨ca_X11_narrows_3 l, List.forall_mem_cons.mpr ⟨ca_X11_narrows_4 l, fun _ h => absurd h List.not_mem_nil⟩⟩⟩⟩⟩, fun _ h => absurd h List.not_mem_nil, fun _ h => absurd h List.not_mem_nil, fun _ h => absurd h List.not_mem_nil, fun _ h => absurd h List.not_mem_nil, rfl, rfl, fun _ h => absurd h List.not_mem_nil⟩
theorem c_X11_narrows (l : Launch) : z_CS l yX11_narrows cX11_narrows 3 (some .int) rm_X11_narrows sp_X11_narrows := by
  refine z_meth (by decide) (Or.inr (Or.inl ⟨rfl, rfl⟩)) (fun h => by cases h) rfl (O_X11_narrows l) ?_
  intro av w K h
  match av, h with
  | [.ref o, .int s, .int v], h =>
    obtain ⟨rfl, ⟨r, hG⟩, ⟨d, q, c, A, kp, tx, tl⟩, hC, h⟩ := h
    obtain ⟨G, wi, wl⟩ := w
    subst hG
    try dsimp only at h hC
    refine ⟨Nat.le_of_ble_eq_true rfl, fun Jm hs => hs 400 0 _ _ _ _ _ ?_⟩
    unfold st_narrows at h
    dsimp only at h
    have hS := ct_S hC
    have h40 := cs_40 hS
    have no : ¬ (idB 3 s && lnB (d s.toNatClampNeg) v) = true → K (some (.int (mI 1))) (GC ++ r, wi, wl) := fun hn => by
      rw [if_neg hn] at h
      exact h wi wl (FrC_refl _ _) hC
    conv => whnf
    repeat ((first | refine ⟨zG_of _, ?_⟩ | refine ⟨trivial, ?_⟩ | refine ⟨rfl, ?_⟩ | refine ⟨fun hc => absurd hc (by decide), fun _ => ?_⟩ | refine ⟨fun _ => ?_, fun hc => absurd (by decide) hc⟩ | refine ⟨fun _ => ?_, fun hc => absurd hc (by decide)⟩ | refine ⟨fun hc => absurd (by decide) hc, fun _ => ?_⟩); conv => whnf)
    try dsimp only
    rw [isT_B, bI_0]
    refine ⟨fun h1 => ⟨trivial, no (by simp [h1])⟩, fun h1 => ?_⟩
    have h1 := Classical.not_not.mp h1
    obtain ⟨s', hs', rfl⟩ := idB_N h1 (by omega)
    rw [nc_N (by omega)] at h no
    have ds := cs_d hS s' hs'
    conv => whnf
    repeat ((first | refine ⟨zG_of _, ?_⟩ | refine ⟨trivial, ?_⟩ | refine ⟨rfl, ?_⟩ | refine ⟨fun hc => absurd hc (by decide), fun _ => ?_⟩ | refine ⟨fun _ => ?_, fun hc => absurd (by decide) hc⟩ | refine ⟨fun _ => ?_, fun hc => absurd hc (by decide)⟩ | refine ⟨fun hc => absurd (by decide) hc, fun _ => ?_⟩); conv => whnf)
    try dsimp only
    rw [isL_S hS hs', bI_0, Classical.not_not]
    refine ⟨fun h2 => ?_, fun h2 => ⟨trivial, no (by simp [h2])⟩⟩
    rw [if_pos (by simp [h1, h2])] at h
    obtain ⟨v', v1, v2, rfl⟩ := rgB_N h2 (by decide) (by omega)
    rw [nc_N (by omega)] at h
    conv => whnf
    repeat ((first | refine ⟨zG_of _, ?_⟩ | refine ⟨trivial, ?_⟩ | refine ⟨rfl, ?_⟩ | refine ⟨fun hc => absurd hc (by decide), fun _ => ?_⟩ | refine ⟨fun _ => ?_, fun hc => absurd (by decide) hc⟩ | refine ⟨fun _ => ?_, fun hc => absurd hc (by decide)⟩ | refine ⟨fun hc => absurd (by decide) hc, fun _ => ?_⟩); conv => whnf)
    try dsimp only
    rw [rows_S hS hs', ltN (by omega) (by omega)]
    refine ⟨fun h3 => ?_, fun h3 => ?_⟩
    · rw [if_neg (by omega)] at h
      conv => whnf
      repeat ((first | refine ⟨zG_of _, ?_⟩ | refine ⟨trivial, ?_⟩ | refine ⟨rfl, ?_⟩ | refine ⟨fun hc => absurd hc (by decide), fun _ => ?_⟩ | refine ⟨fun _ => ?_, fun hc => absurd (by decide) hc⟩ | refine ⟨fun _ => ?_, fun hc => absurd hc (by decide)⟩ | refine ⟨fun hc => absurd (by decide) hc, fun _ => ?_⟩); conv => whnf)
      try dsimp only
      refine ⟨d, q, c, A, s', v' - 1, hS, rfl, hs', pk_sub v1, by omega, h3, fun wi1 hF1 hS1 => ?_⟩
      conv => whnf
      repeat ((first | refine ⟨zG_of _, ?_⟩ | refine ⟨trivial, ?_⟩ | refine ⟨rfl, ?_⟩ | refine ⟨fun hc => absurd hc (by decide), fun _ => ?_⟩ | refine ⟨fun _ => ?_, fun hc => absurd (by decide) hc⟩ | refine ⟨fun _ => ?_, fun hc => absurd hc (by decide)⟩ | refine ⟨fun hc => absurd (by decide) hc, fun _ => ?_⟩); conv => whnf)
      try dsimp only
      refine ⟨_, q, c, _, hS1, ?_⟩
      conv => whnf
      repeat ((first | refine ⟨zG_of _, ?_⟩ | refine ⟨trivial, ?_⟩ | refine ⟨rfl, ?_⟩ | refine ⟨fun hc => absurd hc (by decide), fun _ => ?_⟩ | refine ⟨fun _ => ?_, fun hc => absurd (by decide) hc⟩ | refine ⟨fun _ => ?_, fun hc => absurd hc (by decide)⟩ | refine ⟨fun hc => absurd (by decide) hc, fun _ => ?_⟩); conv => whnf)
      try dsimp only
      exact h wi1 wl (fun y hy => ⟨hF1 y (by omega) (by omega), rfl⟩) (ct_now hC hS1 (nrA_z (ct_Z hC) hs' (by omega) h3) (fun y hy => hF1 y (by omega) (by omega)) rfl)
    · rw [if_pos (by omega)] at h
      exact ⟨trivial, h wi wl (FrC_refl _ _) hC⟩

