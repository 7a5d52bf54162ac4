/-! the reference: an equation -/
def MR (wi : Nat → Nat → Int32) (wl : Nat → Nat → Int64) (Z : zRs) : Prop := wi 45 32 = nI Z.1 ∧ Z.1 ≤ 729 ∧ ∀ k, k < Z.1 → LW wl (18 * k) (Z.2.2 k) ∧ wi 61 k = nI (Z.2.1 k) ∧ Z.2.1 k < 1152
theorem mr_wl {wi : Nat → Nat → Int32} {wl wl' : Nat → Nat → Int64} {Z : zRs} (h : MR wi wl Z) (e : ∀ j, j < 18 * Z.1 → wl' 60 j = wl 60 j) : MR wi wl' Z := ⟨h.1, h.2.1, fun k hk => ⟨fun j hj => by rw [e _ (by omega)]; exact (h.2.2 k hk).1 j hj, (h.2.2 k hk).2⟩⟩
theorem lw_0 {wl : Nat → Nat → Int64} {f : Nat} (h : ∀ j, j < 18 → wl 60 (f + j) = lN 0) : LW wl f (fun _ => false) := fun k hk => by
  rw [h k hk, show wd (fun _ => false) k = 0 from bs_0.mpr (fun _ _ => rfl)]
def sp_X12_equation : zSp := fun av w K => match av with
  | [.ref o, .int x, .int y, .int z] => o = 45 ∧ zH w.1 ∧ ∃ d c A x' y' z' Z, MS w.2.1 d 2 c A ∧ gvN A c x' y' z' % 2 = ndN d x' y' z' ∧ x = nI x' ∧ x' < pl d 0 ∧ y = nI y' ∧ y' < pl d 1 ∧ z = nI z' ∧ z' < pl d 2 ∧ MR w.2.1 w.2.2 Z ∧ Z.1 ≤ 728 ∧ ∀ (wi' : Nat → Nat → Int32) (wl' : Nat → Nat → Int64), (∀ y, y ≠ 45 → y ≠ 61 → wi' y = w.2.1 y) → (∀ i, i ≠ 32 → wi' 45 i = w.2.1 45 i) → (∀ y, y ≠ 60 → wl' y = w.2.2 y) → MR wi' wl' (tkR (ukN d c) Z (rwV d A c x' y' z')) → K (some (.int (bI (okR (ukN d c) Z (rwV d A c x' y' z') = true)))) (w.1, wi', wl')
  | _ => False
def rm_X12_equation : Room := { frames := 3, cells := 0, slots := 0, locals := 66 }
def M_X12_equation : zM := (k_X12_equation, f_X12, [(351, 4, 10, 1, 0, 0, sp_X12_unknowns), (107, 0, 0, 3, 0, 0, sp_X12_at), (354, 4, 10, 4, 0, 0, sp_X12_unknownOf), (357, 4, 10, 3, 0, 0, sp_X12_turnsBit), (183, 4, 10, 4, 0, 0, sp_X12_wholeGiven), (186, 4, 10, 4, 0, 0, sp_X12_needed), (360, 4, 10, 3, 0, 0, sp_X12_isBit)], ([], [], []), [], [(12, [true, true, true, true, true, true, false, false, false, false]), (45, [true, true, true, true, true, true, true, false, false, false]), (119, [true, true, true, true, true, true, true, true, true, true]), (142, [true, true, true, true, true, true, true, true, true, true]), (165, [true, true, true, true, true, true, true, false, false, false]), (201, [true, true, true, true, true, true, false, false, false, false]), (204, [true, true, true, true, true, true, true, false, false, false]), (235, [true, true, true, true, true, true, true, true, false, false]), (274, [true, true, true, true, true, true, true, false, false, false]), (283, [true, true, true, true, true, true, true, false, false, false]), (307, [true, true, true, true, true, true, true, false, false, false])], 2, false, (false, 0, fun _ => 0), (0, 0))
theorem ca_X12_equation_0 (l : Launch) : z_cok l RX12 (headSpec (.code yX12_equation cX12_equation 10 (some .boolean) :: zTT) rm_X12_equation).room (351, 4, 10, 1, 0, 0, sp_X12_unknowns) := z_ca4 (c_X12_unknowns l) mb_X12_unknowns ⟨_, rfl, rfl⟩ wt_1652 wt_1654 wt_87 (by decide)
theorem ca_X12_equation_1 (l : Launch) : z_cok l RX12 (headSpec (.code yX12_equation cX12_equation 10 (some .boolean) :: zTT) rm_X12_equation).room (107, 0, 0, 3, 0, 0, sp_X12_at) := z_ca0 (c_X12_at l) mb_X12_at wt_1136 wt_1137 (by decide)
theorem ca_X12_equation_2 (l : Launch) : z_cok l RX12 (headSpec (.code yX12_equation cX12_equation 10 (some .boolean) :: zTT) rm_X12_equation).room (354, 4, 10, 4, 0, 0, sp_X12_unknownOf) := z_ca4 (c_X12_unknownOf l) mb_X12_unknownOf ⟨_, rfl, rfl⟩ wt_1656 wt_1658 wt_88 (by decide)
theorem ca_X12_equation_3 (l : Launch) : z_cok l RX12 (headSpec (.code yX12_equation cX12_equation 10 (some .boolean) :: zTT) rm_X12_equation).room (357, 4, 10, 3, 0, 0, sp_X12_turnsBit) := z_ca4 (c_X12_turnsBit l) mb_X12_turnsBit ⟨_, rfl, rfl⟩ wt_1660 wt_1662 wt_89 (by decide)
theorem ca_X12_equation_4 (l : Launch) : z_cok l RX12 (headSpec (.code yX12_equation cX12_equation 10 (some .boolean) :: zTT) rm_X12_equation).room (183, 4, 10, 4, 0, 0, sp_X12_wholeGiven) := z_ca4 (c_X12_wholeGiven l) mb_X12_wholeGiven ⟨_, rfl, rfl⟩ wt_1361 wt_1363 wt_47 (by decide)
theorem ca_X12_equation_5 (l : Launch) : z_cok l RX12 (headSpec (.code yX12_equation cX12_equation 10 (some .boolean) :: zTT) rm_X12_equation).room (186, 4, 10, 4, 0, 0, sp_X12_needed) := z_ca4 (c_X12_needed l) mb_X12_needed ⟨_, rfl, rfl⟩ wt_1365 wt_1367 wt_48 (by decide)
theorem ca_X12_equation_6 (l : Launch) : z_cok l RX12 (headSpec (.code yX12_equation cX12_equation 10 (some .boolean) :: zTT) rm_X12_equation).room (360, 4, 10, 3, 0, 0, sp_X12_isBit) := z_ca4 (c_X12_isBit l) mb_X12_isBit ⟨_, rfl, rfl⟩ wt_1664 wt_1666 wt_90 (by decide)
theorem O_X12_equation (l : Launch) : z_OK l RX12 cX12_equation (headSpec (.code yX12_equation cX12_equation 10 (some .boolean) :: zTT) rm_X12_equation).room M_X12_equation := ⟨ok_X12_equation, fo_X12, List.forall_mem_cons.mpr ⟨ca_X12_equation_0 l, List.forall_mem_cons.mpr ⟨ca_X12_equation_1 l, List.forall_mem_cons.mpr ⟨ca_X12_equation_2 l, List.forall_mem_cons.mpr ⟨ca_X12_equation_3 l, List.forall_mem_cons.mpr ⟨ca_X12_equation_4 l, List.forall_mem_cons.mpr ⟨ca_X12_equation_5 l, List.forall_mem_cons.mpr ⟨ca_X12_equation_6 l, fun _ h => absurd h List.not_mem_nil⟩⟩⟩⟩⟩⟩⟩, fun _ h => absurd h List.not_mem_nil, fun _ h => absurd h List.not_mem_nil, fun _ h => absurd h List.not_mem_nil, fun _ h => absurd h List.not_mem_nil, rfl, rfl⟩
theorem c_X12_equation (l : Launch) : z_CS l yX12_equation cX12_equation 10 (some .boolean) rm_X12_equation sp_X12_equation := by
  refine z_meth (by decide) (Or.inr (Or.inr (Or.inl ⟨rfl, rfl⟩))) (fun h => by cases h) rfl (O_X12_equation l) ?_
  intro av w K h
  match av, h with
  | [.ref o, .int x, .int y, .int z], h =>
    obtain ⟨rfl, ⟨r, hG⟩, d, c, A, x', y', z', Z, hS, hgn, rfl, hx, rfl, hy, rfl, hz, hM, hZ8, h⟩ := h
    obtain ⟨G, wi, wl⟩ := w
    subst hG
    try dsimp only at h hS hM
    have h40 := ms_40 hS
    have hd := ms_hd hS
    have p0 := pl_le hd (t := 0) (by decide)
    have p1 := pl_le hd (t := 1) (by decide)
    have p2 := pl_le hd (t := 2) (by decide)
    have wu : wU d = pl d 0 + pl d 1 + pl d 2 := rfl
    have Ue : ukN d c = c * wU d := rfl
    have Ul : ukN d c ≤ 40 * 27 := Nat.mul_le_mul h40 (show pl d 0 + pl d 1 + pl d 2 ≤ 27 by omega)
    have ukl : ∀ i t p, i < c → t < 3 → p < pl d t → uk d i t p < 1152 := fun i t p h1 h2 h3 => by
      have := uk_lt h2 h3 h1
      omega
    obtain ⟨n, hn⟩ : ∃ n, n = Z.1 := ⟨_, rfl⟩
    have n8 : 18 * n + 18 ≤ 13122 := by omega
    refine ⟨Nat.le_of_ble_eq_true rfl, fun Jm hs => ?_⟩
    have stay : ∀ {wl' : Nat → Nat → Int64}, (∀ j, j < 18 * n → wl' 60 j = wl 60 j) → MR wi wl' Z := fun {wl'} k => mr_wl hM (fun j hj => k j (by omega))
    have fin : ∀ (wl' : Nat → Nat → Int64), (∀ y, y ≠ 60 → wl' y = wl y) → (∀ j, j < 18 * n → wl' 60 j = wl 60 j) → LW wl' (18 * n) (fnR Z (rwV d A c x' y' z')) → Jm 307 [some (.ref 45), some (.int (nI x')), some (.int (nI y')), some (.int (nI z')), some (.int (nI (18 * n))), some (.int (nI (ukN d c))), some (.int (nI (ldR (ukN d c) Z (rwV d A c x' y' z')))), none, none, none] [] (GC ++ (GM ++ r), wi, wl') 0 0 := fun wl' hF hK hV => by
      unfold okR tkR at h
      have ll : ldR (ukN d c) Z (rwV d A c x' y' z') ≤ ukN d c := fi_le _ _
      generalize ldR (ukN d c) Z (rwV d A c x' y' z') = L at *
      generalize fnR Z (rwV d A c x' y' z') = V at *
      have M2 := stay hK
      refine hs 400 307 _ _ _ _ _ ?_
      conv => whnf
      repeat ((first | refine ⟨zH_of _, ?_⟩ | refine ⟨trivial, ?_⟩ | refine ⟨rfl, ?_⟩ | refine ⟨fun hc => absurd hc (by decide), fun _ => ?_⟩ | refine ⟨fun _ => ?_, fun hc => absurd (by decide) hc⟩ | refine ⟨fun _ => ?_, fun hc => absurd hc (by decide)⟩ | refine ⟨fun hc => absurd (by decide) hc, fun _ => ?_⟩); conv => whnf)
      try dsimp only
      rw [nI_eq (by omega) (by omega)]
      refine ⟨fun hne => ?_, fun he => ?_⟩
      · have lt : L < ukN d c := by omega
        rw [if_pos lt, decide_eq_true lt, Bool.true_or] at h
        conv => whnf
        repeat ((first | refine ⟨zH_of _, ?_⟩ | refine ⟨trivial, ?_⟩ | refine ⟨rfl, ?_⟩ | refine ⟨fun hc => absurd hc (by decide), fun _ => ?_⟩ | refine ⟨fun _ => ?_, fun hc => absurd (by decide) hc⟩ | refine ⟨fun _ => ?_, fun hc => absurd hc (by decide)⟩ | refine ⟨fun hc => absurd (by decide) hc, fun _ => ?_⟩); conv => whnf)
        try dsimp only
        rw [hM.1, ← hn]
        refine ⟨vp_in_nI (show n < 729 by omega) (by decide), ?_⟩
        rw [nI_clamp (n := n) (by omega)]
        conv => whnf
        repeat ((first | refine ⟨zH_of _, ?_⟩ | refine ⟨trivial, ?_⟩ | refine ⟨rfl, ?_⟩ | refine ⟨fun hc => absurd hc (by decide), fun _ => ?_⟩ | refine ⟨fun _ => ?_, fun hc => absurd (by decide) hc⟩ | refine ⟨fun _ => ?_, fun hc => absurd hc (by decide)⟩ | refine ⟨fun hc => absurd (by decide) hc, fun _ => ?_⟩); conv => whnf)
        try dsimp only
        rw [z_up_ne (show (45 : Nat) ≠ 61 by decide), hM.1, ← hn, nI_add]
        have h := h (z_up (z_up wi 61 n (nI L)) 45 32 (nI (n + 1))) wl' (fun y g1 g2 => by rw [z_up_ne g1, z_up_ne g2]) (fun i g => by rw [z_up_nei g, z_up_ne (by decide)]) hF ⟨by rw [z_up_eq, hn], show Z.1 + 1 ≤ 729 by omega, fun k hk => ?_⟩
        · rw [bI_t rfl] at h
          exact ⟨Or.inr rfl, h⟩
        · have hk : k < Z.1 + 1 := hk
          dsimp only
          by_cases e : k = Z.1
          · rw [if_pos e, e, setp_at, ← hn]
            refine ⟨hV, ?_, by omega⟩
            rw [z_up_ne (by decide), z_up_eq]
          · rw [if_neg e, setp_ne e]
            have b := M2.2.2 k (by omega)
            refine ⟨b.1, ?_, b.2.2⟩
            rw [z_up_ne (by decide), z_up_nei (by omega)]
            exact b.2.1
      · rw [if_neg (by omega), decide_eq_false (by omega), Bool.false_or] at h
        have h := h wi wl' (fun _ _ _ => rfl) (fun _ _ => rfl) hF M2
        conv => whnf
        repeat ((first | refine ⟨zH_of _, ?_⟩ | refine ⟨trivial, ?_⟩ | refine ⟨rfl, ?_⟩ | refine ⟨fun hc => absurd hc (by decide), fun _ => ?_⟩ | refine ⟨fun _ => ?_, fun hc => absurd (by decide) hc⟩ | refine ⟨fun _ => ?_, fun hc => absurd hc (by decide)⟩ | refine ⟨fun hc => absurd (by decide) hc, fun _ => ?_⟩); conv => whnf)
        try dsimp only
        refine ⟨18 * n, ukN d c, V, hV, rfl, n8, rfl, by omega, ?_⟩
        conv => whnf
        repeat ((first | refine ⟨zH_of _, ?_⟩ | refine ⟨trivial, ?_⟩ | refine ⟨rfl, ?_⟩ | refine ⟨fun hc => absurd hc (by decide), fun _ => ?_⟩ | refine ⟨fun _ => ?_, fun hc => absurd (by decide) hc⟩ | refine ⟨fun _ => ?_, fun hc => absurd hc (by decide)⟩ | refine ⟨fun hc => absurd (by decide) hc, fun _ => ?_⟩); conv => whnf)
        try dsimp only
        rw [bI_0, Classical.not_not]
        refine ⟨fun hv => ?_, fun hv => ?_⟩
        · rw [hv, bI_f (by decide)] at h
          conv => whnf
          repeat ((first | refine ⟨zH_of _, ?_⟩ | refine ⟨trivial, ?_⟩ | refine ⟨rfl, ?_⟩ | refine ⟨fun hc => absurd hc (by decide), fun _ => ?_⟩ | refine ⟨fun _ => ?_, fun hc => absurd (by decide) hc⟩ | refine ⟨fun _ => ?_, fun hc => absurd hc (by decide)⟩ | refine ⟨fun hc => absurd (by decide) hc, fun _ => ?_⟩); conv => whnf)
          try dsimp only
          exact ⟨Or.inl rfl, h⟩
        · rw [bI_t (by simpa using hv)] at h
          conv => whnf
          repeat ((first | refine ⟨zH_of _, ?_⟩ | refine ⟨trivial, ?_⟩ | refine ⟨rfl, ?_⟩ | refine ⟨fun hc => absurd hc (by decide), fun _ => ?_⟩ | refine ⟨fun _ => ?_, fun hc => absurd (by decide) hc⟩ | refine ⟨fun _ => ?_, fun hc => absurd hc (by decide)⟩ | refine ⟨fun hc => absurd (by decide) hc, fun _ => ?_⟩); conv => whnf)
          try dsimp only
          exact ⟨Or.inr rfl, h⟩
    have look : ∀ (wl' : Nat → Nat → Int64), (∀ y, y ≠ 60 → wl' y = wl y) → (∀ j, j < 18 * n → wl' 60 j = wl 60 j) → LW wl' (18 * n) (fnR Z (rwV d A c x' y' z')) → Jm 283 [some (.ref 45), some (.int (nI x')), some (.int (nI y')), some (.int (nI z')), some (.int (nI (18 * n))), some (.int (nI (ukN d c))), some (.int (nI 0)), none, none, none] [] (GC ++ (GM ++ r), wi, wl') 0 0 := fun wl' hF hK hV => by
      have f307 := fin wl' hF hK hV
      unfold ldR at f307
      generalize fnR Z (rwV d A c x' y' z') = V at *
      generalize ukN d c = U at *
      have loop := up_ind (P := fun k => (∀ j, j < k → ¬ V j = true) → Jm 283 [some (.ref 45), some (.int (nI x')), some (.int (nI y')), some (.int (nI z')), some (.int (nI (18 * n))), some (.int (nI U)), some (.int (nI k)), none, none, none] [] (GC ++ (GM ++ r), wi, wl') 0 0) U (fun k hk ih => by
        intro hno
        refine hs 400 283 _ _ _ _ _ ?_
        conv => whnf
        repeat ((first | refine ⟨zH_of _, ?_⟩ | refine ⟨trivial, ?_⟩ | refine ⟨rfl, ?_⟩ | refine ⟨fun hc => absurd hc (by decide), fun _ => ?_⟩ | refine ⟨fun _ => ?_, fun hc => absurd (by decide) hc⟩ | refine ⟨fun _ => ?_, fun hc => absurd hc (by decide)⟩ | refine ⟨fun hc => absurd (by decide) hc, fun _ => ?_⟩); conv => whnf)
        try dsimp only
        rw [ltN (by omega) (by omega)]
        refine ⟨fun hc => ?_, fun hc => ?_⟩
        · obtain hkU : k = U := by omega
          rw [hkU] at hno ⊢
          rw [fi_none hno] at f307
          exact f307
        · have ih := ih hc
          conv => whnf
          repeat ((first | refine ⟨zH_of _, ?_⟩ | refine ⟨trivial, ?_⟩ | refine ⟨rfl, ?_⟩ | refine ⟨fun hc => absurd hc (by decide), fun _ => ?_⟩ | refine ⟨fun _ => ?_, fun hc => absurd (by decide) hc⟩ | refine ⟨fun _ => ?_, fun hc => absurd hc (by decide)⟩ | refine ⟨fun hc => absurd (by decide) hc, fun _ => ?_⟩); conv => whnf)
          try dsimp only
          refine ⟨18 * n, k, V, hV, rfl, n8, rfl, by omega, ?_⟩
          conv => whnf
          repeat ((first | refine ⟨zH_of _, ?_⟩ | refine ⟨trivial, ?_⟩ | refine ⟨rfl, ?_⟩ | refine ⟨fun hc => absurd hc (by decide), fun _ => ?_⟩ | refine ⟨fun _ => ?_, fun hc => absurd (by decide) hc⟩ | refine ⟨fun _ => ?_, fun hc => absurd hc (by decide)⟩ | refine ⟨fun hc => absurd (by decide) hc, fun _ => ?_⟩); conv => whnf)
          try dsimp only
          rw [bI_0, Classical.not_not]
          refine ⟨fun hv => ?_, fun hv => ?_⟩
          · rw [fi_at hc hv hno] at f307
            conv => whnf
            repeat ((first | refine ⟨zH_of _, ?_⟩ | refine ⟨trivial, ?_⟩ | refine ⟨rfl, ?_⟩ | refine ⟨fun hc => absurd hc (by decide), fun _ => ?_⟩ | refine ⟨fun _ => ?_, fun hc => absurd (by decide) hc⟩ | refine ⟨fun _ => ?_, fun hc => absurd hc (by decide)⟩ | refine ⟨fun hc => absurd (by decide) hc, fun _ => ?_⟩); conv => whnf)
            try dsimp only
            exact f307
          · conv => whnf
            repeat ((first | refine ⟨zH_of _, ?_⟩ | refine ⟨trivial, ?_⟩ | refine ⟨rfl, ?_⟩ | refine ⟨fun hc => absurd hc (by decide), fun _ => ?_⟩ | refine ⟨fun _ => ?_, fun hc => absurd (by decide) hc⟩ | refine ⟨fun _ => ?_, fun hc => absurd hc (by decide)⟩ | refine ⟨fun hc => absurd (by decide) hc, fun _ => ?_⟩); conv => whnf)
            try dsimp only
            rw [nI_add]
            refine ih (fun j hj => ?_)
            rcases Nat.lt_or_ge j k with g | g
            · exact hno j g
            · rw [show j = k by omega]
              exact hv)
      exact loop 0 (Nat.zero_le _) (fun j hj => absurd hj (Nat.not_lt_zero j))
    have red := up_ind (P := fun k => ∀ (wl' : Nat → Nat → Int64), (∀ y, y ≠ 60 → wl' y = wl y) → (∀ j, j < 18 * n → wl' 60 j = wl 60 j) → LW wl' (18 * n) (rdR Z (rwV d A c x' y' z') k) → Jm 204 [some (.ref 45), some (.int (nI x')), some (.int (nI y')), some (.int (nI z')), some (.int (nI (18 * n))), some (.int (nI (ukN d c))), some (.int (nI k)), none, none, none] [] (GC ++ (GM ++ r), wi, wl') 0 0) n (fun k hk ih => by
      intro wl' hF hK hV
      have M2 := stay hK
      refine hs 400 204 _ _ _ _ _ ?_
      conv => whnf
      repeat ((first | refine ⟨zH_of _, ?_⟩ | refine ⟨trivial, ?_⟩ | refine ⟨rfl, ?_⟩ | refine ⟨fun hc => absurd hc (by decide), fun _ => ?_⟩ | refine ⟨fun _ => ?_, fun hc => absurd (by decide) hc⟩ | refine ⟨fun _ => ?_, fun hc => absurd hc (by decide)⟩ | refine ⟨fun hc => absurd (by decide) hc, fun _ => ?_⟩); conv => whnf)
      try dsimp only
      rw [hM.1, ← hn, ltN (by omega) (by omega)]
      refine ⟨fun hc => ?_, fun hc => ?_⟩
      · obtain hkn : k = n := by omega
        rw [hkn, hn] at hV
        conv => whnf
        repeat ((first | refine ⟨zH_of _, ?_⟩ | refine ⟨trivial, ?_⟩ | refine ⟨rfl, ?_⟩ | refine ⟨fun hc => absurd hc (by decide), fun _ => ?_⟩ | refine ⟨fun _ => ?_, fun hc => absurd (by decide) hc⟩ | refine ⟨fun _ => ?_, fun hc => absurd hc (by decide)⟩ | refine ⟨fun hc => absurd (by decide) hc, fun _ => ?_⟩); conv => whnf)
        try dsimp only
        exact look wl' hF hK (by rw [hn]; exact hV)
      · have ih := ih hc
        have mk := M2.2.2 k (by omega)
        rw [rdR] at ih
        generalize rdR Z (rwV d A c x' y' z') k = V at *
        have t274 : ∀ wl2 : Nat → Nat → Int64, (∀ y, y ≠ 60 → wl2 y = wl y) → (∀ j, j < 18 * n → wl2 60 j = wl 60 j) → LW wl2 (18 * n) (if V (Z.2.1 k) = true then vxor V (Z.2.2 k) else V) → Jm 274 [some (.ref 45), some (.int (nI x')), some (.int (nI y')), some (.int (nI z')), some (.int (nI (18 * n))), some (.int (nI (ukN d c))), some (.int (nI k)), none, none, none] [] (GC ++ (GM ++ r), wi, wl2) 0 0 := fun wl2 k1 k2 k3 => by
          refine hs 400 274 _ _ _ _ _ ?_
          conv => whnf
          repeat ((first | refine ⟨zH_of _, ?_⟩ | refine ⟨trivial, ?_⟩ | refine ⟨rfl, ?_⟩ | refine ⟨fun hc => absurd hc (by decide), fun _ => ?_⟩ | refine ⟨fun _ => ?_, fun hc => absurd (by decide) hc⟩ | refine ⟨fun _ => ?_, fun hc => absurd hc (by decide)⟩ | refine ⟨fun hc => absurd (by decide) hc, fun _ => ?_⟩); conv => whnf)
          try dsimp only
          rw [nI_add]
          exact ih wl2 k1 k2 k3
        conv => whnf
        repeat ((first | refine ⟨zH_of _, ?_⟩ | refine ⟨trivial, ?_⟩ | refine ⟨rfl, ?_⟩ | refine ⟨fun hc => absurd hc (by decide), fun _ => ?_⟩ | refine ⟨fun _ => ?_, fun hc => absurd (by decide) hc⟩ | refine ⟨fun _ => ?_, fun hc => absurd hc (by decide)⟩ | refine ⟨fun hc => absurd (by decide) hc, fun _ => ?_⟩); conv => whnf)
        try dsimp only
        refine ⟨vp_in_nI (show k < 729 by omega) (by decide), ?_⟩
        rw [nI_clamp (n := k) (by omega), mk.2.1]
        conv => whnf
        repeat ((first | refine ⟨zH_of _, ?_⟩ | refine ⟨trivial, ?_⟩ | refine ⟨rfl, ?_⟩ | refine ⟨fun hc => absurd hc (by decide), fun _ => ?_⟩ | refine ⟨fun _ => ?_, fun hc => absurd (by decide) hc⟩ | refine ⟨fun _ => ?_, fun hc => absurd hc (by decide)⟩ | refine ⟨fun hc => absurd (by decide) hc, fun _ => ?_⟩); conv => whnf)
        try dsimp only
        refine ⟨18 * n, Z.2.1 k, V, hV, rfl, n8, rfl, mk.2.2, ?_⟩
        conv => whnf
        repeat ((first | refine ⟨zH_of _, ?_⟩ | refine ⟨trivial, ?_⟩ | refine ⟨rfl, ?_⟩ | refine ⟨fun hc => absurd hc (by decide), fun _ => ?_⟩ | refine ⟨fun _ => ?_, fun hc => absurd (by decide) hc⟩ | refine ⟨fun _ => ?_, fun hc => absurd hc (by decide)⟩ | refine ⟨fun hc => absurd (by decide) hc, fun _ => ?_⟩); conv => whnf)
        try dsimp only
        rw [bI_0, Classical.not_not]
        refine ⟨fun hb => ?_, fun hb => ?_⟩
        · rw [if_pos hb] at t274
          have inner := up_ind (P := fun w => ∀ wl2 : Nat → Nat → Int64, (∀ y, y ≠ 60 → wl2 y = wl y) → (∀ j, j < 18 * n → wl2 60 j = wl 60 j) → (∀ j, j < w → wl2 60 (18 * n + j) = lN (wd (vxor V (Z.2.2 k)) j)) → (∀ j, w ≤ j → j < 18 → wl2 60 (18 * n + j) = lN (wd V j)) → Jm 235 [some (.ref 45), some (.int (nI x')), some (.int (nI y')), some (.int (nI z')), some (.int (nI (18 * n))), some (.int (nI (ukN d c))), some (.int (nI k)), some (.int (nI w)), none, none] [] (GC ++ (GM ++ r), wi, wl2) 0 0) 18 (fun w hw ihw => by
            intro wl2 hF2 hK2 hA hB
            have mk2 := (stay hK2).2.2 k (by omega)
            refine hs 400 235 _ _ _ _ _ ?_
            conv => whnf
            repeat ((first | refine ⟨zH_of _, ?_⟩ | refine ⟨trivial, ?_⟩ | refine ⟨rfl, ?_⟩ | refine ⟨fun hc => absurd hc (by decide), fun _ => ?_⟩ | refine ⟨fun _ => ?_, fun hc => absurd (by decide) hc⟩ | refine ⟨fun _ => ?_, fun hc => absurd hc (by decide)⟩ | refine ⟨fun hc => absurd (by decide) hc, fun _ => ?_⟩); conv => whnf)
            try dsimp only
            rw [ltN (by omega) (by omega)]
            refine ⟨fun hc2 => ?_, fun hc2 => ?_⟩
            · obtain rfl : w = 18 := by omega
              conv => whnf
              repeat ((first | refine ⟨zH_of _, ?_⟩ | refine ⟨trivial, ?_⟩ | refine ⟨rfl, ?_⟩ | refine ⟨fun hc => absurd hc (by decide), fun _ => ?_⟩ | refine ⟨fun _ => ?_, fun hc => absurd (by decide) hc⟩ | refine ⟨fun _ => ?_, fun hc => absurd hc (by decide)⟩ | refine ⟨fun hc => absurd (by decide) hc, fun _ => ?_⟩); conv => whnf)
              try dsimp only
              exact t274 wl2 hF2 hK2 hA
            · have ihw := ihw hc2
              conv => whnf
              repeat ((first | refine ⟨zH_of _, ?_⟩ | refine ⟨trivial, ?_⟩ | refine ⟨rfl, ?_⟩ | refine ⟨fun hc => absurd hc (by decide), fun _ => ?_⟩ | refine ⟨fun _ => ?_, fun hc => absurd (by decide) hc⟩ | refine ⟨fun _ => ?_, fun hc => absurd hc (by decide)⟩ | refine ⟨fun hc => absurd (by decide) hc, fun _ => ?_⟩); conv => whnf)
              try dsimp only
              rw [nI_add]
              refine ⟨vp_in_nI (show 18 * n + w < 13122 by omega) (by decide), ?_⟩
              rw [nI_clamp (n := 18 * n + w) (by omega), hB w (Nat.le_refl w) hc2]
              conv => whnf
              repeat ((first | refine ⟨zH_of _, ?_⟩ | refine ⟨trivial, ?_⟩ | refine ⟨rfl, ?_⟩ | refine ⟨fun hc => absurd hc (by decide), fun _ => ?_⟩ | refine ⟨fun _ => ?_, fun hc => absurd (by decide) hc⟩ | refine ⟨fun _ => ?_, fun hc => absurd hc (by decide)⟩ | refine ⟨fun hc => absurd (by decide) hc, fun _ => ?_⟩); conv => whnf)
              try dsimp only
              rw [pk_mul, nI_add]
              refine ⟨vp_in_nI (show 18 * k + w < 13122 by omega) (by decide), ?_⟩
              rw [nI_clamp (n := 18 * k + w) (by omega), mk2.1 w hc2]
              conv => whnf
              repeat ((first | refine ⟨zH_of _, ?_⟩ | refine ⟨trivial, ?_⟩ | refine ⟨rfl, ?_⟩ | refine ⟨fun hc => absurd hc (by decide), fun _ => ?_⟩ | refine ⟨fun _ => ?_, fun hc => absurd (by decide) hc⟩ | refine ⟨fun _ => ?_, fun hc => absurd hc (by decide)⟩ | refine ⟨fun hc => absurd (by decide) hc, fun _ => ?_⟩); conv => whnf)
              try dsimp only
              refine ⟨vp_in_nI (show 18 * n + w < 13122 by omega) (by decide), ?_⟩
              rw [nI_clamp (n := 18 * n + w) (by omega), fb_xorL, ← wd_xor]
              conv => whnf
              repeat ((first | refine ⟨zH_of _, ?_⟩ | refine ⟨trivial, ?_⟩ | refine ⟨rfl, ?_⟩ | refine ⟨fun hc => absurd hc (by decide), fun _ => ?_⟩ | refine ⟨fun _ => ?_, fun hc => absurd (by decide) hc⟩ | refine ⟨fun _ => ?_, fun hc => absurd hc (by decide)⟩ | refine ⟨fun hc => absurd (by decide) hc, fun _ => ?_⟩); conv => whnf)
              try dsimp only
              rw [nI_add]
              refine ihw _ (fun y hy => by rw [z_up_ne hy, hF2 y hy]) (fun j hj => by rw [z_up_nei (by omega), hK2 j hj]) (fun j hj => ?_) (fun j h1 h2 => ?_)
              · by_cases e : j = w
                · rw [e, z_up_eq]
                · rw [z_up_nei (by omega)]
                  exact hA j (by omega)
              · rw [z_up_nei (by omega)]
                exact hB j (by omega) h2)
          conv => whnf
          repeat ((first | refine ⟨zH_of _, ?_⟩ | refine ⟨trivial, ?_⟩ | refine ⟨rfl, ?_⟩ | refine ⟨fun hc => absurd hc (by decide), fun _ => ?_⟩ | refine ⟨fun _ => ?_, fun hc => absurd (by decide) hc⟩ | refine ⟨fun _ => ?_, fun hc => absurd hc (by decide)⟩ | refine ⟨fun hc => absurd (by decide) hc, fun _ => ?_⟩); conv => whnf)
          try dsimp only
          exact inner 0 (Nat.zero_le _) wl' hF hK (fun j hj => absurd hj (Nat.not_lt_zero j)) (fun j _ hj => hV j hj)
        · rw [if_neg hb] at t274
          conv => whnf
          repeat ((first | refine ⟨zH_of _, ?_⟩ | refine ⟨trivial, ?_⟩ | refine ⟨rfl, ?_⟩ | refine ⟨fun hc => absurd hc (by decide), fun _ => ?_⟩ | refine ⟨fun _ => ?_, fun hc => absurd (by decide) hc⟩ | refine ⟨fun _ => ?_, fun hc => absurd hc (by decide)⟩ | refine ⟨fun hc => absurd (by decide) hc, fun _ => ?_⟩); conv => whnf)
          try dsimp only
          exact t274 wl' hF hK hV)
    have t201 : ∀ (wl' : Nat → Nat → Int64), (∀ y, y ≠ 60 → wl' y = wl y) → (∀ j, j < 18 * n → wl' 60 j = wl 60 j) → LW wl' (18 * n) (rwV d A c x' y' z') → Jm 201 [some (.ref 45), some (.int (nI x')), some (.int (nI y')), some (.int (nI z')), some (.int (nI (18 * n))), some (.int (nI (ukN d c))), none, none, none, none] [] (GC ++ (GM ++ r), wi, wl') 0 0 := fun wl' hF hK hV => by
      refine hs 400 201 _ _ _ _ _ ?_
      conv => whnf
      repeat ((first | refine ⟨zH_of _, ?_⟩ | refine ⟨trivial, ?_⟩ | refine ⟨rfl, ?_⟩ | refine ⟨fun hc => absurd hc (by decide), fun _ => ?_⟩ | refine ⟨fun _ => ?_, fun hc => absurd (by decide) hc⟩ | refine ⟨fun _ => ?_, fun hc => absurd hc (by decide)⟩ | refine ⟨fun hc => absurd (by decide) hc, fun _ => ?_⟩); conv => whnf)
      try dsimp only
      exact red 0 (Nat.zero_le _) wl' hF hK hV
    have xb : ∀ i, i < c → A (3 * i) x' < 2 ∧ A (3 * i + 1) y' < 2 ∧ A (3 * i + 2) z' < 2 := fun i hi => ⟨ms_A hS _ (by omega) _ (by omega), ms_A hS _ (by omega) _ (by omega), ms_A hS _ (by omega) _ (by omega)⟩
    have rows := up_ind (P := fun i => ∀ (wl' : Nat → Nat → Int64), (∀ y, y ≠ 60 → wl' y = wl y) → (∀ j, j < 18 * n → wl' 60 j = wl 60 j) → LW wl' (18 * n) (rwT d A x' y' z' i) → Jm 45 [some (.ref 45), some (.int (nI x')), some (.int (nI y')), some (.int (nI z')), some (.int (nI (18 * n))), some (.int (nI (ukN d c))), some (.int (nI i)), none, none, none] [] (GC ++ (GM ++ r), wi, wl') 0 0) c (fun i hi ih => by
      intro wl' hF hK hV
      refine hs 400 45 _ _ _ _ _ ?_
      conv => whnf
      repeat ((first | refine ⟨zH_of _, ?_⟩ | refine ⟨trivial, ?_⟩ | refine ⟨rfl, ?_⟩ | refine ⟨fun hc => absurd hc (by decide), fun _ => ?_⟩ | refine ⟨fun _ => ?_, fun hc => absurd (by decide) hc⟩ | refine ⟨fun _ => ?_, fun hc => absurd hc (by decide)⟩ | refine ⟨fun hc => absurd (by decide) hc, fun _ => ?_⟩); conv => whnf)
      try dsimp only
      rw [ms_c hS, ltN (by omega) (by omega)]
      refine ⟨fun hc => ?_, fun hc => ?_⟩
      · obtain hic : i = c := by omega
        rw [hic] at hV
        have gm := gv_mt xb
        have gl := gvN_lt (A := A) (c := c) (x := x') (y := y') (z := z') (fun i hi => by
          have := xb i hi
          omega)
        have nl := ndN_le d x' y' z'
        have nle : ndN d x' y' z' ≤ gvN A c x' y' z' := by rw [← hgn]; exact Nat.mod_le _ _
        have rh : rhB d A c x' y' z' = true ↔ (gvN A c x' y' z' - ndN d x' y' z') / 2 % 2 = 1 := by
          unfold rhB
          rw [gm, beq_iff_eq]
        unfold rwV at t201
        have dle : (gvN A c x' y' z' - ndN d x' y' z') / 2 ≤ gvN A c x' y' z' := by omega
        conv => whnf
        repeat ((first | refine ⟨zH_of _, ?_⟩ | refine ⟨trivial, ?_⟩ | refine ⟨rfl, ?_⟩ | refine ⟨fun hc => absurd hc (by decide), fun _ => ?_⟩ | refine ⟨fun _ => ?_, fun hc => absurd (by decide) hc⟩ | refine ⟨fun _ => ?_, fun hc => absurd hc (by decide)⟩ | refine ⟨fun hc => absurd (by decide) hc, fun _ => ?_⟩); conv => whnf)
        try dsimp only
        refine ⟨d, 2, c, A, x', y', z', hS, rfl, by omega, rfl, by omega, rfl, by omega, ?_⟩
        conv => whnf
        repeat ((first | refine ⟨zH_of _, ?_⟩ | refine ⟨trivial, ?_⟩ | refine ⟨rfl, ?_⟩ | refine ⟨fun hc => absurd hc (by decide), fun _ => ?_⟩ | refine ⟨fun _ => ?_, fun hc => absurd (by decide) hc⟩ | refine ⟨fun _ => ?_, fun hc => absurd hc (by decide)⟩ | refine ⟨fun hc => absurd (by decide) hc, fun _ => ?_⟩); conv => whnf)
        try dsimp only
        refine ⟨d, 2, c, A, x', y', z', hS, rfl, by omega, rfl, by omega, rfl, by omega, ?_⟩
        conv => whnf
        repeat ((first | refine ⟨zH_of _, ?_⟩ | refine ⟨trivial, ?_⟩ | refine ⟨rfl, ?_⟩ | refine ⟨fun hc => absurd hc (by decide), fun _ => ?_⟩ | refine ⟨fun _ => ?_, fun hc => absurd (by decide) hc⟩ | refine ⟨fun _ => ?_, fun hc => absurd hc (by decide)⟩ | refine ⟨fun hc => absurd (by decide) hc, fun _ => ?_⟩); conv => whnf)
        try dsimp only
        rw [pk_sub nle]
        refine ⟨by decide, ?_⟩
        rw [pk_div (by omega) (by omega) (by omega)]
        conv => whnf
        repeat ((first | refine ⟨zH_of _, ?_⟩ | refine ⟨trivial, ?_⟩ | refine ⟨rfl, ?_⟩ | refine ⟨fun hc => absurd hc (by decide), fun _ => ?_⟩ | refine ⟨fun _ => ?_, fun hc => absurd (by decide) hc⟩ | refine ⟨fun _ => ?_, fun hc => absurd hc (by decide)⟩ | refine ⟨fun hc => absurd (by decide) hc, fun _ => ?_⟩); conv => whnf)
        try dsimp only
        refine ⟨by decide, ?_⟩
        rw [z_remN (by omega) (by omega) (by omega)]
        conv => whnf
        repeat ((first | refine ⟨zH_of _, ?_⟩ | refine ⟨trivial, ?_⟩ | refine ⟨rfl, ?_⟩ | refine ⟨fun hc => absurd hc (by decide), fun _ => ?_⟩ | refine ⟨fun _ => ?_, fun hc => absurd (by decide) hc⟩ | refine ⟨fun _ => ?_, fun hc => absurd hc (by decide)⟩ | refine ⟨fun hc => absurd (by decide) hc, fun _ => ?_⟩); conv => whnf)
        try dsimp only
        rw [eq0N (by omega)]
        refine ⟨fun h0 => ?_, fun h0 => ?_⟩
        · rw [vfl_of (fun k => by have := rh.mp k; omega)] at t201
          conv => whnf
          repeat ((first | refine ⟨zH_of _, ?_⟩ | refine ⟨trivial, ?_⟩ | refine ⟨rfl, ?_⟩ | refine ⟨fun hc => absurd hc (by decide), fun _ => ?_⟩ | refine ⟨fun _ => ?_, fun hc => absurd (by decide) hc⟩ | refine ⟨fun _ => ?_, fun hc => absurd hc (by decide)⟩ | refine ⟨fun hc => absurd (by decide) hc, fun _ => ?_⟩); conv => whnf)
          try dsimp only
          exact t201 wl' hF hK hV
        · rw [rh.mpr (by omega)] at t201
          conv => whnf
          repeat ((first | refine ⟨zH_of _, ?_⟩ | refine ⟨trivial, ?_⟩ | refine ⟨rfl, ?_⟩ | refine ⟨fun hc => absurd hc (by decide), fun _ => ?_⟩ | refine ⟨fun _ => ?_, fun hc => absurd (by decide) hc⟩ | refine ⟨fun _ => ?_, fun hc => absurd hc (by decide)⟩ | refine ⟨fun hc => absurd (by decide) hc, fun _ => ?_⟩); conv => whnf)
          try dsimp only
          refine ⟨18 * n, ukN d c, rwT d A x' y' z' c, hV, rfl, n8, rfl, by omega, fun wl2 hF2 hK2 hV2 => ?_⟩
          conv => whnf
          repeat ((first | refine ⟨zH_of _, ?_⟩ | refine ⟨trivial, ?_⟩ | refine ⟨rfl, ?_⟩ | refine ⟨fun hc => absurd hc (by decide), fun _ => ?_⟩ | refine ⟨fun _ => ?_, fun hc => absurd (by decide) hc⟩ | refine ⟨fun _ => ?_, fun hc => absurd hc (by decide)⟩ | refine ⟨fun hc => absurd (by decide) hc, fun _ => ?_⟩); conv => whnf)
          try dsimp only
          exact t201 wl2 (fun y hy => by rw [hF2 y hy, hF y hy]) (fun j hj => by rw [hK2 j (Or.inl hj), hK j hj]) hV2
      · have ih := ih hc
        obtain ⟨xa, xb2, xc⟩ := xb i hc
        have ra := ms_at hS hc (t := 0) (by decide) (show x' < 9 by omega)
        have rb := ms_at hS hc (t := 1) (by decide) (show y' < 9 by omega)
        have rc := ms_at hS hc (t := 2) (by decide) (show z' < 9 by omega)
        have u0 := ukl i 0 x' hc (by decide) hx
        have u1 := ukl i 1 y' hc (by decide) hy
        have u2 := ukl i 2 z' hc (by decide) hz
        rw [rwT] at ih
        rw [show 3 * i + 0 = 3 * i from rfl] at ra
        generalize rwT d A x' y' z' i = V0 at *
        generalize A (3 * i) x' = a at *
        generalize A (3 * i + 1) y' = b at *
        generalize A (3 * i + 2) z' = e at *
        have m1 : b * e ≤ 1 * 1 := Nat.mul_le_mul (by omega) (by omega)
        have m2 : a * e ≤ 1 * 1 := Nat.mul_le_mul (by omega) (by omega)
        have m3 : a * b ≤ 1 * 1 := Nat.mul_le_mul (by omega) (by omega)
        have t165 : ∀ wl2 : Nat → Nat → Int64, (∀ y, y ≠ 60 → wl2 y = wl y) → (∀ j, j < 18 * n → wl2 60 j = wl 60 j) → LW wl2 (18 * n) (vfl (a * b == 1) (vfl (a * e == 1) (vfl (b * e == 1) V0 (uk d i 0 x')) (uk d i 1 y')) (uk d i 2 z')) → Jm 165 [some (.ref 45), some (.int (nI x')), some (.int (nI y')), some (.int (nI z')), some (.int (nI (18 * n))), some (.int (nI (ukN d c))), some (.int (nI i)), none, none, none] [] (GC ++ (GM ++ r), wi, wl2) 0 0 := fun wl2 k1 k2 k3 => by
          refine hs 400 165 _ _ _ _ _ ?_
          conv => whnf
          repeat ((first | refine ⟨zH_of _, ?_⟩ | refine ⟨trivial, ?_⟩ | refine ⟨rfl, ?_⟩ | refine ⟨fun hc => absurd hc (by decide), fun _ => ?_⟩ | refine ⟨fun _ => ?_, fun hc => absurd (by decide) hc⟩ | refine ⟨fun _ => ?_, fun hc => absurd hc (by decide)⟩ | refine ⟨fun hc => absurd (by decide) hc, fun _ => ?_⟩); conv => whnf)
          try dsimp only
          rw [nI_add]
          exact ih wl2 k1 k2 k3
        have t142 : ∀ wl2 : Nat → Nat → Int64, (∀ y, y ≠ 60 → wl2 y = wl y) → (∀ j, j < 18 * n → wl2 60 j = wl 60 j) → LW wl2 (18 * n) (vfl (a * e == 1) (vfl (b * e == 1) V0 (uk d i 0 x')) (uk d i 1 y')) → Jm 142 [some (.ref 45), some (.int (nI x')), some (.int (nI y')), some (.int (nI z')), some (.int (nI (18 * n))), some (.int (nI (ukN d c))), some (.int (nI i)), some (.int (nI a)), some (.int (nI b)), some (.int (nI e))] [] (GC ++ (GM ++ r), wi, wl2) 0 0 := fun wl2 k1 k2 k3 => by
          generalize vfl (a * e == 1) (vfl (b * e == 1) V0 (uk d i 0 x')) (uk d i 1 y') = V2 at *
          refine hs 400 142 _ _ _ _ _ ?_
          conv => whnf
          repeat ((first | refine ⟨zH_of _, ?_⟩ | refine ⟨trivial, ?_⟩ | refine ⟨rfl, ?_⟩ | refine ⟨fun hc => absurd hc (by decide), fun _ => ?_⟩ | refine ⟨fun _ => ?_, fun hc => absurd (by decide) hc⟩ | refine ⟨fun _ => ?_, fun hc => absurd hc (by decide)⟩ | refine ⟨fun hc => absurd (by decide) hc, fun _ => ?_⟩); conv => whnf)
          try dsimp only
          rw [pk_mul, nI_eq (by omega) (by omega)]
          refine ⟨fun hp => ?_, fun hp => ?_⟩
          · rw [vfl_of (by simpa using hp)] at t165
            conv => whnf
            repeat ((first | refine ⟨zH_of _, ?_⟩ | refine ⟨trivial, ?_⟩ | refine ⟨rfl, ?_⟩ | refine ⟨fun hc => absurd hc (by decide), fun _ => ?_⟩ | refine ⟨fun _ => ?_, fun hc => absurd (by decide) hc⟩ | refine ⟨fun _ => ?_, fun hc => absurd hc (by decide)⟩ | refine ⟨fun hc => absurd (by decide) hc, fun _ => ?_⟩); conv => whnf)
            try dsimp only
            exact t165 wl2 k1 k2 k3
          · rw [show (a * b == 1) = true by simpa using hp] at t165
            conv => whnf
            repeat ((first | refine ⟨zH_of _, ?_⟩ | refine ⟨trivial, ?_⟩ | refine ⟨rfl, ?_⟩ | refine ⟨fun hc => absurd hc (by decide), fun _ => ?_⟩ | refine ⟨fun _ => ?_, fun hc => absurd (by decide) hc⟩ | refine ⟨fun _ => ?_, fun hc => absurd hc (by decide)⟩ | refine ⟨fun hc => absurd (by decide) hc, fun _ => ?_⟩); conv => whnf)
            try dsimp only
            refine ⟨d, 2, c, A, i, 2, z', hS, rfl, rfl, by decide, rfl, ?_⟩
            conv => whnf
            repeat ((first | refine ⟨zH_of _, ?_⟩ | refine ⟨trivial, ?_⟩ | refine ⟨rfl, ?_⟩ | refine ⟨fun hc => absurd hc (by decide), fun _ => ?_⟩ | refine ⟨fun _ => ?_, fun hc => absurd (by decide) hc⟩ | refine ⟨fun _ => ?_, fun hc => absurd hc (by decide)⟩ | refine ⟨fun hc => absurd (by decide) hc, fun _ => ?_⟩); conv => whnf)
            try dsimp only
            refine ⟨18 * n, uk d i 2 z', V2, k3, rfl, n8, rfl, u2, fun wl3 hF3 hK3 hV3 => ?_⟩
            conv => whnf
            repeat ((first | refine ⟨zH_of _, ?_⟩ | refine ⟨trivial, ?_⟩ | refine ⟨rfl, ?_⟩ | refine ⟨fun hc => absurd hc (by decide), fun _ => ?_⟩ | refine ⟨fun _ => ?_, fun hc => absurd (by decide) hc⟩ | refine ⟨fun _ => ?_, fun hc => absurd hc (by decide)⟩ | refine ⟨fun hc => absurd (by decide) hc, fun _ => ?_⟩); conv => whnf)
            try dsimp only
            exact t165 wl3 (fun y hy => by rw [hF3 y hy, k1 y hy]) (fun j hj => by rw [hK3 j (Or.inl hj), k2 j hj]) hV3
        have t119 : ∀ wl2 : Nat → Nat → Int64, (∀ y, y ≠ 60 → wl2 y = wl y) → (∀ j, j < 18 * n → wl2 60 j = wl 60 j) → LW wl2 (18 * n) (vfl (b * e == 1) V0 (uk d i 0 x')) → Jm 119 [some (.ref 45), some (.int (nI x')), some (.int (nI y')), some (.int (nI z')), some (.int (nI (18 * n))), some (.int (nI (ukN d c))), some (.int (nI i)), some (.int (nI a)), some (.int (nI b)), some (.int (nI e))] [] (GC ++ (GM ++ r), wi, wl2) 0 0 := fun wl2 k1 k2 k3 => by
          clear t165
          generalize vfl (b * e == 1) V0 (uk d i 0 x') = V2 at *
          refine hs 400 119 _ _ _ _ _ ?_
          conv => whnf
          repeat ((first | refine ⟨zH_of _, ?_⟩ | refine ⟨trivial, ?_⟩ | refine ⟨rfl, ?_⟩ | refine ⟨fun hc => absurd hc (by decide), fun _ => ?_⟩ | refine ⟨fun _ => ?_, fun hc => absurd (by decide) hc⟩ | refine ⟨fun _ => ?_, fun hc => absurd hc (by decide)⟩ | refine ⟨fun hc => absurd (by decide) hc, fun _ => ?_⟩); conv => whnf)
          try dsimp only
          rw [pk_mul, nI_eq (by omega) (by omega)]
          refine ⟨fun hp => ?_, fun hp => ?_⟩
          · rw [vfl_of (by simpa using hp)] at t142
            conv => whnf
            repeat ((first | refine ⟨zH_of _, ?_⟩ | refine ⟨trivial, ?_⟩ | refine ⟨rfl, ?_⟩ | refine ⟨fun hc => absurd hc (by decide), fun _ => ?_⟩ | refine ⟨fun _ => ?_, fun hc => absurd (by decide) hc⟩ | refine ⟨fun _ => ?_, fun hc => absurd hc (by decide)⟩ | refine ⟨fun hc => absurd (by decide) hc, fun _ => ?_⟩); conv => whnf)
            try dsimp only
            exact t142 wl2 k1 k2 k3
          · rw [show (a * e == 1) = true by simpa using hp] at t142
            conv => whnf
            repeat ((first | refine ⟨zH_of _, ?_⟩ | refine ⟨trivial, ?_⟩ | refine ⟨rfl, ?_⟩ | refine ⟨fun hc => absurd hc (by decide), fun _ => ?_⟩ | refine ⟨fun _ => ?_, fun hc => absurd (by decide) hc⟩ | refine ⟨fun _ => ?_, fun hc => absurd hc (by decide)⟩ | refine ⟨fun hc => absurd (by decide) hc, fun _ => ?_⟩); conv => whnf)
            try dsimp only
            refine ⟨d, 2, c, A, i, 1, y', hS, rfl, rfl, by decide, rfl, ?_⟩
            conv => whnf
            repeat ((first | refine ⟨zH_of _, ?_⟩ | refine ⟨trivial, ?_⟩ | refine ⟨rfl, ?_⟩ | refine ⟨fun hc => absurd hc (by decide), fun _ => ?_⟩ | refine ⟨fun _ => ?_, fun hc => absurd (by decide) hc⟩ | refine ⟨fun _ => ?_, fun hc => absurd hc (by decide)⟩ | refine ⟨fun hc => absurd (by decide) hc, fun _ => ?_⟩); conv => whnf)
            try dsimp only
            refine ⟨18 * n, uk d i 1 y', V2, k3, rfl, n8, rfl, u1, fun wl3 hF3 hK3 hV3 => ?_⟩
            conv => whnf
            repeat ((first | refine ⟨zH_of _, ?_⟩ | refine ⟨trivial, ?_⟩ | refine ⟨rfl, ?_⟩ | refine ⟨fun hc => absurd hc (by decide), fun _ => ?_⟩ | refine ⟨fun _ => ?_, fun hc => absurd (by decide) hc⟩ | refine ⟨fun _ => ?_, fun hc => absurd hc (by decide)⟩ | refine ⟨fun hc => absurd (by decide) hc, fun _ => ?_⟩); conv => whnf)
            try dsimp only
            exact t142 wl3 (fun y hy => by rw [hF3 y hy, k1 y hy]) (fun j hj => by rw [hK3 j (Or.inl hj), k2 j hj]) hV3
        clear t142 t165
        conv => whnf
        repeat ((first | refine ⟨zH_of _, ?_⟩ | refine ⟨trivial, ?_⟩ | refine ⟨rfl, ?_⟩ | refine ⟨fun hc => absurd hc (by decide), fun _ => ?_⟩ | refine ⟨fun _ => ?_, fun hc => absurd (by decide) hc⟩ | refine ⟨fun _ => ?_, fun hc => absurd hc (by decide)⟩ | refine ⟨fun hc => absurd (by decide) hc, fun _ => ?_⟩); conv => whnf)
        try dsimp only
        rw [at_N]
        refine ⟨vp_in_nI (show 27 * i + 9 * 0 + x' < 1080 by omega) (by decide), ?_⟩
        rw [nI_clamp (n := 27 * i + 9 * 0 + x') (by omega), ra]
        conv => whnf
        repeat ((first | refine ⟨zH_of _, ?_⟩ | refine ⟨trivial, ?_⟩ | refine ⟨rfl, ?_⟩ | refine ⟨fun hc => absurd hc (by decide), fun _ => ?_⟩ | refine ⟨fun _ => ?_, fun hc => absurd (by decide) hc⟩ | refine ⟨fun _ => ?_, fun hc => absurd hc (by decide)⟩ | refine ⟨fun hc => absurd (by decide) hc, fun _ => ?_⟩); conv => whnf)
        try dsimp only
        rw [at_N]
        refine ⟨vp_in_nI (show 27 * i + 9 * 1 + y' < 1080 by omega) (by decide), ?_⟩
        rw [nI_clamp (n := 27 * i + 9 * 1 + y') (by omega), rb]
        conv => whnf
        repeat ((first | refine ⟨zH_of _, ?_⟩ | refine ⟨trivial, ?_⟩ | refine ⟨rfl, ?_⟩ | refine ⟨fun hc => absurd hc (by decide), fun _ => ?_⟩ | refine ⟨fun _ => ?_, fun hc => absurd (by decide) hc⟩ | refine ⟨fun _ => ?_, fun hc => absurd hc (by decide)⟩ | refine ⟨fun hc => absurd (by decide) hc, fun _ => ?_⟩); conv => whnf)
        try dsimp only
        rw [at_N]
        refine ⟨vp_in_nI (show 27 * i + 9 * 2 + z' < 1080 by omega) (by decide), ?_⟩
        rw [nI_clamp (n := 27 * i + 9 * 2 + z') (by omega), rc]
        conv => whnf
        repeat ((first | refine ⟨zH_of _, ?_⟩ | refine ⟨trivial, ?_⟩ | refine ⟨rfl, ?_⟩ | refine ⟨fun hc => absurd hc (by decide), fun _ => ?_⟩ | refine ⟨fun _ => ?_, fun hc => absurd (by decide) hc⟩ | refine ⟨fun _ => ?_, fun hc => absurd hc (by decide)⟩ | refine ⟨fun hc => absurd (by decide) hc, fun _ => ?_⟩); conv => whnf)
        try dsimp only
        rw [pk_mul, nI_eq (by omega) (by omega)]
        refine ⟨fun hp => ?_, fun hp => ?_⟩
        · rw [vfl_of (by simpa using hp)] at t119
          conv => whnf
          repeat ((first | refine ⟨zH_of _, ?_⟩ | refine ⟨trivial, ?_⟩ | refine ⟨rfl, ?_⟩ | refine ⟨fun hc => absurd hc (by decide), fun _ => ?_⟩ | refine ⟨fun _ => ?_, fun hc => absurd (by decide) hc⟩ | refine ⟨fun _ => ?_, fun hc => absurd hc (by decide)⟩ | refine ⟨fun hc => absurd (by decide) hc, fun _ => ?_⟩); conv => whnf)
          try dsimp only
          exact t119 wl' hF hK hV
        · rw [show (b * e == 1) = true by simpa using hp] at t119
          conv => whnf
          repeat ((first | refine ⟨zH_of _, ?_⟩ | refine ⟨trivial, ?_⟩ | refine ⟨rfl, ?_⟩ | refine ⟨fun hc => absurd hc (by decide), fun _ => ?_⟩ | refine ⟨fun _ => ?_, fun hc => absurd (by decide) hc⟩ | refine ⟨fun _ => ?_, fun hc => absurd hc (by decide)⟩ | refine ⟨fun hc => absurd (by decide) hc, fun _ => ?_⟩); conv => whnf)
          try dsimp only
          refine ⟨d, 2, c, A, i, 0, x', hS, rfl, rfl, by decide, rfl, ?_⟩
          conv => whnf
          repeat ((first | refine ⟨zH_of _, ?_⟩ | refine ⟨trivial, ?_⟩ | refine ⟨rfl, ?_⟩ | refine ⟨fun hc => absurd hc (by decide), fun _ => ?_⟩ | refine ⟨fun _ => ?_, fun hc => absurd (by decide) hc⟩ | refine ⟨fun _ => ?_, fun hc => absurd hc (by decide)⟩ | refine ⟨fun hc => absurd (by decide) hc, fun _ => ?_⟩); conv => whnf)
          try dsimp only
          refine ⟨18 * n, uk d i 0 x', V0, hV, rfl, n8, rfl, u0, fun wl3 hF3 hK3 hV3 => ?_⟩
          conv => whnf
          repeat ((first | refine ⟨zH_of _, ?_⟩ | refine ⟨trivial, ?_⟩ | refine ⟨rfl, ?_⟩ | refine ⟨fun hc => absurd hc (by decide), fun _ => ?_⟩ | refine ⟨fun _ => ?_, fun hc => absurd (by decide) hc⟩ | refine ⟨fun _ => ?_, fun hc => absurd hc (by decide)⟩ | refine ⟨fun hc => absurd (by decide) hc, fun _ => ?_⟩); conv => whnf)
          try dsimp only
          exact t119 wl3 (fun y hy => by rw [hF3 y hy, hF y hy]) (fun j hj => by rw [hK3 j (Or.inl hj), hK j hj]) hV3)
    have zero := up_ind (P := fun k => ∀ (wl' : Nat → Nat → Int64), (∀ y, y ≠ 60 → wl' y = wl y) → (∀ j, j < 18 * n → wl' 60 j = wl 60 j) → (∀ j, j < k → wl' 60 (18 * n + j) = lN 0) → Jm 12 [some (.ref 45), some (.int (nI x')), some (.int (nI y')), some (.int (nI z')), some (.int (nI (18 * n))), some (.int (nI k)), none, none, none, none] [] (GC ++ (GM ++ r), wi, wl') 0 0) 18 (fun k hk ih => by
      intro wl' hF hK hV
      refine hs 400 12 _ _ _ _ _ ?_
      conv => whnf
      repeat ((first | refine ⟨zH_of _, ?_⟩ | refine ⟨trivial, ?_⟩ | refine ⟨rfl, ?_⟩ | refine ⟨fun hc => absurd hc (by decide), fun _ => ?_⟩ | refine ⟨fun _ => ?_, fun hc => absurd (by decide) hc⟩ | refine ⟨fun _ => ?_, fun hc => absurd hc (by decide)⟩ | refine ⟨fun hc => absurd (by decide) hc, fun _ => ?_⟩); conv => whnf)
      try dsimp only
      rw [ltN (by omega) (by omega)]
      refine ⟨fun hc => ?_, fun hc => ?_⟩
      · obtain rfl : k = 18 := by omega
        conv => whnf
        repeat ((first | refine ⟨zH_of _, ?_⟩ | refine ⟨trivial, ?_⟩ | refine ⟨rfl, ?_⟩ | refine ⟨fun hc => absurd hc (by decide), fun _ => ?_⟩ | refine ⟨fun _ => ?_, fun hc => absurd (by decide) hc⟩ | refine ⟨fun _ => ?_, fun hc => absurd hc (by decide)⟩ | refine ⟨fun hc => absurd (by decide) hc, fun _ => ?_⟩); conv => whnf)
        try dsimp only
        refine ⟨d, 2, c, A, hS, ?_⟩
        conv => whnf
        repeat ((first | refine ⟨zH_of _, ?_⟩ | refine ⟨trivial, ?_⟩ | refine ⟨rfl, ?_⟩ | refine ⟨fun hc => absurd hc (by decide), fun _ => ?_⟩ | refine ⟨fun _ => ?_, fun hc => absurd (by decide) hc⟩ | refine ⟨fun _ => ?_, fun hc => absurd hc (by decide)⟩ | refine ⟨fun hc => absurd (by decide) hc, fun _ => ?_⟩); conv => whnf)
        try dsimp only
        exact rows 0 (Nat.zero_le _) wl' hF hK (lw_0 hV)
      · have ih := ih hc
        conv => whnf
        repeat ((first | refine ⟨zH_of _, ?_⟩ | refine ⟨trivial, ?_⟩ | refine ⟨rfl, ?_⟩ | refine ⟨fun hc => absurd hc (by decide), fun _ => ?_⟩ | refine ⟨fun _ => ?_, fun hc => absurd (by decide) hc⟩ | refine ⟨fun _ => ?_, fun hc => absurd hc (by decide)⟩ | refine ⟨fun hc => absurd (by decide) hc, fun _ => ?_⟩); conv => whnf)
        try dsimp only
        rw [nI_add]
        refine ⟨vp_in_nI (show 18 * n + k < 13122 by omega) (by decide), ?_⟩
        rw [nI_clamp (n := 18 * n + k) (by omega)]
        conv => whnf
        repeat ((first | refine ⟨zH_of _, ?_⟩ | refine ⟨trivial, ?_⟩ | refine ⟨rfl, ?_⟩ | refine ⟨fun hc => absurd hc (by decide), fun _ => ?_⟩ | refine ⟨fun _ => ?_, fun hc => absurd (by decide) hc⟩ | refine ⟨fun _ => ?_, fun hc => absurd hc (by decide)⟩ | refine ⟨fun hc => absurd (by decide) hc, fun _ => ?_⟩); conv => whnf)
        try dsimp only
        rw [nI_add]
        refine ih _ (fun y hy => by rw [z_up_ne hy, hF y hy]) (fun j hj => by rw [z_up_nei (by omega), hK j hj]) (fun j hj => ?_)
        by_cases e : j = k
        · rw [e, z_up_eq]
        · rw [z_up_nei (by omega)]
          exact hV j (by omega))
    refine hs 400 0 _ _ _ _ _ ?_
    conv => whnf
    repeat ((first | refine ⟨zH_of _, ?_⟩ | refine ⟨trivial, ?_⟩ | refine ⟨rfl, ?_⟩ | refine ⟨fun hc => absurd hc (by decide), fun _ => ?_⟩ | refine ⟨fun _ => ?_, fun hc => absurd (by decide) hc⟩ | refine ⟨fun _ => ?_, fun hc => absurd hc (by decide)⟩ | refine ⟨fun hc => absurd (by decide) hc, fun _ => ?_⟩); conv => whnf)
    try dsimp only
    rw [hM.1, pk_mul, ← hn]
    exact zero 0 (Nat.zero_le _) wl (fun _ _ => rfl) (fun _ _ => rfl) (fun j hj => absurd hj (Nat.not_lt_zero j))

