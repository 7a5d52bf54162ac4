/-! the reference: sheds -/
theorem uN_m : ∀ w, w < 3 → ∀ b, b < 3 → 1 ≤ b → (w + b) % 3 = uN w b ∧ (w + 3 - b) % 3 = uN w (3 - b) := by decide
theorem shd_sf {q : Nat} {A : Nat → Nat → Nat} {c w b j : Nat} (hj : j < 40) (hb : 1 ≤ b) (hb3 : b < 3) (hc : j < c) : sfB q A c (w * 80 + (b - 1) * 40 + j) = shdB q A w (uN w b) j := by
  rw [sf_at hj hb hb3, decide_eq_true hc, Bool.true_and]
  rfl
def sp_X12_shedsOne : zSp := fun av w K => match av with
  | [.ref o] => o = 45 ∧ zH w.1 ∧ ∃ d q c A, MS w.2.1 d q c A ∧ ZS d c A ∧ (¬ sf q A c < 240 → ∀ wi' : Nat → Nat → Int32, FQ w.2.1 wi' → K (some (.int (mI 1))) (w.1, wi', w.2.2)) ∧ (sf q A c < 240 → ∀ wi' : Nat → Nat → Int32, FQX w.2.1 wi' → MS wi' d q (c - 1) (sfA q A c) → K (some (.int (nI (sf q A c / 80)))) (w.1, wi', w.2.2))
  | _ => False
def rm_X12_shedsOne : Room := { frames := 4, cells := 0, slots := 0, locals := 100 }
def M_X12_shedsOne : zM := (k_X12_shedsOne, f_X12, [(266, 4, 10, 5, 0, 0, sp_X12_isShed)], ([], [], []), [], [(2, [true, true, false, false, false, false]), (9, [true, true, true, false, false, false]), (32, [true, true, true, true, true, true])], 1, false, (false, 0, fun _ => 0), (0, 0))
theorem ca_X12_shedsOne_0 (l : Launch) : z_cok l RX12 (headSpec (.code yX12_shedsOne cX12_shedsOne 6 (some .int) :: zTT) rm_X12_shedsOne).room (266, 4, 10, 5, 0, 0, sp_X12_isShed) := z_ca4 (c_X12_isShed l) mb_X12_isShed ⟨_, rfl, rfl⟩ wt_1467 wt_1469 wt_64 (by decide)
theorem O_X12_shedsOne (l : Launch) : z_OK l RX12 cX12_shedsOne (headSpec (.code yX12_shedsOne cX12_shedsOne 6 (some .int) :: zTT) rm_X12_shedsOne).room M_X12_shedsOne := ⟨ok_X12_shedsOne, fo_X12, List.forall_mem_cons.mpr ⟨ca_X12_shedsOne_0 l, fun _ h => absurd h List.not_mem_nil⟩, fun _ h => absurd h List.not_mem_nil, fun _ h => absurd h List.not_mem_nil, fun _ h => absurd h List.not_mem_nil, fun _ h => absurd h List.not_mem_nil, rfl, rfl⟩
theorem c_X12_shedsOne (l : Launch) : z_CS l yX12_shedsOne cX12_shedsOne 6 (some .int) rm_X12_shedsOne sp_X12_shedsOne := by
  refine z_meth (by decide) (Or.inr (Or.inl ⟨rfl, rfl⟩)) (fun h => by cases h) rfl (O_X12_shedsOne l) ?_
  intro av w K h
  match av, h with
  | [.ref o], h =>
    obtain ⟨rfl, ⟨r, hG⟩, d, q, c, A, hS, hZ, h0, h1⟩ := h
    obtain ⟨G, wi, wl⟩ := w
    subst hG
    try dsimp only at h0 h1 hS
    have h40 := ms_40 hS
    refine ⟨Nat.le_of_ble_eq_true rfl, fun Jm hs => ?_⟩
    have loop := up_ind (P := fun w => ∀ wi' : Nat → Nat → Int32, FQ wi wi' → (∀ n, n < w * 80 → ¬ sfB q A c n = true) → Jm 2 [some (.ref 45), some (.int (nI w)), none, none, none, none] [] (GC ++ (GM ++ r), wi', wl) 0 0) 3 (fun w hw ih => by
      intro wi' hF hno
      refine hs 400 2 _ _ _ _ _ ?_
      conv => whnf
      repeat ((first | refine ⟨zH_of _, ?_⟩ | refine ⟨trivial, ?_⟩ | refine ⟨rfl, ?_⟩ | refine ⟨fun hc => absurd hc (by decide), fun _ => ?_⟩ | refine ⟨fun _ => ?_, fun hc => absurd (by decide) hc⟩ | refine ⟨fun _ => ?_, fun hc => absurd hc (by decide)⟩ | refine ⟨fun hc => absurd (by decide) hc, fun _ => ?_⟩); conv => whnf)
      try dsimp only
      rw [ltN (by omega) (by omega)]
      refine ⟨fun hc => ?_, fun hc => ?_⟩
      · have e : sf q A c = 240 := fi_none (fun n hn => hno n (by omega))
        conv => whnf
        repeat ((first | refine ⟨zH_of _, ?_⟩ | refine ⟨trivial, ?_⟩ | refine ⟨rfl, ?_⟩ | refine ⟨fun hc => absurd hc (by decide), fun _ => ?_⟩ | refine ⟨fun _ => ?_, fun hc => absurd (by decide) hc⟩ | refine ⟨fun _ => ?_, fun hc => absurd hc (by decide)⟩ | refine ⟨fun hc => absurd (by decide) hc, fun _ => ?_⟩); conv => whnf)
        try dsimp only
        exact h0 (by omega) wi' hF
      · have ihn := ih hc
        have loopb := up_ind (P := fun b => 1 ≤ b → ∀ wi' : Nat → Nat → Int32, FQ wi wi' → (∀ n, n < w * 80 + (b - 1) * 40 → ¬ sfB q A c n = true) → Jm 9 [some (.ref 45), some (.int (nI w)), some (.int (nI b)), none, none, none] [] (GC ++ (GM ++ r), wi', wl) 0 0) 3 (fun b hb ihb => by
          intro hb1 wi' hF hno
          refine hs 400 9 _ _ _ _ _ ?_
          conv => whnf
          repeat ((first | refine ⟨zH_of _, ?_⟩ | refine ⟨trivial, ?_⟩ | refine ⟨rfl, ?_⟩ | refine ⟨fun hc => absurd hc (by decide), fun _ => ?_⟩ | refine ⟨fun _ => ?_, fun hc => absurd (by decide) hc⟩ | refine ⟨fun _ => ?_, fun hc => absurd hc (by decide)⟩ | refine ⟨fun hc => absurd (by decide) hc, fun _ => ?_⟩); conv => whnf)
          try dsimp only
          rw [ltN (by omega) (by omega)]
          refine ⟨fun hc2 => ?_, fun hc2 => ?_⟩
          · conv => whnf
            repeat ((first | refine ⟨zH_of _, ?_⟩ | refine ⟨trivial, ?_⟩ | refine ⟨rfl, ?_⟩ | refine ⟨fun hc => absurd hc (by decide), fun _ => ?_⟩ | refine ⟨fun _ => ?_, fun hc => absurd (by decide) hc⟩ | refine ⟨fun _ => ?_, fun hc => absurd hc (by decide)⟩ | refine ⟨fun hc => absurd (by decide) hc, fun _ => ?_⟩); conv => whnf)
            try dsimp only
            rw [nI_add]
            exact ihn wi' hF (fun n hn => hno n (by omega))
          · have ihbn := ihb hc2 (by omega)
            rw [show b + 1 - 1 = b by omega] at ihbn
            have um := uN_m w hc b hc2 hb1
            have u3 := uN_lt hc b
            have v3 := uN_lt hc (3 - b)
            have loopj := up_ind (P := fun j => ∀ wi' : Nat → Nat → Int32, FQ wi wi' → (∀ n, n < w * 80 + (b - 1) * 40 + j → ¬ sfB q A c n = true) → Jm 32 [some (.ref 45), some (.int (nI w)), some (.int (nI b)), some (.int (nI (uN w b))), some (.int (nI (uN w (3 - b)))), some (.int (nI j))] [] (GC ++ (GM ++ r), wi', wl) 0 0) c (fun j hj ihj => by
              intro wi' hF hno
              have S2 := FQ_ms hF hS
              refine hs 400 32 _ _ _ _ _ ?_
              conv => whnf
              repeat ((first | refine ⟨zH_of _, ?_⟩ | refine ⟨trivial, ?_⟩ | refine ⟨rfl, ?_⟩ | refine ⟨fun hc => absurd hc (by decide), fun _ => ?_⟩ | refine ⟨fun _ => ?_, fun hc => absurd (by decide) hc⟩ | refine ⟨fun _ => ?_, fun hc => absurd hc (by decide)⟩ | refine ⟨fun hc => absurd (by decide) hc, fun _ => ?_⟩); conv => whnf)
              try dsimp only
              rw [ms_c S2, ltN (by omega) (by omega)]
              refine ⟨fun hc3 => ?_, fun hc3 => ?_⟩
              · obtain hjc : j = c := by omega
                conv => whnf
                repeat ((first | refine ⟨zH_of _, ?_⟩ | refine ⟨trivial, ?_⟩ | refine ⟨rfl, ?_⟩ | refine ⟨fun hc => absurd hc (by decide), fun _ => ?_⟩ | refine ⟨fun _ => ?_, fun hc => absurd (by decide) hc⟩ | refine ⟨fun _ => ?_, fun hc => absurd hc (by decide)⟩ | refine ⟨fun hc => absurd (by decide) hc, fun _ => ?_⟩); conv => whnf)
                try dsimp only
                rw [nI_add]
                refine ihbn wi' hF (fun n hn => ?_)
                rcases Nat.lt_or_ge n (w * 80 + (b - 1) * 40 + j) with g | g
                · exact hno n g
                · exact sf_far (by omega)
              · have ihj := ihj hc3
                have sfe := shd_sf (q := q) (A := A) (w := w) (b := b) (j := j) (c := c) (by omega) hb1 hc2 hc3
                conv => whnf
                repeat ((first | refine ⟨zH_of _, ?_⟩ | refine ⟨trivial, ?_⟩ | refine ⟨rfl, ?_⟩ | refine ⟨fun hc => absurd hc (by decide), fun _ => ?_⟩ | refine ⟨fun _ => ?_, fun hc => absurd (by decide) hc⟩ | refine ⟨fun _ => ?_, fun hc => absurd hc (by decide)⟩ | refine ⟨fun hc => absurd (by decide) hc, fun _ => ?_⟩); conv => whnf)
                try dsimp only
                refine ⟨d, q, c, A, j, w, uN w b, uN w (3 - b), S2, hZ, rfl, hc3, rfl, hc, rfl, u3, rfl, v3, fun hn wi2 hF2 => ?_, fun hy wi2 hF2 S3 => ?_⟩
                · conv => whnf
                  repeat ((first | refine ⟨zH_of _, ?_⟩ | refine ⟨trivial, ?_⟩ | refine ⟨rfl, ?_⟩ | refine ⟨fun hc => absurd hc (by decide), fun _ => ?_⟩ | refine ⟨fun _ => ?_, fun hc => absurd (by decide) hc⟩ | refine ⟨fun _ => ?_, fun hc => absurd hc (by decide)⟩ | refine ⟨fun hc => absurd (by decide) hc, fun _ => ?_⟩); conv => whnf)
                  try dsimp only
                  rw [nI_add]
                  refine ihj wi2 (FQ_trans hF hF2) (fun n hn2 => ?_)
                  rcases Nat.lt_or_ge n (w * 80 + (b - 1) * 40 + j) with g | g
                  · exact hno n g
                  · rw [show n = w * 80 + (b - 1) * 40 + j by omega, sfe]
                    exact hn
                · have e : sf q A c = w * 80 + (b - 1) * 40 + j := fi_at (by omega) (by rw [sfe]; exact hy) hno
                  have eA : sfA q A c = shdA q A w (uN w b) (uN w (3 - b)) j := by
                    unfold sfA
                    rw [e, show (w * 80 + (b - 1) * 40 + j) / 80 = w by omega, show (w * 80 + (b - 1) * 40 + j) / 40 % 2 + 1 = b by omega, show (w * 80 + (b - 1) * 40 + j) % 40 = j by omega]
                    rfl
                  rw [← eA] at S3
                  have h1 := h1 (by omega) wi2 ⟨fun y g1 g2 g3 g4 => by rw [hF2.1 y g1 g2 g3 g4, hF.1 y g1 g3 g4], fun i g1 g2 => by rw [hF2.2 i g1 g2, hF.2 i g2]⟩ S3
                  rw [e, show (w * 80 + (b - 1) * 40 + j) / 80 = w by omega] at h1
                  conv => whnf
                  repeat ((first | refine ⟨zH_of _, ?_⟩ | refine ⟨trivial, ?_⟩ | refine ⟨rfl, ?_⟩ | refine ⟨fun hc => absurd hc (by decide), fun _ => ?_⟩ | refine ⟨fun _ => ?_, fun hc => absurd (by decide) hc⟩ | refine ⟨fun _ => ?_, fun hc => absurd hc (by decide)⟩ | refine ⟨fun hc => absurd (by decide) hc, fun _ => ?_⟩); conv => whnf)
                  try dsimp only
                  exact h1)
            conv => whnf
            repeat ((first | refine ⟨zH_of _, ?_⟩ | refine ⟨trivial, ?_⟩ | refine ⟨rfl, ?_⟩ | refine ⟨fun hc => absurd hc (by decide), fun _ => ?_⟩ | refine ⟨fun _ => ?_, fun hc => absurd (by decide) hc⟩ | refine ⟨fun _ => ?_, fun hc => absurd hc (by decide)⟩ | refine ⟨fun hc => absurd (by decide) hc, fun _ => ?_⟩); conv => whnf)
            try dsimp only
            refine ⟨n30, ?_⟩
            rw [nI_add, z_remN (by omega) (by decide) (by decide), um.1]
            conv => whnf
            repeat ((first | refine ⟨zH_of _, ?_⟩ | refine ⟨trivial, ?_⟩ | refine ⟨rfl, ?_⟩ | refine ⟨fun hc => absurd hc (by decide), fun _ => ?_⟩ | refine ⟨fun _ => ?_, fun hc => absurd (by decide) hc⟩ | refine ⟨fun _ => ?_, fun hc => absurd hc (by decide)⟩ | refine ⟨fun hc => absurd (by decide) hc, fun _ => ?_⟩); conv => whnf)
            try dsimp only
            rw [nI_add, pk_sub (by omega)]
            refine ⟨n30, ?_⟩
            rw [z_remN (by omega) (by decide) (by decide), um.2]
            conv => whnf
            repeat ((first | refine ⟨zH_of _, ?_⟩ | refine ⟨trivial, ?_⟩ | refine ⟨rfl, ?_⟩ | refine ⟨fun hc => absurd hc (by decide), fun _ => ?_⟩ | refine ⟨fun _ => ?_, fun hc => absurd (by decide) hc⟩ | refine ⟨fun _ => ?_, fun hc => absurd hc (by decide)⟩ | refine ⟨fun hc => absurd (by decide) hc, fun _ => ?_⟩); conv => whnf)
            try dsimp only
            exact loopj 0 (Nat.zero_le _) wi' hF hno)
        conv => whnf
        repeat ((first | refine ⟨zH_of _, ?_⟩ | refine ⟨trivial, ?_⟩ | refine ⟨rfl, ?_⟩ | refine ⟨fun hc => absurd hc (by decide), fun _ => ?_⟩ | refine ⟨fun _ => ?_, fun hc => absurd (by decide) hc⟩ | refine ⟨fun _ => ?_, fun hc => absurd hc (by decide)⟩ | refine ⟨fun hc => absurd (by decide) hc, fun _ => ?_⟩); conv => whnf)
        try dsimp only
        exact loopb 1 (by omega) (Nat.le_refl 1) wi' hF (fun n hn => hno n (by omega)))
    exact hs 400 0 _ _ _ _ _ (loop 0 (Nat.zero_le _) wi (FQ_refl wi) (fun n hn => absurd hn (by omega)))
def FZ (wi wi' : Nat → Nat → Int32) : Prop := (∀ y, y ≠ 45 → y ≠ 47 → y ≠ 54 → y ≠ 55 → y ≠ 56 → wi' y = wi y) ∧ ∀ i, i ≠ 2 → i ≠ 24 → wi' 45 i = wi 45 i
def sp_X12_sheds : zSp := fun av w K => match av with
  | [.ref o] => o = 45 ∧ zH w.1 ∧ ∃ T, MT w.2.1 w.2.2 T ∧ ZT T ∧ ∀ wi' wl', FrM w.2.1 w.2.2 wi' wl' → MT wi' wl' (st_sheds T).1 → K (some (.int (st_sheds T).2)) (w.1, wi', wl')
  | _ => False
def rm_X12_sheds : Room := { frames := 5, cells := 0, slots := 0, locals := 125 }
def M_X12_sheds : zM := (k_X12_sheds, f_X12, [(270, 4, 10, 1, 0, 0, sp_X12_shedsOne), (192, 4, 10, 2, 0, 0, sp_X12_tell)], ([], [], []), [], [(7, [true, true, false]), (32, [true, true, true]), (65, [true, true, true])], 1, false, (false, 0, fun _ => 0), (0, 0))
theorem ca_X12_sheds_0 (l : Launch) : z_cok l RX12 (headSpec (.code yX12_sheds cX12_sheds 3 (some .int) :: zTT) rm_X12_sheds).room (270, 4, 10, 1, 0, 0, sp_X12_shedsOne) := z_ca4 (c_X12_shedsOne l) mb_X12_shedsOne ⟨_, rfl, rfl⟩ wt_1463 wt_1465 wt_63 (by decide)
theorem ca_X12_sheds_1 (l : Launch) : z_cok l RX12 (headSpec (.code yX12_sheds cX12_sheds 3 (some .int) :: zTT) rm_X12_sheds).room (192, 4, 10, 2, 0, 0, sp_X12_tell) := z_ca4 (c_X12_tell l) mb_X12_tell ⟨_, rfl, rfl⟩ wt_1369 wt_1371 wt_49 (by decide)
theorem O_X12_sheds (l : Launch) : z_OK l RX12 cX12_sheds (headSpec (.code yX12_sheds cX12_sheds 3 (some .int) :: zTT) rm_X12_sheds).room M_X12_sheds := ⟨ok_X12_sheds, fo_X12, List.forall_mem_cons.mpr ⟨ca_X12_sheds_0 l, List.forall_mem_cons.mpr ⟨ca_X12_sheds_1 l, fun _ h => absurd h List.not_mem_nil⟩⟩, fun _ h => absurd h List.not_mem_nil, fun _ h => absurd h List.not_mem_nil, fun _ h => absurd h List.not_mem_nil, fun _ h => absurd h List.not_mem_nil, rfl, rfl⟩
theorem c_X12_sheds (l : Launch) : z_CS l yX12_sheds cX12_sheds 3 (some .int) rm_X12_sheds sp_X12_sheds := by
  refine z_meth (by decide) (Or.inr (Or.inl ⟨rfl, rfl⟩)) (fun h => by cases h) rfl (O_X12_sheds l) ?_
  intro av w K h
  match av, h with
  | [.ref o], h =>
    obtain ⟨rfl, ⟨r, hG⟩, ⟨d, q, c, A, kp, tx, tl⟩, hC, hZ, h⟩ := h
    obtain ⟨G, wi, wl⟩ := w
    subst hG
    try dsimp only at h hC hZ
    have hC := mt_fld (i := 11) (v := nI 0) hC (by decide)
    have hF0 : FrM wi wl (z_up wi 45 11 (nI 0)) wl := fm_fld
    refine ⟨Nat.le_of_ble_eq_true rfl, fun Jm hs => ?_⟩
    unfold st_sheds shT at h
    dsimp only at h
    refine hs 400 0 _ _ _ _ _ ?_
    conv => whnf
    repeat ((first | refine ⟨zH_of _, ?_⟩ | refine ⟨trivial, ?_⟩ | refine ⟨rfl, ?_⟩ | refine ⟨fun hc => absurd hc (by decide), fun _ => ?_⟩ | refine ⟨fun _ => ?_, fun hc => absurd (by decide) hc⟩ | refine ⟨fun _ => ?_, fun hc => absurd hc (by decide)⟩ | refine ⟨fun hc => absurd (by decide) hc, fun _ => ?_⟩); conv => whnf)
    try dsimp only
    generalize z_up wi 45 11 (nI 0) = wi0 at *
    have hS := mt_S hC
    have h40 := ms_40 hS
    have hZ1 : ZS d c A := hZ.1
    have hW := shAll_W (q := q) 40 c A (fun _ => 0) 0 0 (fun _ => Nat.le_refl _)
    generalize hR : shAll q 40 (c, A, fun _ => 0, 0) = R at h hW
    have tell := up_ind (P := fun k => ∀ wi1 : Nat → Nat → Int32, FZ wi0 wi1 → MS wi1 d q R.1 R.2.1 → (∀ t, t < 3 → wi1 56 t = nI (R.2.2.1 t)) → ∀ wi' wl', TF wi1 wl wi' wl' → TM wi' wl' k (t3 (lN (R.2.2.1 0)) (lN (R.2.2.1 1)) (lN (R.2.2.1 2))) → Jm 65 [some (.ref 45), some (.int (nI R.2.2.2)), some (.int (nI k))] [] (GC ++ (GM ++ r), wi', wl') 0 0) 3 (fun k hk ih => by
      intro wi1 hF hS1 hW1 wi' wl' T1 M1
      refine hs 400 65 _ _ _ _ _ ?_
      conv => whnf
      repeat ((first | refine ⟨zH_of _, ?_⟩ | refine ⟨trivial, ?_⟩ | refine ⟨rfl, ?_⟩ | refine ⟨fun hc => absurd hc (by decide), fun _ => ?_⟩ | refine ⟨fun _ => ?_, fun hc => absurd (by decide) hc⟩ | refine ⟨fun _ => ?_, fun hc => absurd hc (by decide)⟩ | refine ⟨fun hc => absurd (by decide) hc, fun _ => ?_⟩); conv => whnf)
      try dsimp only
      rw [ltN (by omega) (by omega)]
      refine ⟨fun hc => ?_, fun hc => ?_⟩
      · obtain rfl : k = 3 := by omega
        have hX : MT wi1 wl (d, q, R.1, R.2.1, kp, tx, tl) := mt_now hC hS1 (fun i hi => hF.2 i (by omega) (by omega)) (fun y hy => hF.1 y (by omega) (by omega) (by omega) (by omega) (by omega)) rfl
        conv => whnf
        repeat ((first | refine ⟨zH_of _, ?_⟩ | refine ⟨trivial, ?_⟩ | refine ⟨rfl, ?_⟩ | refine ⟨fun hc => absurd hc (by decide), fun _ => ?_⟩ | refine ⟨fun _ => ?_, fun hc => absurd (by decide) hc⟩ | refine ⟨fun _ => ?_, fun hc => absurd hc (by decide)⟩ | refine ⟨fun hc => absurd (by decide) hc, fun _ => ?_⟩); conv => whnf)
        try dsimp only
        exact h wi' wl' (FrM_trans hF0 (FrM_trans (fun y hy => ⟨hF.1 y (by omega) (by omega) (by omega) (by omega) (by omega), rfl⟩) (tf_fr T1))) (tf_mt T1 hX M1)
      · have ih := ih hc
        have wk := hW k
        conv => whnf
        repeat ((first | refine ⟨zH_of _, ?_⟩ | refine ⟨trivial, ?_⟩ | refine ⟨rfl, ?_⟩ | refine ⟨fun hc => absurd hc (by decide), fun _ => ?_⟩ | refine ⟨fun _ => ?_, fun hc => absurd (by decide) hc⟩ | refine ⟨fun _ => ?_, fun hc => absurd hc (by decide)⟩ | refine ⟨fun hc => absurd (by decide) hc, fun _ => ?_⟩); conv => whnf)
        try dsimp only
        refine ⟨vp_in_nI (show k < 3 from hc) (by decide), ?_⟩
        rw [nI_clamp (n := k) (by omega), T1.1 56 (by decide), hW1 k hc]
        conv => whnf
        repeat ((first | refine ⟨zH_of _, ?_⟩ | refine ⟨trivial, ?_⟩ | refine ⟨rfl, ?_⟩ | refine ⟨fun hc => absurd hc (by decide), fun _ => ?_⟩ | refine ⟨fun _ => ?_, fun hc => absurd (by decide) hc⟩ | refine ⟨fun _ => ?_, fun hc => absurd hc (by decide)⟩ | refine ⟨fun hc => absurd (by decide) hc, fun _ => ?_⟩); conv => whnf)
        try dsimp only
        rw [nI_l (by omega)]
        refine ⟨k, _, M1, by omega, fun wi2 wl2 a1 a2 a3 M2 => ?_⟩
        conv => whnf
        repeat ((first | refine ⟨zH_of _, ?_⟩ | refine ⟨trivial, ?_⟩ | refine ⟨rfl, ?_⟩ | refine ⟨fun hc => absurd hc (by decide), fun _ => ?_⟩ | refine ⟨fun _ => ?_, fun hc => absurd (by decide) hc⟩ | refine ⟨fun _ => ?_, fun hc => absurd hc (by decide)⟩ | refine ⟨fun hc => absurd (by decide) hc, fun _ => ?_⟩); conv => whnf)
        try dsimp only
        rw [nI_add]
        refine ih wi1 hF hS1 hW1 wi2 wl2 (tf_trans T1 (tf_tell a1 a2 a3)) (tm_same M2 ?_)
        rcases lt3 hc with rfl | rfl | rfl <;> rfl)
    have fin : ∀ (wi' : Nat → Nat → Int32), FZ wi0 wi' → MS wi' d q R.1 R.2.1 → (∀ t, t < 3 → wi' 56 t = nI (R.2.2.1 t)) → Jm 32 [some (.ref 45), some (.int (nI R.2.2.2)), some (.int (mI 1))] [] (GC ++ (GM ++ r), wi', wl) 0 0 := fun wi' hF hS' hW' => by
      refine hs 400 32 _ _ _ _ _ ?_
      conv => whnf
      repeat ((first | refine ⟨zH_of _, ?_⟩ | refine ⟨trivial, ?_⟩ | refine ⟨rfl, ?_⟩ | refine ⟨fun hc => absurd hc (by decide), fun _ => ?_⟩ | refine ⟨fun _ => ?_, fun hc => absurd (by decide) hc⟩ | refine ⟨fun _ => ?_, fun hc => absurd hc (by decide)⟩ | refine ⟨fun hc => absurd (by decide) hc, fun _ => ?_⟩); conv => whnf)
      try dsimp only
      exact tell 0 (Nat.zero_le _) wi' hF hS' hW' _ wl (tf_fld (by decide)) tm_0
    have step := up_ind (P := fun k => ∀ (wi' : Nat → Nat → Int32) (c' : Nat) (A' : Nat → Nat → Nat) (W : Nat → Nat), c' + k ≤ 40 → FZ wi0 wi' → MS wi' d q c' A' → ZS d c' A' → (∀ t, W t ≤ k) → (∀ t, t < 3 → wi' 56 t = nI (W t)) → shAll q (40 - k) (c', A', W, k) = R → (¬ sf q A' c' < 240 → ∀ wi2, FQ wi' wi2 → Jm 32 [some (.ref 45), some (.int (nI k)), some (.int (mI 1))] [] (GC ++ (GM ++ r), wi2, wl) 0 0) ∧ (sf q A' c' < 240 → ∀ wi2, FQX wi' wi2 → MS wi2 d q (c' - 1) (sfA q A' c') → Jm 32 [some (.ref 45), some (.int (nI k)), some (.int (nI (sf q A' c' / 80)))] [] (GC ++ (GM ++ r), wi2, wl) 0 0)) 40 (fun k hk ih => by
      intro wi' c' A' W hck hF hS' hZ' hWk hW' hR'
      have stop : ¬ sf q A' c' < 240 → R = (c', A', W, k) := fun hn => by
        rcases Nat.lt_or_ge k 40 with g | g
        · rw [show 40 - k = 40 - (k + 1) + 1 by omega, shAll, if_neg hn] at hR'
          exact hR'.symm
        · rw [show 40 - k = 0 by omega] at hR'
          exact hR'.symm
      refine ⟨fun hn wi2 hF2 => ?_, fun hy wi2 hF2 S2 => ?_⟩
      · have e := stop hn
        subst e
        exact fin wi2 ⟨fun y g1 g2 g3 g4 g5 => by rw [hF2.1 y g1 g3 g4, hF.1 y g1 g2 g3 g4 g5], fun i g1 g2 => by rw [hF2.2 i g2, hF.2 i g1 g2]⟩ (FQ_ms hF2 hS') (fun t ht => by rw [hF2.1 56 (by decide) (by decide) (by decide)]; exact hW' t ht)
      · have k40 : k < 40 := by
          rcases Nat.lt_or_ge k 40 with g | g
          · exact g
          · exact absurd (fi_lt hy).1 (sf_far (by omega))
        have hy2 := (fi_lt hy).1
        have s80 : sf q A' c' / 80 < 3 := by omega
        have ihn := ih k40
        rw [show 40 - k = 40 - (k + 1) + 1 by omega, shAll, if_pos hy] at hR'
        have c1 : 1 ≤ c' := by
          rcases Nat.eq_zero_or_pos c' with g | g
          · exact absurd hy2 (sf_far (by omega))
          · exact g
        have ws := hWk (sf q A' c' / 80)
        have e56 : wi2 56 (sf q A' c' / 80) = nI (W (sf q A' c' / 80)) := by rw [hF2.1 56 (by decide) (by decide) (by decide) (by decide)]; exact hW' _ s80
        have hZ2 := sfA_z hZ' hy
        have nx2 := ihn (z_up wi2 56 (sf q A' c' / 80) (nI (W (sf q A' c' / 80) + 1))) (c' - 1) (sfA q A' c') (setp W (sf q A' c' / 80) (W (sf q A' c' / 80) + 1)) (by omega) ⟨fun y g1 g2 g3 g4 g5 => by rw [z_up_ne g5, hF2.1 y g1 g2 g3 g4, hF.1 y g1 g2 g3 g4 g5], fun i g1 g2 => by rw [z_up_ne (by decide), hF2.2 i g1 g2, hF.2 i g1 g2]⟩ (ms_fr S2 (z_up_ne (by decide)) (by rw [z_up_ne (by decide)]) (by rw [z_up_ne (by decide)]) (z_up_ne (by decide))) hZ2 (fun t => by
          have := hWk t
          unfold setp
          split <;> omega) (fun t ht => by
          unfold setp
          by_cases e : t = sf q A' c' / 80
          · rw [if_pos e, e, z_up_eq]
          · rw [if_neg e, z_up_nei e, hF2.1 56 (by decide) (by decide) (by decide) (by decide)]
            exact hW' t ht) hR'
        refine hs 400 32 _ _ _ _ _ ?_
        conv => whnf
        repeat ((first | refine ⟨zH_of _, ?_⟩ | refine ⟨trivial, ?_⟩ | refine ⟨rfl, ?_⟩ | refine ⟨fun hc => absurd hc (by decide), fun _ => ?_⟩ | refine ⟨fun _ => ?_, fun hc => absurd (by decide) hc⟩ | refine ⟨fun _ => ?_, fun hc => absurd hc (by decide)⟩ | refine ⟨fun hc => absurd (by decide) hc, fun _ => ?_⟩); conv => whnf)
        try dsimp only
        refine ⟨fun z => absurd z (nI_nm (by omega)), fun _ => ?_⟩
        conv => whnf
        repeat ((first | refine ⟨zH_of _, ?_⟩ | refine ⟨trivial, ?_⟩ | refine ⟨rfl, ?_⟩ | refine ⟨fun hc => absurd hc (by decide), fun _ => ?_⟩ | refine ⟨fun _ => ?_, fun hc => absurd (by decide) hc⟩ | refine ⟨fun _ => ?_, fun hc => absurd hc (by decide)⟩ | refine ⟨fun hc => absurd (by decide) hc, fun _ => ?_⟩); conv => whnf)
        try dsimp only
        refine ⟨vp_in_nI s80 (by decide), ?_⟩
        rw [nI_clamp (n := sf q A' c' / 80) (by omega), e56]
        conv => whnf
        repeat ((first | refine ⟨zH_of _, ?_⟩ | refine ⟨trivial, ?_⟩ | refine ⟨rfl, ?_⟩ | refine ⟨fun hc => absurd hc (by decide), fun _ => ?_⟩ | refine ⟨fun _ => ?_, fun hc => absurd (by decide) hc⟩ | refine ⟨fun _ => ?_, fun hc => absurd hc (by decide)⟩ | refine ⟨fun hc => absurd (by decide) hc, fun _ => ?_⟩); conv => whnf)
        try dsimp only
        refine ⟨vp_in_nI s80 (by decide), ?_⟩
        rw [nI_clamp (n := sf q A' c' / 80) (by omega), nI_add]
        conv => whnf
        repeat ((first | refine ⟨zH_of _, ?_⟩ | refine ⟨trivial, ?_⟩ | refine ⟨rfl, ?_⟩ | refine ⟨fun hc => absurd hc (by decide), fun _ => ?_⟩ | refine ⟨fun _ => ?_, fun hc => absurd (by decide) hc⟩ | refine ⟨fun _ => ?_, fun hc => absurd hc (by decide)⟩ | refine ⟨fun hc => absurd (by decide) hc, fun _ => ?_⟩); conv => whnf)
        try dsimp only
        refine ⟨d, q, c' - 1, sfA q A' c', ms_fr S2 (z_up_ne (by decide)) (by rw [z_up_ne (by decide)]) (by rw [z_up_ne (by decide)]) (z_up_ne (by decide)), hZ2, fun hn wi3 hF3 => ?_, fun hy3 wi3 hF3 S3 => ?_⟩
        · have j := nx2.1 hn wi3 hF3
          conv => whnf
          repeat ((first | refine ⟨zH_of _, ?_⟩ | refine ⟨trivial, ?_⟩ | refine ⟨rfl, ?_⟩ | refine ⟨fun hc => absurd hc (by decide), fun _ => ?_⟩ | refine ⟨fun _ => ?_, fun hc => absurd (by decide) hc⟩ | refine ⟨fun _ => ?_, fun hc => absurd hc (by decide)⟩ | refine ⟨fun hc => absurd (by decide) hc, fun _ => ?_⟩); conv => whnf)
          try dsimp only
          rw [nI_add]
          exact j
        · have j := nx2.2 hy3 wi3 hF3 S3
          conv => whnf
          repeat ((first | refine ⟨zH_of _, ?_⟩ | refine ⟨trivial, ?_⟩ | refine ⟨rfl, ?_⟩ | refine ⟨fun hc => absurd hc (by decide), fun _ => ?_⟩ | refine ⟨fun _ => ?_, fun hc => absurd (by decide) hc⟩ | refine ⟨fun _ => ?_, fun hc => absurd hc (by decide)⟩ | refine ⟨fun hc => absurd (by decide) hc, fun _ => ?_⟩); conv => whnf)
          try dsimp only
          rw [nI_add]
          exact j)
    have zero := up_ind (P := fun k => ∀ wi' : Nat → Nat → Int32, (∀ y, y ≠ 56 → wi' y = wi0 y) → (∀ t, t < k → wi' 56 t = nI 0) → Jm 7 [some (.ref 45), some (.int (nI k)), none] [] (GC ++ (GM ++ r), wi', wl) 0 0) 3 (fun k hk ih => by
      intro wi' hF hX
      refine hs 400 7 _ _ _ _ _ ?_
      conv => whnf
      repeat ((first | refine ⟨zH_of _, ?_⟩ | refine ⟨trivial, ?_⟩ | refine ⟨rfl, ?_⟩ | refine ⟨fun hc => absurd hc (by decide), fun _ => ?_⟩ | refine ⟨fun _ => ?_, fun hc => absurd (by decide) hc⟩ | refine ⟨fun _ => ?_, fun hc => absurd hc (by decide)⟩ | refine ⟨fun hc => absurd (by decide) hc, fun _ => ?_⟩); conv => whnf)
      try dsimp only
      rw [ltN (by omega) (by omega)]
      refine ⟨fun hc => ?_, fun hc => ?_⟩
      · obtain rfl : k = 3 := by omega
        have S1 : MS wi' d q c A := ms_fr hS (hF 46 (by decide)) (by rw [hF 45 (by decide)]) (by rw [hF 45 (by decide)]) (hF 47 (by decide))
        have st := step 0 (Nat.zero_le _) wi' c A (fun _ => 0) (by omega) ⟨fun y _ _ _ _ g => hF y g, fun i _ _ => by rw [hF 45 (by decide)]⟩ S1 hZ1 (fun _ => Nat.le_refl 0) hX hR
        conv => whnf
        repeat ((first | refine ⟨zH_of _, ?_⟩ | refine ⟨trivial, ?_⟩ | refine ⟨rfl, ?_⟩ | refine ⟨fun hc => absurd hc (by decide), fun _ => ?_⟩ | refine ⟨fun _ => ?_, fun hc => absurd (by decide) hc⟩ | refine ⟨fun _ => ?_, fun hc => absurd hc (by decide)⟩ | refine ⟨fun hc => absurd (by decide) hc, fun _ => ?_⟩); conv => whnf)
        try dsimp only
        refine ⟨d, q, c, A, S1, hZ1, fun hn wi3 hF3 => ?_, fun hy3 wi3 hF3 S3 => ?_⟩
        · have j := st.1 hn wi3 hF3
          conv => whnf
          repeat ((first | refine ⟨zH_of _, ?_⟩ | refine ⟨trivial, ?_⟩ | refine ⟨rfl, ?_⟩ | refine ⟨fun hc => absurd hc (by decide), fun _ => ?_⟩ | refine ⟨fun _ => ?_, fun hc => absurd (by decide) hc⟩ | refine ⟨fun _ => ?_, fun hc => absurd hc (by decide)⟩ | refine ⟨fun hc => absurd (by decide) hc, fun _ => ?_⟩); conv => whnf)
          try dsimp only
          exact j
        · have j := st.2 hy3 wi3 hF3 S3
          conv => whnf
          repeat ((first | refine ⟨zH_of _, ?_⟩ | refine ⟨trivial, ?_⟩ | refine ⟨rfl, ?_⟩ | refine ⟨fun hc => absurd hc (by decide), fun _ => ?_⟩ | refine ⟨fun _ => ?_, fun hc => absurd (by decide) hc⟩ | refine ⟨fun _ => ?_, fun hc => absurd hc (by decide)⟩ | refine ⟨fun hc => absurd (by decide) hc, fun _ => ?_⟩); conv => whnf)
          try dsimp only
          exact j
      · have ih := ih hc
        conv => whnf
        repeat ((first | refine ⟨zH_of _, ?_⟩ | refine ⟨trivial, ?_⟩ | refine ⟨rfl, ?_⟩ | refine ⟨fun hc => absurd hc (by decide), fun _ => ?_⟩ | refine ⟨fun _ => ?_, fun hc => absurd (by decide) hc⟩ | refine ⟨fun _ => ?_, fun hc => absurd hc (by decide)⟩ | refine ⟨fun hc => absurd (by decide) hc, fun _ => ?_⟩); conv => whnf)
        try dsimp only
        refine ⟨vp_in_nI (show k < 3 from hc) (by decide), ?_⟩
        rw [nI_clamp (n := k) (by omega)]
        conv => whnf
        repeat ((first | refine ⟨zH_of _, ?_⟩ | refine ⟨trivial, ?_⟩ | refine ⟨rfl, ?_⟩ | refine ⟨fun hc => absurd hc (by decide), fun _ => ?_⟩ | refine ⟨fun _ => ?_, fun hc => absurd (by decide) hc⟩ | refine ⟨fun _ => ?_, fun hc => absurd hc (by decide)⟩ | refine ⟨fun hc => absurd (by decide) hc, fun _ => ?_⟩); conv => whnf)
        try dsimp only
        rw [nI_add]
        refine ih _ (fun y hy => by rw [z_up_ne hy, hF y hy]) (fun t ht => ?_)
        by_cases e : t = k
        · rw [e, z_up_eq]
        · rw [z_up_nei e]
          exact hX t (by omega))
    conv => whnf
    repeat ((first | refine ⟨zH_of _, ?_⟩ | refine ⟨trivial, ?_⟩ | refine ⟨rfl, ?_⟩ | refine ⟨fun hc => absurd hc (by decide), fun _ => ?_⟩ | refine ⟨fun _ => ?_, fun hc => absurd (by decide) hc⟩ | refine ⟨fun _ => ?_, fun hc => absurd hc (by decide)⟩ | refine ⟨fun hc => absurd (by decide) hc, fun _ => ?_⟩); conv => whnf)
    try dsimp only
    exact zero 0 (Nat.zero_le _) wi0 (fun _ _ => rfl) (fun t ht => absurd ht (Nat.not_lt_zero t))

