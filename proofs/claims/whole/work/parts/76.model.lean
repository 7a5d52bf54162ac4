/-! the reference: a product split -/
theorem eqB_iff' {a b : Nat → Nat} : eqB a b = true ↔ ∀ p, p < 9 → a p = b p := decide_eq_true_iff
def sp_X12_splits : zSp := fun av w K => match av with
  | [.ref o, .int i, .int u] => o = 45 ∧ zH w.1 ∧ ∃ T, MT w.2.1 w.2.2 T ∧ ZT T ∧ ∀ wi' wl', FrM w.2.1 w.2.2 wi' wl' → MT wi' wl' (st_splits T i u).1 → K (some (.int (st_splits T i u).2)) (w.1, wi', wl')
  | _ => False
def rm_X12_splits : Room := { frames := 5, cells := 0, slots := 0, locals := 112 }
def M_X12_splits : zM := (k_X12_splits, f_X12, [(151, 4, 10, 1, 0, 0, sp_X12_begin), (170, 0, 0, 1, 0, 0, sp_X12_isTable), (147, 4, 10, 3, 0, 0, sp_X12_readForm), (157, 4, 10, 1, 0, 0, sp_X12_ends), (160, 4, 10, 1, 0, 0, sp_X12_told), (163, 4, 10, 2, 0, 0, sp_X12_isProduct), (107, 0, 0, 3, 0, 0, sp_X12_at), (223, 4, 10, 2, 0, 0, sp_X12_mod)], ([], [], []), [], [(26, [true, true, true, false, false]), (38, [true, true, true, false, false]), (85, [true, true, true, true, true]), (140, [true, true, true, false, true]), (183, [true, true, true, false, true])], 1, false, (false, 0, fun _ => 0), (0, 0))
theorem ca_X12_splits_0 (l : Launch) : z_cok l RX12 (headSpec (.code yX12_splits cX12_splits 5 (some .int) :: zTT) rm_X12_splits).room (151, 4, 10, 1, 0, 0, sp_X12_begin) := z_ca4 (c_X12_begin l) mb_X12_begin ⟨_, rfl, rfl⟩ wt_1266 wt_1268 wt_29 (by decide)
theorem ca_X12_splits_1 (l : Launch) : z_cok l RX12 (headSpec (.code yX12_splits cX12_splits 5 (some .int) :: zTT) rm_X12_splits).room (170, 0, 0, 1, 0, 0, sp_X12_isTable) := z_ca0 (c_X12_isTable l) mb_X12_isTable wt_1338 wt_1339 (by decide)
theorem ca_X12_splits_2 (l : Launch) : z_cok l RX12 (headSpec (.code yX12_splits cX12_splits 5 (some .int) :: zTT) rm_X12_splits).room (147, 4, 10, 3, 0, 0, sp_X12_readForm) := z_ca4 (c_X12_readForm l) mb_X12_readForm ⟨_, rfl, rfl⟩ wt_1290 wt_1292 wt_35 (by decide)
theorem ca_X12_splits_3 (l : Launch) : z_cok l RX12 (headSpec (.code yX12_splits cX12_splits 5 (some .int) :: zTT) rm_X12_splits).room (157, 4, 10, 1, 0, 0, sp_X12_ends) := z_ca4 (c_X12_ends l) mb_X12_ends ⟨_, rfl, rfl⟩ wt_1310 wt_1312 wt_40 (by decide)
theorem ca_X12_splits_4 (l : Launch) : z_cok l RX12 (headSpec (.code yX12_splits cX12_splits 5 (some .int) :: zTT) rm_X12_splits).room (160, 4, 10, 1, 0, 0, sp_X12_told) := z_ca4 (c_X12_told l) mb_X12_told ⟨_, rfl, rfl⟩ wt_1314 wt_1316 wt_41 (by decide)
theorem ca_X12_splits_5 (l : Launch) : z_cok l RX12 (headSpec (.code yX12_splits cX12_splits 5 (some .int) :: zTT) rm_X12_splits).room (163, 4, 10, 2, 0, 0, sp_X12_isProduct) := z_ca4 (c_X12_isProduct l) mb_X12_isProduct ⟨_, rfl, rfl⟩ wt_1326 wt_1328 wt_42 (by decide)
theorem ca_X12_splits_6 (l : Launch) : z_cok l RX12 (headSpec (.code yX12_splits cX12_splits 5 (some .int) :: zTT) rm_X12_splits).room (107, 0, 0, 3, 0, 0, sp_X12_at) := z_ca0 (c_X12_at l) mb_X12_at wt_1136 wt_1137 (by decide)
theorem ca_X12_splits_7 (l : Launch) : z_cok l RX12 (headSpec (.code yX12_splits cX12_splits 5 (some .int) :: zTT) rm_X12_splits).room (223, 4, 10, 2, 0, 0, sp_X12_mod) := z_ca4 (c_X12_mod l) mb_X12_mod ⟨_, rfl, rfl⟩ wt_1431 wt_1433 wt_57 (by decide)
theorem O_X12_splits (l : Launch) : z_OK l RX12 cX12_splits (headSpec (.code yX12_splits cX12_splits 5 (some .int) :: zTT) rm_X12_splits).room M_X12_splits := ⟨ok_X12_splits, fo_X12, List.forall_mem_cons.mpr ⟨ca_X12_splits_0 l, List.forall_mem_cons.mpr ⟨ca_X12_splits_1 l, List.forall_mem_cons.mpr ⟨ca_X12_splits_2 l, List.forall_mem_cons.mpr ⟨ca_X12_splits_3 l, List.forall_mem_cons.mpr ⟨ca_X12_splits_4 l, List.forall_mem_cons.mpr ⟨ca_X12_splits_5 l, List.forall_mem_cons.mpr ⟨ca_X12_splits_6 l, List.forall_mem_cons.mpr ⟨ca_X12_splits_7 l, fun _ h => absurd h List.not_mem_nil⟩⟩⟩⟩⟩⟩⟩⟩, fun _ h => absurd h List.not_mem_nil, fun _ h => absurd h List.not_mem_nil, fun _ h => absurd h List.not_mem_nil, fun _ h => absurd h List.not_mem_nil, rfl, rfl⟩
theorem c_X12_splits (l : Launch) : z_CS l yX12_splits cX12_splits 5 (some .int) rm_X12_splits sp_X12_splits := by
  refine z_meth (by decide) (Or.inr (Or.inl ⟨rfl, rfl⟩)) (fun h => by cases h) rfl (O_X12_splits l) ?_
  intro av w K h
  match av, h with
  | [.ref o, .int i, .int u], h =>
    obtain ⟨rfl, ⟨r, hG⟩, ⟨d, q, c, A, kp, ⟨L, x⟩, tl⟩, hC, hZ, h⟩ := h
    obtain ⟨G, wi, wl⟩ := w
    subst hG
    try dsimp only at h hC hZ
    have hC := mt_fld (i := 11) (v := nI 0) hC (by decide)
    have hF0 : FrM wi wl (z_up wi 45 11 (nI 0)) wl := fm_fld
    refine ⟨Nat.le_of_ble_eq_true rfl, fun Jm hs => ?_⟩
    have q23 := ms_q23 (mt_S hC)
    have hd3 := ms_hd (mt_S hC)
    have h40 := ms_40 (mt_S hC)
    have tb := tb0_lt u
    have rlt := fmP_lt (x := x) (L := L) (d := d) (q := q) (t := tb0 u) (k := 0) (by omega)
    unfold st_splits txt0 spR at h
    dsimp only at h
    generalize hR : fmP x L d q (tb0 u) 0 = R at h rlt
    have hX := mt_X hC
    dsimp only at hX
    refine hs 400 0 _ _ _ _ _ ?_
    conv => whnf
    repeat ((first | refine ⟨zH_of _, ?_⟩ | refine ⟨trivial, ?_⟩ | refine ⟨rfl, ?_⟩ | refine ⟨fun hc => absurd hc (by decide), fun _ => ?_⟩ | refine ⟨fun _ => ?_, fun hc => absurd (by decide) hc⟩ | refine ⟨fun _ => ?_, fun hc => absurd hc (by decide)⟩ | refine ⟨fun hc => absurd (by decide) hc, fun _ => ?_⟩); conv => whnf)
    try dsimp only
    generalize z_up wi 45 11 (nI 0) = wi0 at *
    obtain ⟨wi1, hw1⟩ : ∃ wi1, wi1 = z_up (z_up (z_up (z_up wi0 45 12 (wi0 45 8)) 45 8 (nI 0)) 45 13 (nI 0)) 45 14 (mI 1) := ⟨_, rfl⟩
    have a8 : wi1 45 8 = nI 0 := by rw [hw1]; rfl
    have a12 : wi1 45 12 = wi0 45 8 := by rw [hw1]; rfl
    have a13 : wi1 45 13 = nI 0 := by rw [hw1]; rfl
    have a14 : wi1 45 14 = mI 1 := by rw [hw1]; rfl
    have hS1 : FSc wi0 wi1 := ⟨fun y g1 g2 => by rw [hw1, z_up_ne g1, z_up_ne g1, z_up_ne g1, z_up_ne g1], fun i g1 g2 g3 g4 g5 => by rw [hw1, z_up_nei g4, z_up_nei g3, z_up_nei g1, z_up_nei g2]⟩
    rw [← hw1]
    have txt : ∀ wi' : Nat → Nat → Int32, FSc wi0 wi' → wi' 45 8 = nI 0 → MT wi' wl (d, q, c, A, kp, (0, x), tl) := fun wi' hF h8 => ⟨ms_fr (mt_S hC) (hF.1 46 (by decide) (by decide)) (hF.2 1 (by decide) (by decide) (by decide) (by decide) (by decide)) (hF.2 2 (by decide) (by decide) (by decide) (by decide) (by decide)) (hF.1 47 (by decide) (by decide)), km_fr (mt_K hC) (hF.2 4 (by decide) (by decide) (by decide) (by decide) (by decide)) (hF.1 48 (by decide) (by decide)) (hF.1 49 (by decide) (by decide)), ⟨h8, Nat.zero_le _, fun k hk => absurd hk (Nat.not_lt_zero k)⟩, tm_fr (mt_T hC) (hF.2 10 (by decide) (by decide) (by decide) (by decide) (by decide)) rfl⟩
    have fsc : ∀ {wi' wi2 : Nat → Nat → Int32}, FSc wi0 wi' → FTm 0 wi' wi2 → FSc wi0 wi2 := fun h1 h2 => ⟨fun y g1 g2 => (h2.1 y g1 g2).trans (h1.1 y g1 g2), fun i g1 g2 g3 g4 g5 => (h2.2.1 i g3 g4).trans (h1.2 i g1 g2 g3 g4 g5)⟩
    have finF : ∀ (wi' : Nat → Nat → Int32) (k' : Nat), FSc wi0 wi' → wi' 45 8 = nI 0 → wi' 45 14 = nI k' → k' ≤ 400 → ffI R.1 R.2.1 L = nI k' → Jm 38 [some (.ref 45), some (.int i), some (.int u), none, none] [] (GC ++ (GM ++ r), wi', wl) 0 0 := fun wi' k' hF h8 h14 hk he => by
      rw [he, if_neg (nI_nlt (Nat.zero_le _) (by omega))] at h
      have h := h wi' wl (FrM_trans hF0 (fun y hy => ⟨hF.1 y (by omega) (by omega), rfl⟩)) (txt wi' hF h8)
      rw [← h14] at h
      refine hs 400 38 _ _ _ _ _ ?_
      conv => whnf
      repeat ((first | refine ⟨zH_of _, ?_⟩ | refine ⟨trivial, ?_⟩ | refine ⟨rfl, ?_⟩ | refine ⟨fun hc => absurd hc (by decide), fun _ => ?_⟩ | refine ⟨fun _ => ?_, fun hc => absurd (by decide) hc⟩ | refine ⟨fun _ => ?_, fun hc => absurd hc (by decide)⟩ | refine ⟨fun hc => absurd (by decide) hc, fun _ => ?_⟩); conv => whnf)
      try dsimp only
      refine ⟨fun z => absurd (h14.symm.trans z) (nI_m1 (by omega)), fun _ => ?_⟩
      conv => whnf
      repeat ((first | refine ⟨zH_of _, ?_⟩ | refine ⟨trivial, ?_⟩ | refine ⟨rfl, ?_⟩ | refine ⟨fun hc => absurd hc (by decide), fun _ => ?_⟩ | refine ⟨fun _ => ?_, fun hc => absurd (by decide) hc⟩ | refine ⟨fun _ => ?_, fun hc => absurd hc (by decide)⟩ | refine ⟨fun hc => absurd (by decide) hc, fun _ => ?_⟩); conv => whnf)
      try dsimp only
      exact h
    have finO : ∀ wi' : Nat → Nat → Int32, FSc wi0 wi' → wi' 45 8 = nI 0 → wi' 45 14 = mI 1 → RA wi' 52 0 R.2.2 → ffI R.1 R.2.1 L = mI 1 → Jm 38 [some (.ref 45), some (.int i), some (.int u), none, none] [] (GC ++ (GM ++ r), wi', wl) 0 0 := fun wi' hF h8 h14 hA he => by
      rw [he, if_pos (by decide)] at h
      have hM := txt wi' hF h8
      have hS := mt_S hM
      have hFr : FrM wi wl wi' wl := FrM_trans hF0 (fun y hy => ⟨hF.1 y (by omega) (by omega), rfl⟩)
      generalize R.2.2 = a at *
      refine hs 400 38 _ _ _ _ _ ?_
      conv => whnf
      repeat ((first | refine ⟨zH_of _, ?_⟩ | refine ⟨trivial, ?_⟩ | refine ⟨rfl, ?_⟩ | refine ⟨fun hc => absurd hc (by decide), fun _ => ?_⟩ | refine ⟨fun _ => ?_, fun hc => absurd (by decide) hc⟩ | refine ⟨fun _ => ?_, fun hc => absurd hc (by decide)⟩ | refine ⟨fun hc => absurd (by decide) hc, fun _ => ?_⟩); conv => whnf)
      try dsimp only
      refine ⟨fun _ => ?_, fun z => absurd h14 z⟩
      conv => whnf
      repeat ((first | refine ⟨zH_of _, ?_⟩ | refine ⟨trivial, ?_⟩ | refine ⟨rfl, ?_⟩ | refine ⟨fun hc => absurd hc (by decide), fun _ => ?_⟩ | refine ⟨fun _ => ?_, fun hc => absurd (by decide) hc⟩ | refine ⟨fun _ => ?_, fun hc => absurd hc (by decide)⟩ | refine ⟨fun hc => absurd (by decide) hc, fun _ => ?_⟩); conv => whnf)
      try dsimp only
      refine ⟨c, ms_c hS, by omega, ?_⟩
      have no : ¬ (idB c i && idB 3 u) = true → K (some (.int (mI 1))) (GC ++ (GM ++ r), wi', wl) := fun hn => by
        rw [if_neg hn] at h
        exact h wi' wl hFr hM
      conv => whnf
      repeat ((first | refine ⟨zH_of _, ?_⟩ | refine ⟨trivial, ?_⟩ | refine ⟨rfl, ?_⟩ | refine ⟨fun hc => absurd hc (by decide), fun _ => ?_⟩ | refine ⟨fun _ => ?_, fun hc => absurd (by decide) hc⟩ | refine ⟨fun _ => ?_, fun hc => absurd hc (by decide)⟩ | refine ⟨fun hc => absurd (by decide) hc, fun _ => ?_⟩); conv => whnf)
      try dsimp only
      rw [bI_0]
      refine ⟨fun h1 => ⟨trivial, no (by simp [h1])⟩, fun h1 => ?_⟩
      conv => whnf
      repeat ((first | refine ⟨zH_of _, ?_⟩ | refine ⟨trivial, ?_⟩ | refine ⟨rfl, ?_⟩ | refine ⟨fun hc => absurd hc (by decide), fun _ => ?_⟩ | refine ⟨fun _ => ?_, fun hc => absurd (by decide) hc⟩ | refine ⟨fun _ => ?_, fun hc => absurd hc (by decide)⟩ | refine ⟨fun hc => absurd (by decide) hc, fun _ => ?_⟩); conv => whnf)
      try dsimp only
      rw [bI_0, Classical.not_not]
      refine ⟨fun h2 => ?_, fun h2 => ⟨trivial, no (by simp [h2])⟩⟩
      have h1 := Classical.not_not.mp h1
      rw [if_pos (by simp [h1, h2])] at h
      obtain ⟨i', hi, rfl⟩ := idB_N h1 (by omega)
      obtain ⟨t, ht, rfl⟩ := idB_N h2 (by omega)
      rw [nc_N (by omega), nc_N (by omega)] at h
      conv => whnf
      repeat ((first | refine ⟨zH_of _, ?_⟩ | refine ⟨trivial, ?_⟩ | refine ⟨rfl, ?_⟩ | refine ⟨fun hc => absurd hc (by decide), fun _ => ?_⟩ | refine ⟨fun _ => ?_, fun hc => absurd (by decide) hc⟩ | refine ⟨fun _ => ?_, fun hc => absurd hc (by decide)⟩ | refine ⟨fun hc => absurd (by decide) hc, fun _ => ?_⟩); conv => whnf)
      try dsimp only
      rw [ms_c hS, nI_eq (by omega) (by omega)]
      by_cases hc4 : c = 40
      · rw [if_pos hc4] at h
        refine ⟨fun z => absurd hc4 z, fun _ => ⟨trivial, h wi' wl hFr hM⟩⟩
      rw [if_neg hc4] at h
      refine ⟨fun _ => ?_, fun z => absurd z hc4⟩
      have l3 : ∀ p, p < 9 → A (3 * i' + t) p < q := fun p hp => ms_A hS _ (by omega) p hp
      have cmp := up_ind (P := fun k => Jm 85 [some (.ref 45), some (.int (nI i')), some (.int (nI t)), some (.int (bI (∀ p, p < k → a p = A (3 * i' + t) p))), some (.int (nI k))] [] (GC ++ (GM ++ r), wi', wl) 0 0) 9 (fun k hk ih => by
        refine hs 400 85 _ _ _ _ _ ?_
        conv => whnf
        repeat ((first | refine ⟨zH_of _, ?_⟩ | refine ⟨trivial, ?_⟩ | refine ⟨rfl, ?_⟩ | refine ⟨fun hc => absurd hc (by decide), fun _ => ?_⟩ | refine ⟨fun _ => ?_, fun hc => absurd (by decide) hc⟩ | refine ⟨fun _ => ?_, fun hc => absurd hc (by decide)⟩ | refine ⟨fun hc => absurd (by decide) hc, fun _ => ?_⟩); conv => whnf)
        try dsimp only
        rw [ltN (by omega) (by omega)]
        refine ⟨fun hc => ?_, fun hc => ?_⟩
        · obtain rfl : k = 9 := by omega
          conv => whnf
          repeat ((first | refine ⟨zH_of _, ?_⟩ | refine ⟨trivial, ?_⟩ | refine ⟨rfl, ?_⟩ | refine ⟨fun hc => absurd hc (by decide), fun _ => ?_⟩ | refine ⟨fun _ => ?_, fun hc => absurd (by decide) hc⟩ | refine ⟨fun _ => ?_, fun hc => absurd hc (by decide)⟩ | refine ⟨fun hc => absurd (by decide) hc, fun _ => ?_⟩); conv => whnf)
          try dsimp only
          rw [bI_0]
          refine ⟨fun hz => ?_, fun hz => ?_⟩
          · rw [if_neg (fun z => hz (fun p hp => (eqB_iff'.mp z p hp).symm))] at h
            have hmix : ∀ n p, spA q A c i' t a n p = if n = 3 * i' + t then a p else if n = 3 * c + t then (A (3 * i' + t) p + (q - a p)) % q else adA A c A i' n p := fun n p => by
              unfold spA upA
              split
              · rfl
              · split
                · rfl
                · rfl
            generalize spA q A c i' t a = W at *
            have last := up_ind (P := fun k => ∀ wi3 : Nat → Nat → Int32, (∀ y, y ≠ 47 → wi3 y = wi' y) → RW wi3 47 (27 * (c + 1)) (mixA k (adA A c A i') W) → Jm 183 [some (.ref 45), some (.int (nI i')), some (.int (nI t)), none, some (.int (nI k))] [] (GC ++ (GM ++ r), wi3, wl) 0 0) 9 (fun k hk ih => by
              intro wi3 g1 g2
              have e2 : wi3 45 2 = nI c := by rw [g1 45 (by decide)]; exact ms_c hS
              have e1 : wi3 45 1 = nI q := by rw [g1 45 (by decide)]; exact ms_q hS
              refine hs 400 183 _ _ _ _ _ ?_
              conv => whnf
              repeat ((first | refine ⟨zH_of _, ?_⟩ | refine ⟨trivial, ?_⟩ | refine ⟨rfl, ?_⟩ | refine ⟨fun hc => absurd hc (by decide), fun _ => ?_⟩ | refine ⟨fun _ => ?_, fun hc => absurd (by decide) hc⟩ | refine ⟨fun _ => ?_, fun hc => absurd hc (by decide)⟩ | refine ⟨fun hc => absurd (by decide) hc, fun _ => ?_⟩); conv => whnf)
              try dsimp only
              rw [ltN (by omega) (by omega)]
              refine ⟨fun hc => ?_, fun hc => ?_⟩
              · obtain rfl : k = 9 := by omega
                have hS2 : MS (z_up wi3 45 2 (nI (c + 1))) d q (c + 1) W := by
                  refine ⟨fun t ht => by rw [z_up_ne (by decide), g1 46 (by decide)]; exact ms_d hS t ht, ⟨by rw [z_up_nei (by decide)]; exact e1, z_up_eq⟩, fun j hj => ?_, q23, hd3, by omega, fun n hn p hp => ?_⟩
                  · rw [z_up_ne (by decide), g2 j hj]
                    unfold fl mixA
                    rw [if_pos (by omega)]
                  · rw [hmix]
                    split
                    · exact rlt p hp
                    · split
                      · exact Nat.mod_lt _ (by omega)
                      · unfold adA
                        split
                        · exact ms_A hS n (by omega) p hp
                        · exact ms_A hS _ (by omega) p hp
                have h := h _ wl (FrM_trans hFr (fun y hy => ⟨by rw [z_up_ne (by omega), g1 y (by omega)], rfl⟩)) (mt_now hM hS2 (fun i hi => by rw [z_up_nei (by omega), g1 45 (by decide)]) (fun y hy => by rw [z_up_ne (by omega), g1 y (by omega)]) rfl)
                conv => whnf
                repeat ((first | refine ⟨zH_of _, ?_⟩ | refine ⟨trivial, ?_⟩ | refine ⟨rfl, ?_⟩ | refine ⟨fun hc => absurd hc (by decide), fun _ => ?_⟩ | refine ⟨fun _ => ?_, fun hc => absurd (by decide) hc⟩ | refine ⟨fun _ => ?_, fun hc => absurd hc (by decide)⟩ | refine ⟨fun hc => absurd (by decide) hc, fun _ => ?_⟩); conv => whnf)
                try dsimp only
                rw [e2, nI_add, z_up_eq]
                exact h
              · have ih := ih hc
                have r1 : wi3 47 (27 * i' + 9 * t + k) = nI (A (3 * i' + t) k) := by
                  rw [g2 _ (by omega)]
                  unfold fl mixA adA
                  rw [show (27 * i' + 9 * t + k) / 9 = 3 * i' + t by omega, show (27 * i' + 9 * t + k) % 9 = k by omega, if_neg (Nat.lt_irrefl k), if_pos (by omega)]
                have r2 : wi3 52 k = nI (a k) := by
                  rw [g1 52 (by decide)]
                  have k2 := hA k hc
                  rw [Nat.zero_add] at k2
                  exact k2
                have x1 := l3 k hc
                have x2 := rlt k hc
                conv => whnf
                repeat ((first | refine ⟨zH_of _, ?_⟩ | refine ⟨trivial, ?_⟩ | refine ⟨rfl, ?_⟩ | refine ⟨fun hc => absurd hc (by decide), fun _ => ?_⟩ | refine ⟨fun _ => ?_, fun hc => absurd (by decide) hc⟩ | refine ⟨fun _ => ?_, fun hc => absurd hc (by decide)⟩ | refine ⟨fun hc => absurd (by decide) hc, fun _ => ?_⟩); conv => whnf)
                try dsimp only
                rw [e2, at_N c t k, at_N i' t k]
                refine ⟨vp_in_nI (show 27 * i' + 9 * t + k < 1080 by omega) (by decide), ?_⟩
                conv => whnf
                repeat ((first | refine ⟨zH_of _, ?_⟩ | refine ⟨trivial, ?_⟩ | refine ⟨rfl, ?_⟩ | refine ⟨fun hc => absurd hc (by decide), fun _ => ?_⟩ | refine ⟨fun _ => ?_, fun hc => absurd (by decide) hc⟩ | refine ⟨fun _ => ?_, fun hc => absurd hc (by decide)⟩ | refine ⟨fun hc => absurd (by decide) hc, fun _ => ?_⟩); conv => whnf)
                try dsimp only
                refine ⟨vp_in_nI (show k < 1080 by omega) (by decide), ?_⟩
                conv => whnf
                repeat ((first | refine ⟨zH_of _, ?_⟩ | refine ⟨trivial, ?_⟩ | refine ⟨rfl, ?_⟩ | refine ⟨fun hc => absurd hc (by decide), fun _ => ?_⟩ | refine ⟨fun _ => ?_, fun hc => absurd (by decide) hc⟩ | refine ⟨fun _ => ?_, fun hc => absurd hc (by decide)⟩ | refine ⟨fun hc => absurd (by decide) hc, fun _ => ?_⟩); conv => whnf)
                try dsimp only
                rw [nI_clamp (n := 27 * i' + 9 * t + k) (by omega), nI_clamp (n := k) (by omega), r1, r2]
                refine ⟨q, e1, q23, ?_⟩
                rw [mod_sub q23 (by omega) (by omega), Nat.mod_eq_of_lt x2]
                conv => whnf
                repeat ((first | refine ⟨zH_of _, ?_⟩ | refine ⟨trivial, ?_⟩ | refine ⟨rfl, ?_⟩ | refine ⟨fun hc => absurd hc (by decide), fun _ => ?_⟩ | refine ⟨fun _ => ?_, fun hc => absurd (by decide) hc⟩ | refine ⟨fun _ => ?_, fun hc => absurd hc (by decide)⟩ | refine ⟨fun hc => absurd (by decide) hc, fun _ => ?_⟩); conv => whnf)
                try dsimp only
                refine ⟨vp_in_nI (show 27 * c + 9 * t + k < 1080 by omega) (by decide), ?_⟩
                rw [nI_clamp (n := 27 * c + 9 * t + k) (by omega)]
                conv => whnf
                repeat ((first | refine ⟨zH_of _, ?_⟩ | refine ⟨trivial, ?_⟩ | refine ⟨rfl, ?_⟩ | refine ⟨fun hc => absurd hc (by decide), fun _ => ?_⟩ | refine ⟨fun _ => ?_, fun hc => absurd (by decide) hc⟩ | refine ⟨fun _ => ?_, fun hc => absurd hc (by decide)⟩ | refine ⟨fun hc => absurd (by decide) hc, fun _ => ?_⟩); conv => whnf)
                try dsimp only
                rw [at_N i' t k]
                refine ⟨vp_in_nI (show k < 1080 by omega) (by decide), ?_⟩
                conv => whnf
                repeat ((first | refine ⟨zH_of _, ?_⟩ | refine ⟨trivial, ?_⟩ | refine ⟨rfl, ?_⟩ | refine ⟨fun hc => absurd hc (by decide), fun _ => ?_⟩ | refine ⟨fun _ => ?_, fun hc => absurd (by decide) hc⟩ | refine ⟨fun _ => ?_, fun hc => absurd hc (by decide)⟩ | refine ⟨fun hc => absurd (by decide) hc, fun _ => ?_⟩); conv => whnf)
                try dsimp only
                refine ⟨vp_in_nI (show 27 * i' + 9 * t + k < 1080 by omega) (by decide), ?_⟩
                conv => whnf
                repeat ((first | refine ⟨zH_of _, ?_⟩ | refine ⟨trivial, ?_⟩ | refine ⟨rfl, ?_⟩ | refine ⟨fun hc => absurd hc (by decide), fun _ => ?_⟩ | refine ⟨fun _ => ?_, fun hc => absurd (by decide) hc⟩ | refine ⟨fun _ => ?_, fun hc => absurd hc (by decide)⟩ | refine ⟨fun hc => absurd (by decide) hc, fun _ => ?_⟩); conv => whnf)
                try dsimp only
                rw [nI_clamp (n := 27 * i' + 9 * t + k) (by omega), nI_clamp (n := k) (by omega), z_up_ne (show (52 : Nat) ≠ 47 by decide), r2, nI_add]
                refine ih _ (fun y hy => by rw [z_up_ne hy, z_up_ne hy, g1 y hy]) (fun n hn => ?_)
                unfold fl mixA
                by_cases b1 : n = 27 * i' + 9 * t + k
                · rw [b1, z_up_eq, show (27 * i' + 9 * t + k) / 9 = 3 * i' + t by omega, show (27 * i' + 9 * t + k) % 9 = k by omega, if_pos (Nat.lt_succ_self k), hmix, if_pos rfl]
                · rw [z_up_nei b1]
                  by_cases b2 : n = 27 * c + 9 * t + k
                  · rw [b2, z_up_eq, show (27 * c + 9 * t + k) / 9 = 3 * c + t by omega, show (27 * c + 9 * t + k) % 9 = k by omega, if_pos (Nat.lt_succ_self k), hmix, if_neg (by omega), if_pos rfl]
                  · rw [z_up_nei b2, g2 n hn]
                    unfold fl mixA
                    by_cases g : n % 9 < k
                    · rw [if_pos g, if_pos (by omega)]
                    · rw [if_neg g]
                      by_cases g0 : n % 9 = k
                      · rw [if_pos (by omega), hmix, if_neg (by omega), if_neg (by omega)]
                      · rw [if_neg (by omega)])
            have copy := up_ind (P := fun k => ∀ wi2 : Nat → Nat → Int32, (∀ y, y ≠ 47 → wi2 y = wi' y) → (∀ j, j < 27 * c → wi2 47 j = wi' 47 j) → (∀ j, j < k → wi2 47 (27 * c + j) = wi' 47 (27 * i' + j)) → Jm 140 [some (.ref 45), some (.int (nI i')), some (.int (nI t)), none, some (.int (nI k))] [] (GC ++ (GM ++ r), wi2, wl) 0 0) 27 (fun k hk ih => by
              intro wi2 g1 g3 g4
              have e2 : wi2 45 2 = nI c := by rw [g1 45 (by decide)]; exact ms_c hS
              refine hs 400 140 _ _ _ _ _ ?_
              conv => whnf
              repeat ((first | refine ⟨zH_of _, ?_⟩ | refine ⟨trivial, ?_⟩ | refine ⟨rfl, ?_⟩ | refine ⟨fun hc => absurd hc (by decide), fun _ => ?_⟩ | refine ⟨fun _ => ?_, fun hc => absurd (by decide) hc⟩ | refine ⟨fun _ => ?_, fun hc => absurd hc (by decide)⟩ | refine ⟨fun hc => absurd (by decide) hc, fun _ => ?_⟩); conv => whnf)
              try dsimp only
              rw [ltN (by omega) (by omega)]
              refine ⟨fun hc => ?_, fun hc => ?_⟩
              · obtain rfl : k = 27 := by omega
                conv => whnf
                repeat ((first | refine ⟨zH_of _, ?_⟩ | refine ⟨trivial, ?_⟩ | refine ⟨rfl, ?_⟩ | refine ⟨fun hc => absurd hc (by decide), fun _ => ?_⟩ | refine ⟨fun _ => ?_, fun hc => absurd (by decide) hc⟩ | refine ⟨fun _ => ?_, fun hc => absurd hc (by decide)⟩ | refine ⟨fun hc => absurd (by decide) hc, fun _ => ?_⟩); conv => whnf)
                try dsimp only
                refine last 0 (Nat.zero_le _) wi2 g1 (fun j hj => ?_)
                unfold fl mixA adA
                rw [if_neg (Nat.not_lt_zero _)]
                by_cases e : j < 27 * c
                · rw [if_pos (by omega), g3 j e]
                  exact ms_f hS j e
                · have g4 := g4 (j - 27 * c) (by omega)
                  rw [show 27 * c + (j - 27 * c) = j by omega] at g4
                  rw [if_neg (by omega), g4, ms_f hS _ (by omega)]
                  unfold fl
                  rw [show (27 * i' + (j - 27 * c)) / 9 = 3 * i' + (j / 9 - 3 * c) by omega, show (27 * i' + (j - 27 * c)) % 9 = j % 9 by omega]
              · have ih := ih hc
                conv => whnf
                repeat ((first | refine ⟨zH_of _, ?_⟩ | refine ⟨trivial, ?_⟩ | refine ⟨rfl, ?_⟩ | refine ⟨fun hc => absurd hc (by decide), fun _ => ?_⟩ | refine ⟨fun _ => ?_, fun hc => absurd (by decide) hc⟩ | refine ⟨fun _ => ?_, fun hc => absurd hc (by decide)⟩ | refine ⟨fun hc => absurd (by decide) hc, fun _ => ?_⟩); conv => whnf)
                try dsimp only
                rw [e2, pk_mul, pk_mul, nI_add, nI_add]
                refine ⟨vp_in_nI (show 27 * i' + k < 1080 by omega) (by decide), ?_⟩
                conv => whnf
                repeat ((first | refine ⟨zH_of _, ?_⟩ | refine ⟨trivial, ?_⟩ | refine ⟨rfl, ?_⟩ | refine ⟨fun hc => absurd hc (by decide), fun _ => ?_⟩ | refine ⟨fun _ => ?_, fun hc => absurd (by decide) hc⟩ | refine ⟨fun _ => ?_, fun hc => absurd hc (by decide)⟩ | refine ⟨fun hc => absurd (by decide) hc, fun _ => ?_⟩); conv => whnf)
                try dsimp only
                refine ⟨vp_in_nI (show 27 * c + k < 1080 by omega) (by decide), ?_⟩
                conv => whnf
                repeat ((first | refine ⟨zH_of _, ?_⟩ | refine ⟨trivial, ?_⟩ | refine ⟨rfl, ?_⟩ | refine ⟨fun hc => absurd hc (by decide), fun _ => ?_⟩ | refine ⟨fun _ => ?_, fun hc => absurd (by decide) hc⟩ | refine ⟨fun _ => ?_, fun hc => absurd hc (by decide)⟩ | refine ⟨fun hc => absurd (by decide) hc, fun _ => ?_⟩); conv => whnf)
                try dsimp only
                rw [nI_clamp (n := 27 * i' + k) (by omega), nI_clamp (n := 27 * c + k) (by omega), g3 _ (by omega), nI_add]
                refine ih _ (fun y hy => by rw [z_up_ne hy, g1 y hy]) (fun j hj => by rw [z_up_nei (by omega)]; exact g3 j hj) (fun j hj => ?_)
                by_cases e : j = k
                · rw [e, z_up_eq]
                · rw [z_up_nei (by omega)]
                  exact g4 j (by omega))
            conv => whnf
            repeat ((first | refine ⟨zH_of _, ?_⟩ | refine ⟨trivial, ?_⟩ | refine ⟨rfl, ?_⟩ | refine ⟨fun hc => absurd hc (by decide), fun _ => ?_⟩ | refine ⟨fun _ => ?_, fun hc => absurd (by decide) hc⟩ | refine ⟨fun _ => ?_, fun hc => absurd hc (by decide)⟩ | refine ⟨fun hc => absurd (by decide) hc, fun _ => ?_⟩); conv => whnf)
            try dsimp only
            exact copy 0 (Nat.zero_le _) wi' (fun _ _ => rfl) (fun _ _ => rfl) (fun j hj => absurd hj (Nat.not_lt_zero j))
          · have hz := Classical.not_not.mp hz
            rw [if_pos (eqB_iff'.mpr (fun p hp => (hz p hp).symm))] at h
            exact ⟨trivial, h wi' wl hFr hM⟩
        · have ih := ih hc
          have x1 := l3 k hc
          have x2 := rlt k hc
          have r2 : wi' 52 k = nI (a k) := by
            have k2 := hA k hc
            rw [Nat.zero_add] at k2
            exact k2
          conv => whnf
          repeat ((first | refine ⟨zH_of _, ?_⟩ | refine ⟨trivial, ?_⟩ | refine ⟨rfl, ?_⟩ | refine ⟨fun hc => absurd hc (by decide), fun _ => ?_⟩ | refine ⟨fun _ => ?_, fun hc => absurd (by decide) hc⟩ | refine ⟨fun _ => ?_, fun hc => absurd hc (by decide)⟩ | refine ⟨fun hc => absurd (by decide) hc, fun _ => ?_⟩); conv => whnf)
          try dsimp only
          rw [bI_0]
          refine ⟨fun hz => ?_, fun hz => ?_⟩
          · rw [bI_f (fun z => hz (fun p hp => z p (by omega)))] at ih
            conv => whnf
            repeat ((first | refine ⟨zH_of _, ?_⟩ | refine ⟨trivial, ?_⟩ | refine ⟨rfl, ?_⟩ | refine ⟨fun hc => absurd hc (by decide), fun _ => ?_⟩ | refine ⟨fun _ => ?_, fun hc => absurd (by decide) hc⟩ | refine ⟨fun _ => ?_, fun hc => absurd hc (by decide)⟩ | refine ⟨fun hc => absurd (by decide) hc, fun _ => ?_⟩); conv => whnf)
            try dsimp only
            rw [nI_add]
            exact ih
          · have hz := Classical.not_not.mp hz
            conv => whnf
            repeat ((first | refine ⟨zH_of _, ?_⟩ | refine ⟨trivial, ?_⟩ | refine ⟨rfl, ?_⟩ | refine ⟨fun hc => absurd hc (by decide), fun _ => ?_⟩ | refine ⟨fun _ => ?_, fun hc => absurd (by decide) hc⟩ | refine ⟨fun _ => ?_, fun hc => absurd hc (by decide)⟩ | refine ⟨fun hc => absurd (by decide) hc, fun _ => ?_⟩); conv => whnf)
            try dsimp only
            refine ⟨vp_in_nI (show k < 1080 by omega) (by decide), ?_⟩
            conv => whnf
            repeat ((first | refine ⟨zH_of _, ?_⟩ | refine ⟨trivial, ?_⟩ | refine ⟨rfl, ?_⟩ | refine ⟨fun hc => absurd hc (by decide), fun _ => ?_⟩ | refine ⟨fun _ => ?_, fun hc => absurd (by decide) hc⟩ | refine ⟨fun _ => ?_, fun hc => absurd hc (by decide)⟩ | refine ⟨fun hc => absurd (by decide) hc, fun _ => ?_⟩); conv => whnf)
            try dsimp only
            rw [at_N]
            refine ⟨vp_in_nI (show 27 * i' + 9 * t + k < 1080 by omega) (by decide), ?_⟩
            conv => whnf
            repeat ((first | refine ⟨zH_of _, ?_⟩ | refine ⟨trivial, ?_⟩ | refine ⟨rfl, ?_⟩ | refine ⟨fun hc => absurd hc (by decide), fun _ => ?_⟩ | refine ⟨fun _ => ?_, fun hc => absurd (by decide) hc⟩ | refine ⟨fun _ => ?_, fun hc => absurd hc (by decide)⟩ | refine ⟨fun hc => absurd (by decide) hc, fun _ => ?_⟩); conv => whnf)
            try dsimp only
            rw [nI_clamp (n := k) (by omega), nI_clamp (n := 27 * i' + 9 * t + k) (by omega), r2, ms_at hS hi ht hc, nI_eq (by omega) (by omega)]
            refine ⟨fun hq => ?_, fun hq => ?_⟩
            · rw [bI_f (fun z => hq (z k (Nat.lt_succ_self k)))] at ih
              conv => whnf
              repeat ((first | refine ⟨zH_of _, ?_⟩ | refine ⟨trivial, ?_⟩ | refine ⟨rfl, ?_⟩ | refine ⟨fun hc => absurd hc (by decide), fun _ => ?_⟩ | refine ⟨fun _ => ?_, fun hc => absurd (by decide) hc⟩ | refine ⟨fun _ => ?_, fun hc => absurd hc (by decide)⟩ | refine ⟨fun hc => absurd (by decide) hc, fun _ => ?_⟩); conv => whnf)
              try dsimp only
              rw [nI_add]
              exact ih
            · rw [bI_t (fun p hp => by
                rcases Nat.lt_or_ge p k with g | g
                · exact hz p g
                · rw [show p = k by omega]
                  exact hq)] at ih
              conv => whnf
              repeat ((first | refine ⟨zH_of _, ?_⟩ | refine ⟨trivial, ?_⟩ | refine ⟨rfl, ?_⟩ | refine ⟨fun hc => absurd hc (by decide), fun _ => ?_⟩ | refine ⟨fun _ => ?_, fun hc => absurd (by decide) hc⟩ | refine ⟨fun _ => ?_, fun hc => absurd hc (by decide)⟩ | refine ⟨fun hc => absurd (by decide) hc, fun _ => ?_⟩); conv => whnf)
              try dsimp only
              rw [nI_add]
              exact ih)
      have c0 := cmp 0 (Nat.zero_le _)
      rw [bI_t (fun p hp => absurd hp (Nat.not_lt_zero p))] at c0
      conv => whnf
      repeat ((first | refine ⟨zH_of _, ?_⟩ | refine ⟨trivial, ?_⟩ | refine ⟨rfl, ?_⟩ | refine ⟨fun hc => absurd hc (by decide), fun _ => ?_⟩ | refine ⟨fun _ => ?_, fun hc => absurd (by decide) hc⟩ | refine ⟨fun _ => ?_, fun hc => absurd hc (by decide)⟩ | refine ⟨fun hc => absurd (by decide) hc, fun _ => ?_⟩); conv => whnf)
      try dsimp only
      exact c0
    have rest : ∀ wi2 : Nat → Nat → Int32, FTm 0 wi1 wi2 → RdP wi2 L x 0 R → Jm 26 [some (.ref 45), some (.int i), some (.int u), none, none] [] (GC ++ (GM ++ r), wi2, wl) 0 0 := fun wi2 hF2 hP => by
      have hF := fsc hS1 hF2
      have h8 : wi2 45 8 = nI 0 := by rw [hF2.2.1 8 (by decide) (by decide)]; exact a8
      refine hs 400 26 _ _ _ _ _ ?_
      conv => whnf
      repeat ((first | refine ⟨zH_of _, ?_⟩ | refine ⟨trivial, ?_⟩ | refine ⟨rfl, ?_⟩ | refine ⟨fun hc => absurd hc (by decide), fun _ => ?_⟩ | refine ⟨fun _ => ?_, fun hc => absurd (by decide) hc⟩ | refine ⟨fun _ => ?_, fun hc => absurd hc (by decide)⟩ | refine ⟨fun hc => absurd (by decide) hc, fun _ => ?_⟩); conv => whnf)
      try dsimp only
      rcases hP with ⟨p1, p2, p3, p4⟩ | ⟨p1, p2, p3, _⟩
      · refine ⟨fun z => absurd p3 z, fun _ => ?_⟩
        have kL := p2.2.2.2.1
        have l4 := p2.2.2.1
        have ef := ff_rest R.2.1 L
        rw [← p1] at ef
        conv => whnf
        repeat ((first | refine ⟨zH_of _, ?_⟩ | refine ⟨trivial, ?_⟩ | refine ⟨rfl, ?_⟩ | refine ⟨fun hc => absurd hc (by decide), fun _ => ?_⟩ | refine ⟨fun _ => ?_, fun hc => absurd (by decide) hc⟩ | refine ⟨fun _ => ?_, fun hc => absurd hc (by decide)⟩ | refine ⟨fun hc => absurd (by decide) hc, fun _ => ?_⟩); conv => whnf)
        try dsimp only
        refine ⟨L, x, R.2.1, p2, p3, fun hk => ?_, fun hk => ?_⟩
        · rw [if_pos hk] at ef
          conv => whnf
          repeat ((first | refine ⟨zH_of _, ?_⟩ | refine ⟨trivial, ?_⟩ | refine ⟨rfl, ?_⟩ | refine ⟨fun hc => absurd hc (by decide), fun _ => ?_⟩ | refine ⟨fun _ => ?_, fun hc => absurd (by decide) hc⟩ | refine ⟨fun _ => ?_, fun hc => absurd hc (by decide)⟩ | refine ⟨fun hc => absurd (by decide) hc, fun _ => ?_⟩); conv => whnf)
          try dsimp only
          exact finF _ R.2.1 ⟨fun y g1 g2 => by rw [z_up_ne g1, hF.1 y g1 g2], fun i g1 g2 g3 g4 g5 => by rw [z_up_nei g4, hF.2 i g1 g2 g3 g4 g5]⟩ (by rw [z_up_nei (by decide)]; exact h8) z_up_eq (by omega) ef
        · rw [if_neg hk] at ef
          conv => whnf
          repeat ((first | refine ⟨zH_of _, ?_⟩ | refine ⟨trivial, ?_⟩ | refine ⟨rfl, ?_⟩ | refine ⟨fun hc => absurd hc (by decide), fun _ => ?_⟩ | refine ⟨fun _ => ?_, fun hc => absurd (by decide) hc⟩ | refine ⟨fun _ => ?_, fun hc => absurd hc (by decide)⟩ | refine ⟨fun hc => absurd (by decide) hc, fun _ => ?_⟩); conv => whnf)
          try dsimp only
          exact finO wi2 hF h8 p3 p4 ef
      · refine ⟨fun _ => ?_, fun z => absurd (p2.symm.trans z) (nI_m1 (by omega))⟩
        refine finF wi2 R.2.1 hF h8 p2 p3 ?_
        unfold ffI
        rw [if_neg (fun z => p1 z.1)]
    have h46 : ∀ t, t < 3 → wi1 46 t = nI (d t) := fun t ht => by rw [hS1.1 46 (by decide) (by decide)]; exact ms_d (mt_S hC) t ht
    have h1 : wi1 45 1 = nI q := by rw [hS1.2 1 (by decide) (by decide) (by decide) (by decide) (by decide)]; exact ms_q (mt_S hC)
    have hXR := xm_xr hX a12 a13 (hS1.1 50 (by decide) (by decide))
    rw [bI_0]
    refine ⟨fun hn => ?_, fun hn => ?_⟩
    · have hv : nI 0 = nI (tb0 u) := by
        unfold tb0
        rw [if_neg hn]
      conv => whnf
      repeat ((first | refine ⟨zH_of _, ?_⟩ | refine ⟨trivial, ?_⟩ | refine ⟨rfl, ?_⟩ | refine ⟨fun hc => absurd hc (by decide), fun _ => ?_⟩ | refine ⟨fun _ => ?_, fun hc => absurd (by decide) hc⟩ | refine ⟨fun _ => ?_, fun hc => absurd hc (by decide)⟩ | refine ⟨fun hc => absurd (by decide) hc, fun _ => ?_⟩); conv => whnf)
      try dsimp only
      refine ⟨L, x, 0, d, q, 0, tb0 u, hXR, a14, h46, hd3, h1, q23, rfl, by decide, hv, tb, fun wi2 hF2 hP => ?_⟩
      rw [hR] at hP
      conv => whnf
      repeat ((first | refine ⟨zH_of _, ?_⟩ | refine ⟨trivial, ?_⟩ | refine ⟨rfl, ?_⟩ | refine ⟨fun hc => absurd hc (by decide), fun _ => ?_⟩ | refine ⟨fun _ => ?_, fun hc => absurd (by decide) hc⟩ | refine ⟨fun _ => ?_, fun hc => absurd hc (by decide)⟩ | refine ⟨fun hc => absurd (by decide) hc, fun _ => ?_⟩); conv => whnf)
      try dsimp only
      exact rest wi2 hF2 hP
    · have hn := Classical.not_not.mp hn
      have hv : u = nI (tb0 u) := by
        unfold tb0
        rw [if_pos hn]
        obtain ⟨n, h1, rfl⟩ := idB_N hn (by decide)
        rw [nc_N (by omega)]
      conv => whnf
      repeat ((first | refine ⟨zH_of _, ?_⟩ | refine ⟨trivial, ?_⟩ | refine ⟨rfl, ?_⟩ | refine ⟨fun hc => absurd hc (by decide), fun _ => ?_⟩ | refine ⟨fun _ => ?_, fun hc => absurd (by decide) hc⟩ | refine ⟨fun _ => ?_, fun hc => absurd hc (by decide)⟩ | refine ⟨fun hc => absurd (by decide) hc, fun _ => ?_⟩); conv => whnf)
      try dsimp only
      refine ⟨L, x, 0, d, q, 0, tb0 u, hXR, a14, h46, hd3, h1, q23, rfl, by decide, hv, tb, fun wi2 hF2 hP => ?_⟩
      rw [hR] at hP
      conv => whnf
      repeat ((first | refine ⟨zH_of _, ?_⟩ | refine ⟨trivial, ?_⟩ | refine ⟨rfl, ?_⟩ | refine ⟨fun hc => absurd hc (by decide), fun _ => ?_⟩ | refine ⟨fun _ => ?_, fun hc => absurd (by decide) hc⟩ | refine ⟨fun _ => ?_, fun hc => absurd hc (by decide)⟩ | refine ⟨fun hc => absurd (by decide) hc, fun _ => ?_⟩); conv => whnf)
      try dsimp only
      exact rest wi2 hF2 hP

