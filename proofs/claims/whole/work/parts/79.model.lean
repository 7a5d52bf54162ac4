/-! the reference: the scheme turned round -/
def sp_X12_laysTurned : zSp := fun av w K => match av with
  | [.ref o] => o = 45 ∧ zH w.1 ∧ ∃ d q c A, MS w.2.1 d q c A ∧ ∀ wi' : Nat → Nat → Int32, (∀ y, y ≠ 57 → wi' y = w.2.1 y) → RW wi' 57 (27 * c) (rlA A) → K none (w.1, wi', w.2.2)
  | _ => False
def rm_X12_laysTurned : Room := { frames := 1, cells := 0, slots := 0, locals := 22 }
def M_X12_laysTurned : zM := (k_X12_laysTurned, f_X12, [(107, 0, 0, 3, 0, 0, sp_X12_at)], ([], [], []), [], [(2, [true, true, false, false]), (12, [true, true, true, false]), (19, [true, true, true, true])], 0, false, (false, 0, fun _ => 0), (0, 0))
theorem ca_X12_laysTurned_0 (l : Launch) : z_cok l RX12 (headSpec (.code yX12_laysTurned cX12_laysTurned 4 none :: zTT) rm_X12_laysTurned).room (107, 0, 0, 3, 0, 0, sp_X12_at) := z_ca0 (c_X12_at l) mb_X12_at wt_1136 wt_1137 (by decide)
theorem O_X12_laysTurned (l : Launch) : z_OK l RX12 cX12_laysTurned (headSpec (.code yX12_laysTurned cX12_laysTurned 4 none :: zTT) rm_X12_laysTurned).room M_X12_laysTurned := ⟨ok_X12_laysTurned, fo_X12, List.forall_mem_cons.mpr ⟨ca_X12_laysTurned_0 l, fun _ h => absurd h List.not_mem_nil⟩, fun _ h => absurd h List.not_mem_nil, fun _ h => absurd h List.not_mem_nil, fun _ h => absurd h List.not_mem_nil, fun _ h => absurd h List.not_mem_nil, rfl, rfl⟩
theorem c_X12_laysTurned (l : Launch) : z_CS l yX12_laysTurned cX12_laysTurned 4 none rm_X12_laysTurned sp_X12_laysTurned := by
  refine z_meth (by decide) (Or.inl ⟨rfl, rfl⟩) (fun h => by cases h) rfl (O_X12_laysTurned l) ?_
  intro av w K h
  match av, h with
  | [.ref o], h =>
    obtain ⟨rfl, ⟨r, hG⟩, d, q, c, A, hS, h⟩ := h
    obtain ⟨G, wi, wl⟩ := w
    subst hG
    try dsimp only at h hS
    have h40 := ms_40 hS
    refine ⟨Nat.le_of_ble_eq_true rfl, fun Jm hs => ?_⟩
    have loop := up_ind (P := fun i => ∀ wi' : Nat → Nat → Int32, (∀ y, y ≠ 57 → wi' y = wi y) → RW wi' 57 (27 * i) (rlA A) → Jm 2 [some (.ref 45), some (.int (nI i)), none, none] [] (GC ++ (GM ++ r), wi', wl) 0 0) c (fun i hi ih => by
      intro wi' hF hR
      have hc : wi' 45 2 = nI c := by rw [hF 45 (by decide)]; exact ms_c hS
      refine hs 400 2 _ _ _ _ _ ?_
      conv => whnf
      repeat ((first | refine ⟨zH_of _, ?_⟩ | refine ⟨trivial, ?_⟩ | refine ⟨rfl, ?_⟩ | refine ⟨fun hc => absurd hc (by decide), fun _ => ?_⟩ | refine ⟨fun _ => ?_, fun hc => absurd (by decide) hc⟩ | refine ⟨fun _ => ?_, fun hc => absurd hc (by decide)⟩ | refine ⟨fun hc => absurd (by decide) hc, fun _ => ?_⟩); conv => whnf)
      try dsimp only
      rw [hc, ltN (by omega) (by omega)]
      refine ⟨fun hc => ?_, fun hc => ?_⟩
      · obtain rfl : i = c := by omega
        exact h wi' hF hR
      · have ih := ih hc
        have loopt := up_ind (P := fun t => ∀ wi' : Nat → Nat → Int32, (∀ y, y ≠ 57 → wi' y = wi y) → RW wi' 57 (27 * i + 9 * t) (rlA A) → Jm 12 [some (.ref 45), some (.int (nI i)), some (.int (nI t)), none] [] (GC ++ (GM ++ r), wi', wl) 0 0) 3 (fun t ht iht => by
          intro wi' hF hR
          refine hs 400 12 _ _ _ _ _ ?_
          conv => whnf
          repeat ((first | refine ⟨zH_of _, ?_⟩ | refine ⟨trivial, ?_⟩ | refine ⟨rfl, ?_⟩ | refine ⟨fun hc => absurd hc (by decide), fun _ => ?_⟩ | refine ⟨fun _ => ?_, fun hc => absurd (by decide) hc⟩ | refine ⟨fun _ => ?_, fun hc => absurd hc (by decide)⟩ | refine ⟨fun hc => absurd (by decide) hc, fun _ => ?_⟩); conv => whnf)
          try dsimp only
          rw [ltN (by omega) (by omega)]
          refine ⟨fun hc2 => ?_, fun hc2 => ?_⟩
          · obtain rfl : t = 3 := by omega
            conv => whnf
            repeat ((first | refine ⟨zH_of _, ?_⟩ | refine ⟨trivial, ?_⟩ | refine ⟨rfl, ?_⟩ | refine ⟨fun hc => absurd hc (by decide), fun _ => ?_⟩ | refine ⟨fun _ => ?_, fun hc => absurd (by decide) hc⟩ | refine ⟨fun _ => ?_, fun hc => absurd hc (by decide)⟩ | refine ⟨fun hc => absurd (by decide) hc, fun _ => ?_⟩); conv => whnf)
            try dsimp only
            rw [nI_add]
            exact ih wi' hF (fun j hj => hR j (by omega))
          · have iht := iht hc2
            have n1 := nx_lt t
            have loopk := up_ind (P := fun k => ∀ wi' : Nat → Nat → Int32, (∀ y, y ≠ 57 → wi' y = wi y) → RW wi' 57 (27 * i + 9 * t + k) (rlA A) → Jm 19 [some (.ref 45), some (.int (nI i)), some (.int (nI t)), some (.int (nI k))] [] (GC ++ (GM ++ r), wi', wl) 0 0) 9 (fun k hk ihk => by
              intro wi' hF hR
              refine hs 400 19 _ _ _ _ _ ?_
              conv => whnf
              repeat ((first | refine ⟨zH_of _, ?_⟩ | refine ⟨trivial, ?_⟩ | refine ⟨rfl, ?_⟩ | refine ⟨fun hc => absurd hc (by decide), fun _ => ?_⟩ | refine ⟨fun _ => ?_, fun hc => absurd (by decide) hc⟩ | refine ⟨fun _ => ?_, fun hc => absurd hc (by decide)⟩ | refine ⟨fun hc => absurd (by decide) hc, fun _ => ?_⟩); conv => whnf)
              try dsimp only
              rw [ltN (by omega) (by omega)]
              refine ⟨fun hc3 => ?_, fun hc3 => ?_⟩
              · obtain rfl : k = 9 := by omega
                conv => whnf
                repeat ((first | refine ⟨zH_of _, ?_⟩ | refine ⟨trivial, ?_⟩ | refine ⟨rfl, ?_⟩ | refine ⟨fun hc => absurd hc (by decide), fun _ => ?_⟩ | refine ⟨fun _ => ?_, fun hc => absurd (by decide) hc⟩ | refine ⟨fun _ => ?_, fun hc => absurd hc (by decide)⟩ | refine ⟨fun hc => absurd (by decide) hc, fun _ => ?_⟩); conv => whnf)
                try dsimp only
                rw [nI_add]
                exact iht wi' hF (fun j hj => hR j (by omega))
              · have ihk := ihk hc3
                conv => whnf
                repeat ((first | refine ⟨zH_of _, ?_⟩ | refine ⟨trivial, ?_⟩ | refine ⟨rfl, ?_⟩ | refine ⟨fun hc => absurd hc (by decide), fun _ => ?_⟩ | refine ⟨fun _ => ?_, fun hc => absurd (by decide) hc⟩ | refine ⟨fun _ => ?_, fun hc => absurd hc (by decide)⟩ | refine ⟨fun hc => absurd (by decide) hc, fun _ => ?_⟩); conv => whnf)
                try dsimp only
                refine ⟨n30, ?_⟩
                rw [rem3 hc2]
                conv => whnf
                repeat ((first | refine ⟨zH_of _, ?_⟩ | refine ⟨trivial, ?_⟩ | refine ⟨rfl, ?_⟩ | refine ⟨fun hc => absurd hc (by decide), fun _ => ?_⟩ | refine ⟨fun _ => ?_, fun hc => absurd (by decide) hc⟩ | refine ⟨fun _ => ?_, fun hc => absurd hc (by decide)⟩ | refine ⟨fun hc => absurd (by decide) hc, fun _ => ?_⟩); conv => whnf)
                try dsimp only
                rw [at_N i t k, at_N i (nx t) k]
                refine ⟨vp_in_nI (show 27 * i + 9 * nx t + k < 1080 by omega) (by decide), ?_⟩
                conv => whnf
                repeat ((first | refine ⟨zH_of _, ?_⟩ | refine ⟨trivial, ?_⟩ | refine ⟨rfl, ?_⟩ | refine ⟨fun hc => absurd hc (by decide), fun _ => ?_⟩ | refine ⟨fun _ => ?_, fun hc => absurd (by decide) hc⟩ | refine ⟨fun _ => ?_, fun hc => absurd hc (by decide)⟩ | refine ⟨fun hc => absurd (by decide) hc, fun _ => ?_⟩); conv => whnf)
                try dsimp only
                refine ⟨vp_in_nI (show 27 * i + 9 * t + k < 1080 by omega) (by decide), ?_⟩
                conv => whnf
                repeat ((first | refine ⟨zH_of _, ?_⟩ | refine ⟨trivial, ?_⟩ | refine ⟨rfl, ?_⟩ | refine ⟨fun hc => absurd hc (by decide), fun _ => ?_⟩ | refine ⟨fun _ => ?_, fun hc => absurd (by decide) hc⟩ | refine ⟨fun _ => ?_, fun hc => absurd hc (by decide)⟩ | refine ⟨fun hc => absurd (by decide) hc, fun _ => ?_⟩); conv => whnf)
                try dsimp only
                rw [nI_clamp (n := 27 * i + 9 * nx t + k) (by omega), nI_clamp (n := 27 * i + 9 * t + k) (by omega), hF 47 (by decide), ms_at hS hc n1 hc3, nI_add]
                refine ihk _ (fun y hy => by rw [z_up_ne hy, hF y hy]) (fun j hj => ?_)
                by_cases e : j = 27 * i + 9 * t + k
                · rw [e, z_up_eq, fl_at _ hc2 hc3, rl_at A i hc2]
                · rw [z_up_nei e]
                  exact hR j (by omega))
            conv => whnf
            repeat ((first | refine ⟨zH_of _, ?_⟩ | refine ⟨trivial, ?_⟩ | refine ⟨rfl, ?_⟩ | refine ⟨fun hc => absurd hc (by decide), fun _ => ?_⟩ | refine ⟨fun _ => ?_, fun hc => absurd (by decide) hc⟩ | refine ⟨fun _ => ?_, fun hc => absurd hc (by decide)⟩ | refine ⟨fun hc => absurd (by decide) hc, fun _ => ?_⟩); conv => whnf)
            try dsimp only
            exact loopk 0 (Nat.zero_le _) wi' hF hR)
        conv => whnf
        repeat ((first | refine ⟨zH_of _, ?_⟩ | refine ⟨trivial, ?_⟩ | refine ⟨rfl, ?_⟩ | refine ⟨fun hc => absurd hc (by decide), fun _ => ?_⟩ | refine ⟨fun _ => ?_, fun hc => absurd (by decide) hc⟩ | refine ⟨fun _ => ?_, fun hc => absurd hc (by decide)⟩ | refine ⟨fun hc => absurd (by decide) hc, fun _ => ?_⟩); conv => whnf)
        try dsimp only
        exact loopt 0 (Nat.zero_le _) wi' hF hR)
    exact hs 400 0 _ _ _ _ _ (loop 0 (Nat.zero_le _) wi (fun _ _ => rfl) (fun j hj => absurd hj (by omega)))
def sp_X12_takesBeside : zSp := fun av w K => match av with
  | [.ref o, .int a, .int b, .int e] => o = 45 ∧ zH w.1 ∧ ∃ d q c A B d', MS w.2.1 d q c A ∧ RW w.2.1 57 (27 * c) B ∧ (∀ k, k < 3 * c → ∀ p, p < 9 → B k p < q) ∧ a = nI (d' 0) ∧ b = nI (d' 1) ∧ e = nI (d' 2) ∧ (∀ t, t < 3 → 1 ≤ d' t ∧ d' t ≤ 3) ∧ ∀ wi' : Nat → Nat → Int32, (∀ y, y ≠ 46 → y ≠ 47 → wi' y = w.2.1 y) → MS wi' d' q c B → K none (w.1, wi', w.2.2)
  | _ => False
def rm_X12_takesBeside : Room := { frames := 0, cells := 0, slots := 0, locals := 0 }
def M_X12_takesBeside : zM := (k_X12_takesBeside, f_X12, [], ([], [], []), [], [(3, [true, true, true, true, true])], 0, false, (false, 0, fun _ => 0), (0, 0))
theorem O_X12_takesBeside (l : Launch) : z_OK l RX12 cX12_takesBeside (headSpec (.code yX12_takesBeside cX12_takesBeside 5 none :: zTT) rm_X12_takesBeside).room M_X12_takesBeside := ⟨ok_X12_takesBeside, fo_X12, fun _ h => absurd h List.not_mem_nil, fun _ h => absurd h List.not_mem_nil, fun _ h => absurd h List.not_mem_nil, fun _ h => absurd h List.not_mem_nil, fun _ h => absurd h List.not_mem_nil, rfl, rfl⟩
theorem c_X12_takesBeside (l : Launch) : z_CS l yX12_takesBeside cX12_takesBeside 5 none rm_X12_takesBeside sp_X12_takesBeside := by
  refine z_meth (by decide) (Or.inl ⟨rfl, rfl⟩) (fun h => by cases h) rfl (O_X12_takesBeside l) ?_
  intro av w K h
  match av, h with
  | [.ref o, .int a, .int b, .int e], h =>
    obtain ⟨rfl, ⟨r, hG⟩, d, q, c, A, B, d', hS, hB, hb, rfl, rfl, rfl, hd', h⟩ := h
    obtain ⟨G, wi, wl⟩ := w
    subst hG
    try dsimp only at h hS hB
    have h40 := ms_40 hS
    refine ⟨Nat.le_of_ble_eq_true rfl, fun Jm hs => ?_⟩
    have loop := up_ind (P := fun k => ∀ wi' : Nat → Nat → Int32, (∀ y, y ≠ 47 → wi' y = wi y) → RW wi' 47 k B → Jm 3 [some (.ref 45), some (.int (nI (d' 0))), some (.int (nI (d' 1))), some (.int (nI (d' 2))), some (.int (nI k))] [] (GC ++ (GM ++ r), wi', wl) 0 0) (27 * c) (fun k hk ih => by
      intro wi' hF hR
      have hc : wi' 45 2 = nI c := by rw [hF 45 (by decide)]; exact ms_c hS
      refine hs 400 3 _ _ _ _ _ ?_
      conv => whnf
      repeat ((first | refine ⟨zH_of _, ?_⟩ | refine ⟨trivial, ?_⟩ | refine ⟨rfl, ?_⟩ | refine ⟨fun hc => absurd hc (by decide), fun _ => ?_⟩ | refine ⟨fun _ => ?_, fun hc => absurd (by decide) hc⟩ | refine ⟨fun _ => ?_, fun hc => absurd hc (by decide)⟩ | refine ⟨fun hc => absurd (by decide) hc, fun _ => ?_⟩); conv => whnf)
      try dsimp only
      rw [hc, pk_mul, ltN (by omega) (by omega)]
      refine ⟨fun hc2 => ?_, fun hc2 => ?_⟩
      · obtain rfl : k = 27 * c := by omega
        conv => whnf
        repeat ((first | refine ⟨zH_of _, ?_⟩ | refine ⟨trivial, ?_⟩ | refine ⟨rfl, ?_⟩ | refine ⟨fun hc => absurd hc (by decide), fun _ => ?_⟩ | refine ⟨fun _ => ?_, fun hc => absurd (by decide) hc⟩ | refine ⟨fun _ => ?_, fun hc => absurd hc (by decide)⟩ | refine ⟨fun hc => absurd (by decide) hc, fun _ => ?_⟩); conv => whnf)
        try dsimp only
        refine ⟨vp_in_nI (show 0 < 3 by decide) (by decide), ?_⟩
        conv => whnf
        repeat ((first | refine ⟨zH_of _, ?_⟩ | refine ⟨trivial, ?_⟩ | refine ⟨rfl, ?_⟩ | refine ⟨fun hc => absurd hc (by decide), fun _ => ?_⟩ | refine ⟨fun _ => ?_, fun hc => absurd (by decide) hc⟩ | refine ⟨fun _ => ?_, fun hc => absurd hc (by decide)⟩ | refine ⟨fun hc => absurd (by decide) hc, fun _ => ?_⟩); conv => whnf)
        try dsimp only
        refine ⟨vp_in_nI (show 1 < 3 by decide) (by decide), ?_⟩
        conv => whnf
        repeat ((first | refine ⟨zH_of _, ?_⟩ | refine ⟨trivial, ?_⟩ | refine ⟨rfl, ?_⟩ | refine ⟨fun hc => absurd hc (by decide), fun _ => ?_⟩ | refine ⟨fun _ => ?_, fun hc => absurd (by decide) hc⟩ | refine ⟨fun _ => ?_, fun hc => absurd hc (by decide)⟩ | refine ⟨fun hc => absurd (by decide) hc, fun _ => ?_⟩); conv => whnf)
        try dsimp only
        refine ⟨vp_in_nI (show 2 < 3 by decide) (by decide), ?_⟩
        rw [nI_clamp (n := 0) (by decide), nI_clamp (n := 1) (by decide), nI_clamp (n := 2) (by decide)]
        refine h _ (fun y g1 g2 => by rw [z_up_ne g1, z_up_ne g1, z_up_ne g1, hF y g2]) ⟨fun t ht => ?_, ⟨?_, ?_⟩, fun j hj => ?_, ms_q23 hS, hd', h40, hb⟩
        · rcases lt3 ht with rfl | rfl | rfl
          · rw [z_up_nei (by decide), z_up_nei (by decide), z_up_eq]
          · rw [z_up_nei (by decide), z_up_eq]
          · rw [z_up_eq]
        · rw [z_up_ne (by decide), z_up_ne (by decide), z_up_ne (by decide), hF 45 (by decide)]
          exact ms_q hS
        · rw [z_up_ne (by decide), z_up_ne (by decide), z_up_ne (by decide)]
          exact hc
        · rw [z_up_ne (by decide), z_up_ne (by decide), z_up_ne (by decide)]
          exact hR j hj
      · have ih := ih hc2
        conv => whnf
        repeat ((first | refine ⟨zH_of _, ?_⟩ | refine ⟨trivial, ?_⟩ | refine ⟨rfl, ?_⟩ | refine ⟨fun hc => absurd hc (by decide), fun _ => ?_⟩ | refine ⟨fun _ => ?_, fun hc => absurd (by decide) hc⟩ | refine ⟨fun _ => ?_, fun hc => absurd hc (by decide)⟩ | refine ⟨fun hc => absurd (by decide) hc, fun _ => ?_⟩); conv => whnf)
        try dsimp only
        refine ⟨vp_in_nI (show k < 1080 by omega) (by decide), ?_⟩
        conv => whnf
        repeat ((first | refine ⟨zH_of _, ?_⟩ | refine ⟨trivial, ?_⟩ | refine ⟨rfl, ?_⟩ | refine ⟨fun hc => absurd hc (by decide), fun _ => ?_⟩ | refine ⟨fun _ => ?_, fun hc => absurd (by decide) hc⟩ | refine ⟨fun _ => ?_, fun hc => absurd hc (by decide)⟩ | refine ⟨fun hc => absurd (by decide) hc, fun _ => ?_⟩); conv => whnf)
        try dsimp only
        refine ⟨vp_in_nI (show k < 1080 by omega) (by decide), ?_⟩
        conv => whnf
        repeat ((first | refine ⟨zH_of _, ?_⟩ | refine ⟨trivial, ?_⟩ | refine ⟨rfl, ?_⟩ | refine ⟨fun hc => absurd hc (by decide), fun _ => ?_⟩ | refine ⟨fun _ => ?_, fun hc => absurd (by decide) hc⟩ | refine ⟨fun _ => ?_, fun hc => absurd hc (by decide)⟩ | refine ⟨fun hc => absurd (by decide) hc, fun _ => ?_⟩); conv => whnf)
        try dsimp only
        rw [nI_clamp (n := k) (by omega), hF 57 (by decide), hB k hc2, nI_add]
        refine ih _ (fun y hy => by rw [z_up_ne hy, hF y hy]) (fun j hj => ?_)
        by_cases e : j = k
        · rw [e, z_up_eq]
        · rw [z_up_nei e]
          exact hR j (by omega))
    exact hs 400 0 _ _ _ _ _ (loop 0 (Nat.zero_le _) wi (fun _ _ => rfl) (fun j hj => absurd hj (Nat.not_lt_zero j)))
def sp_X12_rolls : zSp := fun av w K => match av with
  | [.ref o] => o = 45 ∧ zH w.1 ∧ ∃ T, MT w.2.1 w.2.2 T ∧ ZT T ∧ ∀ wi' wl', FrM w.2.1 w.2.2 wi' wl' → MT wi' wl' (st_rolls T).1 → K (some (.int (st_rolls T).2)) (w.1, wi', wl')
  | _ => False
def rm_X12_rolls : Room := { frames := 2, cells := 0, slots := 0, locals := 45 }
def M_X12_rolls : zM := (k_X12_rolls, f_X12, [(294, 4, 10, 1, 0, 0, sp_X12_laysTurned), (297, 4, 10, 4, 0, 0, sp_X12_takesBeside)], ([], [], []), [], [], 1, false, (false, 0, fun _ => 0), (0, 0))
theorem ca_X12_rolls_0 (l : Launch) : z_cok l RX12 (headSpec (.code yX12_rolls cX12_rolls 1 (some .int) :: zTT) rm_X12_rolls).room (294, 4, 10, 1, 0, 0, sp_X12_laysTurned) := z_ca4 (c_X12_laysTurned l) mb_X12_laysTurned ⟨_, rfl, rfl⟩ wt_1534 wt_1536 wt_72 (by decide)
theorem ca_X12_rolls_1 (l : Launch) : z_cok l RX12 (headSpec (.code yX12_rolls cX12_rolls 1 (some .int) :: zTT) rm_X12_rolls).room (297, 4, 10, 4, 0, 0, sp_X12_takesBeside) := z_ca4 (c_X12_takesBeside l) mb_X12_takesBeside ⟨_, rfl, rfl⟩ wt_1538 wt_1540 wt_73 (by decide)
theorem O_X12_rolls (l : Launch) : z_OK l RX12 cX12_rolls (headSpec (.code yX12_rolls cX12_rolls 1 (some .int) :: zTT) rm_X12_rolls).room M_X12_rolls := ⟨ok_X12_rolls, fo_X12, List.forall_mem_cons.mpr ⟨ca_X12_rolls_0 l, List.forall_mem_cons.mpr ⟨ca_X12_rolls_1 l, fun _ h => absurd h List.not_mem_nil⟩⟩, fun _ h => absurd h List.not_mem_nil, fun _ h => absurd h List.not_mem_nil, fun _ h => absurd h List.not_mem_nil, fun _ h => absurd h List.not_mem_nil, rfl, rfl⟩
theorem c_X12_rolls (l : Launch) : z_CS l yX12_rolls cX12_rolls 1 (some .int) rm_X12_rolls sp_X12_rolls := by
  refine z_meth (by decide) (Or.inr (Or.inl ⟨rfl, rfl⟩)) (fun h => by cases h) rfl (O_X12_rolls l) ?_
  intro av w K h
  match av, h with
  | [.ref o], h =>
    obtain ⟨rfl, ⟨r, hG⟩, ⟨d, q, c, A, kp, tx, tl⟩, hC, hZ, h⟩ := h
    obtain ⟨G, wi, wl⟩ := w
    subst hG
    try dsimp only at h hC hZ
    have hC := mt_fld (i := 11) (v := nI 0) hC (by decide)
    have hF0 : FrM wi wl (z_up wi 45 11 (nI 0)) wl := fm_fld
    refine ⟨Nat.le_of_ble_eq_true rfl, fun Jm hs => hs 400 0 _ _ _ _ _ ?_⟩
    unfold st_rolls at h
    dsimp only at h
    conv => whnf
    repeat ((first | refine ⟨zH_of _, ?_⟩ | refine ⟨trivial, ?_⟩ | refine ⟨rfl, ?_⟩ | refine ⟨fun hc => absurd hc (by decide), fun _ => ?_⟩ | refine ⟨fun _ => ?_, fun hc => absurd (by decide) hc⟩ | refine ⟨fun _ => ?_, fun hc => absurd hc (by decide)⟩ | refine ⟨fun hc => absurd (by decide) hc, fun _ => ?_⟩); conv => whnf)
    try dsimp only
    generalize z_up wi 45 11 (nI 0) = wi0 at *
    have hS := mt_S hC
    have hd3 := ms_hd hS
    refine ⟨d, q, c, A, hS, fun wi1 hF1 hR1 => ?_⟩
    have hS1 : MS wi1 d q c A := ms_fr hS (hF1 46 (by decide)) (by rw [hF1 45 (by decide)]) (by rw [hF1 45 (by decide)]) (hF1 47 (by decide))
    have e0 := ms_d hS1 0 (by decide)
    have e1 := ms_d hS1 1 (by decide)
    have e2 := ms_d hS1 2 (by decide)
    conv => whnf
    repeat ((first | refine ⟨zH_of _, ?_⟩ | refine ⟨trivial, ?_⟩ | refine ⟨rfl, ?_⟩ | refine ⟨fun hc => absurd hc (by decide), fun _ => ?_⟩ | refine ⟨fun _ => ?_, fun hc => absurd (by decide) hc⟩ | refine ⟨fun _ => ?_, fun hc => absurd hc (by decide)⟩ | refine ⟨fun hc => absurd (by decide) hc, fun _ => ?_⟩); conv => whnf)
    try dsimp only
    refine ⟨vp_in_nI (show 1 < 3 by decide) (by decide), ?_⟩
    conv => whnf
    repeat ((first | refine ⟨zH_of _, ?_⟩ | refine ⟨trivial, ?_⟩ | refine ⟨rfl, ?_⟩ | refine ⟨fun hc => absurd hc (by decide), fun _ => ?_⟩ | refine ⟨fun _ => ?_, fun hc => absurd (by decide) hc⟩ | refine ⟨fun _ => ?_, fun hc => absurd hc (by decide)⟩ | refine ⟨fun hc => absurd (by decide) hc, fun _ => ?_⟩); conv => whnf)
    try dsimp only
    refine ⟨vp_in_nI (show 2 < 3 by decide) (by decide), ?_⟩
    conv => whnf
    repeat ((first | refine ⟨zH_of _, ?_⟩ | refine ⟨trivial, ?_⟩ | refine ⟨rfl, ?_⟩ | refine ⟨fun hc => absurd hc (by decide), fun _ => ?_⟩ | refine ⟨fun _ => ?_, fun hc => absurd (by decide) hc⟩ | refine ⟨fun _ => ?_, fun hc => absurd hc (by decide)⟩ | refine ⟨fun hc => absurd (by decide) hc, fun _ => ?_⟩); conv => whnf)
    try dsimp only
    refine ⟨vp_in_nI (show 0 < 3 by decide) (by decide), ?_⟩
    conv => whnf
    repeat ((first | refine ⟨zH_of _, ?_⟩ | refine ⟨trivial, ?_⟩ | refine ⟨rfl, ?_⟩ | refine ⟨fun hc => absurd hc (by decide), fun _ => ?_⟩ | refine ⟨fun _ => ?_, fun hc => absurd (by decide) hc⟩ | refine ⟨fun _ => ?_, fun hc => absurd hc (by decide)⟩ | refine ⟨fun hc => absurd (by decide) hc, fun _ => ?_⟩); conv => whnf)
    try dsimp only
    rw [nI_clamp (n := 0) (by decide), nI_clamp (n := 1) (by decide), nI_clamp (n := 2) (by decide), e0, e1, e2]
    refine ⟨d, q, c, A, rlA A, nxD d, hS1, hR1, fun k hk p hp => ?_, rfl, rfl, rfl, fun t _ => hd3 _ (nx_lt t), fun wi2 hF2 hS2 => ?_⟩
    · have n1 := nx_lt (k % 3)
      exact ms_A hS _ (show 3 * (k / 3) + nx (k % 3) < 3 * c by omega) p hp
    · have h := h wi2 wl (FrM_trans hF0 (fun y hy => ⟨by rw [hF2 y (by omega) (by omega), hF1 y (by omega)], rfl⟩)) (mt_now hC hS2 (fun i hi => by rw [hF2 45 (by decide) (by decide), hF1 45 (by decide)]) (fun y hy => by rw [hF2 y (by omega) (by omega), hF1 y (by omega)]) rfl)
      rw [← ms_c hS2] at h
      conv => whnf
      repeat ((first | refine ⟨zH_of _, ?_⟩ | refine ⟨trivial, ?_⟩ | refine ⟨rfl, ?_⟩ | refine ⟨fun hc => absurd hc (by decide), fun _ => ?_⟩ | refine ⟨fun _ => ?_, fun hc => absurd (by decide) hc⟩ | refine ⟨fun _ => ?_, fun hc => absurd hc (by decide)⟩ | refine ⟨fun hc => absurd (by decide) hc, fun _ => ?_⟩); conv => whnf)
      try dsimp only
      exact h

