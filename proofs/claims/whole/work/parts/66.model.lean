/-! the reference: forms that are 0, flip, sums -/
theorem ms_3 {wi : Nat → Nat → Int32} {d : Nat → Nat} {q c : Nat} {A : Nat → Nat → Nat} (h : MS wi d q c A) {i t : Nat} (hi : i < c) (ht : t < 3) : ∀ p, p < 9 → A (3 * i + t) p < 3 := fun p hp => ms_A3 h _ (by omega) p hp
def sp_X12_hasZero : zSp := fun av w K => match av with
  | [.ref o, .int i] => o = 45 ∧ zH w.1 ∧ ∃ d q c A i', MS w.2.1 d q c A ∧ i = nI i' ∧ i' < c ∧ K (some (.int (bI (hzB A i' = true)))) w
  | _ => False
def rm_X12_hasZero : Room := { frames := 1, cells := 0, slots := 0, locals := 22 }
def M_X12_hasZero : zM := (k_X12_hasZero, f_X12, [(107, 0, 0, 3, 0, 0, sp_X12_at), (209, 0, 0, 2, 0, 0, sp_X12_isZero)], ([], [], []), [], [(2, [true, true, true])], 2, false, (false, 0, fun _ => 0), (0, 0))
theorem ca_X12_hasZero_0 (l : Launch) : z_cok l RX12 (headSpec (.code yX12_hasZero cX12_hasZero 3 (some .boolean) :: zTT) rm_X12_hasZero).room (107, 0, 0, 3, 0, 0, sp_X12_at) := z_ca0 (c_X12_at l) mb_X12_at wt_1136 wt_1137 (by decide)
theorem ca_X12_hasZero_1 (l : Launch) : z_cok l RX12 (headSpec (.code yX12_hasZero cX12_hasZero 3 (some .boolean) :: zTT) rm_X12_hasZero).room (209, 0, 0, 2, 0, 0, sp_X12_isZero) := z_ca0 (c_X12_isZero l) mb_X12_isZero wt_1412 wt_1413 (by decide)
theorem O_X12_hasZero (l : Launch) : z_OK l RX12 cX12_hasZero (headSpec (.code yX12_hasZero cX12_hasZero 3 (some .boolean) :: zTT) rm_X12_hasZero).room M_X12_hasZero := ⟨ok_X12_hasZero, fo_X12, List.forall_mem_cons.mpr ⟨ca_X12_hasZero_0 l, List.forall_mem_cons.mpr ⟨ca_X12_hasZero_1 l, fun _ h => absurd h List.not_mem_nil⟩⟩, fun _ h => absurd h List.not_mem_nil, fun _ h => absurd h List.not_mem_nil, fun _ h => absurd h List.not_mem_nil, fun _ h => absurd h List.not_mem_nil, rfl, rfl⟩
theorem c_X12_hasZero (l : Launch) : z_CS l yX12_hasZero cX12_hasZero 3 (some .boolean) rm_X12_hasZero sp_X12_hasZero := by
  refine z_meth (by decide) (Or.inr (Or.inr (Or.inl ⟨rfl, rfl⟩))) (fun h => by cases h) rfl (O_X12_hasZero l) ?_
  intro av w K h
  match av, h with
  | [.ref o, .int i], h =>
    obtain ⟨rfl, ⟨r, hG⟩, d, q, c, A, i', hS, rfl, hi, h⟩ := h
    obtain ⟨G, wi, wl⟩ := w
    subst hG
    try dsimp only at h hS
    have h40 := ms_40 hS
    refine ⟨Nat.le_of_ble_eq_true rfl, fun Jm hs => ?_⟩
    have turn : ∀ t, t < 3 → (zB (A (3 * i' + t)) = true → K (some (.int (nI 1))) (GC ++ (GM ++ r), wi, wl)) → (¬ zB (A (3 * i' + t)) = true → Jm 2 [some (.ref 45), some (.int (nI i')), some (.int (nI (t + 1)))] [] (GC ++ (GM ++ r), wi, wl) 0 0) → Jm 2 [some (.ref 45), some (.int (nI i')), some (.int (nI t))] [] (GC ++ (GM ++ r), wi, wl) 0 0 := fun t ht k1 k2 => by
      refine hs 400 2 _ _ _ _ _ ?_
      conv => whnf
      repeat ((first | refine ⟨zH_of _, ?_⟩ | refine ⟨trivial, ?_⟩ | refine ⟨rfl, ?_⟩ | refine ⟨fun hc => absurd hc (by decide), fun _ => ?_⟩ | refine ⟨fun _ => ?_, fun hc => absurd (by decide) hc⟩ | refine ⟨fun _ => ?_, fun hc => absurd hc (by decide)⟩ | refine ⟨fun hc => absurd (by decide) hc, fun _ => ?_⟩); conv => whnf)
      try dsimp only
      rw [ltN (by omega) (by omega)]
      refine ⟨fun z => absurd ht z, fun _ => ?_⟩
      conv => whnf
      repeat ((first | refine ⟨zH_of _, ?_⟩ | refine ⟨trivial, ?_⟩ | refine ⟨rfl, ?_⟩ | refine ⟨fun hc => absurd hc (by decide), fun _ => ?_⟩ | refine ⟨fun _ => ?_, fun hc => absurd (by decide) hc⟩ | refine ⟨fun _ => ?_, fun hc => absurd hc (by decide)⟩ | refine ⟨fun hc => absurd (by decide) hc, fun _ => ?_⟩); conv => whnf)
      try dsimp only
      rw [at_N]
      refine ⟨Or.inl rfl, zH_of _, 27 * i' + 9 * t, A (3 * i' + t), rw_ra (ms_f hS) hi ht, ms_3 hS hi ht, rfl, Nat.le_trans (show 27 * i' + 9 * t + 9 ≤ 1080 by omega) (Nat.le_of_ble_eq_true rfl), ?_⟩
      conv => whnf
      repeat ((first | refine ⟨zH_of _, ?_⟩ | refine ⟨trivial, ?_⟩ | refine ⟨rfl, ?_⟩ | refine ⟨fun hc => absurd hc (by decide), fun _ => ?_⟩ | refine ⟨fun _ => ?_, fun hc => absurd (by decide) hc⟩ | refine ⟨fun _ => ?_, fun hc => absurd hc (by decide)⟩ | refine ⟨fun hc => absurd (by decide) hc, fun _ => ?_⟩); conv => whnf)
      try dsimp only
      rw [bI_0]
      refine ⟨fun hz => ?_, fun hz => ?_⟩
      · conv => whnf
        repeat ((first | refine ⟨zH_of _, ?_⟩ | refine ⟨trivial, ?_⟩ | refine ⟨rfl, ?_⟩ | refine ⟨fun hc => absurd hc (by decide), fun _ => ?_⟩ | refine ⟨fun _ => ?_, fun hc => absurd (by decide) hc⟩ | refine ⟨fun _ => ?_, fun hc => absurd hc (by decide)⟩ | refine ⟨fun hc => absurd (by decide) hc, fun _ => ?_⟩); conv => whnf)
        try dsimp only
        rw [nI_add]
        exact k2 hz
      · exact ⟨Or.inr rfl, k1 (Classical.not_not.mp hz)⟩
    refine hs 400 0 _ _ _ _ _ (turn 0 (by decide) (fun k => ?_) (fun k0 => turn 1 (by decide) (fun k => ?_) (fun k1 => turn 2 (by decide) (fun k => ?_) (fun k2 => ?_))))
    · rw [bI_t (by simp only [Nat.add_zero] at k; simp [hzB, k])] at h
      exact h
    · rw [bI_t (by simp [hzB, k])] at h
      exact h
    · rw [bI_t (by simp [hzB, k])] at h
      exact h
    · rw [bI_f (by simp only [Nat.add_zero] at k0; simp [hzB, k0, k1, k2])] at h
      refine hs 400 2 _ _ _ _ _ ?_
      conv => whnf
      repeat ((first | refine ⟨zH_of _, ?_⟩ | refine ⟨trivial, ?_⟩ | refine ⟨rfl, ?_⟩ | refine ⟨fun hc => absurd hc (by decide), fun _ => ?_⟩ | refine ⟨fun _ => ?_, fun hc => absurd (by decide) hc⟩ | refine ⟨fun _ => ?_, fun hc => absurd hc (by decide)⟩ | refine ⟨fun hc => absurd (by decide) hc, fun _ => ?_⟩); conv => whnf)
      try dsimp only
      exact ⟨Or.inl rfl, h⟩
def sp_X12_zeroMany : zSp := fun av w K => match av with
  | [.ref o] => o = 45 ∧ zH w.1 ∧ ∃ d q c A, MS w.2.1 d q c A ∧ K (some (.int (nI (fb_ct (hzB A) c)))) w
  | _ => False
def rm_X12_zeroMany : Room := { frames := 2, cells := 0, slots := 0, locals := 44 }
def M_X12_zeroMany : zM := (k_X12_zeroMany, f_X12, [(226, 4, 10, 2, 0, 0, sp_X12_hasZero)], ([], [], []), [], [(4, [true, true, true])], 1, false, (false, 0, fun _ => 0), (0, 0))
theorem ca_X12_zeroMany_0 (l : Launch) : z_cok l RX12 (headSpec (.code yX12_zeroMany cX12_zeroMany 3 (some .int) :: zTT) rm_X12_zeroMany).room (226, 4, 10, 2, 0, 0, sp_X12_hasZero) := z_ca4 (c_X12_hasZero l) mb_X12_hasZero ⟨_, rfl, rfl⟩ wt_1439 wt_1441 wt_59 (by decide)
theorem O_X12_zeroMany (l : Launch) : z_OK l RX12 cX12_zeroMany (headSpec (.code yX12_zeroMany cX12_zeroMany 3 (some .int) :: zTT) rm_X12_zeroMany).room M_X12_zeroMany := ⟨ok_X12_zeroMany, fo_X12, List.forall_mem_cons.mpr ⟨ca_X12_zeroMany_0 l, fun _ h => absurd h List.not_mem_nil⟩, fun _ h => absurd h List.not_mem_nil, fun _ h => absurd h List.not_mem_nil, fun _ h => absurd h List.not_mem_nil, fun _ h => absurd h List.not_mem_nil, rfl, rfl⟩
theorem c_X12_zeroMany (l : Launch) : z_CS l yX12_zeroMany cX12_zeroMany 3 (some .int) rm_X12_zeroMany sp_X12_zeroMany := by
  refine z_meth (by decide) (Or.inr (Or.inl ⟨rfl, rfl⟩)) (fun h => by cases h) rfl (O_X12_zeroMany l) ?_
  intro av w K h
  match av, h with
  | [.ref o], h =>
    obtain ⟨rfl, ⟨r, hG⟩, d, q, c, A, hS, h⟩ := h
    obtain ⟨G, wi, wl⟩ := w
    subst hG
    try dsimp only at h hS
    have h40 := ms_40 hS
    refine ⟨Nat.le_of_ble_eq_true rfl, fun Jm hs => ?_⟩
    have loop := up_ind (P := fun i => Jm 4 [some (.ref 45), some (.int (nI (fb_ct (hzB A) i))), some (.int (nI i))] [] (GC ++ (GM ++ r), wi, wl) 0 0) c (fun i hi ih => by
      refine hs 400 4 _ _ _ _ _ ?_
      conv => whnf
      repeat ((first | refine ⟨zH_of _, ?_⟩ | refine ⟨trivial, ?_⟩ | refine ⟨rfl, ?_⟩ | refine ⟨fun hc => absurd hc (by decide), fun _ => ?_⟩ | refine ⟨fun _ => ?_, fun hc => absurd (by decide) hc⟩ | refine ⟨fun _ => ?_, fun hc => absurd hc (by decide)⟩ | refine ⟨fun hc => absurd (by decide) hc, fun _ => ?_⟩); conv => whnf)
      try dsimp only
      rw [ms_c hS, ltN (by omega) (by omega)]
      refine ⟨fun hc => ?_, fun hc => ?_⟩
      · obtain hin : i = c := by omega
        rw [hin]
        exact ⟨trivial, h⟩
      · have ih := ih hc
        conv => whnf
        repeat ((first | refine ⟨zH_of _, ?_⟩ | refine ⟨trivial, ?_⟩ | refine ⟨rfl, ?_⟩ | refine ⟨fun hc => absurd hc (by decide), fun _ => ?_⟩ | refine ⟨fun _ => ?_, fun hc => absurd (by decide) hc⟩ | refine ⟨fun _ => ?_, fun hc => absurd hc (by decide)⟩ | refine ⟨fun hc => absurd (by decide) hc, fun _ => ?_⟩); conv => whnf)
        try dsimp only
        refine ⟨d, q, c, A, i, hS, rfl, hc, ?_⟩
        conv => whnf
        repeat ((first | refine ⟨zH_of _, ?_⟩ | refine ⟨trivial, ?_⟩ | refine ⟨rfl, ?_⟩ | refine ⟨fun hc => absurd hc (by decide), fun _ => ?_⟩ | refine ⟨fun _ => ?_, fun hc => absurd (by decide) hc⟩ | refine ⟨fun _ => ?_, fun hc => absurd hc (by decide)⟩ | refine ⟨fun hc => absurd (by decide) hc, fun _ => ?_⟩); conv => whnf)
        try dsimp only
        rw [bI_0]
        refine ⟨fun hz => ?_, fun hz => ?_⟩
        · rw [ct_f hz] at ih
          conv => whnf
          repeat ((first | refine ⟨zH_of _, ?_⟩ | refine ⟨trivial, ?_⟩ | refine ⟨rfl, ?_⟩ | refine ⟨fun hc => absurd hc (by decide), fun _ => ?_⟩ | refine ⟨fun _ => ?_, fun hc => absurd (by decide) hc⟩ | refine ⟨fun _ => ?_, fun hc => absurd hc (by decide)⟩ | refine ⟨fun hc => absurd (by decide) hc, fun _ => ?_⟩); conv => whnf)
          try dsimp only
          rw [nI_add, nI_add, Nat.add_zero]
          exact ih
        · rw [ct_t (Classical.not_not.mp hz)] at ih
          conv => whnf
          repeat ((first | refine ⟨zH_of _, ?_⟩ | refine ⟨trivial, ?_⟩ | refine ⟨rfl, ?_⟩ | refine ⟨fun hc => absurd hc (by decide), fun _ => ?_⟩ | refine ⟨fun _ => ?_, fun hc => absurd (by decide) hc⟩ | refine ⟨fun _ => ?_, fun hc => absurd hc (by decide)⟩ | refine ⟨fun hc => absurd (by decide) hc, fun _ => ?_⟩); conv => whnf)
          try dsimp only
          rw [nI_add, nI_add]
          exact ih)
    exact hs 400 0 _ _ _ _ _ (loop 0 (Nat.zero_le _))
def sp_X12_firstZero : zSp := fun av w K => match av with
  | [.ref o] => o = 45 ∧ zH w.1 ∧ ∃ d q c A, MS w.2.1 d q c A ∧ K (some (.int (fvI (hzB A) c))) w
  | _ => False
def rm_X12_firstZero : Room := { frames := 2, cells := 0, slots := 0, locals := 44 }
def M_X12_firstZero : zM := (k_X12_firstZero, f_X12, [(226, 4, 10, 2, 0, 0, sp_X12_hasZero)], ([], [], []), [], [(2, [true, true])], 1, false, (false, 0, fun _ => 0), (0, 0))
theorem ca_X12_firstZero_0 (l : Launch) : z_cok l RX12 (headSpec (.code yX12_firstZero cX12_firstZero 2 (some .int) :: zTT) rm_X12_firstZero).room (226, 4, 10, 2, 0, 0, sp_X12_hasZero) := z_ca4 (c_X12_hasZero l) mb_X12_hasZero ⟨_, rfl, rfl⟩ wt_1439 wt_1441 wt_59 (by decide)
theorem O_X12_firstZero (l : Launch) : z_OK l RX12 cX12_firstZero (headSpec (.code yX12_firstZero cX12_firstZero 2 (some .int) :: zTT) rm_X12_firstZero).room M_X12_firstZero := ⟨ok_X12_firstZero, fo_X12, List.forall_mem_cons.mpr ⟨ca_X12_firstZero_0 l, fun _ h => absurd h List.not_mem_nil⟩, fun _ h => absurd h List.not_mem_nil, fun _ h => absurd h List.not_mem_nil, fun _ h => absurd h List.not_mem_nil, fun _ h => absurd h List.not_mem_nil, rfl, rfl⟩
theorem c_X12_firstZero (l : Launch) : z_CS l yX12_firstZero cX12_firstZero 2 (some .int) rm_X12_firstZero sp_X12_firstZero := by
  refine z_meth (by decide) (Or.inr (Or.inl ⟨rfl, rfl⟩)) (fun h => by cases h) rfl (O_X12_firstZero l) ?_
  intro av w K h
  match av, h with
  | [.ref o], h =>
    obtain ⟨rfl, ⟨r, hG⟩, d, q, c, A, hS, h⟩ := h
    obtain ⟨G, wi, wl⟩ := w
    subst hG
    try dsimp only at h hS
    have h40 := ms_40 hS
    refine ⟨Nat.le_of_ble_eq_true rfl, fun Jm hs => ?_⟩
    have loop := up_ind (P := fun i => (∀ k, k < i → ¬ hzB A k = true) → Jm 2 [some (.ref 45), some (.int (nI i))] [] (GC ++ (GM ++ r), wi, wl) 0 0) c (fun i hi ih hno => by
      refine hs 400 2 _ _ _ _ _ ?_
      conv => whnf
      repeat ((first | refine ⟨zH_of _, ?_⟩ | refine ⟨trivial, ?_⟩ | refine ⟨rfl, ?_⟩ | refine ⟨fun hc => absurd hc (by decide), fun _ => ?_⟩ | refine ⟨fun _ => ?_, fun hc => absurd (by decide) hc⟩ | refine ⟨fun _ => ?_, fun hc => absurd hc (by decide)⟩ | refine ⟨fun hc => absurd (by decide) hc, fun _ => ?_⟩); conv => whnf)
      try dsimp only
      rw [ms_c hS, ltN (by omega) (by omega)]
      refine ⟨fun hc => ?_, fun hc => ?_⟩
      · obtain hin : i = c := by omega
        subst hin
        unfold fvI at h
        rw [fi_none hno, if_neg (Nat.lt_irrefl i)] at h
        exact ⟨trivial, h⟩
      · have ih := ih hc
        conv => whnf
        repeat ((first | refine ⟨zH_of _, ?_⟩ | refine ⟨trivial, ?_⟩ | refine ⟨rfl, ?_⟩ | refine ⟨fun hc => absurd hc (by decide), fun _ => ?_⟩ | refine ⟨fun _ => ?_, fun hc => absurd (by decide) hc⟩ | refine ⟨fun _ => ?_, fun hc => absurd hc (by decide)⟩ | refine ⟨fun hc => absurd (by decide) hc, fun _ => ?_⟩); conv => whnf)
        try dsimp only
        refine ⟨d, q, c, A, i, hS, rfl, hc, ?_⟩
        conv => whnf
        repeat ((first | refine ⟨zH_of _, ?_⟩ | refine ⟨trivial, ?_⟩ | refine ⟨rfl, ?_⟩ | refine ⟨fun hc => absurd hc (by decide), fun _ => ?_⟩ | refine ⟨fun _ => ?_, fun hc => absurd (by decide) hc⟩ | refine ⟨fun _ => ?_, fun hc => absurd hc (by decide)⟩ | refine ⟨fun hc => absurd (by decide) hc, fun _ => ?_⟩); conv => whnf)
        try dsimp only
        rw [bI_0]
        refine ⟨fun hz => ?_, fun hz => ?_⟩
        · conv => whnf
          repeat ((first | refine ⟨zH_of _, ?_⟩ | refine ⟨trivial, ?_⟩ | refine ⟨rfl, ?_⟩ | refine ⟨fun hc => absurd hc (by decide), fun _ => ?_⟩ | refine ⟨fun _ => ?_, fun hc => absurd (by decide) hc⟩ | refine ⟨fun _ => ?_, fun hc => absurd hc (by decide)⟩ | refine ⟨fun hc => absurd (by decide) hc, fun _ => ?_⟩); conv => whnf)
          try dsimp only
          rw [nI_add]
          refine ih (fun k hk => ?_)
          rcases Nat.lt_or_ge k i with g | g
          · exact hno k g
          · rw [show k = i by omega]
            exact hz
        · unfold fvI at h
          rw [fi_at hc (Classical.not_not.mp hz) hno, if_pos hc] at h
          exact ⟨trivial, h⟩)
    exact hs 400 0 _ _ _ _ _ (loop 0 (Nat.zero_le _) (fun k hk => absurd hk (Nat.not_lt_zero k)))
def sp_X12_flip : zSp := fun av w K => match av with
  | [.ref o, .int i, .int j, .int t] => o = 45 ∧ zH w.1 ∧ ∃ T, MT w.2.1 w.2.2 T ∧ ZT T ∧ ∀ wi' wl', FrM w.2.1 w.2.2 wi' wl' → MT wi' wl' (st_flip T i j t).1 → K (some (.int (st_flip T i j t).2)) (w.1, wi', wl')
  | _ => False
def rm_X12_flip : Room := { frames := 4, cells := 0, slots := 0, locals := 99 }
def M_X12_flip : zM := (k_X12_flip, f_X12, [(163, 4, 10, 2, 0, 0, sp_X12_isProduct), (170, 0, 0, 1, 0, 0, sp_X12_isTable), (217, 4, 10, 4, 0, 0, sp_X12_likeAt), (229, 4, 10, 4, 0, 0, sp_X12_goFlip), (232, 4, 10, 1, 0, 0, sp_X12_zeroMany)], ([], [], []), [], [], 1, false, (false, 0, fun _ => 0), (0, 0))
theorem ca_X12_flip_0 (l : Launch) : z_cok l RX12 (headSpec (.code yX12_flip cX12_flip 4 (some .int) :: zTT) rm_X12_flip).room (163, 4, 10, 2, 0, 0, sp_X12_isProduct) := z_ca4 (c_X12_isProduct l) mb_X12_isProduct ⟨_, rfl, rfl⟩ wt_1326 wt_1328 wt_42 (by decide)
theorem ca_X12_flip_1 (l : Launch) : z_cok l RX12 (headSpec (.code yX12_flip cX12_flip 4 (some .int) :: zTT) rm_X12_flip).room (170, 0, 0, 1, 0, 0, sp_X12_isTable) := z_ca0 (c_X12_isTable l) mb_X12_isTable wt_1338 wt_1339 (by decide)
theorem ca_X12_flip_2 (l : Launch) : z_cok l RX12 (headSpec (.code yX12_flip cX12_flip 4 (some .int) :: zTT) rm_X12_flip).room (217, 4, 10, 4, 0, 0, sp_X12_likeAt) := z_ca4 (c_X12_likeAt l) mb_X12_likeAt ⟨_, rfl, rfl⟩ wt_1404 wt_1406 wt_53 (by decide)
theorem ca_X12_flip_3 (l : Launch) : z_cok l RX12 (headSpec (.code yX12_flip cX12_flip 4 (some .int) :: zTT) rm_X12_flip).room (229, 4, 10, 4, 0, 0, sp_X12_goFlip) := z_ca4 (c_X12_goFlip l) mb_X12_goFlip ⟨_, rfl, rfl⟩ wt_1427 wt_1429 wt_56 (by decide)
theorem ca_X12_flip_4 (l : Launch) : z_cok l RX12 (headSpec (.code yX12_flip cX12_flip 4 (some .int) :: zTT) rm_X12_flip).room (232, 4, 10, 1, 0, 0, sp_X12_zeroMany) := z_ca4 (c_X12_zeroMany l) mb_X12_zeroMany ⟨_, rfl, rfl⟩ wt_1435 wt_1437 wt_58 (by decide)
theorem O_X12_flip (l : Launch) : z_OK l RX12 cX12_flip (headSpec (.code yX12_flip cX12_flip 4 (some .int) :: zTT) rm_X12_flip).room M_X12_flip := ⟨ok_X12_flip, fo_X12, List.forall_mem_cons.mpr ⟨ca_X12_flip_0 l, List.forall_mem_cons.mpr ⟨ca_X12_flip_1 l, List.forall_mem_cons.mpr ⟨ca_X12_flip_2 l, List.forall_mem_cons.mpr ⟨ca_X12_flip_3 l, List.forall_mem_cons.mpr ⟨ca_X12_flip_4 l, fun _ h => absurd h List.not_mem_nil⟩⟩⟩⟩⟩, fun _ h => absurd h List.not_mem_nil, fun _ h => absurd h List.not_mem_nil, fun _ h => absurd h List.not_mem_nil, fun _ h => absurd h List.not_mem_nil, rfl, rfl⟩
theorem c_X12_flip (l : Launch) : z_CS l yX12_flip cX12_flip 4 (some .int) rm_X12_flip sp_X12_flip := by
  refine z_meth (by decide) (Or.inr (Or.inl ⟨rfl, rfl⟩)) (fun h => by cases h) rfl (O_X12_flip l) ?_
  intro av w K h
  match av, h with
  | [.ref o, .int i, .int j, .int t], h =>
    obtain ⟨rfl, ⟨r, hG⟩, ⟨d, q, c, A, kp, tx, tl⟩, hC, hZ, h⟩ := h
    obtain ⟨G, wi, wl⟩ := w
    subst hG
    try dsimp only at h hC hZ
    have hC := mt_fld (i := 11) (v := nI 0) hC (by decide)
    have hF0 : FrM wi wl (z_up wi 45 11 (nI 0)) wl := fm_fld
    refine ⟨Nat.le_of_ble_eq_true rfl, fun Jm hs => hs 400 0 _ _ _ _ _ ?_⟩
    unfold st_flip at h
    dsimp only at h
    conv => whnf
    repeat ((first | refine ⟨zH_of _, ?_⟩ | refine ⟨trivial, ?_⟩ | refine ⟨rfl, ?_⟩ | refine ⟨fun hc => absurd hc (by decide), fun _ => ?_⟩ | refine ⟨fun _ => ?_, fun hc => absurd (by decide) hc⟩ | refine ⟨fun _ => ?_, fun hc => absurd hc (by decide)⟩ | refine ⟨fun hc => absurd (by decide) hc, fun _ => ?_⟩); conv => whnf)
    try dsimp only
    generalize z_up wi 45 11 (nI 0) = wi0 at *
    have hS := mt_S hC
    have h40 := ms_40 hS
    have no : ¬ (idB c i && (idB c j && idB 3 t)) = true → K (some (.int (mI 1))) (GC ++ (GM ++ r), wi0, wl) := fun hn => by
      rw [if_neg hn] at h
      exact h wi0 wl hF0 hC
    refine ⟨c, ms_c hS, by omega, ?_⟩
    conv => whnf
    repeat ((first | refine ⟨zH_of _, ?_⟩ | refine ⟨trivial, ?_⟩ | refine ⟨rfl, ?_⟩ | refine ⟨fun hc => absurd hc (by decide), fun _ => ?_⟩ | refine ⟨fun _ => ?_, fun hc => absurd (by decide) hc⟩ | refine ⟨fun _ => ?_, fun hc => absurd hc (by decide)⟩ | refine ⟨fun hc => absurd (by decide) hc, fun _ => ?_⟩); conv => whnf)
    try dsimp only
    rw [bI_0]
    refine ⟨fun h1 => ⟨trivial, no (by simp [h1])⟩, fun h1 => ?_⟩
    conv => whnf
    repeat ((first | refine ⟨zH_of _, ?_⟩ | refine ⟨trivial, ?_⟩ | refine ⟨rfl, ?_⟩ | refine ⟨fun hc => absurd hc (by decide), fun _ => ?_⟩ | refine ⟨fun _ => ?_, fun hc => absurd (by decide) hc⟩ | refine ⟨fun _ => ?_, fun hc => absurd hc (by decide)⟩ | refine ⟨fun hc => absurd (by decide) hc, fun _ => ?_⟩); conv => whnf)
    try dsimp only
    refine ⟨c, ms_c hS, by omega, ?_⟩
    conv => whnf
    repeat ((first | refine ⟨zH_of _, ?_⟩ | refine ⟨trivial, ?_⟩ | refine ⟨rfl, ?_⟩ | refine ⟨fun hc => absurd hc (by decide), fun _ => ?_⟩ | refine ⟨fun _ => ?_, fun hc => absurd (by decide) hc⟩ | refine ⟨fun _ => ?_, fun hc => absurd hc (by decide)⟩ | refine ⟨fun hc => absurd (by decide) hc, fun _ => ?_⟩); conv => whnf)
    try dsimp only
    rw [bI_0]
    refine ⟨fun h2 => ⟨trivial, no (by simp [h2])⟩, fun h2 => ?_⟩
    conv => whnf
    repeat ((first | refine ⟨zH_of _, ?_⟩ | refine ⟨trivial, ?_⟩ | refine ⟨rfl, ?_⟩ | refine ⟨fun hc => absurd hc (by decide), fun _ => ?_⟩ | refine ⟨fun _ => ?_, fun hc => absurd (by decide) hc⟩ | refine ⟨fun _ => ?_, fun hc => absurd hc (by decide)⟩ | refine ⟨fun hc => absurd (by decide) hc, fun _ => ?_⟩); conv => whnf)
    try dsimp only
    rw [bI_0, Classical.not_not]
    refine ⟨fun h3 => ?_, fun h3 => ⟨trivial, no (by simp [h3])⟩⟩
    have h1 := Classical.not_not.mp h1
    have h2 := Classical.not_not.mp h2
    rw [if_pos (by simp [h1, h2, h3])] at h
    conv => whnf
    repeat ((first | refine ⟨zH_of _, ?_⟩ | refine ⟨trivial, ?_⟩ | refine ⟨rfl, ?_⟩ | refine ⟨fun hc => absurd hc (by decide), fun _ => ?_⟩ | refine ⟨fun _ => ?_, fun hc => absurd (by decide) hc⟩ | refine ⟨fun _ => ?_, fun hc => absurd hc (by decide)⟩ | refine ⟨fun hc => absurd (by decide) hc, fun _ => ?_⟩); conv => whnf)
    try dsimp only
    refine ⟨fun h4 => ?_, fun h4 => ?_⟩
    · rw [if_neg h4] at h
      obtain ⟨i', hi, rfl⟩ := idB_N h1 (by omega)
      obtain ⟨j', hj, rfl⟩ := idB_N h2 (by omega)
      obtain ⟨t', ht, rfl⟩ := idB_N h3 (by omega)
      rw [nc_N (by omega), nc_N (by omega), nc_N (by omega)] at h
      have l3 := likeN_lt q (A (3 * i' + t')) (A (3 * j' + t'))
      conv => whnf
      repeat ((first | refine ⟨zH_of _, ?_⟩ | refine ⟨trivial, ?_⟩ | refine ⟨rfl, ?_⟩ | refine ⟨fun hc => absurd hc (by decide), fun _ => ?_⟩ | refine ⟨fun _ => ?_, fun hc => absurd (by decide) hc⟩ | refine ⟨fun _ => ?_, fun hc => absurd hc (by decide)⟩ | refine ⟨fun hc => absurd (by decide) hc, fun _ => ?_⟩); conv => whnf)
      try dsimp only
      refine ⟨d, q, c, A, i', j', t', hS, rfl, hi, rfl, hj, rfl, ht, ?_⟩
      conv => whnf
      repeat ((first | refine ⟨zH_of _, ?_⟩ | refine ⟨trivial, ?_⟩ | refine ⟨rfl, ?_⟩ | refine ⟨fun hc => absurd hc (by decide), fun _ => ?_⟩ | refine ⟨fun _ => ?_, fun hc => absurd (by decide) hc⟩ | refine ⟨fun _ => ?_, fun hc => absurd hc (by decide)⟩ | refine ⟨fun hc => absurd (by decide) hc, fun _ => ?_⟩); conv => whnf)
      try dsimp only
      rw [eq0N (by omega)]
      refine ⟨fun hz => ?_, fun hz => ?_⟩
      · rw [if_neg (by simp [lkB, hz])] at h
        conv => whnf
        repeat ((first | refine ⟨zH_of _, ?_⟩ | refine ⟨trivial, ?_⟩ | refine ⟨rfl, ?_⟩ | refine ⟨fun hc => absurd hc (by decide), fun _ => ?_⟩ | refine ⟨fun _ => ?_, fun hc => absurd (by decide) hc⟩ | refine ⟨fun _ => ?_, fun hc => absurd hc (by decide)⟩ | refine ⟨fun hc => absurd (by decide) hc, fun _ => ?_⟩); conv => whnf)
        try dsimp only
        refine ⟨d, q, c, A, i', j', t', hS, rfl, hi, rfl, hj, fun z => h4 (by rw [z]), rfl, ht, fun wi1 hF1 hS1 => ?_⟩
        conv => whnf
        repeat ((first | refine ⟨zH_of _, ?_⟩ | refine ⟨trivial, ?_⟩ | refine ⟨rfl, ?_⟩ | refine ⟨fun hc => absurd hc (by decide), fun _ => ?_⟩ | refine ⟨fun _ => ?_, fun hc => absurd (by decide) hc⟩ | refine ⟨fun _ => ?_, fun hc => absurd hc (by decide)⟩ | refine ⟨fun hc => absurd (by decide) hc, fun _ => ?_⟩); conv => whnf)
        try dsimp only
        refine ⟨d, q, c, _, hS1, ?_⟩
        conv => whnf
        repeat ((first | refine ⟨zH_of _, ?_⟩ | refine ⟨trivial, ?_⟩ | refine ⟨rfl, ?_⟩ | refine ⟨fun hc => absurd hc (by decide), fun _ => ?_⟩ | refine ⟨fun _ => ?_, fun hc => absurd (by decide) hc⟩ | refine ⟨fun _ => ?_, fun hc => absurd hc (by decide)⟩ | refine ⟨fun hc => absurd (by decide) hc, fun _ => ?_⟩); conv => whnf)
        try dsimp only
        exact h wi1 wl (FrM_trans hF0 (FrM_of (fun y h1 h2 => hF1 y h2))) (mt_now hC hS1 (fun i hi => by rw [hF1 45 (by decide)]) (fun y hy => hF1 y (by omega)) rfl)
      · rw [if_pos (by simp [lkB, hz])] at h
        exact ⟨trivial, h wi0 wl hF0 hC⟩
    · rw [if_pos h4] at h
      exact ⟨trivial, h wi0 wl hF0 hC⟩
def sp_X12_fullOf : zSp := fun av w K => match av with
  | [.ref o, .int i, .int t] => o = 45 ∧ zH w.1 ∧ ∃ d q c A i' t', MS w.2.1 d q c A ∧ i = nI i' ∧ i' < c ∧ t = nI t' ∧ t' < 3 ∧ K (some (.int (nI (nzc (A (3 * i' + t')))))) w
  | _ => False
def rm_X12_fullOf : Room := { frames := 1, cells := 0, slots := 0, locals := 22 }
def M_X12_fullOf : zM := (k_X12_fullOf, f_X12, [(107, 0, 0, 3, 0, 0, sp_X12_at)], ([], [], []), [], [(5, [true, true, true, true, true])], 1, false, (false, 0, fun _ => 0), (0, 0))
theorem ca_X12_fullOf_0 (l : Launch) : z_cok l RX12 (headSpec (.code yX12_fullOf cX12_fullOf 5 (some .int) :: zTT) rm_X12_fullOf).room (107, 0, 0, 3, 0, 0, sp_X12_at) := z_ca0 (c_X12_at l) mb_X12_at wt_1136 wt_1137 (by decide)
theorem O_X12_fullOf (l : Launch) : z_OK l RX12 cX12_fullOf (headSpec (.code yX12_fullOf cX12_fullOf 5 (some .int) :: zTT) rm_X12_fullOf).room M_X12_fullOf := ⟨ok_X12_fullOf, fo_X12, List.forall_mem_cons.mpr ⟨ca_X12_fullOf_0 l, fun _ h => absurd h List.not_mem_nil⟩, fun _ h => absurd h List.not_mem_nil, fun _ h => absurd h List.not_mem_nil, fun _ h => absurd h List.not_mem_nil, fun _ h => absurd h List.not_mem_nil, rfl, rfl⟩
theorem c_X12_fullOf (l : Launch) : z_CS l yX12_fullOf cX12_fullOf 5 (some .int) rm_X12_fullOf sp_X12_fullOf := by
  refine z_meth (by decide) (Or.inr (Or.inl ⟨rfl, rfl⟩)) (fun h => by cases h) rfl (O_X12_fullOf l) ?_
  intro av w K h
  match av, h with
  | [.ref o, .int i, .int t], h =>
    obtain ⟨rfl, ⟨r, hG⟩, d, q, c, A, i', t', hS, rfl, hi, rfl, ht, h⟩ := h
    obtain ⟨G, wi, wl⟩ := w
    subst hG
    try dsimp only at h hS
    have h40 := ms_40 hS
    unfold nzc at h
    refine ⟨Nat.le_of_ble_eq_true rfl, fun Jm hs => ?_⟩
    have loop := up_ind (P := fun p => Jm 5 [some (.ref 45), some (.int (nI i')), some (.int (nI t')), some (.int (nI (fb_ct (fun p => A (3 * i' + t') p != 0) p))), some (.int (nI p))] [] (GC ++ (GM ++ r), wi, wl) 0 0) 9 (fun p hp ih => by
      refine hs 400 5 _ _ _ _ _ ?_
      conv => whnf
      repeat ((first | refine ⟨zH_of _, ?_⟩ | refine ⟨trivial, ?_⟩ | refine ⟨rfl, ?_⟩ | refine ⟨fun hc => absurd hc (by decide), fun _ => ?_⟩ | refine ⟨fun _ => ?_, fun hc => absurd (by decide) hc⟩ | refine ⟨fun _ => ?_, fun hc => absurd hc (by decide)⟩ | refine ⟨fun hc => absurd (by decide) hc, fun _ => ?_⟩); conv => whnf)
      try dsimp only
      rw [ltN (by omega) (by omega)]
      refine ⟨fun hc => ?_, fun hc => ?_⟩
      · obtain hin : p = 9 := by omega
        rw [hin]
        exact ⟨trivial, h⟩
      · have ih := ih hc
        have l3 := ms_3 hS hi ht p hc
        conv => whnf
        repeat ((first | refine ⟨zH_of _, ?_⟩ | refine ⟨trivial, ?_⟩ | refine ⟨rfl, ?_⟩ | refine ⟨fun hc => absurd hc (by decide), fun _ => ?_⟩ | refine ⟨fun _ => ?_, fun hc => absurd (by decide) hc⟩ | refine ⟨fun _ => ?_, fun hc => absurd hc (by decide)⟩ | refine ⟨fun hc => absurd (by decide) hc, fun _ => ?_⟩); conv => whnf)
        try dsimp only
        rw [at_N]
        refine ⟨vp_in_nI (show 27 * i' + 9 * t' + p < 1080 by omega) (by decide), ?_⟩
        conv => whnf
        repeat ((first | refine ⟨zH_of _, ?_⟩ | refine ⟨trivial, ?_⟩ | refine ⟨rfl, ?_⟩ | refine ⟨fun hc => absurd hc (by decide), fun _ => ?_⟩ | refine ⟨fun _ => ?_, fun hc => absurd (by decide) hc⟩ | refine ⟨fun _ => ?_, fun hc => absurd hc (by decide)⟩ | refine ⟨fun hc => absurd (by decide) hc, fun _ => ?_⟩); conv => whnf)
        try dsimp only
        rw [nI_clamp (by omega), ms_at hS hi ht hc, eq0N (by omega)]
        refine ⟨fun hz => ?_, fun hz => ?_⟩
        · rw [ct_f (by simp [hz])] at ih
          conv => whnf
          repeat ((first | refine ⟨zH_of _, ?_⟩ | refine ⟨trivial, ?_⟩ | refine ⟨rfl, ?_⟩ | refine ⟨fun hc => absurd hc (by decide), fun _ => ?_⟩ | refine ⟨fun _ => ?_, fun hc => absurd (by decide) hc⟩ | refine ⟨fun _ => ?_, fun hc => absurd hc (by decide)⟩ | refine ⟨fun hc => absurd (by decide) hc, fun _ => ?_⟩); conv => whnf)
          try dsimp only
          rw [nI_add, nI_add, Nat.add_zero]
          exact ih
        · rw [ct_t (by simp [hz])] at ih
          conv => whnf
          repeat ((first | refine ⟨zH_of _, ?_⟩ | refine ⟨trivial, ?_⟩ | refine ⟨rfl, ?_⟩ | refine ⟨fun hc => absurd hc (by decide), fun _ => ?_⟩ | refine ⟨fun _ => ?_, fun hc => absurd (by decide) hc⟩ | refine ⟨fun _ => ?_, fun hc => absurd hc (by decide)⟩ | refine ⟨fun hc => absurd (by decide) hc, fun _ => ?_⟩); conv => whnf)
          try dsimp only
          rw [nI_add, nI_add]
          exact ih)
    exact hs 400 0 _ _ _ _ _ (loop 0 (Nat.zero_le _))
def sp_X12_lessOne : zSp := fun av w K => match av with
  | [.int t] => K (some (.int (lessF t))) w
  | _ => False
def rm_X12_lessOne : Room := { frames := 0, cells := 0, slots := 0, locals := 0 }
def M_X12_lessOne : zM := (k_X12_lessOne, f_X12, [], ([], [], []), [], [], 1, false, (false, 0, fun _ => 0), (0, 0))
theorem O_X12_lessOne (l : Launch) : z_OK l RX12 cX12_lessOne (headSpec (.code yX12_lessOne cX12_lessOne 1 (some .int) :: zTT) rm_X12_lessOne).room M_X12_lessOne := ⟨ok_X12_lessOne, fo_X12, fun _ h => absurd h List.not_mem_nil, fun _ h => absurd h List.not_mem_nil, fun _ h => absurd h List.not_mem_nil, fun _ h => absurd h List.not_mem_nil, fun _ h => absurd h List.not_mem_nil, rfl, rfl⟩
theorem c_X12_lessOne (l : Launch) : z_CS l yX12_lessOne cX12_lessOne 1 (some .int) rm_X12_lessOne sp_X12_lessOne := by
  refine z_meth (by decide) (Or.inr (Or.inl ⟨rfl, rfl⟩)) (fun h => by cases h) rfl (O_X12_lessOne l) ?_
  intro av w K h
  match av, h with
  | [.int t], h =>
    refine ⟨Nat.le_of_ble_eq_true rfl, fun Jm hs => hs 400 0 _ _ _ _ _ ?_⟩
    have h : K (some (.int (lessF t))) w := h
    conv => whnf
    refine ⟨fun hc => ?_, fun hc => ?_⟩
    · rw [lessF, if_neg hc] at h
      exact ⟨trivial, h⟩
    · rw [lessF, if_pos hc] at h
      exact ⟨trivial, h⟩

