/-! the reference: a space of another size -/
def wsN (g x : Nat) : Nat := if x < g then x else x + 1
def wsI (g x h : Nat) : Int32 := if wsN g x < h then nI (wsN g x) else mI 1
def sp_X12_wasAt : zSp := fun av w K => match av with
  | [.int x, .int h, .int g] => ∃ x' h' g', x = nI x' ∧ x' < 1000 ∧ h = nI h' ∧ h' < 1000 ∧ g = nI g' ∧ g' < 1000 ∧ K (some (.int (wsI g' x' h'))) w
  | _ => False
def rm_X12_wasAt : Room := { frames := 0, cells := 0, slots := 0, locals := 0 }
def M_X12_wasAt : zM := (k_X12_wasAt, f_X12, [], ([], [], []), [], [], 1, false, (false, 0, fun _ => 0), (0, 0))
theorem O_X12_wasAt (l : Launch) : z_OK l RX12 cX12_wasAt (headSpec (.code yX12_wasAt cX12_wasAt 4 (some .int) :: zTT) rm_X12_wasAt).room M_X12_wasAt := ⟨ok_X12_wasAt, fo_X12, fun _ h => absurd h List.not_mem_nil, fun _ h => absurd h List.not_mem_nil, fun _ h => absurd h List.not_mem_nil, fun _ h => absurd h List.not_mem_nil, fun _ h => absurd h List.not_mem_nil, rfl, rfl⟩
theorem c_X12_wasAt (l : Launch) : z_CS l yX12_wasAt cX12_wasAt 4 (some .int) rm_X12_wasAt sp_X12_wasAt := by
  refine z_meth (by decide) (Or.inr (Or.inl ⟨rfl, rfl⟩)) (fun h => by cases h) rfl (O_X12_wasAt l) ?_
  intro av w K h
  match av, h with
  | [.int x, .int h0, .int g], h =>
    obtain ⟨x', h', g', rfl, hx, rfl, hh, rfl, hg, h⟩ := h
    refine ⟨Nat.le_of_ble_eq_true rfl, fun Jm hs => hs 400 0 _ _ _ _ _ ?_⟩
    have h : K (some (.int (wsI g' x' h'))) w := h
    unfold wsI wsN at h
    conv => whnf
    repeat ((first | refine ⟨zH_of _, ?_⟩ | refine ⟨trivial, ?_⟩ | refine ⟨rfl, ?_⟩ | refine ⟨fun hc => absurd hc (by decide), fun _ => ?_⟩ | refine ⟨fun _ => ?_, fun hc => absurd (by decide) hc⟩ | refine ⟨fun _ => ?_, fun hc => absurd hc (by decide)⟩ | refine ⟨fun hc => absurd (by decide) hc, fun _ => ?_⟩); conv => whnf)
    try dsimp only
    rw [ltN (by omega) (by omega)]
    refine ⟨fun hc => ?_, fun hc => ?_⟩
    · rw [if_pos hc] at h
      conv => whnf
      repeat ((first | refine ⟨zH_of _, ?_⟩ | refine ⟨trivial, ?_⟩ | refine ⟨rfl, ?_⟩ | refine ⟨fun hc => absurd hc (by decide), fun _ => ?_⟩ | refine ⟨fun _ => ?_, fun hc => absurd (by decide) hc⟩ | refine ⟨fun _ => ?_, fun hc => absurd hc (by decide)⟩ | refine ⟨fun hc => absurd (by decide) hc, fun _ => ?_⟩); conv => whnf)
      try dsimp only
      rw [ltN (by omega) (by omega)]
      refine ⟨fun hc2 => ?_, fun hc2 => ?_⟩
      · rw [if_neg hc2] at h
        exact ⟨trivial, h⟩
      · rw [if_pos hc2] at h
        exact ⟨trivial, h⟩
    · rw [if_neg hc] at h
      conv => whnf
      repeat ((first | refine ⟨zH_of _, ?_⟩ | refine ⟨trivial, ?_⟩ | refine ⟨rfl, ?_⟩ | refine ⟨fun hc => absurd hc (by decide), fun _ => ?_⟩ | refine ⟨fun _ => ?_, fun hc => absurd (by decide) hc⟩ | refine ⟨fun _ => ?_, fun hc => absurd hc (by decide)⟩ | refine ⟨fun hc => absurd (by decide) hc, fun _ => ?_⟩); conv => whnf)
      try dsimp only
      rw [nI_add, ltN (by omega) (by omega)]
      refine ⟨fun hc2 => ?_, fun hc2 => ?_⟩
      · rw [if_neg hc2] at h
        exact ⟨trivial, h⟩
      · rw [if_pos hc2] at h
        exact ⟨trivial, h⟩
def rzr (s g t x : Nat) : Nat := if t = s then wsN g x else x
def rzA (d : Nat → Nat) (A : Nat → Nat → Nat) (s z g : Nat) : Nat → Nat → Nat := fun k p =>
  if p < pl (upD d s z) (k % 3) ∧ rzr s g (k % 3) (p / upD d s z (nx (k % 3))) < d (k % 3) ∧ rzr s g (nx (k % 3)) (p % upD d s z (nx (k % 3))) < d (nx (k % 3)) then
    A k (rzr s g (k % 3) (p / upD d s z (nx (k % 3))) * d (nx (k % 3)) + rzr s g (nx (k % 3)) (p % upD d s z (nx (k % 3)))) else 0
theorem rzA_lt {d : Nat → Nat} {A : Nat → Nat → Nat} {q s z g k : Nat} (hd : ∀ t, t < 3 → 1 ≤ d t ∧ d t ≤ 3) (hq : 0 < q) (hA : ∀ p, p < 9 → A k p < q) (p : Nat) : rzA d A s z g k p < q := by
  unfold rzA
  split
  · rename_i h
    exact hA _ (idx9 (hd _ (mod3_lt k)).2 (hd _ (nx_lt _)).2 h.2.1 h.2.2)
  · exact hq
theorem rz_at {d : Nat → Nat} {A : Nat → Nat → Nat} {s z g i t p : Nat} (ht : t < 3) : rzA d A s z g (3 * i + t) p = if p < pl (upD d s z) t ∧ rzr s g t (p / upD d s z (nx t)) < d t ∧ rzr s g (nx t) (p % upD d s z (nx t)) < d (nx t) then A (3 * i + t) (rzr s g t (p / upD d s z (nx t)) * d (nx t) + rzr s g (nx t) (p % upD d s z (nx t))) else 0 := by
  unfold rzA
  rw [show (3 * i + t) % 3 = t by omega]
theorem upD_lt {d : Nat → Nat} {s z : Nat} (hd : ∀ t, t < 3 → 1 ≤ d t ∧ d t ≤ 3) (h1 : 1 ≤ z) (h3 : z ≤ 3) : ∀ t, t < 3 → 1 ≤ upD d s z t ∧ upD d s z t ≤ 3 := fun t ht => by
  unfold upD
  split
  · exact ⟨h1, h3⟩
  · exact hd t ht
def sp_X12_resizes : zSp := fun av w K => match av with
  | [.ref o, .int s, .int z, .int g] => o = 45 ∧ zH w.1 ∧ ∃ d q c A s' z' g', MS w.2.1 d q c A ∧ s = nI s' ∧ s' < 3 ∧ z = nI z' ∧ 1 ≤ z' ∧ z' ≤ 3 ∧ g = nI g' ∧ g' ≤ 3 ∧ ∀ wi' : Nat → Nat → Int32, (∀ y, y ≠ 46 → y ≠ 47 → y ≠ 57 → wi' y = w.2.1 y) → MS wi' (upD d s' z') q c (rzA d A s' z' g') → K none (w.1, wi', w.2.2)
  | _ => False
def rm_X12_resizes : Room := { frames := 1, cells := 0, slots := 0, locals := 23 }
def M_X12_resizes : zM := (k_X12_resizes, f_X12, [(84, 4, 10, 2, 0, 0, sp_X12_rowsOf), (88, 4, 10, 2, 0, 0, sp_X12_columnsOf), (277, 0, 0, 3, 0, 0, sp_X12_wasAt), (107, 0, 0, 3, 0, 0, sp_X12_at)], ([], [], []), [], [(11, [true, true, true, true, true, true, false, false, false, false, false, false]), (40, [true, true, true, true, true, true, false, false, false, false, false, false]), (52, [true, true, true, true, true, true, true, false, false, false, false, false]), (76, [true, true, true, true, true, true, true, true, false, false, false, false]), (101, [true, true, true, true, true, true, true, true, true, true, false, false]), (138, [true, true, true, true, true, true, true, true, true, true, true, false]), (169, [true, true, true, true, true, true, true, true, true, true, true, true]), (219, [true, true, true, true, true, true, true, true, true, true, false, false]), (240, [true, true, true, true, true, true, false, false, false, false, false, false])], 0, false, (false, 0, fun _ => 0), (0, 0))
theorem ca_X12_resizes_0 (l : Launch) : z_cok l RX12 (headSpec (.code yX12_resizes cX12_resizes 12 none :: zTT) rm_X12_resizes).room (84, 4, 10, 2, 0, 0, sp_X12_rowsOf) := z_ca4 (c_X12_rowsOf l) mb_X12_rowsOf ⟨_, rfl, rfl⟩ wt_1298 wt_1300 wt_37 (by decide)
theorem ca_X12_resizes_1 (l : Launch) : z_cok l RX12 (headSpec (.code yX12_resizes cX12_resizes 12 none :: zTT) rm_X12_resizes).room (88, 4, 10, 2, 0, 0, sp_X12_columnsOf) := z_ca4 (c_X12_columnsOf l) mb_X12_columnsOf ⟨_, rfl, rfl⟩ wt_1306 wt_1308 wt_39 (by decide)
theorem ca_X12_resizes_2 (l : Launch) : z_cok l RX12 (headSpec (.code yX12_resizes cX12_resizes 12 none :: zTT) rm_X12_resizes).room (277, 0, 0, 3, 0, 0, sp_X12_wasAt) := z_ca0 (c_X12_wasAt l) mb_X12_wasAt wt_1511 wt_1512 (by decide)
theorem ca_X12_resizes_3 (l : Launch) : z_cok l RX12 (headSpec (.code yX12_resizes cX12_resizes 12 none :: zTT) rm_X12_resizes).room (107, 0, 0, 3, 0, 0, sp_X12_at) := z_ca0 (c_X12_at l) mb_X12_at wt_1136 wt_1137 (by decide)
theorem O_X12_resizes (l : Launch) : z_OK l RX12 cX12_resizes (headSpec (.code yX12_resizes cX12_resizes 12 none :: zTT) rm_X12_resizes).room M_X12_resizes := ⟨ok_X12_resizes, fo_X12, List.forall_mem_cons.mpr ⟨ca_X12_resizes_0 l, List.forall_mem_cons.mpr ⟨ca_X12_resizes_1 l, List.forall_mem_cons.mpr ⟨ca_X12_resizes_2 l, List.forall_mem_cons.mpr ⟨ca_X12_resizes_3 l, fun _ h => absurd h List.not_mem_nil⟩⟩⟩⟩, fun _ h => absurd h List.not_mem_nil, fun _ h => absurd h List.not_mem_nil, fun _ h => absurd h List.not_mem_nil, fun _ h => absurd h List.not_mem_nil, rfl, rfl⟩
theorem c_X12_resizes (l : Launch) : z_CS l yX12_resizes cX12_resizes 12 none rm_X12_resizes sp_X12_resizes := by
  refine z_meth (by decide) (Or.inl ⟨rfl, rfl⟩) (fun h => by cases h) rfl (O_X12_resizes l) ?_
  intro av w K h
  match av, h with
  | [.ref o, .int s, .int z, .int g], h =>
    obtain ⟨rfl, ⟨r, hG⟩, d, q, c, A, s', z', g', hS, rfl, hs', rfl, z1, z3, rfl, hg, h⟩ := h
    obtain ⟨G, wi, wl⟩ := w
    subst hG
    try dsimp only at h hS
    have h40 := ms_40 hS
    have q23 := ms_q23 hS
    have hd := ms_hd hS
    have hu := upD_lt (s := s') hd z1 z3
    have ds := hd s' hs'
    have Fl : ∀ k, k < 3 * c → ∀ p, p < 9 → rzA d A s' z' g' k p < q := fun k hk p _ => rzA_lt hd (by omega) (ms_A hS k hk) p
    have Fa := fun (i t p : Nat) (ht : t < 3) => rz_at (d := d) (A := A) (s := s') (z := z') (g := g') (i := i) (p := p) ht
    generalize rzA d A s' z' g' = F at h Fl Fa
    have ue : ∀ t, upD d s' z' t = if t = s' then z' else d t := fun _ => rfl
    refine ⟨Nat.le_of_ble_eq_true rfl, fun Jm hs => ?_⟩
    have fr : ∀ {wi' : Nat → Nat → Int32}, (∀ y, y ≠ 57 → wi' y = wi y) → MS wi' d q c A := fun {wi'} k => ms_fr hS (k 46 (by decide)) (by rw [k 45 (by decide)]) (by rw [k 45 (by decide)]) (k 47 (by decide))
    have last := up_ind (P := fun k => ∀ wi' : Nat → Nat → Int32, (∀ y, y ≠ 47 → y ≠ 57 → wi' y = wi y) → RW wi' 57 (27 * c) F → RW wi' 47 k F → Jm 240 [some (.ref 45), some (.int (nI s')), some (.int (nI z')), some (.int (nI g')), some (.int (nI (d s'))), some (.int (nI k)), none, none, none, none, none, none] [] (GC ++ (GM ++ r), wi', wl) 0 0) (27 * c) (fun k hk ih => by
      intro wi' hF hB hR
      have e2 : wi' 45 2 = nI c := by rw [hF 45 (by decide) (by decide)]; exact ms_c hS
      refine hs 400 240 _ _ _ _ _ ?_
      conv => whnf
      repeat ((first | refine ⟨zH_of _, ?_⟩ | refine ⟨trivial, ?_⟩ | refine ⟨rfl, ?_⟩ | refine ⟨fun hc => absurd hc (by decide), fun _ => ?_⟩ | refine ⟨fun _ => ?_, fun hc => absurd (by decide) hc⟩ | refine ⟨fun _ => ?_, fun hc => absurd hc (by decide)⟩ | refine ⟨fun hc => absurd (by decide) hc, fun _ => ?_⟩); conv => whnf)
      try dsimp only
      rw [e2, pk_mul, ltN (by omega) (by omega)]
      refine ⟨fun hc => ?_, fun hc => ?_⟩
      · obtain rfl : k = 27 * c := by omega
        conv => whnf
        repeat ((first | refine ⟨zH_of _, ?_⟩ | refine ⟨trivial, ?_⟩ | refine ⟨rfl, ?_⟩ | refine ⟨fun hc => absurd hc (by decide), fun _ => ?_⟩ | refine ⟨fun _ => ?_, fun hc => absurd (by decide) hc⟩ | refine ⟨fun _ => ?_, fun hc => absurd hc (by decide)⟩ | refine ⟨fun hc => absurd (by decide) hc, fun _ => ?_⟩); conv => whnf)
        try dsimp only
        refine ⟨vp_in_nI (show s' < 3 from hs') (by decide), ?_⟩
        rw [nI_clamp (n := s') (by omega)]
        refine h _ (fun y g1 g2 g3 => by rw [z_up_ne g1, hF y g2 g3]) ⟨fun t ht => ?_, ⟨?_, ?_⟩, fun j hj => ?_, q23, hu, h40, Fl⟩
        · rw [ue]
          by_cases e : t = s'
          · rw [if_pos e, e, z_up_eq]
          · rw [if_neg e, z_up_nei e, hF 46 (by decide) (by decide)]
            exact ms_d hS t ht
        · rw [z_up_ne (by decide), hF 45 (by decide) (by decide)]
          exact ms_q hS
        · rw [z_up_ne (by decide)]
          exact e2
        · rw [z_up_ne (by decide)]
          exact hR j hj
      · have ih := ih hc
        conv => whnf
        repeat ((first | refine ⟨zH_of _, ?_⟩ | refine ⟨trivial, ?_⟩ | refine ⟨rfl, ?_⟩ | refine ⟨fun hc => absurd hc (by decide), fun _ => ?_⟩ | refine ⟨fun _ => ?_, fun hc => absurd (by decide) hc⟩ | refine ⟨fun _ => ?_, fun hc => absurd hc (by decide)⟩ | refine ⟨fun hc => absurd (by decide) hc, fun _ => ?_⟩); conv => whnf)
        try dsimp only
        refine ⟨vp_in_nI (show k < 1080 by omega) (by decide), ?_⟩
        conv => whnf
        repeat ((first | refine ⟨zH_of _, ?_⟩ | refine ⟨trivial, ?_⟩ | refine ⟨rfl, ?_⟩ | refine ⟨fun hc => absurd hc (by decide), fun _ => ?_⟩ | refine ⟨fun _ => ?_, fun hc => absurd (by decide) hc⟩ | refine ⟨fun _ => ?_, fun hc => absurd hc (by decide)⟩ | refine ⟨fun hc => absurd (by decide) hc, fun _ => ?_⟩); conv => whnf)
        try dsimp only
        refine ⟨vp_in_nI (show k < 1080 by omega) (by decide), ?_⟩
        rw [nI_clamp (n := k) (by omega), hB k hc]
        conv => whnf
        repeat ((first | refine ⟨zH_of _, ?_⟩ | refine ⟨trivial, ?_⟩ | refine ⟨rfl, ?_⟩ | refine ⟨fun hc => absurd hc (by decide), fun _ => ?_⟩ | refine ⟨fun _ => ?_, fun hc => absurd (by decide) hc⟩ | refine ⟨fun _ => ?_, fun hc => absurd hc (by decide)⟩ | refine ⟨fun hc => absurd (by decide) hc, fun _ => ?_⟩); conv => whnf)
        try dsimp only
        rw [nI_add]
        refine ih _ (fun y g1 g2 => by rw [z_up_ne g1, hF y g1 g2]) (fun j hj => by rw [z_up_ne (by decide)]; exact hB j hj) (fun j hj => ?_)
        by_cases e : j = k
        · rw [e, z_up_eq]
        · rw [z_up_nei e]
          exact hR j (by omega))
    have loop := up_ind (P := fun i => ∀ wi' : Nat → Nat → Int32, (∀ y, y ≠ 57 → wi' y = wi y) → (∀ j, j < 27 * c → wi' 57 j = nI (if j < 27 * i then fl F j else 0)) → Jm 40 [some (.ref 45), some (.int (nI s')), some (.int (nI z')), some (.int (nI g')), some (.int (nI (d s'))), some (.int (nI i)), none, none, none, none, none, none] [] (GC ++ (GM ++ r), wi', wl) 0 0) c (fun i hi ih => by
      intro wi' hF hB
      refine hs 400 40 _ _ _ _ _ ?_
      conv => whnf
      repeat ((first | refine ⟨zH_of _, ?_⟩ | refine ⟨trivial, ?_⟩ | refine ⟨rfl, ?_⟩ | refine ⟨fun hc => absurd hc (by decide), fun _ => ?_⟩ | refine ⟨fun _ => ?_, fun hc => absurd (by decide) hc⟩ | refine ⟨fun _ => ?_, fun hc => absurd hc (by decide)⟩ | refine ⟨fun hc => absurd (by decide) hc, fun _ => ?_⟩); conv => whnf)
      try dsimp only
      rw [ms_c (fr hF), ltN (by omega) (by omega)]
      refine ⟨fun hc => ?_, fun hc => ?_⟩
      · obtain rfl : i = c := by omega
        conv => whnf
        repeat ((first | refine ⟨zH_of _, ?_⟩ | refine ⟨trivial, ?_⟩ | refine ⟨rfl, ?_⟩ | refine ⟨fun hc => absurd hc (by decide), fun _ => ?_⟩ | refine ⟨fun _ => ?_, fun hc => absurd (by decide) hc⟩ | refine ⟨fun _ => ?_, fun hc => absurd hc (by decide)⟩ | refine ⟨fun hc => absurd (by decide) hc, fun _ => ?_⟩); conv => whnf)
        try dsimp only
        exact last 0 (Nat.zero_le _) wi' (fun y _ g2 => hF y g2) (fun j hj => by rw [hB j hj, if_pos hj]) (fun j hj => absurd hj (Nat.not_lt_zero j))
      · have ih := ih hc
        have loopt := up_ind (P := fun t => ∀ wi' : Nat → Nat → Int32, (∀ y, y ≠ 57 → wi' y = wi y) → (∀ j, j < 27 * c → wi' 57 j = nI (if j < 27 * i + 9 * t then fl F j else 0)) → Jm 52 [some (.ref 45), some (.int (nI s')), some (.int (nI z')), some (.int (nI g')), some (.int (nI (d s'))), some (.int (nI i)), some (.int (nI t)), none, none, none, none, none] [] (GC ++ (GM ++ r), wi', wl) 0 0) 3 (fun t ht iht => by
          intro wi' hF hB
          have S2 := fr hF
          refine hs 400 52 _ _ _ _ _ ?_
          conv => whnf
          repeat ((first | refine ⟨zH_of _, ?_⟩ | refine ⟨trivial, ?_⟩ | refine ⟨rfl, ?_⟩ | refine ⟨fun hc => absurd hc (by decide), fun _ => ?_⟩ | refine ⟨fun _ => ?_, fun hc => absurd (by decide) hc⟩ | refine ⟨fun _ => ?_, fun hc => absurd hc (by decide)⟩ | refine ⟨fun hc => absurd (by decide) hc, fun _ => ?_⟩); conv => whnf)
          try dsimp only
          rw [ltN (by omega) (by omega)]
          refine ⟨fun hc2 => ?_, fun hc2 => ?_⟩
          · obtain rfl : t = 3 := by omega
            conv => whnf
            repeat ((first | refine ⟨zH_of _, ?_⟩ | refine ⟨trivial, ?_⟩ | refine ⟨rfl, ?_⟩ | refine ⟨fun hc => absurd hc (by decide), fun _ => ?_⟩ | refine ⟨fun _ => ?_, fun hc => absurd (by decide) hc⟩ | refine ⟨fun _ => ?_, fun hc => absurd hc (by decide)⟩ | refine ⟨fun hc => absurd (by decide) hc, fun _ => ?_⟩); conv => whnf)
            try dsimp only
            rw [nI_add]
            exact ih wi' hF (fun j hj => by rw [hB j hj, show 27 * i + 9 * 3 = 27 * (i + 1) by omega])
          · have iht := iht hc2
            have n3 := nx_lt t
            have Fa := fun p => Fa i t p hc2
            have pe : pl (upD d s' z') t = upD d s' z' t * upD d s' z' (nx t) := rfl
            have u1 := hu t hc2
            have u2 := hu _ n3
            have p9 : pl (upD d s' z') t ≤ 9 := (pl_le hu hc2).2
            have dt := hd t hc2
            have dn := hd _ n3
            have e1 := ue t
            have e2 := ue (nx t)
            generalize upD d s' z' t = m at *
            generalize upD d s' z' (nx t) = n at *
            generalize pl (upD d s' z') t = P at *
            have cells := up_ind (P := fun k => ∀ wi' : Nat → Nat → Int32, (∀ y, y ≠ 57 → wi' y = wi y) → (∀ j, j < 27 * c → wi' 57 j = nI (if j < 27 * i + 9 * t + k then fl F j else 0)) → Jm 101 [some (.ref 45), some (.int (nI s')), some (.int (nI z')), some (.int (nI g')), some (.int (nI (d s'))), some (.int (nI i)), some (.int (nI t)), some (.int (nI m)), some (.int (nI n)), some (.int (nI k)), none, none] [] (GC ++ (GM ++ r), wi', wl) 0 0) P (fun k hk ihk => by
              intro wi' hF hB
              have S2 := fr hF
              refine hs 400 101 _ _ _ _ _ ?_
              conv => whnf
              repeat ((first | refine ⟨zH_of _, ?_⟩ | refine ⟨trivial, ?_⟩ | refine ⟨rfl, ?_⟩ | refine ⟨fun hc => absurd hc (by decide), fun _ => ?_⟩ | refine ⟨fun _ => ?_, fun hc => absurd (by decide) hc⟩ | refine ⟨fun _ => ?_, fun hc => absurd hc (by decide)⟩ | refine ⟨fun hc => absurd (by decide) hc, fun _ => ?_⟩); conv => whnf)
              try dsimp only
              rw [pk_mul, ← pe, ltN (by omega) (by omega)]
              refine ⟨fun hc3 => ?_, fun hc3 => ?_⟩
              · obtain rfl : k = P := by omega
                conv => whnf
                repeat ((first | refine ⟨zH_of _, ?_⟩ | refine ⟨trivial, ?_⟩ | refine ⟨rfl, ?_⟩ | refine ⟨fun hc => absurd hc (by decide), fun _ => ?_⟩ | refine ⟨fun _ => ?_, fun hc => absurd (by decide) hc⟩ | refine ⟨fun _ => ?_, fun hc => absurd hc (by decide)⟩ | refine ⟨fun hc => absurd (by decide) hc, fun _ => ?_⟩); conv => whnf)
                try dsimp only
                rw [nI_add]
                refine iht wi' hF (fun j hj => ?_)
                rw [hB j hj]
                by_cases g1 : j < 27 * i + 9 * t + k
                · rw [if_pos g1, if_pos (by omega)]
                · rw [if_neg g1]
                  by_cases g2 : j < 27 * i + 9 * (t + 1)
                  · rw [if_pos g2]
                    unfold fl
                    rw [show j / 9 = 3 * i + t by omega, Fa, if_neg (fun z => by have := z.1; omega)]
                  · rw [if_neg g2]
              · have ihk := ihk hc3
                have Fk := Fa k
                have fe : fl F (27 * i + 9 * t + k) = F (3 * i + t) k := fl_at F hc2 (by omega)
                have dv : k / n < m := Nat.div_lt_of_lt_mul (by rw [Nat.mul_comm, ← pe]; exact hc3)
                have md : k % n < n := Nat.mod_lt _ (by omega)
                have t219 : ∀ wi2 : Nat → Nat → Int32, (∀ y, y ≠ 57 → wi2 y = wi y) → (∀ j, j < 27 * c → wi2 57 j = nI (if j < 27 * i + 9 * t + (k + 1) then fl F j else 0)) → Jm 219 [some (.ref 45), some (.int (nI s')), some (.int (nI z')), some (.int (nI g')), some (.int (nI (d s'))), some (.int (nI i)), some (.int (nI t)), some (.int (nI m)), some (.int (nI n)), some (.int (nI k)), none, none] [] (GC ++ (GM ++ r), wi2, wl) 0 0 := fun wi2 k1 k2 => by
                  refine hs 400 219 _ _ _ _ _ ?_
                  conv => whnf
                  repeat ((first | refine ⟨zH_of _, ?_⟩ | refine ⟨trivial, ?_⟩ | refine ⟨rfl, ?_⟩ | refine ⟨fun hc => absurd hc (by decide), fun _ => ?_⟩ | refine ⟨fun _ => ?_, fun hc => absurd (by decide) hc⟩ | refine ⟨fun _ => ?_, fun hc => absurd hc (by decide)⟩ | refine ⟨fun hc => absurd (by decide) hc, fun _ => ?_⟩); conv => whnf)
                  try dsimp only
                  rw [nI_add]
                  exact ihk wi2 k1 k2
                have skip : fl F (27 * i + 9 * t + k) = 0 → Jm 219 [some (.ref 45), some (.int (nI s')), some (.int (nI z')), some (.int (nI g')), some (.int (nI (d s'))), some (.int (nI i)), some (.int (nI t)), some (.int (nI m)), some (.int (nI n)), some (.int (nI k)), none, none] [] (GC ++ (GM ++ r), wi', wl) 0 0 := fun z => t219 wi' hF (fun j hj => by
                  rw [hB j hj]
                  by_cases g1 : j < 27 * i + 9 * t + k
                  · rw [if_pos g1, if_pos (by omega)]
                  · rw [if_neg g1]
                    by_cases g2 : j = 27 * i + 9 * t + k
                    · rw [g2, if_pos (by omega), z]
                    · rw [if_neg (by omega)])
                have t169 : Jm 169 [some (.ref 45), some (.int (nI s')), some (.int (nI z')), some (.int (nI g')), some (.int (nI (d s'))), some (.int (nI i)), some (.int (nI t)), some (.int (nI m)), some (.int (nI n)), some (.int (nI k)), some (.int (if rzr s' g' t (k / n) < d t then nI (rzr s' g' t (k / n)) else mI 1)), some (.int (if rzr s' g' (nx t) (k % n) < d (nx t) then nI (rzr s' g' (nx t) (k % n)) else mI 1))] [] (GC ++ (GM ++ r), wi', wl) 0 0 := by
                  rw [← fe] at Fk
                  generalize rzr s' g' t (k / n) = R at *
                  generalize rzr s' g' (nx t) (k % n) = C at *
                  refine hs 400 169 _ _ _ _ _ ?_
                  conv => whnf
                  repeat ((first | refine ⟨zH_of _, ?_⟩ | refine ⟨trivial, ?_⟩ | refine ⟨rfl, ?_⟩ | refine ⟨fun hc => absurd hc (by decide), fun _ => ?_⟩ | refine ⟨fun _ => ?_, fun hc => absurd (by decide) hc⟩ | refine ⟨fun _ => ?_, fun hc => absurd hc (by decide)⟩ | refine ⟨fun hc => absurd (by decide) hc, fun _ => ?_⟩); conv => whnf)
                  try dsimp only
                  by_cases k1 : R < d t
                  · rw [if_pos k1]
                    refine ⟨fun z => absurd z (nI_nm (by omega)), fun _ => ?_⟩
                    conv => whnf
                    repeat ((first | refine ⟨zH_of _, ?_⟩ | refine ⟨trivial, ?_⟩ | refine ⟨rfl, ?_⟩ | refine ⟨fun hc => absurd hc (by decide), fun _ => ?_⟩ | refine ⟨fun _ => ?_, fun hc => absurd (by decide) hc⟩ | refine ⟨fun _ => ?_, fun hc => absurd hc (by decide)⟩ | refine ⟨fun hc => absurd (by decide) hc, fun _ => ?_⟩); conv => whnf)
                    try dsimp only
                    by_cases k2 : C < d (nx t)
                    · rw [if_pos k2]
                      refine ⟨fun z => absurd z (nI_nm (by omega)), fun _ => ?_⟩
                      have i9 := idx9 dt.2 dn.2 k1 k2
                      rw [if_pos ⟨hc3, k1, k2⟩] at Fk
                      conv => whnf
                      repeat ((first | refine ⟨zH_of _, ?_⟩ | refine ⟨trivial, ?_⟩ | refine ⟨rfl, ?_⟩ | refine ⟨fun hc => absurd hc (by decide), fun _ => ?_⟩ | refine ⟨fun _ => ?_, fun hc => absurd (by decide) hc⟩ | refine ⟨fun _ => ?_, fun hc => absurd hc (by decide)⟩ | refine ⟨fun hc => absurd (by decide) hc, fun _ => ?_⟩); conv => whnf)
                      try dsimp only
                      rw [at_N]
                      refine ⟨t, rfl, hc2, ?_⟩
                      rw [ms_d S2 _ n3]
                      conv => whnf
                      repeat ((first | refine ⟨zH_of _, ?_⟩ | refine ⟨trivial, ?_⟩ | refine ⟨rfl, ?_⟩ | refine ⟨fun hc => absurd hc (by decide), fun _ => ?_⟩ | refine ⟨fun _ => ?_, fun hc => absurd (by decide) hc⟩ | refine ⟨fun _ => ?_, fun hc => absurd hc (by decide)⟩ | refine ⟨fun hc => absurd (by decide) hc, fun _ => ?_⟩); conv => whnf)
                      try dsimp only
                      rw [pk_mul, nI_add, at_N]
                      refine ⟨vp_in_nI (show 27 * i + 9 * t + (R * d (nx t) + C) < 1080 by omega) (by decide), ?_⟩
                      conv => whnf
                      repeat ((first | refine ⟨zH_of _, ?_⟩ | refine ⟨trivial, ?_⟩ | refine ⟨rfl, ?_⟩ | refine ⟨fun hc => absurd hc (by decide), fun _ => ?_⟩ | refine ⟨fun _ => ?_, fun hc => absurd (by decide) hc⟩ | refine ⟨fun _ => ?_, fun hc => absurd hc (by decide)⟩ | refine ⟨fun hc => absurd (by decide) hc, fun _ => ?_⟩); conv => whnf)
                      try dsimp only
                      refine ⟨vp_in_nI (show 27 * i + 9 * t + k < 1080 by omega) (by decide), ?_⟩
                      rw [nI_clamp (n := 27 * i + 9 * t + (R * d (nx t) + C)) (by omega), nI_clamp (n := 27 * i + 9 * t + k) (by omega), ms_at S2 hc hc2 i9, ← Fk]
                      conv => whnf
                      repeat ((first | refine ⟨zH_of _, ?_⟩ | refine ⟨trivial, ?_⟩ | refine ⟨rfl, ?_⟩ | refine ⟨fun hc => absurd hc (by decide), fun _ => ?_⟩ | refine ⟨fun _ => ?_, fun hc => absurd (by decide) hc⟩ | refine ⟨fun _ => ?_, fun hc => absurd hc (by decide)⟩ | refine ⟨fun hc => absurd (by decide) hc, fun _ => ?_⟩); conv => whnf)
                      try dsimp only
                      refine t219 _ (fun y hy => by rw [z_up_ne hy, hF y hy]) (fun j hj => ?_)
                      by_cases g2 : j = 27 * i + 9 * t + k
                      · rw [g2, z_up_eq, if_pos (by omega)]
                      · rw [z_up_nei g2, hB j hj]
                        by_cases g1 : j < 27 * i + 9 * t + k
                        · rw [if_pos g1, if_pos (by omega)]
                        · rw [if_neg g1, if_neg (by omega)]
                    · rw [if_neg k2]
                      refine ⟨fun _ => ?_, fun z => absurd rfl z⟩
                      conv => whnf
                      repeat ((first | refine ⟨zH_of _, ?_⟩ | refine ⟨trivial, ?_⟩ | refine ⟨rfl, ?_⟩ | refine ⟨fun hc => absurd hc (by decide), fun _ => ?_⟩ | refine ⟨fun _ => ?_, fun hc => absurd (by decide) hc⟩ | refine ⟨fun _ => ?_, fun hc => absurd hc (by decide)⟩ | refine ⟨fun hc => absurd (by decide) hc, fun _ => ?_⟩); conv => whnf)
                      try dsimp only
                      exact skip (by rw [Fk, if_neg (fun z => k2 z.2.2)])
                  · rw [if_neg k1]
                    refine ⟨fun _ => ?_, fun z => absurd rfl z⟩
                    conv => whnf
                    repeat ((first | refine ⟨zH_of _, ?_⟩ | refine ⟨trivial, ?_⟩ | refine ⟨rfl, ?_⟩ | refine ⟨fun hc => absurd hc (by decide), fun _ => ?_⟩ | refine ⟨fun _ => ?_, fun hc => absurd (by decide) hc⟩ | refine ⟨fun _ => ?_, fun hc => absurd hc (by decide)⟩ | refine ⟨fun hc => absurd (by decide) hc, fun _ => ?_⟩); conv => whnf)
                    try dsimp only
                    exact skip (by rw [Fk, if_neg (fun z => k1 z.2.1)])
                have t138 : Jm 138 [some (.ref 45), some (.int (nI s')), some (.int (nI z')), some (.int (nI g')), some (.int (nI (d s'))), some (.int (nI i)), some (.int (nI t)), some (.int (nI m)), some (.int (nI n)), some (.int (nI k)), some (.int (if rzr s' g' t (k / n) < d t then nI (rzr s' g' t (k / n)) else mI 1)), none] [] (GC ++ (GM ++ r), wi', wl) 0 0 := by
                  generalize (if rzr s' g' t (k / n) < d t then nI (rzr s' g' t (k / n)) else mI 1) = rI at *
                  unfold rzr at t169
                  refine hs 400 138 _ _ _ _ _ ?_
                  conv => whnf
                  repeat ((first | refine ⟨zH_of _, ?_⟩ | refine ⟨trivial, ?_⟩ | refine ⟨rfl, ?_⟩ | refine ⟨fun hc => absurd hc (by decide), fun _ => ?_⟩ | refine ⟨fun _ => ?_, fun hc => absurd (by decide) hc⟩ | refine ⟨fun _ => ?_, fun hc => absurd hc (by decide)⟩ | refine ⟨fun hc => absurd (by decide) hc, fun _ => ?_⟩); conv => whnf)
                  try dsimp only
                  refine ⟨n30, ?_⟩
                  rw [rem3 hc2]
                  conv => whnf
                  repeat ((first | refine ⟨zH_of _, ?_⟩ | refine ⟨trivial, ?_⟩ | refine ⟨rfl, ?_⟩ | refine ⟨fun hc => absurd hc (by decide), fun _ => ?_⟩ | refine ⟨fun _ => ?_, fun hc => absurd (by decide) hc⟩ | refine ⟨fun _ => ?_, fun hc => absurd hc (by decide)⟩ | refine ⟨fun hc => absurd (by decide) hc, fun _ => ?_⟩); conv => whnf)
                  try dsimp only
                  rw [nI_eq (by omega) (by omega)]
                  refine ⟨fun e => ?_, fun e => ?_⟩
                  · rw [if_neg e] at e2
                    rw [if_neg e, if_pos (by omega)] at t169
                    conv => whnf
                    repeat ((first | refine ⟨zH_of _, ?_⟩ | refine ⟨trivial, ?_⟩ | refine ⟨rfl, ?_⟩ | refine ⟨fun hc => absurd hc (by decide), fun _ => ?_⟩ | refine ⟨fun _ => ?_, fun hc => absurd (by decide) hc⟩ | refine ⟨fun _ => ?_, fun hc => absurd hc (by decide)⟩ | refine ⟨fun hc => absurd (by decide) hc, fun _ => ?_⟩); conv => whnf)
                    try dsimp only
                    refine ⟨z_nn0 (by omega) (by omega), ?_⟩
                    rw [z_remN (by omega) (by omega) (by omega)]
                    conv => whnf
                    repeat ((first | refine ⟨zH_of _, ?_⟩ | refine ⟨trivial, ?_⟩ | refine ⟨rfl, ?_⟩ | refine ⟨fun hc => absurd hc (by decide), fun _ => ?_⟩ | refine ⟨fun _ => ?_, fun hc => absurd (by decide) hc⟩ | refine ⟨fun _ => ?_, fun hc => absurd hc (by decide)⟩ | refine ⟨fun hc => absurd (by decide) hc, fun _ => ?_⟩); conv => whnf)
                    try dsimp only
                    exact t169
                  · rw [if_pos e, e] at t169
                    conv => whnf
                    repeat ((first | refine ⟨zH_of _, ?_⟩ | refine ⟨trivial, ?_⟩ | refine ⟨rfl, ?_⟩ | refine ⟨fun hc => absurd hc (by decide), fun _ => ?_⟩ | refine ⟨fun _ => ?_, fun hc => absurd (by decide) hc⟩ | refine ⟨fun _ => ?_, fun hc => absurd hc (by decide)⟩ | refine ⟨fun hc => absurd (by decide) hc, fun _ => ?_⟩); conv => whnf)
                    try dsimp only
                    refine ⟨z_nn0 (by omega) (by omega), ?_⟩
                    rw [z_remN (by omega) (by omega) (by omega)]
                    conv => whnf
                    repeat ((first | refine ⟨zH_of _, ?_⟩ | refine ⟨trivial, ?_⟩ | refine ⟨rfl, ?_⟩ | refine ⟨fun hc => absurd hc (by decide), fun _ => ?_⟩ | refine ⟨fun _ => ?_, fun hc => absurd (by decide) hc⟩ | refine ⟨fun _ => ?_, fun hc => absurd hc (by decide)⟩ | refine ⟨fun hc => absurd (by decide) hc, fun _ => ?_⟩); conv => whnf)
                    try dsimp only
                    refine ⟨_, _, _, rfl, by omega, rfl, by omega, rfl, by omega, ?_⟩
                    conv => whnf
                    repeat ((first | refine ⟨zH_of _, ?_⟩ | refine ⟨trivial, ?_⟩ | refine ⟨rfl, ?_⟩ | refine ⟨fun hc => absurd hc (by decide), fun _ => ?_⟩ | refine ⟨fun _ => ?_, fun hc => absurd (by decide) hc⟩ | refine ⟨fun _ => ?_, fun hc => absurd hc (by decide)⟩ | refine ⟨fun hc => absurd (by decide) hc, fun _ => ?_⟩); conv => whnf)
                    try dsimp only
                    exact t169
                unfold rzr at t138
                conv => whnf
                repeat ((first | refine ⟨zH_of _, ?_⟩ | refine ⟨trivial, ?_⟩ | refine ⟨rfl, ?_⟩ | refine ⟨fun hc => absurd hc (by decide), fun _ => ?_⟩ | refine ⟨fun _ => ?_, fun hc => absurd (by decide) hc⟩ | refine ⟨fun _ => ?_, fun hc => absurd hc (by decide)⟩ | refine ⟨fun hc => absurd (by decide) hc, fun _ => ?_⟩); conv => whnf)
                try dsimp only
                rw [nI_eq (by omega) (by omega)]
                refine ⟨fun e => ?_, fun e => ?_⟩
                · rw [if_neg e] at e1
                  rw [if_neg e, if_pos (by omega)] at t138
                  conv => whnf
                  repeat ((first | refine ⟨zH_of _, ?_⟩ | refine ⟨trivial, ?_⟩ | refine ⟨rfl, ?_⟩ | refine ⟨fun hc => absurd hc (by decide), fun _ => ?_⟩ | refine ⟨fun _ => ?_, fun hc => absurd (by decide) hc⟩ | refine ⟨fun _ => ?_, fun hc => absurd hc (by decide)⟩ | refine ⟨fun hc => absurd (by decide) hc, fun _ => ?_⟩); conv => whnf)
                  try dsimp only
                  refine ⟨z_nn0 (by omega) (by omega), ?_⟩
                  rw [pk_div (by omega) (by omega) (by omega)]
                  conv => whnf
                  repeat ((first | refine ⟨zH_of _, ?_⟩ | refine ⟨trivial, ?_⟩ | refine ⟨rfl, ?_⟩ | refine ⟨fun hc => absurd hc (by decide), fun _ => ?_⟩ | refine ⟨fun _ => ?_, fun hc => absurd (by decide) hc⟩ | refine ⟨fun _ => ?_, fun hc => absurd hc (by decide)⟩ | refine ⟨fun hc => absurd (by decide) hc, fun _ => ?_⟩); conv => whnf)
                  try dsimp only
                  exact t138
                · rw [if_pos e, show d t = d s' by rw [e]] at t138
                  conv => whnf
                  repeat ((first | refine ⟨zH_of _, ?_⟩ | refine ⟨trivial, ?_⟩ | refine ⟨rfl, ?_⟩ | refine ⟨fun hc => absurd hc (by decide), fun _ => ?_⟩ | refine ⟨fun _ => ?_, fun hc => absurd (by decide) hc⟩ | refine ⟨fun _ => ?_, fun hc => absurd hc (by decide)⟩ | refine ⟨fun hc => absurd (by decide) hc, fun _ => ?_⟩); conv => whnf)
                  try dsimp only
                  refine ⟨z_nn0 (by omega) (by omega), ?_⟩
                  rw [pk_div (by omega) (by omega) (by omega)]
                  conv => whnf
                  repeat ((first | refine ⟨zH_of _, ?_⟩ | refine ⟨trivial, ?_⟩ | refine ⟨rfl, ?_⟩ | refine ⟨fun hc => absurd hc (by decide), fun _ => ?_⟩ | refine ⟨fun _ => ?_, fun hc => absurd (by decide) hc⟩ | refine ⟨fun _ => ?_, fun hc => absurd hc (by decide)⟩ | refine ⟨fun hc => absurd (by decide) hc, fun _ => ?_⟩); conv => whnf)
                  try dsimp only
                  refine ⟨_, _, _, rfl, by omega, rfl, by omega, rfl, by omega, ?_⟩
                  conv => whnf
                  repeat ((first | refine ⟨zH_of _, ?_⟩ | refine ⟨trivial, ?_⟩ | refine ⟨rfl, ?_⟩ | refine ⟨fun hc => absurd hc (by decide), fun _ => ?_⟩ | refine ⟨fun _ => ?_, fun hc => absurd (by decide) hc⟩ | refine ⟨fun _ => ?_, fun hc => absurd hc (by decide)⟩ | refine ⟨fun hc => absurd (by decide) hc, fun _ => ?_⟩); conv => whnf)
                  try dsimp only
                  exact t138)
            have t101 := cells 0 (Nat.zero_le _) wi' hF hB
            have t76 : Jm 76 [some (.ref 45), some (.int (nI s')), some (.int (nI z')), some (.int (nI g')), some (.int (nI (d s'))), some (.int (nI i)), some (.int (nI t)), some (.int (nI m)), none, none, none, none] [] (GC ++ (GM ++ r), wi', wl) 0 0 := by
              refine hs 400 76 _ _ _ _ _ ?_
              conv => whnf
              repeat ((first | refine ⟨zH_of _, ?_⟩ | refine ⟨trivial, ?_⟩ | refine ⟨rfl, ?_⟩ | refine ⟨fun hc => absurd hc (by decide), fun _ => ?_⟩ | refine ⟨fun _ => ?_, fun hc => absurd (by decide) hc⟩ | refine ⟨fun _ => ?_, fun hc => absurd hc (by decide)⟩ | refine ⟨fun hc => absurd (by decide) hc, fun _ => ?_⟩); conv => whnf)
              try dsimp only
              refine ⟨n30, ?_⟩
              rw [rem3 hc2]
              conv => whnf
              repeat ((first | refine ⟨zH_of _, ?_⟩ | refine ⟨trivial, ?_⟩ | refine ⟨rfl, ?_⟩ | refine ⟨fun hc => absurd hc (by decide), fun _ => ?_⟩ | refine ⟨fun _ => ?_, fun hc => absurd (by decide) hc⟩ | refine ⟨fun _ => ?_, fun hc => absurd hc (by decide)⟩ | refine ⟨fun hc => absurd (by decide) hc, fun _ => ?_⟩); conv => whnf)
              try dsimp only
              rw [nI_eq (by omega) (by omega)]
              refine ⟨fun e => ?_, fun e => ?_⟩
              · rw [if_neg e] at e2
                conv => whnf
                repeat ((first | refine ⟨zH_of _, ?_⟩ | refine ⟨trivial, ?_⟩ | refine ⟨rfl, ?_⟩ | refine ⟨fun hc => absurd hc (by decide), fun _ => ?_⟩ | refine ⟨fun _ => ?_, fun hc => absurd (by decide) hc⟩ | refine ⟨fun _ => ?_, fun hc => absurd hc (by decide)⟩ | refine ⟨fun hc => absurd (by decide) hc, fun _ => ?_⟩); conv => whnf)
                try dsimp only
                refine ⟨t, rfl, hc2, ?_⟩
                rw [ms_d S2 _ n3, ← e2]
                conv => whnf
                repeat ((first | refine ⟨zH_of _, ?_⟩ | refine ⟨trivial, ?_⟩ | refine ⟨rfl, ?_⟩ | refine ⟨fun hc => absurd hc (by decide), fun _ => ?_⟩ | refine ⟨fun _ => ?_, fun hc => absurd (by decide) hc⟩ | refine ⟨fun _ => ?_, fun hc => absurd hc (by decide)⟩ | refine ⟨fun hc => absurd (by decide) hc, fun _ => ?_⟩); conv => whnf)
                try dsimp only
                exact t101
              · rw [if_pos e] at e2
                rw [e2] at t101
                conv => whnf
                repeat ((first | refine ⟨zH_of _, ?_⟩ | refine ⟨trivial, ?_⟩ | refine ⟨rfl, ?_⟩ | refine ⟨fun hc => absurd hc (by decide), fun _ => ?_⟩ | refine ⟨fun _ => ?_, fun hc => absurd (by decide) hc⟩ | refine ⟨fun _ => ?_, fun hc => absurd hc (by decide)⟩ | refine ⟨fun hc => absurd (by decide) hc, fun _ => ?_⟩); conv => whnf)
                try dsimp only
                exact t101
            conv => whnf
            repeat ((first | refine ⟨zH_of _, ?_⟩ | refine ⟨trivial, ?_⟩ | refine ⟨rfl, ?_⟩ | refine ⟨fun hc => absurd hc (by decide), fun _ => ?_⟩ | refine ⟨fun _ => ?_, fun hc => absurd (by decide) hc⟩ | refine ⟨fun _ => ?_, fun hc => absurd hc (by decide)⟩ | refine ⟨fun hc => absurd (by decide) hc, fun _ => ?_⟩); conv => whnf)
            try dsimp only
            rw [nI_eq (by omega) (by omega)]
            refine ⟨fun e => ?_, fun e => ?_⟩
            · rw [if_neg e] at e1
              conv => whnf
              repeat ((first | refine ⟨zH_of _, ?_⟩ | refine ⟨trivial, ?_⟩ | refine ⟨rfl, ?_⟩ | refine ⟨fun hc => absurd hc (by decide), fun _ => ?_⟩ | refine ⟨fun _ => ?_, fun hc => absurd (by decide) hc⟩ | refine ⟨fun _ => ?_, fun hc => absurd hc (by decide)⟩ | refine ⟨fun hc => absurd (by decide) hc, fun _ => ?_⟩); conv => whnf)
              try dsimp only
              refine ⟨t, rfl, hc2, ?_⟩
              rw [ms_d S2 t hc2, ← e1]
              conv => whnf
              repeat ((first | refine ⟨zH_of _, ?_⟩ | refine ⟨trivial, ?_⟩ | refine ⟨rfl, ?_⟩ | refine ⟨fun hc => absurd hc (by decide), fun _ => ?_⟩ | refine ⟨fun _ => ?_, fun hc => absurd (by decide) hc⟩ | refine ⟨fun _ => ?_, fun hc => absurd hc (by decide)⟩ | refine ⟨fun hc => absurd (by decide) hc, fun _ => ?_⟩); conv => whnf)
              try dsimp only
              exact t76
            · rw [if_pos e] at e1
              rw [e1] at t76
              conv => whnf
              repeat ((first | refine ⟨zH_of _, ?_⟩ | refine ⟨trivial, ?_⟩ | refine ⟨rfl, ?_⟩ | refine ⟨fun hc => absurd hc (by decide), fun _ => ?_⟩ | refine ⟨fun _ => ?_, fun hc => absurd (by decide) hc⟩ | refine ⟨fun _ => ?_, fun hc => absurd hc (by decide)⟩ | refine ⟨fun hc => absurd (by decide) hc, fun _ => ?_⟩); conv => whnf)
              try dsimp only
              exact t76)
        conv => whnf
        repeat ((first | refine ⟨zH_of _, ?_⟩ | refine ⟨trivial, ?_⟩ | refine ⟨rfl, ?_⟩ | refine ⟨fun hc => absurd hc (by decide), fun _ => ?_⟩ | refine ⟨fun _ => ?_, fun hc => absurd (by decide) hc⟩ | refine ⟨fun _ => ?_, fun hc => absurd hc (by decide)⟩ | refine ⟨fun hc => absurd (by decide) hc, fun _ => ?_⟩); conv => whnf)
        try dsimp only
        exact loopt 0 (Nat.zero_le _) wi' hF hB)
    have zero := up_ind (P := fun k => ∀ wi' : Nat → Nat → Int32, (∀ y, y ≠ 57 → wi' y = wi y) → (∀ j, j < k → wi' 57 j = nI 0) → Jm 11 [some (.ref 45), some (.int (nI s')), some (.int (nI z')), some (.int (nI g')), some (.int (nI (d s'))), some (.int (nI k)), none, none, none, none, none, none] [] (GC ++ (GM ++ r), wi', wl) 0 0) (27 * c) (fun k hk ih => by
      intro wi' hF hB
      refine hs 400 11 _ _ _ _ _ ?_
      conv => whnf
      repeat ((first | refine ⟨zH_of _, ?_⟩ | refine ⟨trivial, ?_⟩ | refine ⟨rfl, ?_⟩ | refine ⟨fun hc => absurd hc (by decide), fun _ => ?_⟩ | refine ⟨fun _ => ?_, fun hc => absurd (by decide) hc⟩ | refine ⟨fun _ => ?_, fun hc => absurd hc (by decide)⟩ | refine ⟨fun hc => absurd (by decide) hc, fun _ => ?_⟩); conv => whnf)
      try dsimp only
      rw [ms_c (fr hF), pk_mul, ltN (by omega) (by omega)]
      refine ⟨fun hc => ?_, fun hc => ?_⟩
      · obtain rfl : k = 27 * c := by omega
        conv => whnf
        repeat ((first | refine ⟨zH_of _, ?_⟩ | refine ⟨trivial, ?_⟩ | refine ⟨rfl, ?_⟩ | refine ⟨fun hc => absurd hc (by decide), fun _ => ?_⟩ | refine ⟨fun _ => ?_, fun hc => absurd (by decide) hc⟩ | refine ⟨fun _ => ?_, fun hc => absurd hc (by decide)⟩ | refine ⟨fun hc => absurd (by decide) hc, fun _ => ?_⟩); conv => whnf)
        try dsimp only
        exact loop 0 (Nat.zero_le _) wi' hF (fun j hj => by rw [hB j hj, if_neg (by omega)])
      · have ih := ih hc
        conv => whnf
        repeat ((first | refine ⟨zH_of _, ?_⟩ | refine ⟨trivial, ?_⟩ | refine ⟨rfl, ?_⟩ | refine ⟨fun hc => absurd hc (by decide), fun _ => ?_⟩ | refine ⟨fun _ => ?_, fun hc => absurd (by decide) hc⟩ | refine ⟨fun _ => ?_, fun hc => absurd hc (by decide)⟩ | refine ⟨fun hc => absurd (by decide) hc, fun _ => ?_⟩); conv => whnf)
        try dsimp only
        refine ⟨vp_in_nI (show k < 1080 by omega) (by decide), ?_⟩
        rw [nI_clamp (n := k) (by omega)]
        conv => whnf
        repeat ((first | refine ⟨zH_of _, ?_⟩ | refine ⟨trivial, ?_⟩ | refine ⟨rfl, ?_⟩ | refine ⟨fun hc => absurd hc (by decide), fun _ => ?_⟩ | refine ⟨fun _ => ?_, fun hc => absurd (by decide) hc⟩ | refine ⟨fun _ => ?_, fun hc => absurd hc (by decide)⟩ | refine ⟨fun hc => absurd (by decide) hc, fun _ => ?_⟩); conv => whnf)
        try dsimp only
        rw [nI_add]
        refine ih _ (fun y hy => by rw [z_up_ne hy, hF y hy]) (fun j hj => ?_)
        by_cases e : j = k
        · rw [e, z_up_eq]
        · rw [z_up_nei e]
          exact hB j (by omega))
    refine hs 400 0 _ _ _ _ _ ?_
    conv => whnf
    repeat ((first | refine ⟨zH_of _, ?_⟩ | refine ⟨trivial, ?_⟩ | refine ⟨rfl, ?_⟩ | refine ⟨fun hc => absurd hc (by decide), fun _ => ?_⟩ | refine ⟨fun _ => ?_, fun hc => absurd (by decide) hc⟩ | refine ⟨fun _ => ?_, fun hc => absurd hc (by decide)⟩ | refine ⟨fun hc => absurd (by decide) hc, fun _ => ?_⟩); conv => whnf)
    try dsimp only
    refine ⟨vp_in_nI (show s' < 3 from hs') (by decide), ?_⟩
    rw [nI_clamp (n := s') (by omega), ms_d hS s' hs']
    conv => whnf
    repeat ((first | refine ⟨zH_of _, ?_⟩ | refine ⟨trivial, ?_⟩ | refine ⟨rfl, ?_⟩ | refine ⟨fun hc => absurd hc (by decide), fun _ => ?_⟩ | refine ⟨fun _ => ?_, fun hc => absurd (by decide) hc⟩ | refine ⟨fun _ => ?_, fun hc => absurd hc (by decide)⟩ | refine ⟨fun hc => absurd (by decide) hc, fun _ => ?_⟩); conv => whnf)
    try dsimp only
    exact zero 0 (Nat.zero_le _) wi (fun _ _ => rfl) (fun j hj => absurd hj (Nat.not_lt_zero j))

