/-! the reference: schemes read, products added -/
def ScI (wi' : Nat → Nat → Int32) (L : Nat) (x : Nat → Nat) (q : Nat) (S : Bool × Nat × Nat × (Nat → Nat → Nat)) : Prop := wi' 45 16 = nI S.2.2.1 ∧ S.2.2.1 ≤ 40 ∧ ((S.1 = true ∧ XR wi' L x S.2.1 ∧ wi' 45 14 = mI 1 ∧ RW wi' 52 (27 * S.2.2.1) S.2.2.2 ∧ ∀ k, k < 3 * S.2.2.1 → ∀ p, p < 9 → S.2.2.2 k p < q) ∨ (¬ S.1 = true ∧ wi' 45 14 = nI S.2.1 ∧ S.2.1 ≤ 400))
theorem nd_rw {wi wi' : Nat → Nat → Int32} {m : Nat} {B P : Nat → Nat → Nat} (h : RW wi 52 (27 * m) B) (e : ∀ j, j < 27 * m → wi' 52 j = wi 52 j) (hP : ∀ s, s < 3 → RA wi' 52 (27 * m + 9 * s) (P s)) : RW wi' 52 (27 * (m + 1)) (ndA B m P) := fun j hj => by
  unfold fl ndA
  by_cases g : j < 27 * m
  · rw [if_pos (by omega), e j g]
    exact h j g
  · rw [if_neg (by omega)]
    have k := hP (j / 9 - 3 * m) (by omega) (j % 9) (by omega)
    rw [show 27 * m + 9 * (j / 9 - 3 * m) + j % 9 = j by omega] at k
    exact k
theorem nd_lt {m q : Nat} {B P : Nat → Nat → Nat} (h : ∀ k, k < 3 * m → ∀ p, p < 9 → B k p < q) (hP : ∀ t p, p < 9 → P t p < q) : ∀ k, k < 3 * (m + 1) → ∀ p, p < 9 → ndA B m P k p < q := fun k hk p hp => by
  unfold ndA
  split
  · exact h k (by omega) p hp
  · exact hP _ p hp
theorem rp_sc {wi wi' : Nat → Nat → Int32} {L : Nat} {x : Nat → Nat} {d : Nat → Nat} {q m k : Nat} {B : Nat → Nat → Nat} (hq : 2 ≤ q) (hm : m < 40) (hB : RW wi 52 (27 * m) B) (hb : ∀ k, k < 3 * m → ∀ p, p < 9 → B k p < q) (hF : FPm m wi wi') (h16 : wi' 45 16 = nI (m + 1)) (h : RpI wi' L x m 3 (prP x L d q k)) : ScI wi' L x q ((prP x L d q k).1, (prP x L d q k).2.1, m + 1, ndA B m (prP x L d q k).2.2) := by
  refine ⟨h16, by show m + 1 ≤ 40; omega, ?_⟩
  rcases h with ⟨p1, p2, p3, p4⟩ | ⟨p1, p2, p3, _⟩
  · exact Or.inl ⟨p1, p2, p3, nd_rw hB hF.2.2 p4, nd_lt hb (fun t p hp => prL_lt hq 3 t p hp)⟩
  · exact Or.inr ⟨p1, p2, p3⟩
theorem xm_xr {wi wi' : Nat → Nat → Int32} {L : Nat} {x : Nat → Nat} (h : XM wi L x) (h12 : wi' 45 12 = wi 45 8) (h13 : wi' 45 13 = nI 0) (h50 : wi' 50 = wi 50) : XR wi' L x 0 := ⟨by rw [h12]; exact h.1, h13, h.2.1, Nat.zero_le _, fun j hj => by rw [h50]; exact h.2.2 j hj⟩
theorem m21 {k : Nat} : nI 0 - nI 21 - nI k = mI 21 - nI k := rfl
/-- what the reading leaves as it was -/
def FSc (wi wi' : Nat → Nat → Int32) : Prop := (∀ y, y ≠ 45 → y ≠ 52 → wi' y = wi y) ∧ ∀ i, i ≠ 8 → i ≠ 12 → i ≠ 13 → i ≠ 14 → i ≠ 16 → wi' 45 i = wi 45 i
def sp_X12_scheme : zSp := fun av w K => match av with
  | [.ref o] => o = 45 ∧ zH w.1 ∧ ∃ T, MT w.2.1 w.2.2 T ∧ ZT T ∧ ∀ wi' wl', FrM w.2.1 w.2.2 wi' wl' → MT wi' wl' (st_scheme T).1 → K (some (.int (st_scheme T).2)) (w.1, wi', wl')
  | _ => False
def rm_X12_scheme : Room := { frames := 6, cells := 0, slots := 0, locals := 133 }
def M_X12_scheme : zM := (k_X12_scheme, f_X12, [(151, 4, 10, 1, 0, 0, sp_X12_begin), (154, 4, 10, 1, 0, 0, sp_X12_readProduct), (126, 4, 10, 2, 0, 0, sp_X12_passes), (157, 4, 10, 1, 0, 0, sp_X12_ends), (160, 4, 10, 1, 0, 0, sp_X12_told)], ([], [], []), [], [(18, [true, false]), (51, [true, false]), (63, [true, false]), (86, [true, true])], 1, false, (false, 0, fun _ => 0), (0, 0))
theorem ca_X12_scheme_0 (l : Launch) : z_cok l RX12 (headSpec (.code yX12_scheme cX12_scheme 2 (some .int) :: zTT) rm_X12_scheme).room (151, 4, 10, 1, 0, 0, sp_X12_begin) := z_ca4 (c_X12_begin l) mb_X12_begin ⟨_, rfl, rfl⟩ wt_1266 wt_1268 wt_29 (by decide)
theorem ca_X12_scheme_1 (l : Launch) : z_cok l RX12 (headSpec (.code yX12_scheme cX12_scheme 2 (some .int) :: zTT) rm_X12_scheme).room (154, 4, 10, 1, 0, 0, sp_X12_readProduct) := z_ca4 (c_X12_readProduct l) mb_X12_readProduct ⟨_, rfl, rfl⟩ wt_1270 wt_1272 wt_30 (by decide)
theorem ca_X12_scheme_2 (l : Launch) : z_cok l RX12 (headSpec (.code yX12_scheme cX12_scheme 2 (some .int) :: zTT) rm_X12_scheme).room (126, 4, 10, 2, 0, 0, sp_X12_passes) := z_ca4 (c_X12_passes l) mb_X12_passes ⟨_, rfl, rfl⟩ wt_1278 wt_1280 wt_32 (by decide)
theorem ca_X12_scheme_3 (l : Launch) : z_cok l RX12 (headSpec (.code yX12_scheme cX12_scheme 2 (some .int) :: zTT) rm_X12_scheme).room (157, 4, 10, 1, 0, 0, sp_X12_ends) := z_ca4 (c_X12_ends l) mb_X12_ends ⟨_, rfl, rfl⟩ wt_1310 wt_1312 wt_40 (by decide)
theorem ca_X12_scheme_4 (l : Launch) : z_cok l RX12 (headSpec (.code yX12_scheme cX12_scheme 2 (some .int) :: zTT) rm_X12_scheme).room (160, 4, 10, 1, 0, 0, sp_X12_told) := z_ca4 (c_X12_told l) mb_X12_told ⟨_, rfl, rfl⟩ wt_1314 wt_1316 wt_41 (by decide)
theorem O_X12_scheme (l : Launch) : z_OK l RX12 cX12_scheme (headSpec (.code yX12_scheme cX12_scheme 2 (some .int) :: zTT) rm_X12_scheme).room M_X12_scheme := ⟨ok_X12_scheme, fo_X12, List.forall_mem_cons.mpr ⟨ca_X12_scheme_0 l, List.forall_mem_cons.mpr ⟨ca_X12_scheme_1 l, List.forall_mem_cons.mpr ⟨ca_X12_scheme_2 l, List.forall_mem_cons.mpr ⟨ca_X12_scheme_3 l, List.forall_mem_cons.mpr ⟨ca_X12_scheme_4 l, fun _ h => absurd h List.not_mem_nil⟩⟩⟩⟩⟩, fun _ h => absurd h List.not_mem_nil, fun _ h => absurd h List.not_mem_nil, fun _ h => absurd h List.not_mem_nil, fun _ h => absurd h List.not_mem_nil, rfl, rfl⟩
theorem c_X12_scheme (l : Launch) : z_CS l yX12_scheme cX12_scheme 2 (some .int) rm_X12_scheme sp_X12_scheme := by
  refine z_meth (by decide) (Or.inr (Or.inl ⟨rfl, rfl⟩)) (fun h => by cases h) rfl (O_X12_scheme l) ?_
  intro av w K h
  match av, h with
  | [.ref o], h =>
    obtain ⟨rfl, ⟨r, hG⟩, ⟨d, q, c, A, kp, ⟨L, x⟩, tl⟩, hC, hZ, h⟩ := h
    obtain ⟨G, wi, wl⟩ := w
    subst hG
    try dsimp only at h hC hZ
    have hC := mt_fld (i := 11) (v := nI 0) hC (by decide)
    have hF0 : FrM wi wl (z_up wi 45 11 (nI 0)) wl := fm_fld
    refine ⟨Nat.le_of_ble_eq_true rfl, fun Jm hs => ?_⟩
    unfold st_scheme txt0 at h
    dsimp only at h
    generalize hR : scP x L d q = R at h
    unfold scP at hR
    have hX := mt_X hC
    dsimp only at hX
    have q23 := ms_q23 (mt_S hC)
    have hd3 := ms_hd (mt_S hC)
    refine hs 400 0 _ _ _ _ _ ?_
    conv => whnf
    repeat ((first | refine ⟨zH_of _, ?_⟩ | refine ⟨trivial, ?_⟩ | refine ⟨rfl, ?_⟩ | refine ⟨fun hc => absurd hc (by decide), fun _ => ?_⟩ | refine ⟨fun _ => ?_, fun hc => absurd (by decide) hc⟩ | refine ⟨fun _ => ?_, fun hc => absurd hc (by decide)⟩ | refine ⟨fun hc => absurd (by decide) hc, fun _ => ?_⟩); conv => whnf)
    try dsimp only
    generalize z_up wi 45 11 (nI 0) = wi0 at *
    obtain ⟨wi1, hw1⟩ : ∃ wi1, wi1 = z_up (z_up (z_up (z_up (z_up wi0 45 12 (wi0 45 8)) 45 8 (nI 0)) 45 13 (nI 0)) 45 14 (mI 1)) 45 16 (nI 0) := ⟨_, rfl⟩
    have a8 : wi1 45 8 = nI 0 := by rw [hw1]; rfl
    have a12 : wi1 45 12 = wi0 45 8 := by rw [hw1]; rfl
    have a13 : wi1 45 13 = nI 0 := by rw [hw1]; rfl
    have a14 : wi1 45 14 = mI 1 := by rw [hw1]; rfl
    have a16 : wi1 45 16 = nI 0 := by rw [hw1]; rfl
    have hS1 : FSc wi0 wi1 := ⟨fun y g1 g2 => by rw [hw1, z_up_ne g1, z_up_ne g1, z_up_ne g1, z_up_ne g1, z_up_ne g1], fun i g1 g2 g3 g4 g5 => by rw [hw1, z_up_nei g5, z_up_nei g4, z_up_nei g3, z_up_nei g1, z_up_nei g2]⟩
    have fsc : ∀ {m : Nat} {wi' wi2 : Nat → Nat → Int32}, FSc wi0 wi' → FPm m wi' wi2 → FSc wi0 wi2 := fun h1 h2 => ⟨fun y g1 g2 => (h2.1 y g1 g2).trans (h1.1 y g1 g2), fun i g1 g2 g3 g4 g5 => (h2.2.1 i g3 g4 g5).trans (h1.2 i g1 g2 g3 g4 g5)⟩
    have txt : ∀ wi' : Nat → Nat → Int32, FSc wi0 wi' → wi' 45 8 = nI 0 → MT wi' wl (d, q, c, A, kp, (0, x), tl) := fun wi' hF h8 => ⟨ms_fr (mt_S hC) (hF.1 46 (by decide) (by decide)) (hF.2 1 (by decide) (by decide) (by decide) (by decide) (by decide)) (hF.2 2 (by decide) (by decide) (by decide) (by decide) (by decide)) (hF.1 47 (by decide) (by decide)), km_fr (mt_K hC) (hF.2 4 (by decide) (by decide) (by decide) (by decide) (by decide)) (hF.1 48 (by decide) (by decide)) (hF.1 49 (by decide) (by decide)), ⟨h8, Nat.zero_le _, fun k hk => absurd hk (Nat.not_lt_zero k)⟩, tm_fr (mt_T hC) (hF.2 10 (by decide) (by decide) (by decide) (by decide) (by decide)) rfl⟩
    have finF : ∀ (wi' : Nat → Nat → Int32) (k' : Nat), FSc wi0 wi' → wi' 45 8 = nI 0 → wi' 45 14 = nI k' → k' ≤ 400 → ffI R.1 R.2.1 L = nI k' → Jm 63 [some (.ref 45), none] [] (GC ++ (GM ++ r), wi', wl) 0 0 := fun wi' k' hF h8 h14 hk he => by
      rw [he, if_neg (nI_nlt (Nat.zero_le _) (by omega))] at h
      have h := h wi' wl (FrM_trans hF0 (fun y hy => ⟨hF.1 y (by omega) (by omega), rfl⟩)) (txt wi' hF h8)
      rw [← h14] at h
      refine hs 400 63 _ _ _ _ _ ?_
      conv => whnf
      repeat ((first | refine ⟨zH_of _, ?_⟩ | refine ⟨trivial, ?_⟩ | refine ⟨rfl, ?_⟩ | refine ⟨fun hc => absurd hc (by decide), fun _ => ?_⟩ | refine ⟨fun _ => ?_, fun hc => absurd (by decide) hc⟩ | refine ⟨fun _ => ?_, fun hc => absurd hc (by decide)⟩ | refine ⟨fun hc => absurd (by decide) hc, fun _ => ?_⟩); conv => whnf)
      try dsimp only
      refine ⟨fun z => absurd (h14.symm.trans z) (nI_m1 (by omega)), fun _ => ?_⟩
      conv => whnf
      repeat ((first | refine ⟨zH_of _, ?_⟩ | refine ⟨trivial, ?_⟩ | refine ⟨rfl, ?_⟩ | refine ⟨fun hc => absurd hc (by decide), fun _ => ?_⟩ | refine ⟨fun _ => ?_, fun hc => absurd (by decide) hc⟩ | refine ⟨fun _ => ?_, fun hc => absurd hc (by decide)⟩ | refine ⟨fun hc => absurd (by decide) hc, fun _ => ?_⟩); conv => whnf)
      try dsimp only
      exact h
    have finO : ∀ wi' : Nat → Nat → Int32, FSc wi0 wi' → wi' 45 8 = nI 0 → wi' 45 14 = mI 1 → wi' 45 16 = nI R.2.2.1 → R.2.2.1 ≤ 40 → RW wi' 52 (27 * R.2.2.1) R.2.2.2 → (∀ k, k < 3 * R.2.2.1 → ∀ p, p < 9 → R.2.2.2 k p < q) → ffI R.1 R.2.1 L = mI 1 → Jm 63 [some (.ref 45), none] [] (GC ++ (GM ++ r), wi', wl) 0 0 := fun wi' hF h8 h14 h16 h40 hRW hlt he => by
      rw [he, if_pos (by decide)] at h
      have hM := txt wi' hF h8
      have copy := up_ind (P := fun i => ∀ wi2 : Nat → Nat → Int32, (∀ y, y ≠ 45 → y ≠ 47 → wi2 y = wi' y) → (∀ i, i ≠ 2 → wi2 45 i = wi' 45 i) → wi2 45 2 = nI R.2.2.1 → (∀ j, j < i → wi2 47 j = nI (fl R.2.2.2 j)) → Jm 86 [some (.ref 45), some (.int (nI i))] [] (GC ++ (GM ++ r), wi2, wl) 0 0) (27 * R.2.2.1) (fun i hi ih => by
        intro wi2 g1 g2 g3 g4
        refine hs 400 86 _ _ _ _ _ ?_
        conv => whnf
        repeat ((first | refine ⟨zH_of _, ?_⟩ | refine ⟨trivial, ?_⟩ | refine ⟨rfl, ?_⟩ | refine ⟨fun hc => absurd hc (by decide), fun _ => ?_⟩ | refine ⟨fun _ => ?_, fun hc => absurd (by decide) hc⟩ | refine ⟨fun _ => ?_, fun hc => absurd hc (by decide)⟩ | refine ⟨fun hc => absurd (by decide) hc, fun _ => ?_⟩); conv => whnf)
        try dsimp only
        rw [g3, pk_mul, ltN (by omega) (by omega)]
        refine ⟨fun hc => ?_, fun hc => ?_⟩
        · obtain rfl : i = 27 * R.2.2.1 := by omega
          have h := h wi2 wl (FrM_trans hF0 (fun y hy => ⟨by rw [g1 y (by omega) (by omega), hF.1 y (by omega) (by omega)], rfl⟩)) (mt_now hM ⟨fun t ht => by rw [g1 46 (by decide) (by decide)]; exact ms_d (mt_S hM) t ht, ⟨by rw [g2 1 (by decide)]; exact ms_q (mt_S hM), g3⟩, g4, q23, hd3, h40, hlt⟩ (fun i hi => g2 i (by omega)) (fun y hy => g1 y (by omega) (by omega)) rfl)
          rw [← g3] at h
          conv => whnf
          repeat ((first | refine ⟨zH_of _, ?_⟩ | refine ⟨trivial, ?_⟩ | refine ⟨rfl, ?_⟩ | refine ⟨fun hc => absurd hc (by decide), fun _ => ?_⟩ | refine ⟨fun _ => ?_, fun hc => absurd (by decide) hc⟩ | refine ⟨fun _ => ?_, fun hc => absurd hc (by decide)⟩ | refine ⟨fun hc => absurd (by decide) hc, fun _ => ?_⟩); conv => whnf)
          try dsimp only
          exact h
        · have ih := ih hc
          conv => whnf
          repeat ((first | refine ⟨zH_of _, ?_⟩ | refine ⟨trivial, ?_⟩ | refine ⟨rfl, ?_⟩ | refine ⟨fun hc => absurd hc (by decide), fun _ => ?_⟩ | refine ⟨fun _ => ?_, fun hc => absurd (by decide) hc⟩ | refine ⟨fun _ => ?_, fun hc => absurd hc (by decide)⟩ | refine ⟨fun hc => absurd (by decide) hc, fun _ => ?_⟩); conv => whnf)
          try dsimp only
          refine ⟨vp_in_nI (show i < 1080 by omega) (by decide), ?_⟩
          conv => whnf
          repeat ((first | refine ⟨zH_of _, ?_⟩ | refine ⟨trivial, ?_⟩ | refine ⟨rfl, ?_⟩ | refine ⟨fun hc => absurd hc (by decide), fun _ => ?_⟩ | refine ⟨fun _ => ?_, fun hc => absurd (by decide) hc⟩ | refine ⟨fun _ => ?_, fun hc => absurd hc (by decide)⟩ | refine ⟨fun hc => absurd (by decide) hc, fun _ => ?_⟩); conv => whnf)
          try dsimp only
          refine ⟨vp_in_nI (show i < 1080 by omega) (by decide), ?_⟩
          conv => whnf
          repeat ((first | refine ⟨zH_of _, ?_⟩ | refine ⟨trivial, ?_⟩ | refine ⟨rfl, ?_⟩ | refine ⟨fun hc => absurd hc (by decide), fun _ => ?_⟩ | refine ⟨fun _ => ?_, fun hc => absurd (by decide) hc⟩ | refine ⟨fun _ => ?_, fun hc => absurd hc (by decide)⟩ | refine ⟨fun hc => absurd (by decide) hc, fun _ => ?_⟩); conv => whnf)
          try dsimp only
          rw [nI_clamp (by omega), g1 52 (by decide) (by decide), hRW i hc, nI_add]
          refine ih _ (fun y k1 k2 => by rw [z_up_ne k2, g1 y k1 k2]) (fun i hi => by rw [z_up_ne (by decide), g2 i hi]) (by rw [z_up_ne (by decide)]; exact g3) (fun j hj => ?_)
          by_cases e : j = i
          · rw [e, z_up_eq]
          · rw [z_up_nei e]
            exact g4 j (by omega))
      refine hs 400 63 _ _ _ _ _ ?_
      conv => whnf
      repeat ((first | refine ⟨zH_of _, ?_⟩ | refine ⟨trivial, ?_⟩ | refine ⟨rfl, ?_⟩ | refine ⟨fun hc => absurd hc (by decide), fun _ => ?_⟩ | refine ⟨fun _ => ?_, fun hc => absurd (by decide) hc⟩ | refine ⟨fun _ => ?_, fun hc => absurd hc (by decide)⟩ | refine ⟨fun hc => absurd (by decide) hc, fun _ => ?_⟩); conv => whnf)
      try dsimp only
      refine ⟨fun _ => ?_, fun z => absurd h14 z⟩
      conv => whnf
      repeat ((first | refine ⟨zH_of _, ?_⟩ | refine ⟨trivial, ?_⟩ | refine ⟨rfl, ?_⟩ | refine ⟨fun hc => absurd hc (by decide), fun _ => ?_⟩ | refine ⟨fun _ => ?_, fun hc => absurd (by decide) hc⟩ | refine ⟨fun _ => ?_, fun hc => absurd hc (by decide)⟩ | refine ⟨fun hc => absurd (by decide) hc, fun _ => ?_⟩); conv => whnf)
      try dsimp only
      rw [h16]
      exact copy 0 (Nat.zero_le _) _ (fun y k1 _ => z_up_ne k1) (fun i hi => z_up_nei hi) z_up_eq (fun j hj => absurd hj (Nat.not_lt_zero j))
    have at51 : ∀ wi' : Nat → Nat → Int32, FSc wi0 wi' → wi' 45 8 = nI 0 → ScI wi' L x q R → Jm 51 [some (.ref 45), none] [] (GC ++ (GM ++ r), wi', wl) 0 0 := fun wi' hF h8 hP => by
      obtain ⟨h16, h40, hP⟩ := hP
      refine hs 400 51 _ _ _ _ _ ?_
      conv => whnf
      repeat ((first | refine ⟨zH_of _, ?_⟩ | refine ⟨trivial, ?_⟩ | refine ⟨rfl, ?_⟩ | refine ⟨fun hc => absurd hc (by decide), fun _ => ?_⟩ | refine ⟨fun _ => ?_, fun hc => absurd (by decide) hc⟩ | refine ⟨fun _ => ?_, fun hc => absurd hc (by decide)⟩ | refine ⟨fun hc => absurd (by decide) hc, fun _ => ?_⟩); conv => whnf)
      try dsimp only
      rcases hP with ⟨p1, p2, p3, p4, p5⟩ | ⟨p1, p2, p3⟩
      · refine ⟨fun z => absurd p3 z, fun _ => ?_⟩
        have kL := p2.2.2.2.1
        have l4 := p2.2.2.1
        have ef := ff_rest R.2.1 L
        rw [← p1] at ef
        conv => whnf
        repeat ((first | refine ⟨zH_of _, ?_⟩ | refine ⟨trivial, ?_⟩ | refine ⟨rfl, ?_⟩ | refine ⟨fun hc => absurd hc (by decide), fun _ => ?_⟩ | refine ⟨fun _ => ?_, fun hc => absurd (by decide) hc⟩ | refine ⟨fun _ => ?_, fun hc => absurd hc (by decide)⟩ | refine ⟨fun hc => absurd (by decide) hc, fun _ => ?_⟩); conv => whnf)
        try dsimp only
        refine ⟨L, x, R.2.1, p2, p3, fun hk => ?_, fun hk => ?_⟩
        · rw [if_pos hk] at ef
          conv => whnf
          repeat ((first | refine ⟨zH_of _, ?_⟩ | refine ⟨trivial, ?_⟩ | refine ⟨rfl, ?_⟩ | refine ⟨fun hc => absurd hc (by decide), fun _ => ?_⟩ | refine ⟨fun _ => ?_, fun hc => absurd (by decide) hc⟩ | refine ⟨fun _ => ?_, fun hc => absurd hc (by decide)⟩ | refine ⟨fun hc => absurd (by decide) hc, fun _ => ?_⟩); conv => whnf)
          try dsimp only
          exact finF _ R.2.1 ⟨fun y g1 g2 => by rw [z_up_ne g1, hF.1 y g1 g2], fun i g1 g2 g3 g4 g5 => by rw [z_up_nei g4, hF.2 i g1 g2 g3 g4 g5]⟩ (by rw [z_up_nei (by decide)]; exact h8) z_up_eq (by omega) ef
        · rw [if_neg hk] at ef
          conv => whnf
          repeat ((first | refine ⟨zH_of _, ?_⟩ | refine ⟨trivial, ?_⟩ | refine ⟨rfl, ?_⟩ | refine ⟨fun hc => absurd hc (by decide), fun _ => ?_⟩ | refine ⟨fun _ => ?_, fun hc => absurd (by decide) hc⟩ | refine ⟨fun _ => ?_, fun hc => absurd hc (by decide)⟩ | refine ⟨fun hc => absurd (by decide) hc, fun _ => ?_⟩); conv => whnf)
          try dsimp only
          exact finO wi' hF h8 p3 h16 h40 p4 p5 ef
      · refine ⟨fun _ => ?_, fun z => absurd (p2.symm.trans z) (nI_m1 (by omega))⟩
        refine finF wi' R.2.1 hF h8 p2 p3 ?_
        unfold ffI
        rw [if_neg (fun z => p1 z.1)]
    have loop : ∀ (m : Nat) (wi' : Nat → Nat → Int32) (S : Bool × Nat × Nat × (Nat → Nat → Nat)), FSc wi0 wi' → wi' 45 8 = nI 0 → ScI wi' L x q S → S.2.2.1 + m = 40 → scN x L d q m S = R → Jm 18 [some (.ref 45), none] [] (GC ++ (GM ++ r), wi', wl) 0 0 := by
      have wrong : ∀ (wi' : Nat → Nat → Int32), FSc wi0 wi' → wi' 45 8 = nI 0 → ScI wi' L x q R → ¬ R.1 = true → Jm 18 [some (.ref 45), none] [] (GC ++ (GM ++ r), wi', wl) 0 0 := fun wi' hF h8 hP hz => by
        have n1 : ¬ wi' 45 14 = mI 1 := fun z => by
          rcases hP.2.2 with ⟨p1, _⟩ | ⟨_, p2, p3⟩
          · exact hz p1
          · exact nI_m1 (by omega) (p2.symm.trans z)
        refine hs 400 18 _ _ _ _ _ ?_
        conv => whnf
        repeat ((first | refine ⟨zH_of _, ?_⟩ | refine ⟨trivial, ?_⟩ | refine ⟨rfl, ?_⟩ | refine ⟨fun hc => absurd hc (by decide), fun _ => ?_⟩ | refine ⟨fun _ => ?_, fun hc => absurd (by decide) hc⟩ | refine ⟨fun _ => ?_, fun hc => absurd hc (by decide)⟩ | refine ⟨fun hc => absurd (by decide) hc, fun _ => ?_⟩); conv => whnf)
        try dsimp only
        exact ⟨fun _ => at51 wi' hF h8 hP, fun z => absurd z n1⟩
      intro m
      induction m with
      | zero =>
        intro wi' S hF h8 hP hm hR'
        have e : S = R := hR'
        subst e
        by_cases hz : S.1 = true
        · have h14 : wi' 45 14 = mI 1 := by
            rcases hP.2.2 with ⟨_, _, p3, _⟩ | ⟨p1, _⟩
            · exact p3
            · exact absurd hz p1
          refine hs 400 18 _ _ _ _ _ ?_
          conv => whnf
          repeat ((first | refine ⟨zH_of _, ?_⟩ | refine ⟨trivial, ?_⟩ | refine ⟨rfl, ?_⟩ | refine ⟨fun hc => absurd hc (by decide), fun _ => ?_⟩ | refine ⟨fun _ => ?_, fun hc => absurd (by decide) hc⟩ | refine ⟨fun _ => ?_, fun hc => absurd hc (by decide)⟩ | refine ⟨fun hc => absurd (by decide) hc, fun _ => ?_⟩); conv => whnf)
          try dsimp only
          refine ⟨fun z => absurd h14 z, fun _ => ?_⟩
          conv => whnf
          repeat ((first | refine ⟨zH_of _, ?_⟩ | refine ⟨trivial, ?_⟩ | refine ⟨rfl, ?_⟩ | refine ⟨fun hc => absurd hc (by decide), fun _ => ?_⟩ | refine ⟨fun _ => ?_, fun hc => absurd (by decide) hc⟩ | refine ⟨fun _ => ?_, fun hc => absurd hc (by decide)⟩ | refine ⟨fun hc => absurd (by decide) hc, fun _ => ?_⟩); conv => whnf)
          try dsimp only
          rw [hP.1, ltN (by omega) (by omega)]
          exact ⟨fun _ => at51 wi' hF h8 hP, fun z => absurd z (by omega)⟩
        · exact wrong wi' hF h8 hP hz
      | succ m ih =>
        intro wi' S hF h8 hP hm hR'
        by_cases hz : S.1 = true
        · rw [scN] at hR'
          obtain ⟨p2, h14, p4, p5⟩ : XR wi' L x S.2.1 ∧ wi' 45 14 = mI 1 ∧ RW wi' 52 (27 * S.2.2.1) S.2.2.2 ∧ ∀ k, k < 3 * S.2.2.1 → ∀ p, p < 9 → S.2.2.2 k p < q := by
            rcases hP.2.2 with ⟨_, k⟩ | ⟨p1, _⟩
            · exact k
            · exact absurd hz p1
          have h16 := hP.1
          refine hs 400 18 _ _ _ _ _ ?_
          conv => whnf
          repeat ((first | refine ⟨zH_of _, ?_⟩ | refine ⟨trivial, ?_⟩ | refine ⟨rfl, ?_⟩ | refine ⟨fun hc => absurd hc (by decide), fun _ => ?_⟩ | refine ⟨fun _ => ?_, fun hc => absurd (by decide) hc⟩ | refine ⟨fun _ => ?_, fun hc => absurd hc (by decide)⟩ | refine ⟨fun hc => absurd (by decide) hc, fun _ => ?_⟩); conv => whnf)
          try dsimp only
          refine ⟨fun z => absurd h14 z, fun _ => ?_⟩
          conv => whnf
          repeat ((first | refine ⟨zH_of _, ?_⟩ | refine ⟨trivial, ?_⟩ | refine ⟨rfl, ?_⟩ | refine ⟨fun hc => absurd hc (by decide), fun _ => ?_⟩ | refine ⟨fun _ => ?_, fun hc => absurd (by decide) hc⟩ | refine ⟨fun _ => ?_, fun hc => absurd hc (by decide)⟩ | refine ⟨fun hc => absurd (by decide) hc, fun _ => ?_⟩); conv => whnf)
          try dsimp only
          rw [h16, ltN (by omega) (by omega)]
          refine ⟨fun z => absurd (show S.2.2.1 < 40 by omega) z, fun _ => ?_⟩
          conv => whnf
          repeat ((first | refine ⟨zH_of _, ?_⟩ | refine ⟨trivial, ?_⟩ | refine ⟨rfl, ?_⟩ | refine ⟨fun hc => absurd hc (by decide), fun _ => ?_⟩ | refine ⟨fun _ => ?_, fun hc => absurd (by decide) hc⟩ | refine ⟨fun _ => ?_, fun hc => absurd hc (by decide)⟩ | refine ⟨fun hc => absurd (by decide) hc, fun _ => ?_⟩); conv => whnf)
          try dsimp only
          refine ⟨L, x, S.2.1, 59, p2, rfl, by decide, fun hn => ?_, fun _ h59 => ?_⟩
          · have hn : see x L S.2.1 ≠ 59 := by
              rcases hn with hn | hn
              · exact absurd h14 hn
              · exact hn
            rw [if_neg (fun z => hn z.2)] at hR'
            subst hR'
            conv => whnf
            repeat ((first | refine ⟨zH_of _, ?_⟩ | refine ⟨trivial, ?_⟩ | refine ⟨rfl, ?_⟩ | refine ⟨fun hc => absurd hc (by decide), fun _ => ?_⟩ | refine ⟨fun _ => ?_, fun hc => absurd (by decide) hc⟩ | refine ⟨fun _ => ?_, fun hc => absurd hc (by decide)⟩ | refine ⟨fun hc => absurd (by decide) hc, fun _ => ?_⟩); conv => whnf)
            try dsimp only
            exact at51 wi' hF h8 hP
          · rw [if_pos ⟨hz, h59⟩] at hR'
            have hF13 : FPm S.2.2.1 wi' (z_up wi' 45 13 (nI (S.2.1 + 1))) := fpm_13
            have hX2 : XR (z_up wi' 45 13 (nI (S.2.1 + 1))) L x (S.2.1 + 1) := xr_adv p2 (xr_in (by decide) h59)
            have b14 : z_up wi' 45 13 (nI (S.2.1 + 1)) 45 14 = mI 1 := by rw [z_up_nei (by decide)]; exact h14
            have b16 : z_up wi' 45 13 (nI (S.2.1 + 1)) 45 16 = nI S.2.2.1 := by rw [z_up_nei (by decide)]; exact h16
            have b8 : z_up wi' 45 13 (nI (S.2.1 + 1)) 45 8 = nI 0 := by rw [z_up_nei (by decide)]; exact h8
            have b52 : RW (z_up wi' 45 13 (nI (S.2.1 + 1))) 52 (27 * S.2.2.1) S.2.2.2 := fun j hj => by rw [z_up_ne (by decide)]; exact p4 j hj
            have hF2 := fsc hF hF13
            generalize z_up wi' 45 13 (nI (S.2.1 + 1)) = wi2 at *
            conv => whnf
            repeat ((first | refine ⟨zH_of _, ?_⟩ | refine ⟨trivial, ?_⟩ | refine ⟨rfl, ?_⟩ | refine ⟨fun hc => absurd hc (by decide), fun _ => ?_⟩ | refine ⟨fun _ => ?_, fun hc => absurd (by decide) hc⟩ | refine ⟨fun _ => ?_, fun hc => absurd hc (by decide)⟩ | refine ⟨fun hc => absurd (by decide) hc, fun _ => ?_⟩); conv => whnf)
            try dsimp only
            refine ⟨L, x, S.2.1 + 1, d, q, S.2.2.1, hX2, b14, fun t ht => by rw [hF2.1 46 (by decide) (by decide)]; exact ms_d (mt_S hC) t ht, hd3, by rw [hF2.2 1 (by decide) (by decide) (by decide) (by decide) (by decide)]; exact ms_q (mt_S hC), q23, b16, by omega, fun wi3 hF3 c16 hP3 => ?_⟩
            conv => whnf
            repeat ((first | refine ⟨zH_of _, ?_⟩ | refine ⟨trivial, ?_⟩ | refine ⟨rfl, ?_⟩ | refine ⟨fun hc => absurd hc (by decide), fun _ => ?_⟩ | refine ⟨fun _ => ?_, fun hc => absurd (by decide) hc⟩ | refine ⟨fun _ => ?_, fun hc => absurd hc (by decide)⟩ | refine ⟨fun hc => absurd (by decide) hc, fun _ => ?_⟩); conv => whnf)
            try dsimp only
            exact ih wi3 _ (fsc hF2 hF3) (by rw [hF3.2.1 8 (by decide) (by decide) (by decide)]; exact b8) (rp_sc (by omega) (by omega) b52 p5 hF3 c16 hP3) (by show S.2.2.1 + 1 + m = 40; omega) hR'
        · rw [scN_fail hz] at hR'
          subst hR'
          exact wrong wi' hF h8 hP hz
    rw [← hw1]
    refine ⟨L, x, 0, d, q, 0, xm_xr hX a12 a13 (hS1.1 50 (by decide) (by decide)), a14, fun t ht => by rw [hS1.1 46 (by decide) (by decide)]; exact ms_d (mt_S hC) t ht, hd3, by rw [hS1.2 1 (by decide) (by decide) (by decide) (by decide) (by decide)]; exact ms_q (mt_S hC), q23, a16, by decide, fun wi2 hF2 c16 hP2 => ?_⟩
    conv => whnf
    repeat ((first | refine ⟨zH_of _, ?_⟩ | refine ⟨trivial, ?_⟩ | refine ⟨rfl, ?_⟩ | refine ⟨fun hc => absurd hc (by decide), fun _ => ?_⟩ | refine ⟨fun _ => ?_, fun hc => absurd (by decide) hc⟩ | refine ⟨fun _ => ?_, fun hc => absurd hc (by decide)⟩ | refine ⟨fun hc => absurd (by decide) hc, fun _ => ?_⟩); conv => whnf)
    try dsimp only
    exact loop 39 wi2 _ (fsc hS1 hF2) (by rw [hF2.2.1 8 (by decide) (by decide) (by decide)]; exact a8) (rp_sc (by omega) (by decide) (fun j hj => absurd hj (by omega)) (fun k hk => absurd hk (by omega)) hF2 c16 hP2) rfl hR

