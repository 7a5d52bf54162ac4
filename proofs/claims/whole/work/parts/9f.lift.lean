/-! the reference: lifts -/
theorem stR_le (U : Nat) (r : Nat → zV) : ∀ n, (stR U r n).1 ≤ n
  | 0 => Nat.le_refl 0
  | n + 1 => by
    have ih := stR_le U r n
    rw [stR]
    unfold tkR
    split
    · exact Nat.succ_le_succ ih
    · omega
theorem rt_ck {d : Nat → Nat} {A : Nat → Nat → Nat} {c : Nat} (hd : ∀ t, t < 3 → 1 ≤ d t ∧ d t ≤ 3) : fb_ct (ckB d 2 A c) 729 = 0 ↔ rtB d 2 A c = true := by
  have p0 := (pl_le hd (t := 0) (by decide)).2
  have p1 := (pl_le hd (t := 1) (by decide)).2
  have p2 := (pl_le hd (t := 2) (by decide)).2
  rw [fb_ct_zero]
  unfold rtB
  rw [decide_eq_true_iff]
  constructor
  · intro h x hx y hy z hz
    have k := h (x * 81 + y * 9 + z) (by omega)
    rw [ck_at (by omega) (by omega), decide_eq_true hx, decide_eq_true hy, decide_eq_true hz] at k
    simpa using k
  · intro h m hm
    cases e : ckB d 2 A c m with
    | false => rfl
    | true =>
      unfold ckB at e
      simp only [Bool.and_eq_true, decide_eq_true_eq, Bool.not_eq_true', beq_eq_false_iff_ne] at e
      exact absurd (h _ e.1.1.1 _ e.1.1.2 _ e.1.2) e.2
theorem rwE_ei {d : Nat → Nat} {A : Nat → Nat → Nat} {c x y z : Nat} (hy : y < pl d 1) (hz : z < pl d 2) : rwE d A c (ei d x y z) = rwV d A c x y z := by
  have k := ei_dec (x := x) hy hz
  unfold rwE
  rw [k.1, k.2.1, k.2.2]
theorem ei_z (d : Nat → Nat) (x y z : Nat) : ei d x y (z + 1) = ei d x y z + 1 := by
  show x * sd d 0 + y * sd d 1 + (z + 1) * 1 = x * sd d 0 + y * sd d 1 + z * 1 + 1
  omega
theorem ei_y (d : Nat → Nat) (x y : Nat) : ei d x y (pl d 2) = ei d x (y + 1) 0 := by
  rw [ei_e, ei_e, ← Nat.add_assoc, Nat.add_mul (x * pl d 1 + y) 1, Nat.one_mul, Nat.add_zero]
theorem ei_x (d : Nat → Nat) (x : Nat) : ei d x (pl d 1) 0 = ei d (x + 1) 0 0 := by
  rw [ei_e, ei_e, Nat.add_mul x 1, Nat.one_mul]
  simp only [Nat.add_zero]
theorem ei_n (d : Nat → Nat) : ei d (pl d 0) 0 0 = eqN d := by
  rw [ei_e]
  rfl
theorem ei_00 (d : Nat → Nat) : ei d 0 0 0 = 0 := by
  rw [ei_e]
  omega
def sp_X12_lifts : zSp := fun av w K => match av with
  | [.ref o] => o = 45 ∧ zH w.1 ∧ ∃ T, MT w.2.1 w.2.2 T ∧ ZT T ∧ ∀ wi' wl', FrM w.2.1 w.2.2 wi' wl' → MT wi' wl' (st_lifts T).1 → K (some (.int (st_lifts T).2)) (w.1, wi', wl')
  | _ => False
def rm_X12_lifts : Room := { frames := 4, cells := 0, slots := 0, locals := 95 }
def M_X12_lifts : zM := (k_X12_lifts, f_X12, [(189, 4, 10, 1, 0, 0, sp_X12_looks), (96, 4, 10, 2, 0, 0, sp_X12_placesOf), (363, 4, 10, 4, 0, 0, sp_X12_equation), (192, 4, 10, 2, 0, 0, sp_X12_tell), (351, 4, 10, 1, 0, 0, sp_X12_unknowns)], ([], [], []), [], [(39, [true, true, true, false, false]), (50, [true, true, true, true, false]), (62, [true, true, true, true, true]), (91, [true, false, true, true, true]), (93, [true, true, true, true, true])], 1, false, (false, 0, fun _ => 0), (0, 0))
theorem ca_X12_lifts_0 (l : Launch) : z_cok l RX12 (headSpec (.code yX12_lifts cX12_lifts 5 (some .int) :: zTT) rm_X12_lifts).room (189, 4, 10, 1, 0, 0, sp_X12_looks) := z_ca4 (c_X12_looks l) mb_X12_looks ⟨_, rfl, rfl⟩ wt_1357 wt_1359 wt_46 (by decide)
theorem ca_X12_lifts_1 (l : Launch) : z_cok l RX12 (headSpec (.code yX12_lifts cX12_lifts 5 (some .int) :: zTT) rm_X12_lifts).room (96, 4, 10, 2, 0, 0, sp_X12_placesOf) := z_ca4 (c_X12_placesOf l) mb_X12_placesOf ⟨_, rfl, rfl⟩ wt_1349 wt_1351 wt_45 (by decide)
theorem ca_X12_lifts_2 (l : Launch) : z_cok l RX12 (headSpec (.code yX12_lifts cX12_lifts 5 (some .int) :: zTT) rm_X12_lifts).room (363, 4, 10, 4, 0, 0, sp_X12_equation) := z_ca4 (c_X12_equation l) mb_X12_equation ⟨_, rfl, rfl⟩ wt_1648 wt_1650 wt_86 (by decide)
theorem ca_X12_lifts_3 (l : Launch) : z_cok l RX12 (headSpec (.code yX12_lifts cX12_lifts 5 (some .int) :: zTT) rm_X12_lifts).room (192, 4, 10, 2, 0, 0, sp_X12_tell) := z_ca4 (c_X12_tell l) mb_X12_tell ⟨_, rfl, rfl⟩ wt_1369 wt_1371 wt_49 (by decide)
theorem ca_X12_lifts_4 (l : Launch) : z_cok l RX12 (headSpec (.code yX12_lifts cX12_lifts 5 (some .int) :: zTT) rm_X12_lifts).room (351, 4, 10, 1, 0, 0, sp_X12_unknowns) := z_ca4 (c_X12_unknowns l) mb_X12_unknowns ⟨_, rfl, rfl⟩ wt_1652 wt_1654 wt_87 (by decide)
theorem O_X12_lifts (l : Launch) : z_OK l RX12 cX12_lifts (headSpec (.code yX12_lifts cX12_lifts 5 (some .int) :: zTT) rm_X12_lifts).room M_X12_lifts := ⟨ok_X12_lifts, fo_X12, List.forall_mem_cons.mpr ⟨ca_X12_lifts_0 l, List.forall_mem_cons.mpr ⟨ca_X12_lifts_1 l, List.forall_mem_cons.mpr ⟨ca_X12_lifts_2 l, List.forall_mem_cons.mpr ⟨ca_X12_lifts_3 l, List.forall_mem_cons.mpr ⟨ca_X12_lifts_4 l, fun _ h => absurd h List.not_mem_nil⟩⟩⟩⟩⟩, fun _ h => absurd h List.not_mem_nil, fun _ h => absurd h List.not_mem_nil, fun _ h => absurd h List.not_mem_nil, fun _ h => absurd h List.not_mem_nil, rfl, rfl⟩
theorem c_X12_lifts (l : Launch) : z_CS l yX12_lifts cX12_lifts 5 (some .int) rm_X12_lifts sp_X12_lifts := by
  refine z_meth (by decide) (Or.inr (Or.inl ⟨rfl, rfl⟩)) (fun h => by cases h) rfl (O_X12_lifts l) ?_
  intro av w K h
  match av, h with
  | [.ref o], h =>
    obtain ⟨rfl, ⟨r, hG⟩, ⟨d, q, c, A, kp, tx, tl⟩, hC, hZ, h⟩ := h
    obtain ⟨G, wi, wl⟩ := w
    subst hG
    try dsimp only at h hC hZ
    have hC := mt_fld (i := 11) (v := nI 0) hC (by decide)
    have hF0 : FrM wi wl (z_up wi 45 11 (nI 0)) wl := fm_fld
    refine ⟨Nat.le_of_ble_eq_true rfl, fun Jm hs => ?_⟩
    unfold st_lifts wTl at h
    dsimp only at h
    have q23 := ms_q23 (mt_S hC)
    refine hs 400 0 _ _ _ _ _ ?_
    conv => whnf
    repeat ((first | refine ⟨zH_of _, ?_⟩ | refine ⟨trivial, ?_⟩ | refine ⟨rfl, ?_⟩ | refine ⟨fun hc => absurd hc (by decide), fun _ => ?_⟩ | refine ⟨fun _ => ?_, fun hc => absurd (by decide) hc⟩ | refine ⟨fun _ => ?_, fun hc => absurd hc (by decide)⟩ | refine ⟨fun hc => absurd (by decide) hc, fun _ => ?_⟩); conv => whnf)
    try dsimp only
    generalize z_up wi 45 11 (nI 0) = wi0 at *
    have hS := mt_S hC
    have h40 := ms_40 hS
    have hd := ms_hd hS
    rw [ms_q hS, nI_eq (by omega) (by decide)]
    refine ⟨fun hq => ?_, fun hq => ?_⟩
    case refine_2 =>
      rw [if_neg hq] at h
      exact ⟨trivial, h wi0 wl hF0 hC⟩
    rw [if_pos hq] at h
    subst hq
    have ck := rt_ck (A := A) (c := c) hd
    have cl := fb_ct_le (ckB d 2 A c) 729
    conv => whnf
    repeat ((first | refine ⟨zH_of _, ?_⟩ | refine ⟨trivial, ?_⟩ | refine ⟨rfl, ?_⟩ | refine ⟨fun hc => absurd hc (by decide), fun _ => ?_⟩ | refine ⟨fun _ => ?_, fun hc => absurd (by decide) hc⟩ | refine ⟨fun _ => ?_, fun hc => absurd hc (by decide)⟩ | refine ⟨fun hc => absurd (by decide) hc, fun _ => ?_⟩); conv => whnf)
    try dsimp only
    refine ⟨d, 2, c, A, hS, fun wi1 hL1 => ?_⟩
    have hC1 : MT wi1 wl (d, 2, c, A, kp, tx, tl) := mt_same hC (fun i hi => hL1.2.1 i (by omega) (by omega)) (fun y hy => hL1.1 y (by omega)) rfl
    have F1 : FrM wi0 wl wi1 wl := fun y hy => ⟨hL1.1 y (by omega), rfl⟩
    have hS1 := mt_S hC1
    have e17 := hL1.2.2.1
    conv => whnf
    repeat ((first | refine ⟨zH_of _, ?_⟩ | refine ⟨trivial, ?_⟩ | refine ⟨rfl, ?_⟩ | refine ⟨fun hc => absurd hc (by decide), fun _ => ?_⟩ | refine ⟨fun _ => ?_, fun hc => absurd (by decide) hc⟩ | refine ⟨fun _ => ?_, fun hc => absurd hc (by decide)⟩ | refine ⟨fun hc => absurd (by decide) hc, fun _ => ?_⟩); conv => whnf)
    try dsimp only
    rw [e17]
    refine ⟨fun hw => ?_, fun hw => ?_⟩
    case refine_2 =>
      have hn : ¬ rtB d 2 A c = true := fun z => by
        rw [ck.mpr z] at hw
        exact absurd hw (by decide)
      rw [if_neg hn] at h
      exact ⟨trivial, h wi1 wl (FrM_trans hF0 F1) hC1⟩
    have hr : rtB d 2 A c = true := ck.mp (by
      rcases Nat.eq_zero_or_pos (fb_ct (ckB d 2 A c) 729) with g | g
      · exact g
      · exact absurd (nI_lt g (by omega)) (by simpa using hw))
    rw [if_pos hr] at h
    have hrt : ∀ x y z, x < pl d 0 → y < pl d 1 → z < pl d 2 → gvN A c x y z % 2 = ndN d x y z := fun x y z hx hy hz => of_decide_eq_true hr x hx y hy z hz
    have lb := li_both hd (ms_A hS)
    have p0 := pl_le hd (t := 0) (by decide)
    have p1 := pl_le hd (t := 1) (by decide)
    have p2 := pl_le hd (t := 2) (by decide)
    have wu : wU d = pl d 0 + pl d 1 + pl d 2 := rfl
    have Ul : ukN d c ≤ 40 * 27 := Nat.mul_le_mul h40 (show pl d 0 + pl d 1 + pl d 2 ≤ 27 by omega)
    have El := eq_le hd
    rw [← lb.1, ← lb.2] at h
    clear lb
    have srl := stR_le (ukN d c) (rwE d A c)
    have ei_l := fun x y z => ei_lt (d := d) (x := x) (y := y) (z := z)
    have rwe := fun x y z => rwE_ei (d := d) (A := A) (c := c) (x := x) (y := y) (z := z)
    have stp : ∀ n, stR (ukN d c) (rwE d A c) (n + 1) = tkR (ukN d c) (stR (ukN d c) (rwE d A c) n) (rwE d A c n) := fun _ => rfl
    have okp : ∀ n, okA (ukN d c) (rwE d A c) (n + 1) = (okR (ukN d c) (stR (ukN d c) (rwE d A c) n) (rwE d A c n) && okA (ukN d c) (rwE d A c) n) := fun _ => rfl
    have st0 : stR (ukN d c) (rwE d A c) 0 = (0, fun _ => 0, fun _ _ => false) := rfl
    have ok0 : okA (ukN d c) (rwE d A c) 0 = true := rfl
    generalize stR (ukN d c) (rwE d A c) = ST at *
    generalize okA (ukN d c) (rwE d A c) = OK at *
    have loop := up_ind (P := fun x => ∀ (wi' : Nat → Nat → Int32) (wl' : Nat → Nat → Int64), (∀ y, y ≠ 45 → y ≠ 61 → wi' y = wi1 y) → (∀ i, i ≠ 32 → wi' 45 i = wi1 45 i) → (∀ y, y ≠ 60 → wl' y = wl y) → MR wi' wl' (ST (ei d x 0 0)) → Jm 39 [some (.ref 45), some (.int (bI (OK (ei d x 0 0) = true))), some (.int (nI x)), none, none] [] (GC ++ (GM ++ r), wi', wl') 0 0) (pl d 0) (fun x hx ihx => by
      intro wi' wl' hF hI hL hM
      have S2 : MS wi' d 2 c A := ms_fr hS1 (hF 46 (by decide) (by decide)) (hI 1 (by decide)) (hI 2 (by decide)) (hF 47 (by decide) (by decide))
      refine hs 400 39 _ _ _ _ _ ?_
      conv => whnf
      repeat ((first | refine ⟨zH_of _, ?_⟩ | refine ⟨trivial, ?_⟩ | refine ⟨rfl, ?_⟩ | refine ⟨fun hc => absurd hc (by decide), fun _ => ?_⟩ | refine ⟨fun _ => ?_, fun hc => absurd (by decide) hc⟩ | refine ⟨fun _ => ?_, fun hc => absurd hc (by decide)⟩ | refine ⟨fun hc => absurd (by decide) hc, fun _ => ?_⟩); conv => whnf)
      try dsimp only
      refine ⟨0, rfl, by decide, ?_⟩
      rw [mpl S2 (by decide)]
      conv => whnf
      repeat ((first | refine ⟨zH_of _, ?_⟩ | refine ⟨trivial, ?_⟩ | refine ⟨rfl, ?_⟩ | refine ⟨fun hc => absurd hc (by decide), fun _ => ?_⟩ | refine ⟨fun _ => ?_, fun hc => absurd (by decide) hc⟩ | refine ⟨fun _ => ?_, fun hc => absurd hc (by decide)⟩ | refine ⟨fun hc => absurd (by decide) hc, fun _ => ?_⟩); conv => whnf)
      try dsimp only
      rw [ltN (by omega) (by omega)]
      refine ⟨fun hc => ?_, fun hc => ?_⟩
      · obtain hxn : x = pl d 0 := by omega
        rw [hxn, ei_n] at hM ⊢
        have hX : MT wi' wl' (d, 2, c, A, kp, tx, tl) := mt_same hC1 (fun i hi => hI i (by omega)) (fun y hy => hF y (by omega) (by omega)) (hL 51 (by decide))
        have T2 : TF wi' wl' (z_up wi' 45 10 (nI 0)) wl' := tf_fld (by decide)
        have M2 : TM (z_up wi' 45 10 (nI 0)) wl' 0 (fun _ => 0) := tm_0
        have e32 : z_up wi' 45 10 (nI 0) 45 32 = nI (ST (eqN d)).1 := by rw [z_up_nei (by decide)]; exact hM.1
        have sl := srl (eqN d)
        conv => whnf
        repeat ((first | refine ⟨zH_of _, ?_⟩ | refine ⟨trivial, ?_⟩ | refine ⟨rfl, ?_⟩ | refine ⟨fun hc => absurd hc (by decide), fun _ => ?_⟩ | refine ⟨fun _ => ?_, fun hc => absurd (by decide) hc⟩ | refine ⟨fun _ => ?_, fun hc => absurd hc (by decide)⟩ | refine ⟨fun hc => absurd (by decide) hc, fun _ => ?_⟩); conv => whnf)
        try dsimp only
        generalize z_up wi' 45 10 (nI 0) = wi2 at *
        rw [e32, nI_l (by omega)]
        refine ⟨0, _, M2, by decide, fun wi3 wl3 a1 a2 a3 M3 => ?_⟩
        have T3 := tf_trans T2 (tf_tell a1 a2 a3)
        conv => whnf
        repeat ((first | refine ⟨zH_of _, ?_⟩ | refine ⟨trivial, ?_⟩ | refine ⟨rfl, ?_⟩ | refine ⟨fun hc => absurd hc (by decide), fun _ => ?_⟩ | refine ⟨fun _ => ?_, fun hc => absurd (by decide) hc⟩ | refine ⟨fun _ => ?_, fun hc => absurd hc (by decide)⟩ | refine ⟨fun hc => absurd (by decide) hc, fun _ => ?_⟩); conv => whnf)
        try dsimp only
        refine ⟨d, 2, c, A, tf_ms T3 S2, ?_⟩
        conv => whnf
        repeat ((first | refine ⟨zH_of _, ?_⟩ | refine ⟨trivial, ?_⟩ | refine ⟨rfl, ?_⟩ | refine ⟨fun hc => absurd hc (by decide), fun _ => ?_⟩ | refine ⟨fun _ => ?_, fun hc => absurd (by decide) hc⟩ | refine ⟨fun _ => ?_, fun hc => absurd hc (by decide)⟩ | refine ⟨fun hc => absurd (by decide) hc, fun _ => ?_⟩); conv => whnf)
        try dsimp only
        rw [nI_l (by omega)]
        refine ⟨1, _, M3, by decide, fun wi4 wl4 a1 a2 a3 M4 => ?_⟩
        have T4 := tf_trans T3 (tf_tell a1 a2 a3)
        have h := h wi4 wl4 (FrM_trans hF0 (FrM_trans F1 (FrM_trans (fun y hy => ⟨hF y (by omega) (by omega), hL y (by omega)⟩) (tf_fr T4)))) (tf_mt T4 hX M4)
        conv => whnf
        repeat ((first | refine ⟨zH_of _, ?_⟩ | refine ⟨trivial, ?_⟩ | refine ⟨rfl, ?_⟩ | refine ⟨fun hc => absurd hc (by decide), fun _ => ?_⟩ | refine ⟨fun _ => ?_, fun hc => absurd (by decide) hc⟩ | refine ⟨fun _ => ?_, fun hc => absurd hc (by decide)⟩ | refine ⟨fun hc => absurd (by decide) hc, fun _ => ?_⟩); conv => whnf)
        try dsimp only
        rw [bI_0]
        refine ⟨fun hz => ?_, fun hz => ?_⟩
        · rw [bI_f hz] at h
          conv => whnf
          repeat ((first | refine ⟨zH_of _, ?_⟩ | refine ⟨trivial, ?_⟩ | refine ⟨rfl, ?_⟩ | refine ⟨fun hc => absurd hc (by decide), fun _ => ?_⟩ | refine ⟨fun _ => ?_, fun hc => absurd (by decide) hc⟩ | refine ⟨fun _ => ?_, fun hc => absurd hc (by decide)⟩ | refine ⟨fun hc => absurd (by decide) hc, fun _ => ?_⟩); conv => whnf)
          try dsimp only
          exact h
        · rw [bI_t (Classical.not_not.mp hz)] at h
          conv => whnf
          repeat ((first | refine ⟨zH_of _, ?_⟩ | refine ⟨trivial, ?_⟩ | refine ⟨rfl, ?_⟩ | refine ⟨fun hc => absurd hc (by decide), fun _ => ?_⟩ | refine ⟨fun _ => ?_, fun hc => absurd (by decide) hc⟩ | refine ⟨fun _ => ?_, fun hc => absurd hc (by decide)⟩ | refine ⟨fun hc => absurd (by decide) hc, fun _ => ?_⟩); conv => whnf)
          try dsimp only
          exact h
      · have ihx := ihx hc
        have loopy := up_ind (P := fun y => ∀ (wi' : Nat → Nat → Int32) (wl' : Nat → Nat → Int64), (∀ y, y ≠ 45 → y ≠ 61 → wi' y = wi1 y) → (∀ i, i ≠ 32 → wi' 45 i = wi1 45 i) → (∀ y, y ≠ 60 → wl' y = wl y) → MR wi' wl' (ST (ei d x y 0)) → Jm 50 [some (.ref 45), some (.int (bI (OK (ei d x y 0) = true))), some (.int (nI x)), some (.int (nI y)), none] [] (GC ++ (GM ++ r), wi', wl') 0 0) (pl d 1) (fun y hy ihy => by
          intro wi' wl' hF hI hL hM
          have S2 : MS wi' d 2 c A := ms_fr hS1 (hF 46 (by decide) (by decide)) (hI 1 (by decide)) (hI 2 (by decide)) (hF 47 (by decide) (by decide))
          refine hs 400 50 _ _ _ _ _ ?_
          conv => whnf
          repeat ((first | refine ⟨zH_of _, ?_⟩ | refine ⟨trivial, ?_⟩ | refine ⟨rfl, ?_⟩ | refine ⟨fun hc => absurd hc (by decide), fun _ => ?_⟩ | refine ⟨fun _ => ?_, fun hc => absurd (by decide) hc⟩ | refine ⟨fun _ => ?_, fun hc => absurd hc (by decide)⟩ | refine ⟨fun hc => absurd (by decide) hc, fun _ => ?_⟩); conv => whnf)
          try dsimp only
          refine ⟨1, rfl, by decide, ?_⟩
          rw [mpl S2 (by decide)]
          conv => whnf
          repeat ((first | refine ⟨zH_of _, ?_⟩ | refine ⟨trivial, ?_⟩ | refine ⟨rfl, ?_⟩ | refine ⟨fun hc => absurd hc (by decide), fun _ => ?_⟩ | refine ⟨fun _ => ?_, fun hc => absurd (by decide) hc⟩ | refine ⟨fun _ => ?_, fun hc => absurd hc (by decide)⟩ | refine ⟨fun hc => absurd (by decide) hc, fun _ => ?_⟩); conv => whnf)
          try dsimp only
          rw [ltN (by omega) (by omega)]
          refine ⟨fun hc2 => ?_, fun hc2 => ?_⟩
          · obtain hyn : y = pl d 1 := by omega
            rw [hyn, ei_x] at hM ⊢
            conv => whnf
            repeat ((first | refine ⟨zH_of _, ?_⟩ | refine ⟨trivial, ?_⟩ | refine ⟨rfl, ?_⟩ | refine ⟨fun hc => absurd hc (by decide), fun _ => ?_⟩ | refine ⟨fun _ => ?_, fun hc => absurd (by decide) hc⟩ | refine ⟨fun _ => ?_, fun hc => absurd hc (by decide)⟩ | refine ⟨fun hc => absurd (by decide) hc, fun _ => ?_⟩); conv => whnf)
            try dsimp only
            rw [nI_add]
            exact ihx wi' wl' hF hI hL hM
          · have ihy := ihy hc2
            have loopz := up_ind (P := fun z => ∀ (wi' : Nat → Nat → Int32) (wl' : Nat → Nat → Int64), (∀ y, y ≠ 45 → y ≠ 61 → wi' y = wi1 y) → (∀ i, i ≠ 32 → wi' 45 i = wi1 45 i) → (∀ y, y ≠ 60 → wl' y = wl y) → MR wi' wl' (ST (ei d x y z)) → Jm 62 [some (.ref 45), some (.int (bI (OK (ei d x y z) = true))), some (.int (nI x)), some (.int (nI y)), some (.int (nI z))] [] (GC ++ (GM ++ r), wi', wl') 0 0) (pl d 2) (fun z hz ihz => by
              intro wi' wl' hF hI hL hM
              have S2 : MS wi' d 2 c A := ms_fr hS1 (hF 46 (by decide) (by decide)) (hI 1 (by decide)) (hI 2 (by decide)) (hF 47 (by decide) (by decide))
              refine hs 400 62 _ _ _ _ _ ?_
              conv => whnf
              repeat ((first | refine ⟨zH_of _, ?_⟩ | refine ⟨trivial, ?_⟩ | refine ⟨rfl, ?_⟩ | refine ⟨fun hc => absurd hc (by decide), fun _ => ?_⟩ | refine ⟨fun _ => ?_, fun hc => absurd (by decide) hc⟩ | refine ⟨fun _ => ?_, fun hc => absurd hc (by decide)⟩ | refine ⟨fun hc => absurd (by decide) hc, fun _ => ?_⟩); conv => whnf)
              try dsimp only
              refine ⟨2, rfl, by decide, ?_⟩
              rw [mpl S2 (by decide)]
              conv => whnf
              repeat ((first | refine ⟨zH_of _, ?_⟩ | refine ⟨trivial, ?_⟩ | refine ⟨rfl, ?_⟩ | refine ⟨fun hc => absurd hc (by decide), fun _ => ?_⟩ | refine ⟨fun _ => ?_, fun hc => absurd (by decide) hc⟩ | refine ⟨fun _ => ?_, fun hc => absurd hc (by decide)⟩ | refine ⟨fun hc => absurd (by decide) hc, fun _ => ?_⟩); conv => whnf)
              try dsimp only
              rw [ltN (by omega) (by omega)]
              refine ⟨fun hc3 => ?_, fun hc3 => ?_⟩
              · obtain hzn : z = pl d 2 := by omega
                rw [hzn, ei_y] at hM ⊢
                conv => whnf
                repeat ((first | refine ⟨zH_of _, ?_⟩ | refine ⟨trivial, ?_⟩ | refine ⟨rfl, ?_⟩ | refine ⟨fun hc => absurd hc (by decide), fun _ => ?_⟩ | refine ⟨fun _ => ?_, fun hc => absurd (by decide) hc⟩ | refine ⟨fun _ => ?_, fun hc => absurd hc (by decide)⟩ | refine ⟨fun hc => absurd (by decide) hc, fun _ => ?_⟩); conv => whnf)
                try dsimp only
                rw [nI_add]
                exact ihy wi' wl' hF hI hL hM
              · have ihz := ihz hc3
                rw [ei_z, stp, okp, rwe x y z hc2 hc3] at ihz
                have lt := ei_l x y z hc hc2 hc3
                have sl := srl (ei d x y z)
                conv => whnf
                repeat ((first | refine ⟨zH_of _, ?_⟩ | refine ⟨trivial, ?_⟩ | refine ⟨rfl, ?_⟩ | refine ⟨fun hc => absurd hc (by decide), fun _ => ?_⟩ | refine ⟨fun _ => ?_, fun hc => absurd (by decide) hc⟩ | refine ⟨fun _ => ?_, fun hc => absurd hc (by decide)⟩ | refine ⟨fun hc => absurd (by decide) hc, fun _ => ?_⟩); conv => whnf)
                try dsimp only
                refine ⟨d, c, A, x, y, z, ST (ei d x y z), S2, hrt x y z hc hc2 hc3, rfl, hc, rfl, hc2, rfl, hc3, hM, by omega, fun wi3 wl3 k1 k2 k3 M3 => ?_⟩
                have ihz := ihz wi3 wl3 (fun y g1 g2 => by rw [k1 y g1 g2, hF y g1 g2]) (fun i g => by rw [k2 i g, hI i g]) (fun y hy => by rw [k3 y hy, hL y hy]) M3
                generalize okR (ukN d c) (ST (ei d x y z)) (rwV d A c x y z) = b1 at *
                generalize OK (ei d x y z) = b2 at *
                have t94 : Jm 93 [some (.ref 45), some (.int (bI ((b1 && b2) = true))), some (.int (nI x)), some (.int (nI y)), some (.int (nI z))] [] (GC ++ (GM ++ r), wi3, wl3) 0 0 := by
                  refine hs 400 93 _ _ _ _ _ ?_
                  conv => whnf
                  repeat ((first | refine ⟨zH_of _, ?_⟩ | refine ⟨trivial, ?_⟩ | refine ⟨rfl, ?_⟩ | refine ⟨fun hc => absurd hc (by decide), fun _ => ?_⟩ | refine ⟨fun _ => ?_, fun hc => absurd (by decide) hc⟩ | refine ⟨fun _ => ?_, fun hc => absurd hc (by decide)⟩ | refine ⟨fun hc => absurd (by decide) hc, fun _ => ?_⟩); conv => whnf)
                  try dsimp only
                  rw [nI_add]
                  exact ihz
                have t91 : (b1 && b2) = false → Jm 91 [some (.ref 45), none, some (.int (nI x)), some (.int (nI y)), some (.int (nI z))] [] (GC ++ (GM ++ r), wi3, wl3) 0 0 := fun z => by
                  rw [z, bI_f (by decide)] at t94
                  refine hs 400 91 _ _ _ _ _ ?_
                  conv => whnf
                  repeat ((first | refine ⟨zH_of _, ?_⟩ | refine ⟨trivial, ?_⟩ | refine ⟨rfl, ?_⟩ | refine ⟨fun hc => absurd hc (by decide), fun _ => ?_⟩ | refine ⟨fun _ => ?_, fun hc => absurd (by decide) hc⟩ | refine ⟨fun _ => ?_, fun hc => absurd hc (by decide)⟩ | refine ⟨fun hc => absurd (by decide) hc, fun _ => ?_⟩); conv => whnf)
                  try dsimp only
                  exact t94
                conv => whnf
                repeat ((first | refine ⟨zH_of _, ?_⟩ | refine ⟨trivial, ?_⟩ | refine ⟨rfl, ?_⟩ | refine ⟨fun hc => absurd hc (by decide), fun _ => ?_⟩ | refine ⟨fun _ => ?_, fun hc => absurd (by decide) hc⟩ | refine ⟨fun _ => ?_, fun hc => absurd hc (by decide)⟩ | refine ⟨fun hc => absurd (by decide) hc, fun _ => ?_⟩); conv => whnf)
                try dsimp only
                rw [bI_0]
                refine ⟨fun h1 => ?_, fun h1 => ?_⟩
                · conv => whnf
                  repeat ((first | refine ⟨zH_of _, ?_⟩ | refine ⟨trivial, ?_⟩ | refine ⟨rfl, ?_⟩ | refine ⟨fun hc => absurd hc (by decide), fun _ => ?_⟩ | refine ⟨fun _ => ?_, fun hc => absurd (by decide) hc⟩ | refine ⟨fun _ => ?_, fun hc => absurd hc (by decide)⟩ | refine ⟨fun hc => absurd (by decide) hc, fun _ => ?_⟩); conv => whnf)
                  try dsimp only
                  exact t91 (by simp [h1])
                · conv => whnf
                  repeat ((first | refine ⟨zH_of _, ?_⟩ | refine ⟨trivial, ?_⟩ | refine ⟨rfl, ?_⟩ | refine ⟨fun hc => absurd hc (by decide), fun _ => ?_⟩ | refine ⟨fun _ => ?_, fun hc => absurd (by decide) hc⟩ | refine ⟨fun _ => ?_, fun hc => absurd hc (by decide)⟩ | refine ⟨fun hc => absurd (by decide) hc, fun _ => ?_⟩); conv => whnf)
                  try dsimp only
                  rw [bI_0]
                  refine ⟨fun h2 => ?_, fun h2 => ?_⟩
                  · conv => whnf
                    repeat ((first | refine ⟨zH_of _, ?_⟩ | refine ⟨trivial, ?_⟩ | refine ⟨rfl, ?_⟩ | refine ⟨fun hc => absurd hc (by decide), fun _ => ?_⟩ | refine ⟨fun _ => ?_, fun hc => absurd (by decide) hc⟩ | refine ⟨fun _ => ?_, fun hc => absurd hc (by decide)⟩ | refine ⟨fun hc => absurd (by decide) hc, fun _ => ?_⟩); conv => whnf)
                    try dsimp only
                    exact t91 (by simp [h2])
                  · rw [Classical.not_not.mp h1, Classical.not_not.mp h2, bI_t (by decide)] at t94
                    conv => whnf
                    repeat ((first | refine ⟨zH_of _, ?_⟩ | refine ⟨trivial, ?_⟩ | refine ⟨rfl, ?_⟩ | refine ⟨fun hc => absurd hc (by decide), fun _ => ?_⟩ | refine ⟨fun _ => ?_, fun hc => absurd (by decide) hc⟩ | refine ⟨fun _ => ?_, fun hc => absurd hc (by decide)⟩ | refine ⟨fun hc => absurd (by decide) hc, fun _ => ?_⟩); conv => whnf)
                    try dsimp only
                    exact t94)
            conv => whnf
            repeat ((first | refine ⟨zH_of _, ?_⟩ | refine ⟨trivial, ?_⟩ | refine ⟨rfl, ?_⟩ | refine ⟨fun hc => absurd hc (by decide), fun _ => ?_⟩ | refine ⟨fun _ => ?_, fun hc => absurd (by decide) hc⟩ | refine ⟨fun _ => ?_, fun hc => absurd hc (by decide)⟩ | refine ⟨fun hc => absurd (by decide) hc, fun _ => ?_⟩); conv => whnf)
            try dsimp only
            exact loopz 0 (Nat.zero_le _) wi' wl' hF hI hL hM)
        conv => whnf
        repeat ((first | refine ⟨zH_of _, ?_⟩ | refine ⟨trivial, ?_⟩ | refine ⟨rfl, ?_⟩ | refine ⟨fun hc => absurd hc (by decide), fun _ => ?_⟩ | refine ⟨fun _ => ?_, fun hc => absurd (by decide) hc⟩ | refine ⟨fun _ => ?_, fun hc => absurd hc (by decide)⟩ | refine ⟨fun hc => absurd (by decide) hc, fun _ => ?_⟩); conv => whnf)
        try dsimp only
        exact loopy 0 (Nat.zero_le _) wi' wl' hF hI hL hM)
    have l0 := loop 0 (Nat.zero_le _) (z_up wi1 45 32 (nI 0)) wl (fun y g1 _ => z_up_ne g1) (fun i g => z_up_nei g) (fun _ _ => rfl) (by
      rw [ei_00, st0]
      exact ⟨z_up_eq, Nat.zero_le _, fun k hk => absurd hk (Nat.not_lt_zero k)⟩)
    rw [ei_00, ok0, bI_t rfl] at l0
    conv => whnf
    repeat ((first | refine ⟨zH_of _, ?_⟩ | refine ⟨trivial, ?_⟩ | refine ⟨rfl, ?_⟩ | refine ⟨fun hc => absurd hc (by decide), fun _ => ?_⟩ | refine ⟨fun _ => ?_, fun hc => absurd (by decide) hc⟩ | refine ⟨fun _ => ?_, fun hc => absurd hc (by decide)⟩ | refine ⟨fun hc => absurd (by decide) hc, fun _ => ?_⟩); conv => whnf)
    try dsimp only
    exact l0

