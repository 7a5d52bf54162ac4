/-- right: numbers met and needed differ by an even number -/
theorem rt_mt {d : Nat → Nat} {A : Nat → Nat → Nat} {c x y z : Nat} (hr : rtB d 2 A c = true) (hx : x < pl d 0) (hy : y < pl d 1) (hz : z < pl d 2) (h : ∀ i, i < c → A (3 * i) x < 2 ∧ A (3 * i + 1) y < 2 ∧ A (3 * i + 2) z < 2) : ndN d x y z ≤ fb_ct (mtB A x y z) c ∧ (fb_ct (mtB A x y z) c - ndN d x y z) % 2 = 0 := by
  have e := of_decide_eq_true hr x hx y hy z hz
  rw [gv_mt h] at e
  have := ndN_le d x y z
  omega
def sp_X5_setRightSides : zSp := fun av w K => match av with
  | [.ref o, .ref o2] => o = 38 ∧ o2 = 6 ∧ zG w.1 ∧ ∃ d c A, CS w.2.1 6 d 2 c A ∧ SD w.2.1 d ∧ rtB d 2 A c = true ∧ ∀ wl' : Nat → Nat → Int64, LF w.2.2 wl' → LV wl' 42 0 (srX d A c (pl d 0)) → K none (w.1, w.2.1, wl')
  | _ => False
def rm_X5_setRightSides : Room := { frames := 4, cells := 0, slots := 0, locals := 88 }
def M_X5_setRightSides : zM := (k_X5_setRightSides, f_X5, [(75, 4, 4, 1, 0, 0, sp_X5_clearColumn), (40, 4, 5, 2, 0, 0, sp_X6_places), (96, 4, 5, 4, 0, 0, sp_X6_neededAt), (100, 4, 5, 4, 0, 0, sp_X6_meetAt), (90, 4, 2, 2, 0, 0, sp_X3_at), (93, 4, 4, 2, 0, 0, sp_X5_setBit)], ([], [], []), [], [(6, [true, true, true, false, false, false]), (17, [true, true, true, true, false, false]), (29, [true, true, true, true, true, false]), (95, [true, true, true, true, true, false])], 0, false, (false, 0, fun _ => 0), (0, 0, []))
theorem ca_X5_setRightSides_0 (l : Launch) : z_cok l RX5 (headSpec (.code yX5_setRightSides cX5_setRightSides 6 none :: zTT) rm_X5_setRightSides).room (false, 0, fun _ => 0) (75, 4, 4, 1, 0, 0, sp_X5_clearColumn) := z_ca4 (c_X5_clearColumn l) mb_X5_clearColumn ⟨_, rfl, rfl⟩ wt_820 wt_822 wt_17 (by decide)
theorem ca_X5_setRightSides_1 (l : Launch) : z_cok l RX5 (headSpec (.code yX5_setRightSides cX5_setRightSides 6 none :: zTT) rm_X5_setRightSides).room (false, 0, fun _ => 0) (40, 4, 5, 2, 0, 0, sp_X6_places) := z_ca4 (c_X6_places l) mb_X6_places ⟨_, rfl, rfl⟩ wt_813 wt_434 wt_435 (by decide)
theorem ca_X5_setRightSides_2 (l : Launch) : z_cok l RX5 (headSpec (.code yX5_setRightSides cX5_setRightSides 6 none :: zTT) rm_X5_setRightSides).room (false, 0, fun _ => 0) (96, 4, 5, 4, 0, 0, sp_X6_neededAt) := z_ca4 (c_X6_neededAt l) mb_X6_neededAt ⟨_, rfl, rfl⟩ wt_853 wt_450 wt_451 (by decide)
theorem ca_X5_setRightSides_3 (l : Launch) : z_cok l RX5 (headSpec (.code yX5_setRightSides cX5_setRightSides 6 none :: zTT) rm_X5_setRightSides).room (false, 0, fun _ => 0) (100, 4, 5, 4, 0, 0, sp_X6_meetAt) := z_ca4 (c_X6_meetAt l) mb_X6_meetAt ⟨_, rfl, rfl⟩ wt_854 wt_855 wt_856 (by decide)
theorem ca_X5_setRightSides_4 (l : Launch) : z_cok l RX5 (headSpec (.code yX5_setRightSides cX5_setRightSides 6 none :: zTT) rm_X5_setRightSides).room (false, 0, fun _ => 0) (90, 4, 2, 2, 0, 0, sp_X3_at) := z_ca4 (c_X3_at l) mb_X3_at ⟨_, rfl, rfl⟩ wt_827 wt_366 wt_367 (by decide)
theorem ca_X5_setRightSides_5 (l : Launch) : z_cok l RX5 (headSpec (.code yX5_setRightSides cX5_setRightSides 6 none :: zTT) rm_X5_setRightSides).room (false, 0, fun _ => 0) (93, 4, 4, 2, 0, 0, sp_X5_setBit) := z_ca4 (c_X5_setBit l) mb_X5_setBit ⟨_, rfl, rfl⟩ wt_828 wt_830 wt_18 (by decide)
theorem O_X5_setRightSides (l : Launch) : z_OK l RX5 cX5_setRightSides (headSpec (.code yX5_setRightSides cX5_setRightSides 6 none :: zTT) rm_X5_setRightSides).room M_X5_setRightSides := ⟨ok_X5_setRightSides, fo_X5, List.forall_mem_cons.mpr ⟨ca_X5_setRightSides_0 l, List.forall_mem_cons.mpr ⟨ca_X5_setRightSides_1 l, List.forall_mem_cons.mpr ⟨ca_X5_setRightSides_2 l, List.forall_mem_cons.mpr ⟨ca_X5_setRightSides_3 l, List.forall_mem_cons.mpr ⟨ca_X5_setRightSides_4 l, List.forall_mem_cons.mpr ⟨ca_X5_setRightSides_5 l, fun _ h => absurd h List.not_mem_nil⟩⟩⟩⟩⟩⟩, fun _ h => absurd h List.not_mem_nil, fun _ h => absurd h List.not_mem_nil, fun _ h => absurd h List.not_mem_nil, fun _ h => absurd h List.not_mem_nil, rfl, rfl, fun _ h => absurd h List.not_mem_nil⟩
theorem c_X5_setRightSides (l : Launch) : z_CS l yX5_setRightSides cX5_setRightSides 6 none rm_X5_setRightSides sp_X5_setRightSides := by
  refine z_meth (by decide) (Or.inl ⟨rfl, rfl⟩) (fun h => by cases h) rfl (O_X5_setRightSides l) ?_
  intro av w K h
  match av, h with
  | [.ref o, .ref o2], h =>
    obtain ⟨rfl, rfl, ⟨r, hG⟩, d, c, A, hS, hD, hr, h⟩ := h
    obtain ⟨G, wi, wl⟩ := w
    subst hG
    try dsimp only at h hS hD
    have h40 := cs_40 hS
    have p0 := pl_le (cs_d hS) (t := 0) (by decide)
    have p1 := pl_le (cs_d hS) (t := 1) (by decide)
    have p2 := pl_le (cs_d hS) (t := 2) (by decide)
    have e0 : rowsF wi 6 (nI 0) * rowsF wi 6 (behF (nI 0)) = nI (pl d 0) := pl_S hS (by decide)
    have e1 : rowsF wi 6 (nI 1) * rowsF wi 6 (behF (nI 1)) = nI (pl d 1) := pl_S hS (by decide)
    have e2 : rowsF wi 6 (nI 2) * rowsF wi 6 (behF (nI 2)) = nI (pl d 2) := pl_S hS (by decide)
    have s0 : atF (wi 44) 3 (nI 0) = nI (sd d 0) := by rw [atF_in (by decide) (by decide)]; exact hD _ (by decide)
    have s1 : atF (wi 44) 3 (nI 1) = nI (sd d 1) := by rw [atF_in (by decide) (by decide)]; exact hD _ (by decide)
    refine ⟨Nat.le_of_ble_eq_true rfl, fun Jm hs => ?_⟩
    have loopx := up_ind (P := fun x => ∀ wl' : Nat → Nat → Int64, LF wl wl' → LV wl' 42 0 (srX d A c x) → Jm 6 [some (.ref 38), some (.ref 6), some (.int (nI x)), none, none, none] [] (GC ++ r, wi, wl') 0 0) (pl d 0) (fun x hx ihx => by
      intro wl' hF hV
      refine hs 400 6 _ _ _ _ _ ?_
      conv => whnf
      repeat ((first | refine ⟨zG_of _, ?_⟩ | refine ⟨trivial, ?_⟩ | refine ⟨rfl, ?_⟩ | refine ⟨fun hc => absurd hc (by decide), fun _ => ?_⟩ | refine ⟨fun _ => ?_, fun hc => absurd (by decide) hc⟩ | refine ⟨fun _ => ?_, fun hc => absurd hc (by decide)⟩ | refine ⟨fun hc => absurd (by decide) hc, fun _ => ?_⟩); conv => whnf)
      try dsimp only
      rw [e0, ltN (by omega) (by omega)]
      refine ⟨fun hc => ?_, fun hc => ?_⟩
      · obtain hxn : x = pl d 0 := by omega
        rw [hxn] at hV
        exact h wl' hF hV
      · have ihxn := ihx hc
        rw [srX] at ihxn
        have loopy := up_ind (P := fun y => ∀ wl' : Nat → Nat → Int64, LF wl wl' → LV wl' 42 0 (srY d A c x (srX d A c x) y) → Jm 17 [some (.ref 38), some (.ref 6), some (.int (nI x)), some (.int (nI y)), none, none] [] (GC ++ r, wi, wl') 0 0) (pl d 1) (fun y hy ihy => by
          intro wl' hF hV
          refine hs 400 17 _ _ _ _ _ ?_
          conv => whnf
          repeat ((first | refine ⟨zG_of _, ?_⟩ | refine ⟨trivial, ?_⟩ | refine ⟨rfl, ?_⟩ | refine ⟨fun hc => absurd hc (by decide), fun _ => ?_⟩ | refine ⟨fun _ => ?_, fun hc => absurd (by decide) hc⟩ | refine ⟨fun _ => ?_, fun hc => absurd hc (by decide)⟩ | refine ⟨fun hc => absurd (by decide) hc, fun _ => ?_⟩); conv => whnf)
          try dsimp only
          rw [e1, ltN (by omega) (by omega)]
          refine ⟨fun hc2 => ?_, fun hc2 => ?_⟩
          · obtain hyn : y = pl d 1 := by omega
            rw [hyn] at hV
            conv => whnf
            repeat ((first | refine ⟨zG_of _, ?_⟩ | refine ⟨trivial, ?_⟩ | refine ⟨rfl, ?_⟩ | refine ⟨fun hc => absurd hc (by decide), fun _ => ?_⟩ | refine ⟨fun _ => ?_, fun hc => absurd (by decide) hc⟩ | refine ⟨fun _ => ?_, fun hc => absurd hc (by decide)⟩ | refine ⟨fun hc => absurd (by decide) hc, fun _ => ?_⟩); conv => whnf)
            try dsimp only
            rw [nI_add]
            exact ihxn wl' hF hV
          · have ihyn := ihy hc2
            rw [srY] at ihyn
            have loopz := up_ind (P := fun z => ∀ wl' : Nat → Nat → Int64, LF wl wl' → LV wl' 42 0 (srZ d A c x y (srY d A c x (srX d A c x) y) z) → Jm 29 [some (.ref 38), some (.ref 6), some (.int (nI x)), some (.int (nI y)), some (.int (nI z)), none] [] (GC ++ r, wi, wl') 0 0) (pl d 2) (fun z hz ihz => by
              intro wl' hF hV
              refine hs 400 29 _ _ _ _ _ ?_
              conv => whnf
              repeat ((first | refine ⟨zG_of _, ?_⟩ | refine ⟨trivial, ?_⟩ | refine ⟨rfl, ?_⟩ | refine ⟨fun hc => absurd hc (by decide), fun _ => ?_⟩ | refine ⟨fun _ => ?_, fun hc => absurd (by decide) hc⟩ | refine ⟨fun _ => ?_, fun hc => absurd hc (by decide)⟩ | refine ⟨fun hc => absurd (by decide) hc, fun _ => ?_⟩); conv => whnf)
              try dsimp only
              rw [e2, ltN (by omega) (by omega)]
              refine ⟨fun hc3 => ?_, fun hc3 => ?_⟩
              · obtain hzn : z = pl d 2 := by omega
                rw [hzn] at hV
                conv => whnf
                repeat ((first | refine ⟨zG_of _, ?_⟩ | refine ⟨trivial, ?_⟩ | refine ⟨rfl, ?_⟩ | refine ⟨fun hc => absurd hc (by decide), fun _ => ?_⟩ | refine ⟨fun _ => ?_, fun hc => absurd (by decide) hc⟩ | refine ⟨fun _ => ?_, fun hc => absurd hc (by decide)⟩ | refine ⟨fun hc => absurd (by decide) hc, fun _ => ?_⟩); conv => whnf)
                try dsimp only
                rw [nI_add]
                exact ihyn wl' hF hV
              · have ihzn := ihz hc3
                rw [srZ] at ihzn
                have hrm := rt_mt hr hc hc2 hc3 (fun i hi => ⟨cs_A hS _ (by omega) _ (by omega), cs_A hS _ (by omega) _ (by omega), cs_A hS _ (by omega) _ (by omega)⟩)
                have nl := ndN_le d x y z
                have ml := fb_ct_le (mtB A x y z) c
                have en := need_S hS (show x < 9 by omega) (show y < 9 by omega) (show z < 9 by omega)
                have hh := half_N (ndN d x y z) (by omega) (fb_ct (mtB A x y z) c) (by omega) hrm.1 hrm.2
                have ix := eq_idx (cs_d hS) hc hc2 hc3
                have s2 : z * sd d 2 = z := Nat.mul_one z
                conv => whnf
                repeat ((first | refine ⟨zG_of _, ?_⟩ | refine ⟨trivial, ?_⟩ | refine ⟨rfl, ?_⟩ | refine ⟨fun hc => absurd hc (by decide), fun _ => ?_⟩ | refine ⟨fun _ => ?_, fun hc => absurd (by decide) hc⟩ | refine ⟨fun _ => ?_, fun hc => absurd hc (by decide)⟩ | refine ⟨fun hc => absurd (by decide) hc, fun _ => ?_⟩); conv => whnf)
                try dsimp only
                rw [en]
                refine ⟨d, 2, c, A, x, y, z, hS, rfl, by omega, rfl, by omega, rfl, by omega, ?_⟩
                conv => whnf
                repeat ((first | refine ⟨zG_of _, ?_⟩ | refine ⟨trivial, ?_⟩ | refine ⟨rfl, ?_⟩ | refine ⟨fun hc => absurd hc (by decide), fun _ => ?_⟩ | refine ⟨fun _ => ?_, fun hc => absurd (by decide) hc⟩ | refine ⟨fun _ => ?_, fun hc => absurd hc (by decide)⟩ | refine ⟨fun hc => absurd (by decide) hc, fun _ => ?_⟩); conv => whnf)
                try dsimp only
                rw [hh]
                refine ⟨fun hq => ?_, fun hq => ?_⟩
                · rw [if_neg (by simpa [rhB] using hq)] at ihzn
                  conv => whnf
                  repeat ((first | refine ⟨zG_of _, ?_⟩ | refine ⟨trivial, ?_⟩ | refine ⟨rfl, ?_⟩ | refine ⟨fun hc => absurd hc (by decide), fun _ => ?_⟩ | refine ⟨fun _ => ?_, fun hc => absurd (by decide) hc⟩ | refine ⟨fun _ => ?_, fun hc => absurd hc (by decide)⟩ | refine ⟨fun hc => absurd (by decide) hc, fun _ => ?_⟩); conv => whnf)
                  try dsimp only
                  refine hs 400 95 _ _ _ _ _ ?_
                  conv => whnf
                  repeat ((first | refine ⟨zG_of _, ?_⟩ | refine ⟨trivial, ?_⟩ | refine ⟨rfl, ?_⟩ | refine ⟨fun hc => absurd hc (by decide), fun _ => ?_⟩ | refine ⟨fun _ => ?_, fun hc => absurd (by decide) hc⟩ | refine ⟨fun _ => ?_, fun hc => absurd hc (by decide)⟩ | refine ⟨fun hc => absurd (by decide) hc, fun _ => ?_⟩); conv => whnf)
                  try dsimp only
                  rw [nI_add]
                  exact ihzn wl' hF hV
                · rw [if_pos (by simpa [rhB] using hq)] at ihzn
                  conv => whnf
                  repeat ((first | refine ⟨zG_of _, ?_⟩ | refine ⟨trivial, ?_⟩ | refine ⟨rfl, ?_⟩ | refine ⟨fun hc => absurd hc (by decide), fun _ => ?_⟩ | refine ⟨fun _ => ?_, fun hc => absurd (by decide) hc⟩ | refine ⟨fun _ => ?_, fun hc => absurd hc (by decide)⟩ | refine ⟨fun hc => absurd (by decide) hc, fun _ => ?_⟩); conv => whnf)
                  try dsimp only
                  refine ⟨x * sd d 0 + y * sd d 1 + z, _, hV, ?_, by omega, fun wl1 hF1 hV1 => ?_⟩
                  · rw [s0, s1, pk_mul, pk_mul, nI_add, nI_add]
                  · conv => whnf
                    repeat ((first | refine ⟨zG_of _, ?_⟩ | refine ⟨trivial, ?_⟩ | refine ⟨rfl, ?_⟩ | refine ⟨fun hc => absurd hc (by decide), fun _ => ?_⟩ | refine ⟨fun _ => ?_, fun hc => absurd (by decide) hc⟩ | refine ⟨fun _ => ?_, fun hc => absurd hc (by decide)⟩ | refine ⟨fun hc => absurd (by decide) hc, fun _ => ?_⟩); conv => whnf)
                    try dsimp only
                    refine hs 400 95 _ _ _ _ _ ?_
                    conv => whnf
                    repeat ((first | refine ⟨zG_of _, ?_⟩ | refine ⟨trivial, ?_⟩ | refine ⟨rfl, ?_⟩ | refine ⟨fun hc => absurd hc (by decide), fun _ => ?_⟩ | refine ⟨fun _ => ?_, fun hc => absurd (by decide) hc⟩ | refine ⟨fun _ => ?_, fun hc => absurd hc (by decide)⟩ | refine ⟨fun hc => absurd (by decide) hc, fun _ => ?_⟩); conv => whnf)
                    try dsimp only
                    rw [nI_add]
                    exact ihzn wl1 (fun y hy => by rw [hF1 y hy, hF y hy]) hV1)
            conv => whnf
            repeat ((first | refine ⟨zG_of _, ?_⟩ | refine ⟨trivial, ?_⟩ | refine ⟨rfl, ?_⟩ | refine ⟨fun hc => absurd hc (by decide), fun _ => ?_⟩ | refine ⟨fun _ => ?_, fun hc => absurd (by decide) hc⟩ | refine ⟨fun _ => ?_, fun hc => absurd hc (by decide)⟩ | refine ⟨fun hc => absurd (by decide) hc, fun _ => ?_⟩); conv => whnf)
            try dsimp only
            exact loopz 0 (Nat.zero_le _) wl' hF hV)
        conv => whnf
        repeat ((first | refine ⟨zG_of _, ?_⟩ | refine ⟨trivial, ?_⟩ | refine ⟨rfl, ?_⟩ | refine ⟨fun hc => absurd hc (by decide), fun _ => ?_⟩ | refine ⟨fun _ => ?_, fun hc => absurd (by decide) hc⟩ | refine ⟨fun _ => ?_, fun hc => absurd hc (by decide)⟩ | refine ⟨fun hc => absurd (by decide) hc, fun _ => ?_⟩); conv => whnf)
        try dsimp only
        exact loopy 0 (Nat.zero_le _) wl' hF hV)
    refine hs 400 0 _ _ _ _ _ ?_
    conv => whnf
    repeat ((first | refine ⟨zG_of _, ?_⟩ | refine ⟨trivial, ?_⟩ | refine ⟨rfl, ?_⟩ | refine ⟨fun hc => absurd hc (by decide), fun _ => ?_⟩ | refine ⟨fun _ => ?_, fun hc => absurd (by decide) hc⟩ | refine ⟨fun _ => ?_, fun hc => absurd hc (by decide)⟩ | refine ⟨fun hc => absurd (by decide) hc, fun _ => ?_⟩); conv => whnf)
    try dsimp only
    intro wl1 hF1 hV1
    conv => whnf
    repeat ((first | refine ⟨zG_of _, ?_⟩ | refine ⟨trivial, ?_⟩ | refine ⟨rfl, ?_⟩ | refine ⟨fun hc => absurd hc (by decide), fun _ => ?_⟩ | refine ⟨fun _ => ?_, fun hc => absurd (by decide) hc⟩ | refine ⟨fun _ => ?_, fun hc => absurd hc (by decide)⟩ | refine ⟨fun hc => absurd (by decide) hc, fun _ => ?_⟩); conv => whnf)
    try dsimp only
    exact loopx 0 (Nat.zero_le _) wl1 hF1 hV1
/-- all columns taken, product by product, table by table, place by place -/
def liP (E : Nat) (d : Nat → Nat) (A : Nat → Nat → Nat) (i t : Nat) (S : zLs) : Nat → zLs
  | 0 => S
  | p + 1 => tkV E (liP E d A i t S p) (suV d A i t p)
def liT (E : Nat) (d : Nat → Nat) (A : Nat → Nat → Nat) (i : Nat) (S : zLs) : Nat → zLs
  | 0 => S
  | t + 1 => liP E d A i t (liT E d A i S t) (pl d t)
def liI (E : Nat) (d : Nat → Nat) (A : Nat → Nat → Nat) : Nat → zLs
  | 0 => LS0
  | i + 1 => liT E d A i (liI E d A i) 3
def liB (d : Nat → Nat) (A : Nat → Nat → Nat) (c : Nat) : Bool := !(rdV (liI (eqN d) d A c) (eqN d) 0 (srX d A c (pl d 0))).1
def LK (wi wi' : Nat → Nat → Int32) : Prop := ∀ y, y ≠ 38 → y ≠ 41 → y ≠ 44 → wi' y = wi y
def sp_X5_solve : zSp := fun av w K => match av with
  | [.ref o, .ref o2] => o = 38 ∧ o2 = 6 ∧ zG w.1 ∧ ∃ d c A, CS w.2.1 6 d 2 c A ∧ rtB d 2 A c = true ∧ ∀ (wi' : Nat → Nat → Int32) (wl' : Nat → Nat → Int64), LK w.2.1 wi' → LH w.2.2 wl' → wi' 38 5 = nI (liI (eqN d) d A c).2.2 → K (some (.int (bI (liB d A c = true)))) (w.1, wi', wl')
  | _ => False
def rm_X5_solve : Room := { frames := 5, cells := 0, slots := 0, locals := 113 }
def M_X5_solve : zM := (k_X5_solve, f_X5, [(30, 4, 4, 2, 0, 0, sp_X5_start), (40, 4, 5, 2, 0, 0, sp_X6_places), (44, 4, 4, 5, 0, 0, sp_X5_setUnknown), (48, 4, 4, 1, 0, 0, sp_X5_takeColumn), (51, 4, 4, 2, 0, 0, sp_X5_setRightSides), (54, 4, 4, 1, 0, 0, sp_X5_reduce)], ([], [], []), [], [(7, [true, true, true, false, false]), (17, [true, true, true, true, false]), (25, [true, true, true, true, true])], 2, false, (false, 0, fun _ => 0), (0, 0, []))
theorem ca_X5_solve_0 (l : Launch) : z_cok l RX5 (headSpec (.code yX5_solve cX5_solve 5 (some .boolean) :: zTT) rm_X5_solve).room (false, 0, fun _ => 0) (30, 4, 4, 2, 0, 0, sp_X5_start) := z_ca4 (c_X5_start l) mb_X5_start ⟨_, rfl, rfl⟩ wt_809 wt_811 wt_15 (by decide)
theorem ca_X5_solve_1 (l : Launch) : z_cok l RX5 (headSpec (.code yX5_solve cX5_solve 5 (some .boolean) :: zTT) rm_X5_solve).room (false, 0, fun _ => 0) (40, 4, 5, 2, 0, 0, sp_X6_places) := z_ca4 (c_X6_places l) mb_X6_places ⟨_, rfl, rfl⟩ wt_813 wt_434 wt_435 (by decide)
theorem ca_X5_solve_2 (l : Launch) : z_cok l RX5 (headSpec (.code yX5_solve cX5_solve 5 (some .boolean) :: zTT) rm_X5_solve).room (false, 0, fun _ => 0) (44, 4, 4, 5, 0, 0, sp_X5_setUnknown) := z_ca4 (c_X5_setUnknown l) mb_X5_setUnknown ⟨_, rfl, rfl⟩ wt_816 wt_818 wt_16 (by decide)
theorem ca_X5_solve_3 (l : Launch) : z_cok l RX5 (headSpec (.code yX5_solve cX5_solve 5 (some .boolean) :: zTT) rm_X5_solve).room (false, 0, fun _ => 0) (48, 4, 4, 1, 0, 0, sp_X5_takeColumn) := z_ca4 (c_X5_takeColumn l) mb_X5_takeColumn ⟨_, rfl, rfl⟩ wt_833 wt_835 wt_19 (by decide)
theorem ca_X5_solve_4 (l : Launch) : z_cok l RX5 (headSpec (.code yX5_solve cX5_solve 5 (some .boolean) :: zTT) rm_X5_solve).room (false, 0, fun _ => 0) (51, 4, 4, 2, 0, 0, sp_X5_setRightSides) := z_ca4 (c_X5_setRightSides l) mb_X5_setRightSides ⟨_, rfl, rfl⟩ wt_849 wt_851 wt_23 (by decide)
theorem ca_X5_solve_5 (l : Launch) : z_cok l RX5 (headSpec (.code yX5_solve cX5_solve 5 (some .boolean) :: zTT) rm_X5_solve).room (false, 0, fun _ => 0) (54, 4, 4, 1, 0, 0, sp_X5_reduce) := z_ca4 (c_X5_reduce l) mb_X5_reduce ⟨_, rfl, rfl⟩ wt_837 wt_839 wt_20 (by decide)
theorem O_X5_solve (l : Launch) : z_OK l RX5 cX5_solve (headSpec (.code yX5_solve cX5_solve 5 (some .boolean) :: zTT) rm_X5_solve).room M_X5_solve := ⟨ok_X5_solve, fo_X5, List.forall_mem_cons.mpr ⟨ca_X5_solve_0 l, List.forall_mem_cons.mpr ⟨ca_X5_solve_1 l, List.forall_mem_cons.mpr ⟨ca_X5_solve_2 l, List.forall_mem_cons.mpr ⟨ca_X5_solve_3 l, List.forall_mem_cons.mpr ⟨ca_X5_solve_4 l, List.forall_mem_cons.mpr ⟨ca_X5_solve_5 l, fun _ h => absurd h List.not_mem_nil⟩⟩⟩⟩⟩⟩, fun _ h => absurd h List.not_mem_nil, fun _ h => absurd h List.not_mem_nil, fun _ h => absurd h List.not_mem_nil, fun _ h => absurd h List.not_mem_nil, rfl, rfl, fun _ h => absurd h List.not_mem_nil⟩
theorem c_X5_solve (l : Launch) : z_CS l yX5_solve cX5_solve 5 (some .boolean) rm_X5_solve sp_X5_solve := by
  refine z_meth (by decide) (Or.inr (Or.inr (Or.inl ⟨rfl, rfl⟩))) (fun h => by cases h) rfl (O_X5_solve l) ?_
  intro av w K h
  match av, h with
  | [.ref o, .ref o2], h =>
    obtain ⟨rfl, rfl, ⟨r, hG⟩, d, c, A, hS, hr, h⟩ := h
    obtain ⟨G, wi, wl⟩ := w
    subst hG
    try dsimp only at h hS
    have h40 := cs_40 hS
    have hE := eq_le (cs_d hS)
    refine ⟨Nat.le_of_ble_eq_true rfl, fun Jm hs => ?_⟩
    generalize hEE : eqN d = E at h
    rw [hEE] at hE
    have loopi := up_ind (P := fun i => ∀ (wi' : Nat → Nat → Int32) (wl' : Nat → Nat → Int64), LK wi wi' → LH wl wl' → SD wi' d → LSt wi' wl' E (liI E d A i) → Jm 7 [some (.ref 38), some (.ref 6), some (.int (nI i)), none, none] [] (GC ++ r, wi', wl') 0 0) c (fun i hi ihi => by
      intro wi' wl' hK hL hD hT
      have hS' : CS wi' 6 d 2 c A := cs_fr hS (hK 6 (by decide) (by decide) (by decide)) (hK 8 (by decide) (by decide) (by decide))
      refine hs 400 7 _ _ _ _ _ ?_
      conv => whnf
      repeat ((first | refine ⟨zG_of _, ?_⟩ | refine ⟨trivial, ?_⟩ | refine ⟨rfl, ?_⟩ | refine ⟨fun hc => absurd hc (by decide), fun _ => ?_⟩ | refine ⟨fun _ => ?_, fun hc => absurd (by decide) hc⟩ | refine ⟨fun _ => ?_, fun hc => absurd hc (by decide)⟩ | refine ⟨fun hc => absurd (by decide) hc, fun _ => ?_⟩); conv => whnf)
      try dsimp only
      rw [cs_c hS', ltN (by omega) (by omega)]
      refine ⟨fun hc => ?_, fun hc => ?_⟩
      · obtain hin : i = c := by omega
        rw [hin] at hT
        have hb : liB d A c = !(rdV (liI E d A c) E 0 (srX d A c (pl d 0))).1 := by
          unfold liB
          rw [hEE]
        have sp := rdV_spec (ls_ps hT) E 0 (srX d A c (pl d 0)) (by omega) (fun k hk => absurd hk (Nat.not_lt_zero k))
        conv => whnf
        repeat ((first | refine ⟨zG_of _, ?_⟩ | refine ⟨trivial, ?_⟩ | refine ⟨rfl, ?_⟩ | refine ⟨fun hc => absurd hc (by decide), fun _ => ?_⟩ | refine ⟨fun _ => ?_, fun hc => absurd (by decide) hc⟩ | refine ⟨fun _ => ?_, fun hc => absurd hc (by decide)⟩ | refine ⟨fun hc => absurd (by decide) hc, fun _ => ?_⟩); conv => whnf)
        try dsimp only
        refine ⟨d, c, A, hS', hD, hr, fun wl1 hF1 hV1 => ?_⟩
        conv => whnf
        repeat ((first | refine ⟨zG_of _, ?_⟩ | refine ⟨trivial, ?_⟩ | refine ⟨rfl, ?_⟩ | refine ⟨fun hc => absurd hc (by decide), fun _ => ?_⟩ | refine ⟨fun _ => ?_, fun hc => absurd (by decide) hc⟩ | refine ⟨fun _ => ?_, fun hc => absurd hc (by decide)⟩ | refine ⟨fun hc => absurd (by decide) hc, fun _ => ?_⟩); conv => whnf)
        try dsimp only
        refine ⟨E, _, _, ls_wl hT hF1, hV1, fun wl2 hF2 hV2 => ?_⟩
        have h := h wi' wl2 hK (fun y g1 g2 => by rw [hF2 y g2, hF1 y g2, hL y g1 g2]) hT.2.2.1
        rw [hb] at h
        generalize rdV (liI E d A c) E 0 (srX d A c (pl d 0)) = R at *
        by_cases hR : R.1 = true
        · have sp := sp hR
          rw [hR, bI_f (by decide)] at h
          rw [if_pos hR]
          conv => whnf
          repeat ((first | refine ⟨zG_of _, ?_⟩ | refine ⟨trivial, ?_⟩ | refine ⟨rfl, ?_⟩ | refine ⟨fun hc => absurd hc (by decide), fun _ => ?_⟩ | refine ⟨fun _ => ?_, fun hc => absurd (by decide) hc⟩ | refine ⟨fun _ => ?_, fun hc => absurd hc (by decide)⟩ | refine ⟨fun hc => absurd (by decide) hc, fun _ => ?_⟩); conv => whnf)
          try dsimp only
          refine ⟨fun _ => ⟨Or.inl rfl, h⟩, fun z => absurd z (nI_nlt (Nat.zero_le _) (by omega))⟩
        · have hR2 : R.1 = false := by simpa using hR
          rw [hR2, bI_t (by decide)] at h
          rw [if_neg hR]
          conv => whnf
          repeat ((first | refine ⟨zG_of _, ?_⟩ | refine ⟨trivial, ?_⟩ | refine ⟨rfl, ?_⟩ | refine ⟨fun hc => absurd hc (by decide), fun _ => ?_⟩ | refine ⟨fun _ => ?_, fun hc => absurd (by decide) hc⟩ | refine ⟨fun _ => ?_, fun hc => absurd hc (by decide)⟩ | refine ⟨fun hc => absurd (by decide) hc, fun _ => ?_⟩); conv => whnf)
          try dsimp only
          exact ⟨Or.inr rfl, h⟩
      · have ihin := ihi hc
        rw [liI] at ihin
        have loopt := up_ind (P := fun t => ∀ (wi' : Nat → Nat → Int32) (wl' : Nat → Nat → Int64), LK wi wi' → LH wl wl' → SD wi' d → LSt wi' wl' E (liT E d A i (liI E d A i) t) → Jm 17 [some (.ref 38), some (.ref 6), some (.int (nI i)), some (.int (nI t)), none] [] (GC ++ r, wi', wl') 0 0) 3 (fun t ht iht => by
          intro wi' wl' hK hL hD hT
          refine hs 400 17 _ _ _ _ _ ?_
          conv => whnf
          repeat ((first | refine ⟨zG_of _, ?_⟩ | refine ⟨trivial, ?_⟩ | refine ⟨rfl, ?_⟩ | refine ⟨fun hc => absurd hc (by decide), fun _ => ?_⟩ | refine ⟨fun _ => ?_, fun hc => absurd (by decide) hc⟩ | refine ⟨fun _ => ?_, fun hc => absurd hc (by decide)⟩ | refine ⟨fun hc => absurd (by decide) hc, fun _ => ?_⟩); conv => whnf)
          try dsimp only
          rw [ltN (by omega) (by omega)]
          refine ⟨fun hc2 => ?_, fun hc2 => ?_⟩
          · obtain htn : t = 3 := by omega
            rw [htn] at hT
            conv => whnf
            repeat ((first | refine ⟨zG_of _, ?_⟩ | refine ⟨trivial, ?_⟩ | refine ⟨rfl, ?_⟩ | refine ⟨fun hc => absurd hc (by decide), fun _ => ?_⟩ | refine ⟨fun _ => ?_, fun hc => absurd (by decide) hc⟩ | refine ⟨fun _ => ?_, fun hc => absurd hc (by decide)⟩ | refine ⟨fun hc => absurd (by decide) hc, fun _ => ?_⟩); conv => whnf)
            try dsimp only
            rw [nI_add]
            exact ihin wi' wl' hK hL hD hT
          · have ihtn := iht hc2
            rw [liT] at ihtn
            have pt := pl_le (cs_d hS) hc2
            have loopp := up_ind (P := fun p => ∀ (wi' : Nat → Nat → Int32) (wl' : Nat → Nat → Int64), LK wi wi' → LH wl wl' → SD wi' d → LSt wi' wl' E (liP E d A i t (liT E d A i (liI E d A i) t) p) → Jm 25 [some (.ref 38), some (.ref 6), some (.int (nI i)), some (.int (nI t)), some (.int (nI p))] [] (GC ++ r, wi', wl') 0 0) (pl d t) (fun p hp ihp => by
              intro wi' wl' hK hL hD hT
              have hS' : CS wi' 6 d 2 c A := cs_fr hS (hK 6 (by decide) (by decide) (by decide)) (hK 8 (by decide) (by decide) (by decide))
              have e1 : rowsF wi' 6 (nI t) * rowsF wi' 6 (behF (nI t)) = nI (pl d t) := pl_S hS' hc2
              refine hs 400 25 _ _ _ _ _ ?_
              conv => whnf
              repeat ((first | refine ⟨zG_of _, ?_⟩ | refine ⟨trivial, ?_⟩ | refine ⟨rfl, ?_⟩ | refine ⟨fun hc => absurd hc (by decide), fun _ => ?_⟩ | refine ⟨fun _ => ?_, fun hc => absurd (by decide) hc⟩ | refine ⟨fun _ => ?_, fun hc => absurd hc (by decide)⟩ | refine ⟨fun hc => absurd (by decide) hc, fun _ => ?_⟩); conv => whnf)
              try dsimp only
              rw [e1, ltN (by omega) (by omega)]
              refine ⟨fun hc3 => ?_, fun hc3 => ?_⟩
              · obtain hpn : p = pl d t := by omega
                rw [hpn] at hT
                conv => whnf
                repeat ((first | refine ⟨zG_of _, ?_⟩ | refine ⟨trivial, ?_⟩ | refine ⟨rfl, ?_⟩ | refine ⟨fun hc => absurd hc (by decide), fun _ => ?_⟩ | refine ⟨fun _ => ?_, fun hc => absurd (by decide) hc⟩ | refine ⟨fun _ => ?_, fun hc => absurd hc (by decide)⟩ | refine ⟨fun hc => absurd (by decide) hc, fun _ => ?_⟩); conv => whnf)
                try dsimp only
                rw [nI_add]
                exact ihtn wi' wl' hK hL hD hT
              · have ihpn := ihp hc3
                rw [liP] at ihpn
                conv => whnf
                repeat ((first | refine ⟨zG_of _, ?_⟩ | refine ⟨trivial, ?_⟩ | refine ⟨rfl, ?_⟩ | refine ⟨fun hc => absurd hc (by decide), fun _ => ?_⟩ | refine ⟨fun _ => ?_, fun hc => absurd (by decide) hc⟩ | refine ⟨fun _ => ?_, fun hc => absurd hc (by decide)⟩ | refine ⟨fun hc => absurd (by decide) hc, fun _ => ?_⟩); conv => whnf)
                try dsimp only
                refine ⟨d, 2, c, A, i, t, p, hS', hD, rfl, hc, rfl, hc2, rfl, hc3, fun wl1 hF1 hV1 => ?_⟩
                conv => whnf
                repeat ((first | refine ⟨zG_of _, ?_⟩ | refine ⟨trivial, ?_⟩ | refine ⟨rfl, ?_⟩ | refine ⟨fun hc => absurd hc (by decide), fun _ => ?_⟩ | refine ⟨fun _ => ?_, fun hc => absurd (by decide) hc⟩ | refine ⟨fun _ => ?_, fun hc => absurd hc (by decide)⟩ | refine ⟨fun hc => absurd (by decide) hc, fun _ => ?_⟩); conv => whnf)
                try dsimp only
                refine ⟨E, _, _, ls_wl hT hF1, hV1, fun wi2 wl2 hG2 hH2 hT2 => ?_⟩
                conv => whnf
                repeat ((first | refine ⟨zG_of _, ?_⟩ | refine ⟨trivial, ?_⟩ | refine ⟨rfl, ?_⟩ | refine ⟨fun hc => absurd hc (by decide), fun _ => ?_⟩ | refine ⟨fun _ => ?_, fun hc => absurd (by decide) hc⟩ | refine ⟨fun _ => ?_, fun hc => absurd hc (by decide)⟩ | refine ⟨fun hc => absurd (by decide) hc, fun _ => ?_⟩); conv => whnf)
                try dsimp only
                rw [nI_add]
                refine ihpn wi2 wl2 (fun y g1 g2 g3 => by rw [hG2 y g1 g2, hK y g1 g2 g3]) (fun y g1 g2 => by rw [hH2 y g1 g2, hF1 y g2, hL y g1 g2]) (fun t ht => ?_) hT2
                rw [hG2 44 (by decide) (by decide)]
                exact hD t ht)
            conv => whnf
            repeat ((first | refine ⟨zG_of _, ?_⟩ | refine ⟨trivial, ?_⟩ | refine ⟨rfl, ?_⟩ | refine ⟨fun hc => absurd hc (by decide), fun _ => ?_⟩ | refine ⟨fun _ => ?_, fun hc => absurd (by decide) hc⟩ | refine ⟨fun _ => ?_, fun hc => absurd hc (by decide)⟩ | refine ⟨fun hc => absurd (by decide) hc, fun _ => ?_⟩); conv => whnf)
            try dsimp only
            exact loopp 0 (Nat.zero_le _) wi' wl' hK hL hD hT)
        conv => whnf
        repeat ((first | refine ⟨zG_of _, ?_⟩ | refine ⟨trivial, ?_⟩ | refine ⟨rfl, ?_⟩ | refine ⟨fun hc => absurd hc (by decide), fun _ => ?_⟩ | refine ⟨fun _ => ?_, fun hc => absurd (by decide) hc⟩ | refine ⟨fun _ => ?_, fun hc => absurd hc (by decide)⟩ | refine ⟨fun hc => absurd (by decide) hc, fun _ => ?_⟩); conv => whnf)
        try dsimp only
        exact loopt 0 (Nat.zero_le _) wi' wl' hK hL hD hT)
    refine hs 400 0 _ _ _ _ _ ?_
    conv => whnf
    repeat ((first | refine ⟨zG_of _, ?_⟩ | refine ⟨trivial, ?_⟩ | refine ⟨rfl, ?_⟩ | refine ⟨fun hc => absurd hc (by decide), fun _ => ?_⟩ | refine ⟨fun _ => ?_, fun hc => absurd (by decide) hc⟩ | refine ⟨fun _ => ?_, fun hc => absurd hc (by decide)⟩ | refine ⟨fun hc => absurd (by decide) hc, fun _ => ?_⟩); conv => whnf)
    try dsimp only
    refine ⟨d, 2, c, A, hS, fun wi1 hK1 hT1 hD1 => ?_⟩
    rw [hEE] at hT1
    conv => whnf
    repeat ((first | refine ⟨zG_of _, ?_⟩ | refine ⟨trivial, ?_⟩ | refine ⟨rfl, ?_⟩ | refine ⟨fun hc => absurd hc (by decide), fun _ => ?_⟩ | refine ⟨fun _ => ?_, fun hc => absurd (by decide) hc⟩ | refine ⟨fun _ => ?_, fun hc => absurd hc (by decide)⟩ | refine ⟨fun hc => absurd (by decide) hc, fun _ => ?_⟩); conv => whnf)
    try dsimp only
    exact loopi 0 (Nat.zero_le _) wi1 wl hK1 (fun _ _ _ => rfl) hD1 hT1
def ukN (d : Nat → Nat) (c : Nat) : Nat := c * (pl d 0 + pl d 1 + pl d 2)
def st_lifts (T : zT) : zT × Int32 :=
  if T.2.1 = 2 then
    if rtB T.1 2 T.2.2.2.1 T.2.2.1 = true then (wTl T (2, upL (upL (fun _ => 0) 0 (lN (liI (eqN T.1) T.1 T.2.2.2.1 T.2.2.1).2.2)) 1 (lN (ukN T.1 T.2.2.1))), bI (liB T.1 T.2.2.2.1 T.2.2.1 = true))
    else (T, mI 3)
  else (T, mI 2)
theorem li_rk {E : Nat} {d : Nat → Nat} {A : Nat → Nat → Nat} (hd : ∀ t, t < 3 → 1 ≤ d t ∧ d t ≤ 3) : ∀ i, (liI E d A i).2.2 ≤ i * 27 := by
  have tk : ∀ S v, (tkV E S v).2.2 ≤ S.2.2 + 1 := fun S v => by
    unfold tkV
    split
    · exact Nat.le_refl _
    · omega
  have lp : ∀ i t S p, (liP E d A i t S p).2.2 ≤ S.2.2 + p := fun i t S p => by
    induction p with
    | zero => exact Nat.le_refl _
    | succ p ih =>
      rw [liP]
      have := tk (liP E d A i t S p) (suV d A i t p)
      omega
  have lt : ∀ i S t, t ≤ 3 → (liT E d A i S t).2.2 ≤ S.2.2 + t * 9 := fun i S t => by
    induction t with
    | zero => intro _; exact Nat.le_refl _
    | succ t ih =>
      intro ht
      rw [liT]
      have h1 := ih (by omega)
      have h2 := lp i t (liT E d A i S t) (pl d t)
      have h3 := pl_le hd (t := t) (by omega)
      omega
  intro i
  induction i with
  | zero => exact Nat.le_refl _
  | succ i ih =>
    rw [liI]
    have := lt i (liI E d A i) 3 (Nat.le_refl 3)
    omega
def sp_X11_lifts : zSp := fun av w K => match av with
  | [.ref o] => o = 0 ∧ zG w.1 ∧ ∃ T, CT w.2.1 w.2.2 T ∧ ∀ wi' wl', FrC w.2.1 w.2.2 wi' wl' → CT wi' wl' (st_lifts T).1 → K (some (.int (st_lifts T).2)) (w.1, wi', wl')
  | _ => False
def rm_X11_lifts : Room := { frames := 6, cells := 0, slots := 0, locals := 137 }
def M_X11_lifts : zM := (k_X11_lifts, f_X11, [(352, 4, 5, 1, 0, 0, sp_X6_isRight), (355, 4, 4, 2, 0, 0, sp_X5_solve), (150, 4, 8, 1, 0, 0, sp_X9_clear), (167, 4, 8, 2, 0, 0, sp_X9_add), (153, 4, 5, 2, 0, 0, sp_X6_places)], ([], [], []), [], [], 1, false, (false, 0, fun _ => 0), (0, 0, []))
theorem ca_X11_lifts_0 (l : Launch) : z_cok l RX11 (headSpec (.code yX11_lifts cX11_lifts 2 (some .int) :: zTT) rm_X11_lifts).room (false, 0, fun _ => 0) (352, 4, 5, 1, 0, 0, sp_X6_isRight) := z_ca4 (c_X6_isRight l) mb_X6_isRight ⟨_, rfl, rfl⟩ wt_798 wt_799 wt_800 (by decide)
theorem ca_X11_lifts_1 (l : Launch) : z_cok l RX11 (headSpec (.code yX11_lifts cX11_lifts 2 (some .int) :: zTT) rm_X11_lifts).room (false, 0, fun _ => 0) (355, 4, 4, 2, 0, 0, sp_X5_solve) := z_ca4 (c_X5_solve l) mb_X5_solve ⟨_, rfl, rfl⟩ wt_805 wt_806 wt_807 (by decide)
theorem ca_X11_lifts_2 (l : Launch) : z_cok l RX11 (headSpec (.code yX11_lifts cX11_lifts 2 (some .int) :: zTT) rm_X11_lifts).room (false, 0, fun _ => 0) (150, 4, 8, 1, 0, 0, sp_X9_clear) := z_ca4 (c_X9_clear l) mb_X9_clear ⟨_, rfl, rfl⟩ wt_429 wt_430 wt_431 (by decide)
theorem ca_X11_lifts_3 (l : Launch) : z_cok l RX11 (headSpec (.code yX11_lifts cX11_lifts 2 (some .int) :: zTT) rm_X11_lifts).room (false, 0, fun _ => 0) (167, 4, 8, 2, 0, 0, sp_X9_add) := z_ca4 (c_X9_add l) mb_X9_add ⟨_, rfl, rfl⟩ wt_469 wt_470 wt_471 (by decide)
theorem ca_X11_lifts_4 (l : Launch) : z_cok l RX11 (headSpec (.code yX11_lifts cX11_lifts 2 (some .int) :: zTT) rm_X11_lifts).room (false, 0, fun _ => 0) (153, 4, 5, 2, 0, 0, sp_X6_places) := z_ca4 (c_X6_places l) mb_X6_places ⟨_, rfl, rfl⟩ wt_433 wt_434 wt_435 (by decide)
theorem O_X11_lifts (l : Launch) : z_OK l RX11 cX11_lifts (headSpec (.code yX11_lifts cX11_lifts 2 (some .int) :: zTT) rm_X11_lifts).room M_X11_lifts := ⟨ok_X11_lifts, fo_X11, List.forall_mem_cons.mpr ⟨ca_X11_lifts_0 l, List.forall_mem_cons.mpr ⟨ca_X11_lifts_1 l, List.forall_mem_cons.mpr ⟨ca_X11_lifts_2 l, List.forall_mem_cons.mpr ⟨ca_X11_lifts_3 l, List.forall_mem_cons.mpr ⟨ca_X11_lifts_4 l, fun _ h => absurd h List.not_mem_nil⟩⟩⟩⟩⟩, fun _ h => absurd h List.not_mem_nil, fun _ h => absurd h List.not_mem_nil, fun _ h => absurd h List.not_mem_nil, fun _ h => absurd h List.not_mem_nil, rfl, rfl, fun _ h => absurd h List.not_mem_nil⟩
theorem c_X11_lifts (l : Launch) : z_CS l yX11_lifts cX11_lifts 2 (some .int) rm_X11_lifts sp_X11_lifts := by
  refine z_meth (by decide) (Or.inr (Or.inl ⟨rfl, rfl⟩)) (fun h => by cases h) rfl (O_X11_lifts l) ?_
  intro av w K h
  match av, h with
  | [.ref o], h =>
    obtain ⟨rfl, ⟨r, hG⟩, ⟨d, q, c, A, kp, tx, tl⟩, hC, h⟩ := h
    obtain ⟨G, wi, wl⟩ := w
    subst hG
    try dsimp only at h hC
    unfold st_lifts wTl at h
    dsimp only at h
    have hS := ct_S hC
    have h40 := cs_40 hS
    have q23 := cs_q23 hS
    have p0 := pl_le (cs_d hS) (t := 0) (by decide)
    have p1 := pl_le (cs_d hS) (t := 1) (by decide)
    have p2 := pl_le (cs_d hS) (t := 2) (by decide)
    refine ⟨Nat.le_of_ble_eq_true rfl, fun Jm hs => hs 400 0 _ _ _ _ _ ?_⟩
    conv => whnf
    repeat ((first | refine ⟨zG_of _, ?_⟩ | refine ⟨trivial, ?_⟩ | refine ⟨rfl, ?_⟩ | refine ⟨fun hc => absurd hc (by decide), fun _ => ?_⟩ | refine ⟨fun _ => ?_, fun hc => absurd (by decide) hc⟩ | refine ⟨fun _ => ?_, fun hc => absurd hc (by decide)⟩ | refine ⟨fun hc => absurd (by decide) hc, fun _ => ?_⟩); conv => whnf)
    try dsimp only
    rw [cs_q hS, nI_eq (by omega) (by decide)]
    refine ⟨fun hq => ?_, fun hq => ?_⟩
    · subst hq
      rw [if_pos rfl] at h
      conv => whnf
      repeat ((first | refine ⟨zG_of _, ?_⟩ | refine ⟨trivial, ?_⟩ | refine ⟨rfl, ?_⟩ | refine ⟨fun hc => absurd hc (by decide), fun _ => ?_⟩ | refine ⟨fun _ => ?_, fun hc => absurd (by decide) hc⟩ | refine ⟨fun _ => ?_, fun hc => absurd hc (by decide)⟩ | refine ⟨fun hc => absurd (by decide) hc, fun _ => ?_⟩); conv => whnf)
      try dsimp only
      refine ⟨d, 2, c, A, hS, ?_⟩
      conv => whnf
      repeat ((first | refine ⟨zG_of _, ?_⟩ | refine ⟨trivial, ?_⟩ | refine ⟨rfl, ?_⟩ | refine ⟨fun hc => absurd hc (by decide), fun _ => ?_⟩ | refine ⟨fun _ => ?_, fun hc => absurd (by decide) hc⟩ | refine ⟨fun _ => ?_, fun hc => absurd hc (by decide)⟩ | refine ⟨fun hc => absurd (by decide) hc, fun _ => ?_⟩); conv => whnf)
      try dsimp only
      rw [bI_0, Classical.not_not]
      refine ⟨fun hr => ?_, fun hr => ?_⟩
      · rw [if_pos hr] at h
        have rk := li_rk (E := eqN d) (A := A) (cs_d hS) c
        have uk : ukN d c ≤ 40 * 27 := Nat.mul_le_mul h40 (by omega)
        conv => whnf
        repeat ((first | refine ⟨zG_of _, ?_⟩ | refine ⟨trivial, ?_⟩ | refine ⟨rfl, ?_⟩ | refine ⟨fun hc => absurd hc (by decide), fun _ => ?_⟩ | refine ⟨fun _ => ?_, fun hc => absurd (by decide) hc⟩ | refine ⟨fun _ => ?_, fun hc => absurd hc (by decide)⟩ | refine ⟨fun hc => absurd (by decide) hc, fun _ => ?_⟩); conv => whnf)
        try dsimp only
        refine ⟨d, c, A, hS, hr, fun wi1 wl1 hK1 hH1 h5 => ?_⟩
        have hX : CT wi1 wl1 (d, 2, c, A, kp, tx, tl) := ct_same hC (fun y hy => hK1 y (by omega) (by omega) (by omega)) (hH1 5 (by decide) (by decide))
        conv => whnf
        repeat ((first | refine ⟨zG_of _, ?_⟩ | refine ⟨trivial, ?_⟩ | refine ⟨rfl, ?_⟩ | refine ⟨fun hc => absurd hc (by decide), fun _ => ?_⟩ | refine ⟨fun _ => ?_, fun hc => absurd (by decide) hc⟩ | refine ⟨fun _ => ?_, fun hc => absurd hc (by decide)⟩ | refine ⟨fun hc => absurd (by decide) hc, fun _ => ?_⟩); conv => whnf)
        try dsimp only
        intro wi2 hF2 hT2
        have g5 : wi2 38 5 = nI (liI (eqN d) d A c).2.2 := by rw [hF2 38 (by decide)]; exact h5
        conv => whnf
        repeat ((first | refine ⟨zG_of _, ?_⟩ | refine ⟨trivial, ?_⟩ | refine ⟨rfl, ?_⟩ | refine ⟨fun hc => absurd hc (by decide), fun _ => ?_⟩ | refine ⟨fun _ => ?_, fun hc => absurd (by decide) hc⟩ | refine ⟨fun _ => ?_, fun hc => absurd hc (by decide)⟩ | refine ⟨fun hc => absurd (by decide) hc, fun _ => ?_⟩); conv => whnf)
        try dsimp only
        rw [g5, nI_l (by omega)]
        refine ⟨0, _, hT2, by decide, fun wi3 wl3 hF3 hL3 hT3 => ?_⟩
        have hS3 : CS wi3 6 d 2 c A := cs_fr (ct_S hX) (by rw [hF3 6 (by decide), hF2 6 (by decide)]) (by rw [hF3 8 (by decide), hF2 8 (by decide)])
        have e0 : rowsF wi3 6 (nI 0) * rowsF wi3 6 (behF (nI 0)) = nI (pl d 0) := pl_S hS3 (by decide)
        have e1 : rowsF wi3 6 (nI 1) * rowsF wi3 6 (behF (nI 1)) = nI (pl d 1) := pl_S hS3 (by decide)
        have e2 : rowsF wi3 6 (nI 2) * rowsF wi3 6 (behF (nI 2)) = nI (pl d 2) := pl_S hS3 (by decide)
        have eu : nI (c * (pl d 0 + pl d 1 + pl d 2)) = nI (ukN d c) := rfl
        conv => whnf
        repeat ((first | refine ⟨zG_of _, ?_⟩ | refine ⟨trivial, ?_⟩ | refine ⟨rfl, ?_⟩ | refine ⟨fun hc => absurd hc (by decide), fun _ => ?_⟩ | refine ⟨fun _ => ?_, fun hc => absurd (by decide) hc⟩ | refine ⟨fun _ => ?_, fun hc => absurd hc (by decide)⟩ | refine ⟨fun hc => absurd (by decide) hc, fun _ => ?_⟩); conv => whnf)
        try dsimp only
        rw [cs_c hS3, e0, e1, e2, nI_add, nI_add, pk_mul, eu, nI_l (by omega)]
        refine ⟨1, _, hT3, by decide, fun wi4 wl4 hF4 hL4 hT4 => ?_⟩
        have h := h wi4 wl4 (fun y hy => ⟨by rw [hF4 y (by omega), hF3 y (by omega), hF2 y (by omega), hK1 y (by omega) (by omega) (by omega)], by rw [hL4 y (by omega), hL3 y (by omega), hH1 y (by omega) (by omega)]⟩) (ct_told hX (fun y hy => by rw [hF4 y hy, hF3 y hy, hF2 y hy]) hT4)
        conv => whnf
        repeat ((first | refine ⟨zG_of _, ?_⟩ | refine ⟨trivial, ?_⟩ | refine ⟨rfl, ?_⟩ | refine ⟨fun hc => absurd hc (by decide), fun _ => ?_⟩ | refine ⟨fun _ => ?_, fun hc => absurd (by decide) hc⟩ | refine ⟨fun _ => ?_, fun hc => absurd hc (by decide)⟩ | refine ⟨fun hc => absurd (by decide) hc, fun _ => ?_⟩); conv => whnf)
        try dsimp only
        rw [bI_0]
        refine ⟨fun hb => ?_, fun hb => ?_⟩
        · rw [bI_f hb] at h
          exact ⟨trivial, h⟩
        · rw [bI_t (Classical.not_not.mp hb)] at h
          exact ⟨trivial, h⟩
      · rw [if_neg hr] at h
        exact ⟨trivial, h wi wl (FrC_refl _ _) hC⟩
    · rw [if_neg hq] at h
      exact ⟨trivial, h wi wl (FrC_refl _ _) hC⟩

