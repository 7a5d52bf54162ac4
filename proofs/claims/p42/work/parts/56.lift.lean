/-! the equations' columns, right sides; whether a scheme lifts -/
def sd (d : Nat → Nat) (t : Nat) : Nat := if t = 0 then pl d 1 * pl d 2 else if t = 1 then pl d 2 else 1
def eqN (d : Nat → Nat) : Nat := pl d 0 * pl d 1 * pl d 2
def SD (wi : Nat → Nat → Int32) (d : Nat → Nat) : Prop := ∀ t, t < 3 → wi 44 t = nI (sd d t)
theorem eq_le {d : Nat → Nat} (h : ∀ t, t < 3 → 1 ≤ d t ∧ d t ≤ 3) : eqN d ≤ 729 := by
  have p0 := pl_le h (t := 0) (by decide)
  have p1 := pl_le h (t := 1) (by decide)
  have p2 := pl_le h (t := 2) (by decide)
  exact Nat.mul_le_mul (Nat.mul_le_mul p0.2 p1.2) p2.2
theorem eq_idx {d : Nat → Nat} (h : ∀ t, t < 3 → 1 ≤ d t ∧ d t ≤ 3) {x y z : Nat} (hx : x < pl d 0) (hy : y < pl d 1) (hz : z < pl d 2) : x * sd d 0 + y * sd d 1 + z * sd d 2 < 729 := by
  have p0 := pl_le h (t := 0) (by decide)
  have p1 := pl_le h (t := 1) (by decide)
  have p2 := pl_le h (t := 2) (by decide)
  have h1 : x * (pl d 1 * pl d 2) ≤ 8 * (9 * 9) := Nat.mul_le_mul (by omega) (Nat.mul_le_mul p1.2 p2.2)
  have h2 : y * pl d 2 ≤ 8 * 9 := Nat.mul_le_mul (by omega) p2.2
  show x * (pl d 1 * pl d 2) + y * pl d 2 + z * 1 < 729
  omega
theorem lv_mI (n : Nat) : (n : Int) = n := rfl
def LS0 : zLs := (fun _ => false, fun _ _ => false, 0)
def sp_X5_start : zSp := fun av w K => match av with
  | [.ref o, .ref o2] => o = 38 ∧ o2 = 6 ∧ zG w.1 ∧ ∃ d q c A, CS w.2.1 6 d q c A ∧ ∀ wi' : Nat → Nat → Int32, (∀ y, y ≠ 38 → y ≠ 41 → y ≠ 44 → wi' y = w.2.1 y) → LSt wi' w.2.2 (eqN d) LS0 → SD wi' d → K none (w.1, wi', w.2.2)
  | _ => False
def rm_X5_start : Room := { frames := 3, cells := 0, slots := 0, locals := 63 }
def M_X5_start : zM := (k_X5_start, f_X5, [(40, 4, 5, 2, 0, 0, sp_X6_places), (64, 4, 2, 3, 0, 0, sp_X3_put), (68, 4, 2, 1, 0, 0, sp_X3_clear)], ([], [], []), [], [], 0, false, (false, 0, fun _ => 0), (0, 0, []))
theorem ca_X5_start_0 (l : Launch) : z_cok l RX5 (headSpec (.code yX5_start cX5_start 2 none :: zTT) rm_X5_start).room (false, 0, fun _ => 0) (40, 4, 5, 2, 0, 0, sp_X6_places) := z_ca4 (c_X6_places l) mb_X6_places ⟨_, rfl, rfl⟩ wt_813 wt_434 wt_435 (by decide)
theorem ca_X5_start_1 (l : Launch) : z_cok l RX5 (headSpec (.code yX5_start cX5_start 2 none :: zTT) rm_X5_start).room (false, 0, fun _ => 0) (64, 4, 2, 3, 0, 0, sp_X3_put) := z_ca4 (c_X3_put l) mb_X3_put ⟨_, rfl, rfl⟩ wt_814 wt_293 wt_294 (by decide)
theorem ca_X5_start_2 (l : Launch) : z_cok l RX5 (headSpec (.code yX5_start cX5_start 2 none :: zTT) rm_X5_start).room (false, 0, fun _ => 0) (68, 4, 2, 1, 0, 0, sp_X3_clear) := z_ca4 (c_X3_clear l) mb_X3_clear ⟨_, rfl, rfl⟩ wt_815 wt_573 wt_574 (by decide)
theorem O_X5_start (l : Launch) : z_OK l RX5 cX5_start (headSpec (.code yX5_start cX5_start 2 none :: zTT) rm_X5_start).room M_X5_start := ⟨ok_X5_start, fo_X5, List.forall_mem_cons.mpr ⟨ca_X5_start_0 l, List.forall_mem_cons.mpr ⟨ca_X5_start_1 l, List.forall_mem_cons.mpr ⟨ca_X5_start_2 l, fun _ h => absurd h List.not_mem_nil⟩⟩⟩, fun _ h => absurd h List.not_mem_nil, fun _ h => absurd h List.not_mem_nil, fun _ h => absurd h List.not_mem_nil, fun _ h => absurd h List.not_mem_nil, rfl, rfl, fun _ h => absurd h List.not_mem_nil⟩
theorem c_X5_start (l : Launch) : z_CS l yX5_start cX5_start 2 none rm_X5_start sp_X5_start := by
  refine z_meth (by decide) (Or.inl ⟨rfl, rfl⟩) (fun h => by cases h) rfl (O_X5_start l) ?_
  intro av w K h
  match av, h with
  | [.ref o, .ref o2], h =>
    obtain ⟨rfl, rfl, ⟨r, hG⟩, d, q, c, A, hS, h⟩ := h
    obtain ⟨G, wi, wl⟩ := w
    subst hG
    try dsimp only at h hS
    have e0 : rowsF wi 6 (nI 0) * rowsF wi 6 (behF (nI 0)) = nI (pl d 0) := pl_S hS (by decide)
    have e1 : rowsF wi 6 (nI 1) * rowsF wi 6 (behF (nI 1)) = nI (pl d 1) := pl_S hS (by decide)
    have e2 : rowsF wi 6 (nI 2) * rowsF wi 6 (behF (nI 2)) = nI (pl d 2) := pl_S hS (by decide)
    have r6 : ∀ (f g : Nat → Nat → Int32) t, f 6 = g 6 → rowsF f 6 t = rowsF g 6 t := fun f g t e => by
      unfold rowsF
      rw [e]
    refine ⟨Nat.le_of_ble_eq_true rfl, fun Jm hs => hs 400 0 _ _ _ _ _ ?_⟩
    conv => whnf
    repeat ((first | refine ⟨zG_of _, ?_⟩ | refine ⟨trivial, ?_⟩ | refine ⟨rfl, ?_⟩ | refine ⟨fun hc => absurd hc (by decide), fun _ => ?_⟩ | refine ⟨fun _ => ?_, fun hc => absurd (by decide) hc⟩ | refine ⟨fun _ => ?_, fun hc => absurd hc (by decide)⟩ | refine ⟨fun hc => absurd (by decide) hc, fun _ => ?_⟩); conv => whnf)
    try dsimp only
    have w1 : ∀ t, rowsF (z_up wi 38 5 (nI 0)) 6 t = rowsF wi 6 t := fun t => r6 _ _ t (z_up_ne (by decide))
    rw [w1, w1, w1, w1, w1, w1, e0, e1, e2, pk_mul, pk_mul]
    generalize hw2 : z_up (z_up wi 38 5 (nI 0)) 38 4 (nI (pl d 0 * pl d 1 * pl d 2)) = wi2
    have w2 : ∀ t, rowsF wi2 6 t = rowsF wi 6 t := fun t => r6 _ _ t (by rw [← hw2, z_up_ne (by decide), z_up_ne (by decide)])
    rw [w2, w2, w2, w2, e1, e2, pk_mul]
    have p3 : putF wi2 44 3 (nI 0) (nI (pl d 1 * pl d 2)) = z_up wi2 44 0 (nI (pl d 1 * pl d 2)) := putF_in (by decide) (by decide)
    rw [p3]
    generalize hw3 : z_up wi2 44 0 (nI (pl d 1 * pl d 2)) = wi3
    have w3 : ∀ t, rowsF wi3 6 t = rowsF wi 6 t := fun t => r6 _ _ t (by rw [← hw3, z_up_ne (by decide), ← hw2, z_up_ne (by decide), z_up_ne (by decide)])
    rw [w3, w3, e2]
    have p4 : putF wi3 44 3 (nI 1) (nI (pl d 2)) = z_up wi3 44 1 (nI (pl d 2)) := putF_in (by decide) (by decide)
    rw [p4]
    have p5 : putF (z_up wi3 44 1 (nI (pl d 2))) 44 3 (nI 2) (nI 1) = z_up (z_up wi3 44 1 (nI (pl d 2))) 44 2 (nI 1) := putF_in (by decide) (by decide)
    rw [p5]
    have cl : ∀ (f : Nat → Nat → Int32) y, y ≠ 41 → clrF f 41 729 y = f y := fun f y hy => by
      funext j
      unfold clrF
      rw [if_neg (fun z => hy z.1)]
    refine h _ (fun y g1 g2 g3 => ?_) ⟨?_, eq_le (cs_d hS), ?_, fun e he => ?_, fun p _ hp => absurd hp Bool.false_ne_true⟩ (fun t ht => ?_)
    · rw [cl _ _ g2, z_up_ne g3, z_up_ne g3, ← hw3, z_up_ne g3, ← hw2, z_up_ne g1, z_up_ne g1]
    · rw [cl _ _ (by decide), z_up_ne (by decide), z_up_ne (by decide), ← hw3, z_up_ne (by decide), ← hw2, z_up_eq]
      rfl
    · rw [cl _ _ (by decide), z_up_ne (by decide), z_up_ne (by decide), ← hw3, z_up_ne (by decide), ← hw2, z_up_nei (by decide), z_up_eq]
      rfl
    · unfold clrF
      rw [if_pos ⟨rfl, he⟩]
      rfl
    · rw [cl _ _ (by decide)]
      rcases lt3 ht with rfl | rfl | rfl
      · rw [z_up_nei (by decide), z_up_nei (by decide), ← hw3, z_up_eq]
        rfl
      · rw [z_up_nei (by decide), z_up_eq]
        rfl
      · rw [z_up_eq]
        rfl
/-- the equations in which a place's number comes in -/
def suZ (d : Nat → Nat) (A : Nat → Nat → Nat) (i t p y : Nat) (v : zV) : Nat → zV
  | 0 => v
  | z + 1 => if A (3 * i + nx (nx t)) z ≠ 0 then vset (suZ d A i t p y v z) (p * sd d t + y * sd d (nx t) + z * sd d (nx (nx t))) else suZ d A i t p y v z
def suY (d : Nat → Nat) (A : Nat → Nat → Nat) (i t p : Nat) : Nat → zV
  | 0 => fun _ => false
  | y + 1 => if A (3 * i + nx t) y ≠ 0 then suZ d A i t p y (suY d A i t p y) (pl d (nx (nx t))) else suY d A i t p y
def suV (d : Nat → Nat) (A : Nat → Nat → Nat) (i t p : Nat) : zV := suY d A i t p (pl d (nx t))
theorem sd_idx {d : Nat → Nat} (h : ∀ t, t < 3 → 1 ≤ d t ∧ d t ≤ 3) {t p y z : Nat} (ht : t < 3) (hp : p < pl d t) (hy : y < pl d (nx t)) (hz : z < pl d (nx (nx t))) : p * sd d t + y * sd d (nx t) + z * sd d (nx (nx t)) < 729 := by
  rcases lt3 ht with rfl | rfl | rfl
  · exact eq_idx h hp hy hz
  · have := eq_idx h (x := z) (y := p) (z := y) hz hp hy
    show p * sd d 1 + y * sd d 2 + z * sd d 0 < 729
    omega
  · have := eq_idx h (x := y) (y := z) (z := p) hy hz hp
    show p * sd d 2 + y * sd d 0 + z * sd d 1 < 729
    omega
def sp_X5_setUnknown : zSp := fun av w K => match av with
  | [.ref o, .ref o2, .int i, .int t, .int p] => o = 38 ∧ o2 = 6 ∧ zG w.1 ∧ ∃ d q c A i' t' p', CS w.2.1 6 d q c A ∧ SD w.2.1 d ∧ i = nI i' ∧ i' < c ∧ t = nI t' ∧ t' < 3 ∧ p = nI p' ∧ p' < pl d t' ∧ ∀ wl' : Nat → Nat → Int64, LF w.2.2 wl' → LV wl' 42 0 (suV d A i' t' p') → K none (w.1, w.2.1, wl')
  | _ => False
def rm_X5_setUnknown : Room := { frames := 3, cells := 0, slots := 0, locals := 63 }
def M_X5_setUnknown : zM := (k_X5_setUnknown, f_X5, [(75, 4, 4, 1, 0, 0, sp_X5_clearColumn), (78, 2, 0, 1, 0, 0, sp_X11_behind), (40, 4, 5, 2, 0, 0, sp_X6_places), (81, 4, 5, 3, 0, 0, sp_X6_formAt), (85, 0, 0, 2, 0, 0, sp_X2_numberAt), (90, 4, 2, 2, 0, 0, sp_X3_at), (93, 4, 4, 2, 0, 0, sp_X5_setBit)], ([], [], []), [], [(20, [true, true, true, true, true, true, true, true, false]), (49, [true, true, true, true, true, true, true, true, true]), (122, [true, true, true, true, true, true, true, true, false])], 0, false, (false, 0, fun _ => 0), (0, 0, []))
theorem ca_X5_setUnknown_0 (l : Launch) : z_cok l RX5 (headSpec (.code yX5_setUnknown cX5_setUnknown 9 none :: zTT) rm_X5_setUnknown).room (false, 0, fun _ => 0) (75, 4, 4, 1, 0, 0, sp_X5_clearColumn) := z_ca4 (c_X5_clearColumn l) mb_X5_clearColumn ⟨_, rfl, rfl⟩ wt_820 wt_822 wt_17 (by decide)
theorem ca_X5_setUnknown_1 (l : Launch) : z_cok l RX5 (headSpec (.code yX5_setUnknown cX5_setUnknown 9 none :: zTT) rm_X5_setUnknown).room (false, 0, fun _ => 0) (78, 2, 0, 1, 0, 0, sp_X11_behind) := z_ca2 (host := "FewProducts") (c_X11_behind l) mb_X11_behind (by decide +kernel) wt_386 (by decide)
theorem ca_X5_setUnknown_2 (l : Launch) : z_cok l RX5 (headSpec (.code yX5_setUnknown cX5_setUnknown 9 none :: zTT) rm_X5_setUnknown).room (false, 0, fun _ => 0) (40, 4, 5, 2, 0, 0, sp_X6_places) := z_ca4 (c_X6_places l) mb_X6_places ⟨_, rfl, rfl⟩ wt_813 wt_434 wt_435 (by decide)
theorem ca_X5_setUnknown_3 (l : Launch) : z_cok l RX5 (headSpec (.code yX5_setUnknown cX5_setUnknown 9 none :: zTT) rm_X5_setUnknown).room (false, 0, fun _ => 0) (81, 4, 5, 3, 0, 0, sp_X6_formAt) := z_ca4 (c_X6_formAt l) mb_X6_formAt ⟨_, rfl, rfl⟩ wt_825 wt_408 wt_409 (by decide)
theorem ca_X5_setUnknown_4 (l : Launch) : z_cok l RX5 (headSpec (.code yX5_setUnknown cX5_setUnknown 9 none :: zTT) rm_X5_setUnknown).room (false, 0, fun _ => 0) (85, 0, 0, 2, 0, 0, sp_X2_numberAt) := z_ca0 (c_X2_numberAt l) mb_X2_numberAt wt_826 wt_390 (by decide)
theorem ca_X5_setUnknown_5 (l : Launch) : z_cok l RX5 (headSpec (.code yX5_setUnknown cX5_setUnknown 9 none :: zTT) rm_X5_setUnknown).room (false, 0, fun _ => 0) (90, 4, 2, 2, 0, 0, sp_X3_at) := z_ca4 (c_X3_at l) mb_X3_at ⟨_, rfl, rfl⟩ wt_827 wt_366 wt_367 (by decide)
theorem ca_X5_setUnknown_6 (l : Launch) : z_cok l RX5 (headSpec (.code yX5_setUnknown cX5_setUnknown 9 none :: zTT) rm_X5_setUnknown).room (false, 0, fun _ => 0) (93, 4, 4, 2, 0, 0, sp_X5_setBit) := z_ca4 (c_X5_setBit l) mb_X5_setBit ⟨_, rfl, rfl⟩ wt_828 wt_830 wt_18 (by decide)
theorem O_X5_setUnknown (l : Launch) : z_OK l RX5 cX5_setUnknown (headSpec (.code yX5_setUnknown cX5_setUnknown 9 none :: zTT) rm_X5_setUnknown).room M_X5_setUnknown := ⟨ok_X5_setUnknown, fo_X5, List.forall_mem_cons.mpr ⟨ca_X5_setUnknown_0 l, List.forall_mem_cons.mpr ⟨ca_X5_setUnknown_1 l, List.forall_mem_cons.mpr ⟨ca_X5_setUnknown_2 l, List.forall_mem_cons.mpr ⟨ca_X5_setUnknown_3 l, List.forall_mem_cons.mpr ⟨ca_X5_setUnknown_4 l, List.forall_mem_cons.mpr ⟨ca_X5_setUnknown_5 l, List.forall_mem_cons.mpr ⟨ca_X5_setUnknown_6 l, fun _ h => absurd h List.not_mem_nil⟩⟩⟩⟩⟩⟩⟩, fun _ h => absurd h List.not_mem_nil, fun _ h => absurd h List.not_mem_nil, fun _ h => absurd h List.not_mem_nil, fun _ h => absurd h List.not_mem_nil, rfl, rfl, fun _ h => absurd h List.not_mem_nil⟩
theorem c_X5_setUnknown (l : Launch) : z_CS l yX5_setUnknown cX5_setUnknown 9 none rm_X5_setUnknown sp_X5_setUnknown := by
  refine z_meth (by decide) (Or.inl ⟨rfl, rfl⟩) (fun h => by cases h) rfl (O_X5_setUnknown l) ?_
  intro av w K h
  match av, h with
  | [.ref o, .ref o2, .int i, .int t, .int p], h =>
    obtain ⟨rfl, rfl, ⟨r, hG⟩, d, q, c, A, i', t', p', hS, hD, rfl, hi, rfl, ht, rfl, hp, h⟩ := h
    obtain ⟨G, wi, wl⟩ := w
    subst hG
    try dsimp only at h hS hD
    have h40 := cs_40 hS
    have b1 := beh_nx ht
    have b2 := beh_nx (nx_lt t')
    have n1 := nx_lt t'
    have n2 := nx_lt (nx t')
    have pu := pl_le (cs_d hS) n1
    have pv := pl_le (cs_d hS) n2
    have e1 : rowsF wi 6 (nI (nx t')) * rowsF wi 6 (behF (nI (nx t'))) = nI (pl d (nx t')) := pl_S hS n1
    have e2 : rowsF wi 6 (nI (nx (nx t'))) * rowsF wi 6 (behF (nI (nx (nx t')))) = nI (pl d (nx (nx t'))) := pl_S hS n2
    have s0 : atF (wi 44) 3 (nI t') = nI (sd d t') := by rw [atF_in ht (by decide)]; exact hD _ ht
    have s1 : atF (wi 44) 3 (nI (nx t')) = nI (sd d (nx t')) := by rw [atF_in n1 (by decide)]; exact hD _ n1
    have s2 : atF (wi 44) 3 (nI (nx (nx t'))) = nI (sd d (nx (nx t'))) := by rw [atF_in n2 (by decide)]; exact hD _ n2
    refine ⟨Nat.le_of_ble_eq_true rfl, fun Jm hs => ?_⟩
    have loop := up_ind (P := fun y => ∀ wl' : Nat → Nat → Int64, LF wl wl' → LV wl' 42 0 (suY d A i' t' p' y) → Jm 20 [some (.ref 38), some (.ref 6), some (.int (nI i')), some (.int (nI t')), some (.int (nI p')), some (.int (nI (nx t'))), some (.int (nI (nx (nx t')))), some (.int (nI y)), none] [] (GC ++ r, wi, wl') 0 0) (pl d (nx t')) (fun y hy ih => by
      intro wl' hF hV
      refine hs 400 20 _ _ _ _ _ ?_
      conv => whnf
      repeat ((first | refine ⟨zG_of _, ?_⟩ | refine ⟨trivial, ?_⟩ | refine ⟨rfl, ?_⟩ | refine ⟨fun hc => absurd hc (by decide), fun _ => ?_⟩ | refine ⟨fun _ => ?_, fun hc => absurd (by decide) hc⟩ | refine ⟨fun _ => ?_, fun hc => absurd hc (by decide)⟩ | refine ⟨fun hc => absurd (by decide) hc, fun _ => ?_⟩); conv => whnf)
      try dsimp only
      rw [e1, ltN (by omega) (by omega)]
      refine ⟨fun hc => ?_, fun hc => ?_⟩
      · obtain hyn : y = pl d (nx t') := by omega
        rw [hyn] at hV
        exact h wl' hF hV
      · have ihn := ih hc
        have en := fn_S hS hi n1 (show y < 9 by omega)
        have a3 := cs_A3 hS (3 * i' + nx t') (by omega) y (by omega)
        rw [suY] at ihn
        conv => whnf
        repeat ((first | refine ⟨zG_of _, ?_⟩ | refine ⟨trivial, ?_⟩ | refine ⟨rfl, ?_⟩ | refine ⟨fun hc => absurd hc (by decide), fun _ => ?_⟩ | refine ⟨fun _ => ?_, fun hc => absurd (by decide) hc⟩ | refine ⟨fun _ => ?_, fun hc => absurd hc (by decide)⟩ | refine ⟨fun hc => absurd (by decide) hc, fun _ => ?_⟩); conv => whnf)
        try dsimp only
        refine ⟨fun hq => ?_, fun hq => ?_⟩
        · have hq := en.symm.trans hq
          rw [eq0N (by omega)] at hq
          rw [if_neg (fun z => z hq)] at ihn
          conv => whnf
          repeat ((first | refine ⟨zG_of _, ?_⟩ | refine ⟨trivial, ?_⟩ | refine ⟨rfl, ?_⟩ | refine ⟨fun hc => absurd hc (by decide), fun _ => ?_⟩ | refine ⟨fun _ => ?_, fun hc => absurd (by decide) hc⟩ | refine ⟨fun _ => ?_, fun hc => absurd hc (by decide)⟩ | refine ⟨fun hc => absurd (by decide) hc, fun _ => ?_⟩); conv => whnf)
          try dsimp only
          refine hs 400 122 _ _ _ _ _ ?_
          conv => whnf
          repeat ((first | refine ⟨zG_of _, ?_⟩ | refine ⟨trivial, ?_⟩ | refine ⟨rfl, ?_⟩ | refine ⟨fun hc => absurd hc (by decide), fun _ => ?_⟩ | refine ⟨fun _ => ?_, fun hc => absurd (by decide) hc⟩ | refine ⟨fun _ => ?_, fun hc => absurd hc (by decide)⟩ | refine ⟨fun hc => absurd (by decide) hc, fun _ => ?_⟩); conv => whnf)
          try dsimp only
          rw [nI_add]
          exact ihn wl' hF hV
        · have hq := fun z => hq (en.trans z)
          rw [eq0N (by omega)] at hq
          rw [if_pos hq] at ihn
          have inner := up_ind (P := fun z => ∀ wl' : Nat → Nat → Int64, LF wl wl' → LV wl' 42 0 (suZ d A i' t' p' y (suY d A i' t' p' y) z) → Jm 49 [some (.ref 38), some (.ref 6), some (.int (nI i')), some (.int (nI t')), some (.int (nI p')), some (.int (nI (nx t'))), some (.int (nI (nx (nx t')))), some (.int (nI y)), some (.int (nI z))] [] (GC ++ r, wi, wl') 0 0) (pl d (nx (nx t'))) (fun z hz ihz => by
            intro wl' hF hV
            refine hs 400 49 _ _ _ _ _ ?_
            conv => whnf
            repeat ((first | refine ⟨zG_of _, ?_⟩ | refine ⟨trivial, ?_⟩ | refine ⟨rfl, ?_⟩ | refine ⟨fun hc => absurd hc (by decide), fun _ => ?_⟩ | refine ⟨fun _ => ?_, fun hc => absurd (by decide) hc⟩ | refine ⟨fun _ => ?_, fun hc => absurd hc (by decide)⟩ | refine ⟨fun hc => absurd (by decide) hc, fun _ => ?_⟩); conv => whnf)
            try dsimp only
            rw [e2, ltN (by omega) (by omega)]
            refine ⟨fun hc2 => ?_, fun hc2 => ?_⟩
            · obtain hzn : z = pl d (nx (nx t')) := by omega
              rw [hzn] at hV
              conv => whnf
              repeat ((first | refine ⟨zG_of _, ?_⟩ | refine ⟨trivial, ?_⟩ | refine ⟨rfl, ?_⟩ | refine ⟨fun hc => absurd hc (by decide), fun _ => ?_⟩ | refine ⟨fun _ => ?_, fun hc => absurd (by decide) hc⟩ | refine ⟨fun _ => ?_, fun hc => absurd hc (by decide)⟩ | refine ⟨fun hc => absurd (by decide) hc, fun _ => ?_⟩); conv => whnf)
              try dsimp only
              refine hs 400 122 _ _ _ _ _ ?_
              conv => whnf
              repeat ((first | refine ⟨zG_of _, ?_⟩ | refine ⟨trivial, ?_⟩ | refine ⟨rfl, ?_⟩ | refine ⟨fun hc => absurd hc (by decide), fun _ => ?_⟩ | refine ⟨fun _ => ?_, fun hc => absurd (by decide) hc⟩ | refine ⟨fun _ => ?_, fun hc => absurd hc (by decide)⟩ | refine ⟨fun hc => absurd (by decide) hc, fun _ => ?_⟩); conv => whnf)
              try dsimp only
              rw [nI_add]
              exact ihn wl' hF hV
            · have ihzn := ihz hc2
              have en := fn_S hS hi n2 (show z < 9 by omega)
              have a3 := cs_A3 hS (3 * i' + nx (nx t')) (by omega) z (by omega)
              rw [suZ] at ihzn
              conv => whnf
              repeat ((first | refine ⟨zG_of _, ?_⟩ | refine ⟨trivial, ?_⟩ | refine ⟨rfl, ?_⟩ | refine ⟨fun hc => absurd hc (by decide), fun _ => ?_⟩ | refine ⟨fun _ => ?_, fun hc => absurd (by decide) hc⟩ | refine ⟨fun _ => ?_, fun hc => absurd hc (by decide)⟩ | refine ⟨fun hc => absurd (by decide) hc, fun _ => ?_⟩); conv => whnf)
              try dsimp only
              refine ⟨fun hq => ?_, fun hq => ?_⟩
              · have hq := en.symm.trans hq
                rw [eq0N (by omega)] at hq
                rw [if_neg (fun z => z hq)] at ihzn
                conv => whnf
                repeat ((first | refine ⟨zG_of _, ?_⟩ | refine ⟨trivial, ?_⟩ | refine ⟨rfl, ?_⟩ | refine ⟨fun hc => absurd hc (by decide), fun _ => ?_⟩ | refine ⟨fun _ => ?_, fun hc => absurd (by decide) hc⟩ | refine ⟨fun _ => ?_, fun hc => absurd hc (by decide)⟩ | refine ⟨fun hc => absurd (by decide) hc, fun _ => ?_⟩); conv => whnf)
                try dsimp only
                rw [nI_add]
                exact ihzn wl' hF hV
              · have hq := fun z => hq (en.trans z)
                rw [eq0N (by omega)] at hq
                rw [if_pos hq] at ihzn
                have hi := sd_idx (cs_d hS) ht hp hc hc2
                conv => whnf
                repeat ((first | refine ⟨zG_of _, ?_⟩ | refine ⟨trivial, ?_⟩ | refine ⟨rfl, ?_⟩ | refine ⟨fun hc => absurd hc (by decide), fun _ => ?_⟩ | refine ⟨fun _ => ?_, fun hc => absurd (by decide) hc⟩ | refine ⟨fun _ => ?_, fun hc => absurd hc (by decide)⟩ | refine ⟨fun hc => absurd (by decide) hc, fun _ => ?_⟩); conv => whnf)
                try dsimp only
                refine ⟨p' * sd d t' + y * sd d (nx t') + z * sd d (nx (nx t')), _, hV, ?_, by omega, fun wl1 hF1 hV1 => ?_⟩
                · rw [s0, s1, s2, pk_mul, pk_mul, pk_mul, nI_add, nI_add]
                · conv => whnf
                  repeat ((first | refine ⟨zG_of _, ?_⟩ | refine ⟨trivial, ?_⟩ | refine ⟨rfl, ?_⟩ | refine ⟨fun hc => absurd hc (by decide), fun _ => ?_⟩ | refine ⟨fun _ => ?_, fun hc => absurd (by decide) hc⟩ | refine ⟨fun _ => ?_, fun hc => absurd hc (by decide)⟩ | refine ⟨fun hc => absurd (by decide) hc, fun _ => ?_⟩); conv => whnf)
                  try dsimp only
                  rw [nI_add]
                  exact ihzn wl1 (fun y hy => by rw [hF1 y hy, hF y hy]) hV1)
          conv => whnf
          repeat ((first | refine ⟨zG_of _, ?_⟩ | refine ⟨trivial, ?_⟩ | refine ⟨rfl, ?_⟩ | refine ⟨fun hc => absurd hc (by decide), fun _ => ?_⟩ | refine ⟨fun _ => ?_, fun hc => absurd (by decide) hc⟩ | refine ⟨fun _ => ?_, fun hc => absurd hc (by decide)⟩ | refine ⟨fun hc => absurd (by decide) hc, fun _ => ?_⟩); conv => whnf)
          try dsimp only
          exact inner 0 (Nat.zero_le _) wl' hF hV)
    refine hs 400 0 _ _ _ _ _ ?_
    conv => whnf
    repeat ((first | refine ⟨zG_of _, ?_⟩ | refine ⟨trivial, ?_⟩ | refine ⟨rfl, ?_⟩ | refine ⟨fun hc => absurd hc (by decide), fun _ => ?_⟩ | refine ⟨fun _ => ?_, fun hc => absurd (by decide) hc⟩ | refine ⟨fun _ => ?_, fun hc => absurd hc (by decide)⟩ | refine ⟨fun hc => absurd (by decide) hc, fun _ => ?_⟩); conv => whnf)
    try dsimp only
    intro wl1 hF1 hV1
    conv => whnf
    repeat ((first | refine ⟨zG_of _, ?_⟩ | refine ⟨trivial, ?_⟩ | refine ⟨rfl, ?_⟩ | refine ⟨fun hc => absurd hc (by decide), fun _ => ?_⟩ | refine ⟨fun _ => ?_, fun hc => absurd (by decide) hc⟩ | refine ⟨fun _ => ?_, fun hc => absurd hc (by decide)⟩ | refine ⟨fun hc => absurd (by decide) hc, fun _ => ?_⟩); conv => whnf)
    try dsimp only
    rw [b1, b2]
    exact loop 0 (Nat.zero_le _) wl1 hF1 hV1
/-- what is missing, half of it, by equations -/
def rhB (d : Nat → Nat) (A : Nat → Nat → Nat) (c x y z : Nat) : Bool := (fb_ct (mtB A x y z) c - ndN d x y z) / 2 % 2 == 1
def srZ (d : Nat → Nat) (A : Nat → Nat → Nat) (c x y : Nat) (v : zV) : Nat → zV
  | 0 => v
  | z + 1 => if rhB d A c x y z = true then vset (srZ d A c x y v z) (x * sd d 0 + y * sd d 1 + z) else srZ d A c x y v z
def srY (d : Nat → Nat) (A : Nat → Nat → Nat) (c x : Nat) (v : zV) : Nat → zV
  | 0 => v
  | y + 1 => srZ d A c x y (srY d A c x v y) (pl d 2)
def srX (d : Nat → Nat) (A : Nat → Nat → Nat) (c : Nat) : Nat → zV
  | 0 => fun _ => false
  | x + 1 => srY d A c x (srX d A c x) (pl d 1)
theorem half_N : ∀ n, n < 2 → ∀ m, m < 41 → n ≤ m → (m - n) % 2 = 0 → ((z_sar (nI n - nI m) (nI 1) &&& nI 1) = nI 0 ↔ ¬ (m - n) / 2 % 2 = 1) := by
  intro n hn m hm
  have h : ∀ m, m < 41 → ((0 ≤ m → (m - 0) % 2 = 0 → ((z_sar (nI 0 - nI m) (nI 1) &&& nI 1) = nI 0 ↔ ¬ (m - 0) / 2 % 2 = 1)) ∧ (1 ≤ m → (m - 1) % 2 = 0 → ((z_sar (nI 1 - nI m) (nI 1) &&& nI 1) = nI 0 ↔ ¬ (m - 1) / 2 % 2 = 1))) := by decide
  rcases (show n = 0 ∨ n = 1 by omega) with rfl | rfl
  · exact (h m hm).1
  · exact (h m hm).2
theorem gv_mt {A : Nat → Nat → Nat} {c x y z : Nat} (h : ∀ i, i < c → A (3 * i) x < 2 ∧ A (3 * i + 1) y < 2 ∧ A (3 * i + 2) z < 2) : gvN A c x y z = fb_ct (mtB A x y z) c := by
  unfold gvN
  rw [ct_sm]
  refine fb_sm_cong (fun i hi => ?_)
  have k := h i hi
  unfold mtB
  rcases (show A (3 * i) x = 0 ∨ A (3 * i) x = 1 by omega) with a | a <;> rcases (show A (3 * i + 1) y = 0 ∨ A (3 * i + 1) y = 1 by omega) with b | b <;> rcases (show A (3 * i + 2) z = 0 ∨ A (3 * i + 2) z = 1 by omega) with e | e <;> simp [a, b, e]

