/-! a scheme narrowed, widened -/
def sp_X10_stretch : zSp := fun av w K => match av with
  | [.ref o, .int s, .int v] => o = 6 ∧ zG w.1 ∧ ∃ s' : Nat, s = nI s' ∧ s' < 3 ∧ K none (w.1, z_up w.2.1 6 (s' + 1) (w.2.1 6 (s' + 1) + v), w.2.2)
  | _ => False
def rm_X10_stretch : Room := { frames := 0, cells := 0, slots := 0, locals := 0 }
def M_X10_stretch : zM := (k_X10_stretch, f_X10, [], ([], [], []), [], [], 0, false, (false, 0, fun _ => 0), (0, 0, []))
theorem O_X10_stretch (l : Launch) : z_OK l RX10 cX10_stretch (headSpec (.code yX10_stretch cX10_stretch 3 none :: zTT) rm_X10_stretch).room M_X10_stretch := ⟨ok_X10_stretch, fo_X10, fun _ h => absurd h List.not_mem_nil, fun _ h => absurd h List.not_mem_nil, fun _ h => absurd h List.not_mem_nil, fun _ h => absurd h List.not_mem_nil, fun _ h => absurd h List.not_mem_nil, rfl, rfl, fun _ h => absurd h List.not_mem_nil⟩
theorem c_X10_stretch (l : Launch) : z_CS l yX10_stretch cX10_stretch 3 none rm_X10_stretch sp_X10_stretch := by
  refine z_meth (by decide) (Or.inl ⟨rfl, rfl⟩) (fun h => by cases h) rfl (O_X10_stretch l) ?_
  intro av w K h
  match av, h with
  | [.ref o, .int s, .int v], h =>
    obtain ⟨rfl, ⟨r, hG⟩, s', rfl, hs', h⟩ := h
    obtain ⟨G, wi, wl⟩ := w
    subst hG
    try dsimp only at h
    rcases lt3 hs' with rfl | rfl | rfl
    · refine ⟨Nat.le_of_ble_eq_true rfl, fun Jm hs => hs 400 0 _ _ _ _ _ ?_⟩
      conv => whnf
      repeat ((first | refine ⟨zG_of _, ?_⟩ | refine ⟨trivial, ?_⟩ | refine ⟨rfl, ?_⟩ | refine ⟨fun hc => absurd hc (by decide), fun _ => ?_⟩ | refine ⟨fun _ => ?_, fun hc => absurd (by decide) hc⟩ | refine ⟨fun _ => ?_, fun hc => absurd hc (by decide)⟩ | refine ⟨fun hc => absurd (by decide) hc, fun _ => ?_⟩); conv => whnf)
      try dsimp only
      exact h
    · refine ⟨Nat.le_of_ble_eq_true rfl, fun Jm hs => hs 400 0 _ _ _ _ _ ?_⟩
      conv => whnf
      repeat ((first | refine ⟨zG_of _, ?_⟩ | refine ⟨trivial, ?_⟩ | refine ⟨rfl, ?_⟩ | refine ⟨fun hc => absurd hc (by decide), fun _ => ?_⟩ | refine ⟨fun _ => ?_, fun hc => absurd (by decide) hc⟩ | refine ⟨fun _ => ?_, fun hc => absurd hc (by decide)⟩ | refine ⟨fun hc => absurd (by decide) hc, fun _ => ?_⟩); conv => whnf)
      try dsimp only
      exact h
    · refine ⟨Nat.le_of_ble_eq_true rfl, fun Jm hs => hs 400 0 _ _ _ _ _ ?_⟩
      conv => whnf
      repeat ((first | refine ⟨zG_of _, ?_⟩ | refine ⟨trivial, ?_⟩ | refine ⟨rfl, ?_⟩ | refine ⟨fun hc => absurd hc (by decide), fun _ => ?_⟩ | refine ⟨fun _ => ?_, fun hc => absurd (by decide) hc⟩ | refine ⟨fun _ => ?_, fun hc => absurd hc (by decide)⟩ | refine ⟨fun hc => absurd (by decide) hc, fun _ => ?_⟩); conv => whnf)
      try dsimp only
      exact h
theorem mI_add {n : Nat} (h : 1 ≤ n) : nI n + mI 1 = nI (n - 1) := by
  show nI n + -(nI 1) = _
  rw [← Int32.sub_eq_add_neg]
  exact pk_sub h
def upD (d : Nat → Nat) (s v : Nat) : Nat → Nat := fun t => if t = s then v else d t
theorem cs_side {wi : Nat → Nat → Int32} {d : Nat → Nat} {q c : Nat} {A : Nat → Nat → Nat} (h : CS wi 6 d q c A) {s v : Nat} (hs : s < 3) (h1 : 1 ≤ v) (h3 : v ≤ 3) : CS (z_up wi 6 (s + 1) (nI v)) 6 (upD d s v) q c A ∧ Fr 6 8 wi (z_up wi 6 (s + 1) (nI v)) := by
  refine ⟨⟨?_, fun k hk => ?_, cs_q23 h, fun t ht => ?_, cs_40 h, cs_A h⟩, Fr_up (Or.inl rfl)⟩
  · have g1 := cs_1 h
    have g2 := cs_2 h
    have g3 := cs_3 h
    have g4 := cs_q h
    have g5 := cs_c h
    rcases lt3 hs with rfl | rfl | rfl <;> simp [z_up, upD, g1, g2, g3, g4, g5]
  · rw [z_up_ne (by decide)]
    exact cs_f h k hk
  · unfold upD
    split
    · exact ⟨h1, h3⟩
    · exact cs_d h t ht
theorem cs_rd {wi : Nat → Nat → Int32} {o : Nat} {d : Nat → Nat} {q c : Nat} {A : Nat → Nat → Nat} (h : CS wi o d q c A) {s : Nat} (hs : s < 3) : wi o (s + 1) = nI (d s) := by
  rcases lt3 hs with rfl | rfl | rfl
  · exact cs_1 h
  · exact cs_2 h
  · exact cs_3 h
def nrA (d : Nat → Nat) (A : Nat → Nat → Nat) (s l : Nat) : Nat → Nat → Nat := fun k => if k % 3 = s then woR (A k) (d (nx s)) l else if k % 3 = pv s then woC (A k) (d (pv s)) (d s) l else A k
def sp_X10_narrow : zSp := fun av w K => match av with
  | [.ref o, .int s, .int v] => o = 6 ∧ zG w.1 ∧ ∃ d q c A s' l, CS w.2.1 6 d q c A ∧ s = nI s' ∧ s' < 3 ∧ v = nI l ∧ l < d s' ∧ 2 ≤ d s' ∧ ∀ wi' : Nat → Nat → Int32, Fr 6 8 w.2.1 wi' → CS wi' 6 (upD d s' (d s' - 1)) q c (nrA d A s' l) → K none (w.1, wi', w.2.2)
  | _ => False
def rm_X10_narrow : Room := { frames := 2, cells := 0, slots := 0, locals := 52 }
def M_X10_narrow : zM := (k_X10_narrow, f_X10, [(46, 2, 0, 1, 0, 0, sp_X11_ahead), (15, 4, 5, 3, 0, 0, sp_X6_formAt), (50, 4, 5, 2, 0, 0, sp_X6_columns), (69, 0, 0, 3, 0, 0, sp_X10_withoutRow), (19, 4, 5, 4, 0, 0, sp_X6_setForm), (53, 4, 5, 2, 0, 0, sp_X6_rows), (72, 0, 0, 4, 0, 0, sp_X10_withoutColumn), (76, 0, 0, 3, 0, 0, sp_X10_stretch)], ([], [], []), [], [(8, [true, true, true, true, true, false])], 0, false, (false, 0, fun _ => 0), (0, 0, []))
theorem ca_X10_narrow_0 (l : Launch) : z_cok l RX10 (headSpec (.code yX10_narrow cX10_narrow 6 none :: zTT) rm_X10_narrow).room (false, 0, fun _ => 0) (46, 2, 0, 1, 0, 0, sp_X11_ahead) := z_ca2 (host := "FewProducts") (c_X11_ahead l) mb_X11_ahead (by decide +kernel) wt_656 (by decide)
theorem ca_X10_narrow_1 (l : Launch) : z_cok l RX10 (headSpec (.code yX10_narrow cX10_narrow 6 none :: zTT) rm_X10_narrow).room (false, 0, fun _ => 0) (15, 4, 5, 3, 0, 0, sp_X6_formAt) := z_ca4 (c_X6_formAt l) mb_X6_formAt ⟨_, rfl, rfl⟩ wt_658 wt_408 wt_409 (by decide)
theorem ca_X10_narrow_2 (l : Launch) : z_cok l RX10 (headSpec (.code yX10_narrow cX10_narrow 6 none :: zTT) rm_X10_narrow).room (false, 0, fun _ => 0) (50, 4, 5, 2, 0, 0, sp_X6_columns) := z_ca4 (c_X6_columns l) mb_X6_columns ⟨_, rfl, rfl⟩ wt_659 wt_382 wt_383 (by decide)
theorem ca_X10_narrow_3 (l : Launch) : z_cok l RX10 (headSpec (.code yX10_narrow cX10_narrow 6 none :: zTT) rm_X10_narrow).room (false, 0, fun _ => 0) (69, 0, 0, 3, 0, 0, sp_X10_withoutRow) := z_ca0 (c_X10_withoutRow l) mb_X10_withoutRow wt_660 wt_661 (by decide)
theorem ca_X10_narrow_4 (l : Launch) : z_cok l RX10 (headSpec (.code yX10_narrow cX10_narrow 6 none :: zTT) rm_X10_narrow).room (false, 0, fun _ => 0) (19, 4, 5, 4, 0, 0, sp_X6_setForm) := z_ca4 (c_X6_setForm l) mb_X6_setForm ⟨_, rfl, rfl⟩ wt_665 wt_289 wt_290 (by decide)
theorem ca_X10_narrow_5 (l : Launch) : z_cok l RX10 (headSpec (.code yX10_narrow cX10_narrow 6 none :: zTT) rm_X10_narrow).room (false, 0, fun _ => 0) (53, 4, 5, 2, 0, 0, sp_X6_rows) := z_ca4 (c_X6_rows l) mb_X6_rows ⟨_, rfl, rfl⟩ wt_666 wt_378 wt_379 (by decide)
theorem ca_X10_narrow_6 (l : Launch) : z_cok l RX10 (headSpec (.code yX10_narrow cX10_narrow 6 none :: zTT) rm_X10_narrow).room (false, 0, fun _ => 0) (72, 0, 0, 4, 0, 0, sp_X10_withoutColumn) := z_ca0 (c_X10_withoutColumn l) mb_X10_withoutColumn wt_667 wt_668 (by decide)
theorem ca_X10_narrow_7 (l : Launch) : z_cok l RX10 (headSpec (.code yX10_narrow cX10_narrow 6 none :: zTT) rm_X10_narrow).room (false, 0, fun _ => 0) (76, 0, 0, 3, 0, 0, sp_X10_stretch) := z_ca0 (c_X10_stretch l) mb_X10_stretch wt_670 wt_671 (by decide)
theorem O_X10_narrow (l : Launch) : z_OK l RX10 cX10_narrow (headSpec (.code yX10_narrow cX10_narrow 6 none :: zTT) rm_X10_narrow).room M_X10_narrow := ⟨ok_X10_narrow, fo_X10, List.forall_mem_cons.mpr ⟨ca_X10_narrow_0 l, List.forall_mem_cons.mpr ⟨ca_X10_narrow_1 l, List.forall_mem_cons.mpr ⟨ca_X10_narrow_2 l, List.forall_mem_cons.mpr ⟨ca_X10_narrow_3 l, List.forall_mem_cons.mpr ⟨ca_X10_narrow_4 l, List.forall_mem_cons.mpr ⟨ca_X10_narrow_5 l, List.forall_mem_cons.mpr ⟨ca_X10_narrow_6 l, List.forall_mem_cons.mpr ⟨ca_X10_narrow_7 l, fun _ h => absurd h List.not_mem_nil⟩⟩⟩⟩⟩⟩⟩⟩, fun _ h => absurd h List.not_mem_nil, fun _ h => absurd h List.not_mem_nil, fun _ h => absurd h List.not_mem_nil, fun _ h => absurd h List.not_mem_nil, rfl, rfl, fun _ h => absurd h List.not_mem_nil⟩
theorem c_X10_narrow (l : Launch) : z_CS l yX10_narrow cX10_narrow 6 none rm_X10_narrow sp_X10_narrow := by
  refine z_meth (by decide) (Or.inl ⟨rfl, rfl⟩) (fun h => by cases h) rfl (O_X10_narrow l) ?_
  intro av w K h
  match av, h with
  | [.ref o, .int s, .int v], h =>
    obtain ⟨rfl, ⟨r, hG⟩, d, q, c, A, s', l, hS, rfl, hs', rfl, hl, hs2, h⟩ := h
    obtain ⟨G, wi, wl⟩ := w
    subst hG
    try dsimp only at h hS
    have h40 := cs_40 hS
    have q23 := cs_q23 hS
    have q0 : 0 < q := by omega
    have hd := cs_d hS
    have ds := hd s' hs'
    have dn := hd _ (nx_lt s')
    have dp := hd _ (pv_lt s')
    have b1 := ahd_pv hs'
    have np := nx_pv hs'
    refine ⟨Nat.le_of_ble_eq_true rfl, fun Jm hs => ?_⟩
    generalize hF0 : nrA d A s' l = F at h
    have Fs : ∀ i, F (3 * i + s') = woR (A (3 * i + s')) (d (nx s')) l := fun i => by
      rw [← hF0]
      unfold nrA
      rw [if_pos (by omega)]
    have Fp : ∀ i, F (3 * i + pv s') = woC (A (3 * i + pv s')) (d (pv s')) (d s') l := fun i => by
      have := pv_lt s'
      rw [← hF0]
      unfold nrA
      rw [if_neg (by have := np.2; omega), if_pos (by omega)]
    have F0 : ∀ i u, u < 3 → u ≠ s' → u ≠ pv s' → F (3 * i + u) = A (3 * i + u) := fun i u h1 h2 h3 => by
      rw [← hF0]
      unfold nrA
      rw [if_neg (by omega), if_neg (by omega)]
    have loop := up_ind (P := fun i => ∀ wi' : Nat → Nat → Int32, Fr 6 8 wi wi' → CS wi' 6 d q c (prT F A i) → Jm 8 [some (.ref 6), some (.int (nI s')), some (.int (nI l)), some (.int (nI (pv s'))), some (.int (nI i)), none] [] (GC ++ r, wi', wl) 0 0) c (fun i hi ih => by
      intro wi' hF hS'
      refine hs 400 8 _ _ _ _ _ ?_
      conv => whnf
      repeat ((first | refine ⟨zG_of _, ?_⟩ | refine ⟨trivial, ?_⟩ | refine ⟨rfl, ?_⟩ | refine ⟨fun hc => absurd hc (by decide), fun _ => ?_⟩ | refine ⟨fun _ => ?_, fun hc => absurd (by decide) hc⟩ | refine ⟨fun _ => ?_, fun hc => absurd hc (by decide)⟩ | refine ⟨fun hc => absurd (by decide) hc, fun _ => ?_⟩); conv => whnf)
      try dsimp only
      rw [cs_c hS', ltN (by omega) (by omega)]
      refine ⟨fun hc => ?_, fun hc => ?_⟩
      · obtain rfl : i = c := by omega
        have hE : CS wi' 6 d q i F := cs_congr hS' (fun k hk p _ => by rw [prT_end hk])
        have k := cs_side hE hs' (v := d s' - 1) (by omega) (by omega)
        conv => whnf
        repeat ((first | refine ⟨zG_of _, ?_⟩ | refine ⟨trivial, ?_⟩ | refine ⟨rfl, ?_⟩ | refine ⟨fun hc => absurd hc (by decide), fun _ => ?_⟩ | refine ⟨fun _ => ?_, fun hc => absurd (by decide) hc⟩ | refine ⟨fun _ => ?_, fun hc => absurd hc (by decide)⟩ | refine ⟨fun hc => absurd (by decide) hc, fun _ => ?_⟩); conv => whnf)
        try dsimp only
        refine ⟨s', rfl, hs', ?_⟩
        rw [cs_rd hE hs', mI_add (by omega)]
        exact h _ (Fr_trans hF k.2) k.1
      · have ihn := ih hc
        have v0 : fmF wi' 6 (nI i) (nI s') = pk (A (3 * i + s')) := by rw [fm_S hS' hc hs', prT_ge (by omega)]
        have a0 := cs_A hS (3 * i + s') (by omega)
        have a1 := cs_A hS (3 * i + pv s') (by have := pv_lt s'; omega)
        conv => whnf
        repeat ((first | refine ⟨zG_of _, ?_⟩ | refine ⟨trivial, ?_⟩ | refine ⟨rfl, ?_⟩ | refine ⟨fun hc => absurd hc (by decide), fun _ => ?_⟩ | refine ⟨fun _ => ?_, fun hc => absurd (by decide) hc⟩ | refine ⟨fun _ => ?_, fun hc => absurd hc (by decide)⟩ | refine ⟨fun hc => absurd (by decide) hc, fun _ => ?_⟩); conv => whnf)
        try dsimp only
        refine ⟨A (3 * i + s'), d (nx s'), l, v0, lt3_of q23 a0, col_S hS' hs', dn.1, dn.2, rfl, by omega, ?_⟩
        conv => whnf
        repeat ((first | refine ⟨zG_of _, ?_⟩ | refine ⟨trivial, ?_⟩ | refine ⟨rfl, ?_⟩ | refine ⟨fun hc => absurd hc (by decide), fun _ => ?_⟩ | refine ⟨fun _ => ?_, fun hc => absurd (by decide) hc⟩ | refine ⟨fun _ => ?_, fun hc => absurd hc (by decide)⟩ | refine ⟨fun hc => absurd (by decide) hc, fun _ => ?_⟩); conv => whnf)
        try dsimp only
        refine ⟨Or.inl rfl, zG_of _, i, s', rfl, by omega, rfl, hs', fun wi1 e1 => ?_⟩
        have k1 := cs_set hS' hc hs' rfl (woR_lt q0 a0 _ _) e1
        rw [← Fs] at k1
        have v1 : fmF wi1 6 (nI i) (nI (pv s')) = pk (A (3 * i + pv s')) := by
          rw [fm_S k1.1 hc (pv_lt s')]
          unfold upA
          rw [if_neg (by have := np.2; omega), prT_ge (by omega)]
        have v2 : colF wi1 6 (nI (pv s')) = nI (d s') := by
          have := col_S k1.1 (pv_lt s')
          rw [show (pv s' + 1) % 3 = s' from np.1] at this
          exact this
        conv => whnf
        repeat ((first | refine ⟨zG_of _, ?_⟩ | refine ⟨trivial, ?_⟩ | refine ⟨rfl, ?_⟩ | refine ⟨fun hc => absurd hc (by decide), fun _ => ?_⟩ | refine ⟨fun _ => ?_, fun hc => absurd (by decide) hc⟩ | refine ⟨fun _ => ?_, fun hc => absurd hc (by decide)⟩ | refine ⟨fun hc => absurd (by decide) hc, fun _ => ?_⟩); conv => whnf)
        try dsimp only
        refine ⟨A (3 * i + pv s'), d (pv s'), d s', l, v1, lt3_of q23 a1, rows_S k1.1 (pv_lt _), dp.2, v2, hs2, ds.2, rfl, hl, ?_⟩
        conv => whnf
        repeat ((first | refine ⟨zG_of _, ?_⟩ | refine ⟨trivial, ?_⟩ | refine ⟨rfl, ?_⟩ | refine ⟨fun hc => absurd hc (by decide), fun _ => ?_⟩ | refine ⟨fun _ => ?_, fun hc => absurd (by decide) hc⟩ | refine ⟨fun _ => ?_, fun hc => absurd hc (by decide)⟩ | refine ⟨fun hc => absurd (by decide) hc, fun _ => ?_⟩); conv => whnf)
        try dsimp only
        refine ⟨Or.inl rfl, zG_of _, i, pv s', rfl, by omega, rfl, pv_lt _, fun wi2 e2 => ?_⟩
        have k2 := cs_set k1.1 hc (pv_lt s') rfl (woC_lt q0 a1 dp.2 hs2 ds.2) e2
        rw [← Fp, prT_up2 F A i s' (pv s') hs' (pv_lt _) (F0 i)] at k2
        conv => whnf
        repeat ((first | refine ⟨zG_of _, ?_⟩ | refine ⟨trivial, ?_⟩ | refine ⟨rfl, ?_⟩ | refine ⟨fun hc => absurd hc (by decide), fun _ => ?_⟩ | refine ⟨fun _ => ?_, fun hc => absurd (by decide) hc⟩ | refine ⟨fun _ => ?_, fun hc => absurd hc (by decide)⟩ | refine ⟨fun hc => absurd (by decide) hc, fun _ => ?_⟩); conv => whnf)
        try dsimp only
        rw [nI_add]
        exact ihn wi2 (Fr_trans (Fr_trans hF k1.2) k2.2) k2.1)
    refine hs 400 0 _ _ _ _ _ ?_
    conv => whnf
    repeat ((first | refine ⟨zG_of _, ?_⟩ | refine ⟨trivial, ?_⟩ | refine ⟨rfl, ?_⟩ | refine ⟨fun hc => absurd hc (by decide), fun _ => ?_⟩ | refine ⟨fun _ => ?_, fun hc => absurd (by decide) hc⟩ | refine ⟨fun _ => ?_, fun hc => absurd hc (by decide)⟩ | refine ⟨fun hc => absurd (by decide) hc, fun _ => ?_⟩); conv => whnf)
    try dsimp only
    rw [b1]
    refine loop 0 (Nat.zero_le _) wi (Fr_refl _ _ _) ?_
    rw [prT_0]
    exact hS
def wiC (a : Nat → Nat) (R C : Nat) : Nat → Nat := fun p => if p < R * (C + 1) ∧ p % (C + 1) < C then a (p / (C + 1) * C + p % (C + 1)) else 0
def wiT (a : Nat → Nat) (R C m : Nat) : Nat → Nat := fun p => if p < m then wiC a R C p else 0
theorem wiC_lt {a : Nat → Nat} {q R C : Nat} (hq : 0 < q) (ha : ∀ p, p < 9 → a p < q) (hR : R ≤ 3) (hC : C ≤ 3) : ∀ p, p < 9 → wiC a R C p < q := fun p hp => by
  unfold wiC
  split
  · rename_i h
    have e2 : p / (C + 1) < R := (Nat.div_lt_iff_lt_mul (by omega)).mpr h.1
    exact ha _ (idx9 hR hC e2 h.2)
  · exact hq
theorem wi_at {a : Nat → Nat} {R C r c : Nat} (hr : r < R) (hc : c < C) : wiC a R C (r * (C + 1) + c) = a (r * C + c) := by
  unfold wiC
  have e2 : (r * (C + 1) + c) / (C + 1) = r := by
    rw [Nat.mul_comm, Nat.mul_add_div (by omega), Nat.div_eq_of_lt (by omega), Nat.add_zero]
  have e3 : (r * (C + 1) + c) % (C + 1) = c := by
    rw [Nat.mul_comm, Nat.mul_add_mod, Nat.mod_eq_of_lt (by omega)]
  have e4 : r * (C + 1) + c < R * (C + 1) := by
    have : (r + 1) * (C + 1) ≤ R * (C + 1) := Nat.mul_le_mul_right _ hr
    rw [Nat.add_mul, Nat.one_mul] at this
    omega
  rw [e2, e3, if_pos ⟨e4, hc⟩]
def wdA (d : Nat → Nat) (A : Nat → Nat → Nat) (s : Nat) : Nat → Nat → Nat := fun k => if k % 3 = pv s then wiC (A k) (d (pv s)) (d s) else A k
def sp_X10_widen : zSp := fun av w K => match av with
  | [.ref o, .int s] => o = 6 ∧ zG w.1 ∧ ∃ d q c A s', CS w.2.1 6 d q c A ∧ s = nI s' ∧ s' < 3 ∧ d s' < 3 ∧ (apI s' (upD d s' (d s' + 1)) ((upD d s' (d s' + 1)) 0) (c, wdA d A s')).1 ≤ 40 ∧ ∀ wi' : Nat → Nat → Int32, Fr 6 8 w.2.1 wi' → CS wi' 6 (upD d s' (d s' + 1)) q (apI s' (upD d s' (d s' + 1)) ((upD d s' (d s' + 1)) 0) (c, wdA d A s')).1 (apI s' (upD d s' (d s' + 1)) ((upD d s' (d s' + 1)) 0) (c, wdA d A s')).2 → K none (w.1, wi', w.2.2)
  | _ => False
def rm_X10_widen : Room := { frames := 5, cells := 0, slots := 0, locals := 114 }
def M_X10_widen : zM := (k_X10_widen, f_X10, [(46, 2, 0, 1, 0, 0, sp_X11_ahead), (53, 4, 5, 2, 0, 0, sp_X6_rows), (50, 4, 5, 2, 0, 0, sp_X6_columns), (15, 4, 5, 3, 0, 0, sp_X6_formAt), (38, 0, 0, 2, 0, 0, sp_X2_numberAt), (43, 0, 0, 3, 0, 0, sp_X2_with), (19, 4, 5, 4, 0, 0, sp_X6_setForm), (76, 0, 0, 3, 0, 0, sp_X10_stretch), (80, 4, 5, 2, 0, 0, sp_X6_addPlain)], ([], [], []), [], [(21, [true, true, true, true, true, true, false, false, false, false]), (45, [true, true, true, true, true, true, true, true, true, false]), (54, [true, true, true, true, true, true, true, true, true, true])], 0, false, (false, 0, fun _ => 0), (0, 0, []))
theorem ca_X10_widen_0 (l : Launch) : z_cok l RX10 (headSpec (.code yX10_widen cX10_widen 10 none :: zTT) rm_X10_widen).room (false, 0, fun _ => 0) (46, 2, 0, 1, 0, 0, sp_X11_ahead) := z_ca2 (host := "FewProducts") (c_X11_ahead l) mb_X11_ahead (by decide +kernel) wt_656 (by decide)
theorem ca_X10_widen_1 (l : Launch) : z_cok l RX10 (headSpec (.code yX10_widen cX10_widen 10 none :: zTT) rm_X10_widen).room (false, 0, fun _ => 0) (53, 4, 5, 2, 0, 0, sp_X6_rows) := z_ca4 (c_X6_rows l) mb_X6_rows ⟨_, rfl, rfl⟩ wt_666 wt_378 wt_379 (by decide)
theorem ca_X10_widen_2 (l : Launch) : z_cok l RX10 (headSpec (.code yX10_widen cX10_widen 10 none :: zTT) rm_X10_widen).room (false, 0, fun _ => 0) (50, 4, 5, 2, 0, 0, sp_X6_columns) := z_ca4 (c_X6_columns l) mb_X6_columns ⟨_, rfl, rfl⟩ wt_659 wt_382 wt_383 (by decide)
theorem ca_X10_widen_3 (l : Launch) : z_cok l RX10 (headSpec (.code yX10_widen cX10_widen 10 none :: zTT) rm_X10_widen).room (false, 0, fun _ => 0) (15, 4, 5, 3, 0, 0, sp_X6_formAt) := z_ca4 (c_X6_formAt l) mb_X6_formAt ⟨_, rfl, rfl⟩ wt_658 wt_408 wt_409 (by decide)
theorem ca_X10_widen_4 (l : Launch) : z_cok l RX10 (headSpec (.code yX10_widen cX10_widen 10 none :: zTT) rm_X10_widen).room (false, 0, fun _ => 0) (38, 0, 0, 2, 0, 0, sp_X2_numberAt) := z_ca0 (c_X2_numberAt l) mb_X2_numberAt wt_663 wt_390 (by decide)
theorem ca_X10_widen_5 (l : Launch) : z_cok l RX10 (headSpec (.code yX10_widen cX10_widen 10 none :: zTT) rm_X10_widen).room (false, 0, fun _ => 0) (43, 0, 0, 3, 0, 0, sp_X2_with) := z_ca0 (c_X2_with l) mb_X2_with wt_664 wt_297 (by decide)
theorem ca_X10_widen_6 (l : Launch) : z_cok l RX10 (headSpec (.code yX10_widen cX10_widen 10 none :: zTT) rm_X10_widen).room (false, 0, fun _ => 0) (19, 4, 5, 4, 0, 0, sp_X6_setForm) := z_ca4 (c_X6_setForm l) mb_X6_setForm ⟨_, rfl, rfl⟩ wt_665 wt_289 wt_290 (by decide)
theorem ca_X10_widen_7 (l : Launch) : z_cok l RX10 (headSpec (.code yX10_widen cX10_widen 10 none :: zTT) rm_X10_widen).room (false, 0, fun _ => 0) (76, 0, 0, 3, 0, 0, sp_X10_stretch) := z_ca0 (c_X10_stretch l) mb_X10_stretch wt_670 wt_671 (by decide)
theorem ca_X10_widen_8 (l : Launch) : z_cok l RX10 (headSpec (.code yX10_widen cX10_widen 10 none :: zTT) rm_X10_widen).room (false, 0, fun _ => 0) (80, 4, 5, 2, 0, 0, sp_X6_addPlain) := z_ca4 (c_X6_addPlain l) mb_X6_addPlain ⟨_, rfl, rfl⟩ wt_681 wt_273 wt_274 (by decide)
theorem O_X10_widen (l : Launch) : z_OK l RX10 cX10_widen (headSpec (.code yX10_widen cX10_widen 10 none :: zTT) rm_X10_widen).room M_X10_widen := ⟨ok_X10_widen, fo_X10, List.forall_mem_cons.mpr ⟨ca_X10_widen_0 l, List.forall_mem_cons.mpr ⟨ca_X10_widen_1 l, List.forall_mem_cons.mpr ⟨ca_X10_widen_2 l, List.forall_mem_cons.mpr ⟨ca_X10_widen_3 l, List.forall_mem_cons.mpr ⟨ca_X10_widen_4 l, List.forall_mem_cons.mpr ⟨ca_X10_widen_5 l, List.forall_mem_cons.mpr ⟨ca_X10_widen_6 l, List.forall_mem_cons.mpr ⟨ca_X10_widen_7 l, List.forall_mem_cons.mpr ⟨ca_X10_widen_8 l, fun _ h => absurd h List.not_mem_nil⟩⟩⟩⟩⟩⟩⟩⟩⟩, fun _ h => absurd h List.not_mem_nil, fun _ h => absurd h List.not_mem_nil, fun _ h => absurd h List.not_mem_nil, fun _ h => absurd h List.not_mem_nil, rfl, rfl, fun _ h => absurd h List.not_mem_nil⟩
theorem c_X10_widen (l : Launch) : z_CS l yX10_widen cX10_widen 10 none rm_X10_widen sp_X10_widen := by
  refine z_meth (by decide) (Or.inl ⟨rfl, rfl⟩) (fun h => by cases h) rfl (O_X10_widen l) ?_
  intro av w K h
  match av, h with
  | [.ref o, .int s], h =>
    obtain ⟨rfl, ⟨r, hG⟩, d, q, c, A, s', hS, rfl, hs', hs2, hm, h⟩ := h
    obtain ⟨G, wi, wl⟩ := w
    subst hG
    try dsimp only at h hS hm
    have h40 := cs_40 hS
    have q23 := cs_q23 hS
    have q0 : 0 < q := by omega
    have hd := cs_d hS
    have ds := hd s' hs'
    have dp := hd _ (pv_lt s')
    have b1 := ahd_pv hs'
    have np := nx_pv hs'
    refine ⟨Nat.le_of_ble_eq_true rfl, fun Jm hs => ?_⟩
    generalize hF0 : wdA d A s' = F at h hm
    have Fp : ∀ i, F (3 * i + pv s') = wiC (A (3 * i + pv s')) (d (pv s')) (d s') := fun i => by
      have := pv_lt s'
      rw [← hF0]
      unfold wdA
      rw [if_pos (by omega)]
    have F0 : ∀ i u, u < 3 → u ≠ pv s' → u ≠ pv s' → F (3 * i + u) = A (3 * i + u) := fun i u h1 h2 h3 => by
      rw [← hF0]
      unfold wdA
      rw [if_neg (by omega)]
    have e1 : rowsF wi 6 (nI (pv s')) = nI (d (pv s')) := rows_S hS (pv_lt s')
    have e2 : rowsF wi 6 (behF (nI (pv s'))) = nI (d s') := by
      rw [beh_nx (pv_lt s'), np.1]
      exact rows_S hS hs'
    have loop := up_ind (P := fun i => ∀ wi' : Nat → Nat → Int32, Fr 6 8 wi wi' → CS wi' 6 d q c (prT F A i) → Jm 21 [some (.ref 6), some (.int (nI s')), some (.int (nI (pv s'))), some (.int (nI (d (pv s')))), some (.int (nI (d s'))), some (.int (nI i)), none, none, none, none] [] (GC ++ r, wi', wl) 0 0) c (fun i hi ih => by
      intro wi' hF hS'
      refine hs 400 21 _ _ _ _ _ ?_
      conv => whnf
      repeat ((first | refine ⟨zG_of _, ?_⟩ | refine ⟨trivial, ?_⟩ | refine ⟨rfl, ?_⟩ | refine ⟨fun hc => absurd hc (by decide), fun _ => ?_⟩ | refine ⟨fun _ => ?_, fun hc => absurd (by decide) hc⟩ | refine ⟨fun _ => ?_, fun hc => absurd hc (by decide)⟩ | refine ⟨fun hc => absurd (by decide) hc, fun _ => ?_⟩); conv => whnf)
      try dsimp only
      rw [cs_c hS', ltN (by omega) (by omega)]
      refine ⟨fun hc => ?_, fun hc => ?_⟩
      · obtain rfl : i = c := by omega
        have hE : CS wi' 6 d q i F := cs_congr hS' (fun k hk p _ => by rw [prT_end hk])
        have k := cs_side hE hs' (v := d s' + 1) (by omega) (by omega)
        conv => whnf
        repeat ((first | refine ⟨zG_of _, ?_⟩ | refine ⟨trivial, ?_⟩ | refine ⟨rfl, ?_⟩ | refine ⟨fun hc => absurd hc (by decide), fun _ => ?_⟩ | refine ⟨fun _ => ?_, fun hc => absurd (by decide) hc⟩ | refine ⟨fun _ => ?_, fun hc => absurd hc (by decide)⟩ | refine ⟨fun hc => absurd (by decide) hc, fun _ => ?_⟩); conv => whnf)
        try dsimp only
        refine ⟨s', rfl, hs', ?_⟩
        rw [cs_rd hE hs', nI_add]
        conv => whnf
        repeat ((first | refine ⟨zG_of _, ?_⟩ | refine ⟨trivial, ?_⟩ | refine ⟨rfl, ?_⟩ | refine ⟨fun hc => absurd hc (by decide), fun _ => ?_⟩ | refine ⟨fun _ => ?_, fun hc => absurd (by decide) hc⟩ | refine ⟨fun _ => ?_, fun hc => absurd hc (by decide)⟩ | refine ⟨fun hc => absurd (by decide) hc, fun _ => ?_⟩); conv => whnf)
        try dsimp only
        refine ⟨_, q, i, F, s', k.1, by rcases lt3 hs' with rfl | rfl | rfl <;> simp, hm, fun wi2 hF2 hS2 => ?_⟩
        exact h wi2 (Fr_trans (Fr_trans hF k.2) hF2) hS2
      · have ihn := ih hc
        have v0 : atF (wi' 8) 120 (nI 3 * nI i + nI (pv s')) = pk (A (3 * i + pv s')) := by
          have := fm_S hS' hc (pv_lt s')
          rw [prT_ge (by omega)] at this
          exact this
        have a1 := cs_A hS (3 * i + pv s') (by have := pv_lt s'; omega)
        have a3 := lt3_of q23 a1
        generalize hA : A (3 * i + pv s') = a at *
        generalize hR : d (pv s') = R at *
        generalize hC : d s' = C at *
        have wlt : ∀ m, ∀ p, p < 9 → wiT a R C m p < 3 := fun m p hp => by
          unfold wiT
          split
          · exact wiC_lt (by decide) a3 dp.2 ds.2 p hp
          · decide
        have wset : ∀ m, m < 9 → ∀ v, v < 3 → v = wiC a R C m → fwith (pk (wiT a R C m)) (nI m) (nI v) = pk (wiT a R C (m + 1)) := fun m hm v hv hv2 => by
          rw [fwith_pk (wlt m) hm hv]
          refine pk_congr (fun p hp => ?_)
          unfold setp wiT
          by_cases e1 : p = m
          · rw [if_pos e1, if_pos (by omega), e1, hv2]
          · rw [if_neg e1]
            by_cases e2 : p < m
            · have e3 : p < m + 1 := by omega
              rw [if_pos e2, if_pos e3]
            · have e3 : ¬ p < m + 1 := by omega
              rw [if_neg e2, if_neg e3]
        have loopr := up_ind (P := fun m => Jm 45 [some (.ref 6), some (.int (nI s')), some (.int (nI (pv s'))), some (.int (nI R)), some (.int (nI C)), some (.int (nI i)), some (.int (pk a)), some (.int (pk (wiT a R C (m * (C + 1))))), some (.int (nI m)), none] [] (GC ++ r, wi', wl) 0 0) R (fun m hm ihm => by
          refine hs 400 45 _ _ _ _ _ ?_
          conv => whnf
          repeat ((first | refine ⟨zG_of _, ?_⟩ | refine ⟨trivial, ?_⟩ | refine ⟨rfl, ?_⟩ | refine ⟨fun hc => absurd hc (by decide), fun _ => ?_⟩ | refine ⟨fun _ => ?_, fun hc => absurd (by decide) hc⟩ | refine ⟨fun _ => ?_, fun hc => absurd hc (by decide)⟩ | refine ⟨fun hc => absurd (by decide) hc, fun _ => ?_⟩); conv => whnf)
          try dsimp only
          rw [ltN (by omega) (by omega)]
          refine ⟨fun hc2 => ?_, fun hc2 => ?_⟩
          · obtain hmn : m = R := by omega
            have e : pk (wiT a R C (m * (C + 1))) = pk (wiC a R C) := pk_congr (fun p hp => by
              unfold wiT
              by_cases e : p < m * (C + 1)
              · rw [if_pos e]
              · rw [if_neg e]
                unfold wiC
                rw [if_neg (fun z => e (by rw [hmn]; exact z.1))])
            rw [e]
            conv => whnf
            repeat ((first | refine ⟨zG_of _, ?_⟩ | refine ⟨trivial, ?_⟩ | refine ⟨rfl, ?_⟩ | refine ⟨fun hc => absurd hc (by decide), fun _ => ?_⟩ | refine ⟨fun _ => ?_, fun hc => absurd (by decide) hc⟩ | refine ⟨fun _ => ?_, fun hc => absurd hc (by decide)⟩ | refine ⟨fun hc => absurd (by decide) hc, fun _ => ?_⟩); conv => whnf)
            try dsimp only
            refine ⟨Or.inl rfl, zG_of _, i, pv s', rfl, by omega, rfl, pv_lt _, fun wi1 e1 => ?_⟩
            have k1 := cs_set hS' hc (pv_lt s') rfl (wiC_lt q0 a1 dp.2 ds.2) e1
            have e3 : upA (prT F A i) (3 * i + pv s') (wiC a R C) = prT F A (i + 1) := by
              rw [← prT_up2 F A i (pv s') (pv s') (pv_lt _) (pv_lt _) (F0 i), Fp i, hA]
              funext k
              unfold upA
              split
              · rfl
              · rfl
            rw [e3] at k1
            conv => whnf
            repeat ((first | refine ⟨zG_of _, ?_⟩ | refine ⟨trivial, ?_⟩ | refine ⟨rfl, ?_⟩ | refine ⟨fun hc => absurd hc (by decide), fun _ => ?_⟩ | refine ⟨fun _ => ?_, fun hc => absurd (by decide) hc⟩ | refine ⟨fun _ => ?_, fun hc => absurd hc (by decide)⟩ | refine ⟨fun hc => absurd (by decide) hc, fun _ => ?_⟩); conv => whnf)
            try dsimp only
            rw [nI_add]
            exact ihn wi1 (Fr_trans hF k1.2) k1.1
          · have ihmn := ihm hc2
            have loopc := up_ind (P := fun n => Jm 54 [some (.ref 6), some (.int (nI s')), some (.int (nI (pv s'))), some (.int (nI R)), some (.int (nI C)), some (.int (nI i)), some (.int (pk a)), some (.int (pk (wiT a R C (m * (C + 1) + n)))), some (.int (nI m)), some (.int (nI n))] [] (GC ++ r, wi', wl) 0 0) C (fun n hn ihn2 => by
              refine hs 400 54 _ _ _ _ _ ?_
              conv => whnf
              repeat ((first | refine ⟨zG_of _, ?_⟩ | refine ⟨trivial, ?_⟩ | refine ⟨rfl, ?_⟩ | refine ⟨fun hc => absurd hc (by decide), fun _ => ?_⟩ | refine ⟨fun _ => ?_, fun hc => absurd (by decide) hc⟩ | refine ⟨fun _ => ?_, fun hc => absurd hc (by decide)⟩ | refine ⟨fun hc => absurd (by decide) hc, fun _ => ?_⟩); conv => whnf)
              try dsimp only
              rw [ltN (by omega) (by omega)]
              refine ⟨fun hc3 => ?_, fun hc3 => ?_⟩
              · obtain hnn : n = C := by omega
                have e : pk (wiT a R C (m * (C + 1) + n)) = pk (wiT a R C ((m + 1) * (C + 1))) := pk_congr (fun p hp => by
                  unfold wiT
                  rw [Nat.add_mul, Nat.one_mul]
                  by_cases e1 : p < m * (C + 1) + n
                  · have e2 : p < m * (C + 1) + (C + 1) := by omega
                    rw [if_pos e1, if_pos e2]
                  · rw [if_neg e1]
                    by_cases e2 : p < m * (C + 1) + (C + 1)
                    · rw [if_pos e2]
                      have e3 : p = m * (C + 1) + C := by omega
                      unfold wiC
                      rw [if_neg (fun z => by
                        have z2 := z.2
                        rw [e3, Nat.mul_comm, Nat.mul_add_mod, Nat.mod_eq_of_lt (by omega)] at z2
                        omega)]
                    · rw [if_neg e2])
                rw [e]
                conv => whnf
                repeat ((first | refine ⟨zG_of _, ?_⟩ | refine ⟨trivial, ?_⟩ | refine ⟨rfl, ?_⟩ | refine ⟨fun hc => absurd hc (by decide), fun _ => ?_⟩ | refine ⟨fun _ => ?_, fun hc => absurd (by decide) hc⟩ | refine ⟨fun _ => ?_, fun hc => absurd hc (by decide)⟩ | refine ⟨fun hc => absurd (by decide) hc, fun _ => ?_⟩); conv => whnf)
                try dsimp only
                rw [nI_add]
                exact ihmn
              · have ihnn := ihn2 hc3
                have i1 := idx9 dp.2 ds.2 hc2 hc3
                have i2 : m * (C + 1) + n < 9 := idx9 (C := C + 1) dp.2 (by omega) hc2 (by omega)
                have e := wset (m * (C + 1) + n) i2 (a (m * C + n)) (a3 _ i1) (wi_at hc2 hc3).symm
                rw [← Nat.add_assoc, ← e, ← fnum_pk a3 i1] at ihnn
                conv => whnf
                repeat ((first | refine ⟨zG_of _, ?_⟩ | refine ⟨trivial, ?_⟩ | refine ⟨rfl, ?_⟩ | refine ⟨fun hc => absurd hc (by decide), fun _ => ?_⟩ | refine ⟨fun _ => ?_, fun hc => absurd (by decide) hc⟩ | refine ⟨fun _ => ?_, fun hc => absurd hc (by decide)⟩ | refine ⟨fun hc => absurd (by decide) hc, fun _ => ?_⟩); conv => whnf)
                try dsimp only
                rw [nI_add (a := C) (b := 1), pk_mul, nI_add (a := m * (C + 1)) (b := n), pk_mul, nI_add (a := m * C) (b := n), nI_add (a := n) (b := 1)]
                exact ihnn)
            conv => whnf
            repeat ((first | refine ⟨zG_of _, ?_⟩ | refine ⟨trivial, ?_⟩ | refine ⟨rfl, ?_⟩ | refine ⟨fun hc => absurd hc (by decide), fun _ => ?_⟩ | refine ⟨fun _ => ?_, fun hc => absurd (by decide) hc⟩ | refine ⟨fun _ => ?_, fun hc => absurd hc (by decide)⟩ | refine ⟨fun hc => absurd (by decide) hc, fun _ => ?_⟩); conv => whnf)
            try dsimp only
            exact loopc 0 (Nat.zero_le _))
        conv => whnf
        repeat ((first | refine ⟨zG_of _, ?_⟩ | refine ⟨trivial, ?_⟩ | refine ⟨rfl, ?_⟩ | refine ⟨fun hc => absurd hc (by decide), fun _ => ?_⟩ | refine ⟨fun _ => ?_, fun hc => absurd (by decide) hc⟩ | refine ⟨fun _ => ?_, fun hc => absurd hc (by decide)⟩ | refine ⟨fun hc => absurd (by decide) hc, fun _ => ?_⟩); conv => whnf)
        try dsimp only
        rw [v0]
        have l0 := loopr 0 (Nat.zero_le _)
        have e : pk (wiT a R C 0) = nI 0 := by
          rw [← pk_zero]
          exact pk_congr (fun p hp => by
            unfold wiT
            rw [if_neg (by omega)])
        simp only [Nat.zero_mul, e] at l0
        exact l0)
    refine hs 400 0 _ _ _ _ _ ?_
    conv => whnf
    repeat ((first | refine ⟨zG_of _, ?_⟩ | refine ⟨trivial, ?_⟩ | refine ⟨rfl, ?_⟩ | refine ⟨fun hc => absurd hc (by decide), fun _ => ?_⟩ | refine ⟨fun _ => ?_, fun hc => absurd (by decide) hc⟩ | refine ⟨fun _ => ?_, fun hc => absurd hc (by decide)⟩ | refine ⟨fun hc => absurd (by decide) hc, fun _ => ?_⟩); conv => whnf)
    try dsimp only
    rw [b1, e1, e2]
    refine loop 0 (Nat.zero_le _) wi (Fr_refl _ _ _) ?_
    rw [prT_0]
    exact hS

