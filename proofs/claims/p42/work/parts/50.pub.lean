/-! widened, rolled, mirrored, sheared, lines exchanged -/
def cnC (s a b e i j k : Nat) : Bool := s == 3 || (s == 0 && i + 1 == a) || (s == 1 && j + 1 == b) || (s == 2 && k + 1 == e)
def cnI (s a b e : Nat) : Nat := fb_sm (fun i => fb_sm (fun j => fb_ct (cnC s a b e i j) e) b) a
theorem apK_n (s : Nat) (d : Nat → Nat) (i j : Nat) (S : Nat × (Nat → Nat → Nat)) : ∀ k, (apK s d i j k S).1 = S.1 + fb_ct (cnC s (d 0) (d 1) (d 2) i j) k
  | 0 => rfl
  | k + 1 => by
    rw [apK, fb_ct_succ]
    have ih := apK_n s d i j S k
    have e : apC s d i j k = cnC s (d 0) (d 1) (d 2) i j k := rfl
    rw [e]
    split
    · show (apK s d i j k S).1 + 1 = _
      omega
    · rw [ih, Nat.add_zero]
theorem apJ_n (s : Nat) (d : Nat → Nat) (i : Nat) (S : Nat × (Nat → Nat → Nat)) : ∀ j, (apJ s d i j S).1 = S.1 + fb_sm (fun j => fb_ct (cnC s (d 0) (d 1) (d 2) i j) (d 2)) j
  | 0 => rfl
  | j + 1 => by
    rw [apJ, apK_n, apJ_n s d i S j, fb_sm_succ, Nat.add_assoc]
theorem apI_n (s : Nat) (d : Nat → Nat) (S : Nat × (Nat → Nat → Nat)) : ∀ i, (apI s d i S).1 = S.1 + fb_sm (fun i => fb_sm (fun j => fb_ct (cnC s (d 0) (d 1) (d 2) i j) (d 2)) (d 1)) i
  | 0 => rfl
  | i + 1 => by
    rw [apI, apJ_n, apI_n s d S i, fb_sm_succ, Nat.add_assoc]
theorem cn_all (a : Nat) (ha : a < 4) (b : Nat) (hb : b < 4) (e : Nat) (he : e < 4) (a1 : 1 ≤ a) (b1 : 1 ≤ b) (e1 : 1 ≤ e) : cnI 0 a b e = b * e ∧ cnI 1 a b e = e * a ∧ cnI 2 a b e = a * b := by
  rcases (show a = 1 ∨ a = 2 ∨ a = 3 by omega) with rfl | rfl | rfl <;> rcases (show b = 1 ∨ b = 2 ∨ b = 3 by omega) with rfl | rfl | rfl <;> rcases (show e = 1 ∨ e = 2 ∨ e = 3 by omega) with rfl | rfl | rfl <;> decide
theorem ap_n {d : Nat → Nat} (hd : ∀ t, t < 3 → 1 ≤ d t ∧ d t ≤ 3) {s : Nat} (hs : s < 3) (S : Nat × (Nat → Nat → Nat)) : (apI s d (d 0) S).1 = S.1 + d (nx s) * d (pv s) := by
  have d0 := hd 0 (by decide)
  have d1 := hd 1 (by decide)
  have d2 := hd 2 (by decide)
  have h := cn_all (d 0) (by omega) (d 1) (by omega) (d 2) (by omega) d0.1 d1.1 d2.1
  rw [apI_n]
  rcases lt3 hs with rfl | rfl | rfl
  · exact congrArg (S.1 + ·) h.1
  · exact congrArg (S.1 + ·) h.2.1
  · exact congrArg (S.1 + ·) h.2.2
theorem wdA_z {d : Nat → Nat} {c s : Nat} {A : Nat → Nat → Nat} (h : ZS d c A) (hs : s < 3) : ZS (upD d s (d s + 1)) c (wdA d A s) := by
  intro k hk p hp hp9
  have pf := pv_facts s hs
  have km := mod3_lt k
  have z0 := h k hk
  unfold wdA
  by_cases e2 : k % 3 = pv s
  · rw [if_pos e2]
    rw [e2] at hp
    have e : pl (upD d s (d s + 1)) (pv s) = d (pv s) * (d s + 1) := by
      show upD d s (d s + 1) (pv s) * upD d s (d s + 1) (nx (pv s)) = _
      unfold upD
      rw [if_neg pf.2.1, pf.1, if_pos rfl]
    rw [e] at hp
    unfold wiC
    rw [if_neg (fun z => by omega)]
  · rw [if_neg e2]
    refine z0 p ?_ hp9
    by_cases e1 : k % 3 = s
    · rw [e1] at hp ⊢
      have e : pl (upD d s (d s + 1)) s = (d s + 1) * d (nx s) := by
        show upD d s (d s + 1) s * upD d s (d s + 1) (nx s) = _
        unfold upD
        rw [if_pos rfl, if_neg pf.2.2.1]
      rw [e, Nat.add_mul, Nat.one_mul] at hp
      show d s * d (nx s) ≤ p
      omega
    · have e3 := third_t hs km e1 e2
      rw [e3] at hp ⊢
      have e : pl (upD d s (d s + 1)) (nx s) = pl d (nx s) := by
        show upD d s (d s + 1) (nx s) * upD d s (d s + 1) (nx (nx s)) = d (nx s) * d (nx (nx s))
        unfold upD
        rw [if_neg pf.2.2.1, if_neg (by rw [pf.2.2.2.1]; exact pf.2.1)]
      rw [e] at hp
      exact hp
def wdT (d : Nat → Nat) (c : Nat) (A : Nat → Nat → Nat) (s : Nat) : Nat × (Nat → Nat → Nat) := apI s (upD d s (d s + 1)) (upD d s (d s + 1) 0) (c, wdA d A s)
def st_widens (T : zT) (s : Int32) : zT × Int32 :=
  if idB 3 s = true then
    if T.1 s.toNatClampNeg = 3 then (T, mI 2)
    else if 40 < T.2.2.1 + T.1 (nx s.toNatClampNeg) * T.1 (pv s.toNatClampNeg) then (T, mI 3)
    else ((upD T.1 s.toNatClampNeg (T.1 s.toNatClampNeg + 1), T.2.1, (wdT T.1 T.2.2.1 T.2.2.2.1 s.toNatClampNeg).1, (wdT T.1 T.2.2.1 T.2.2.2.1 s.toNatClampNeg).2, T.2.2.2.2), nI (wdT T.1 T.2.2.1 T.2.2.2.1 s.toNatClampNeg).1)
  else (T, mI 1)
def sp_X11_widens : zSp := fun av w K => match av with
  | [.ref o, .int s] => o = 0 ∧ zG w.1 ∧ ∃ T, CT w.2.1 w.2.2 T ∧ ∀ wi' wl', FrC w.2.1 w.2.2 wi' wl' → CT wi' wl' (st_widens T s).1 → K (some (.int (st_widens T s).2)) (w.1, wi', wl')
  | _ => False
def rm_X11_widens : Room := { frames := 6, cells := 0, slots := 0, locals := 143 }
def M_X11_widens : zM := (k_X11_widens, f_X11, [(128, 0, 0, 1, 0, 0, sp_X11_isTable), (270, 4, 5, 2, 0, 0, sp_X6_rows), (251, 0, 0, 1, 0, 0, sp_X11_behind), (279, 0, 0, 1, 0, 0, sp_X11_ahead), (282, 0, 0, 2, 0, 0, sp_X10_widen)], ([], [], []), [], [], 1, false, (false, 0, fun _ => 0), (0, 0, []))
theorem ca_X11_widens_0 (l : Launch) : z_cok l RX11 (headSpec (.code yX11_widens cX11_widens 2 (some .int) :: zTT) rm_X11_widens).room (false, 0, fun _ => 0) (128, 0, 0, 1, 0, 0, sp_X11_isTable) := z_ca0 (c_X11_isTable l) mb_X11_isTable wt_505 wt_506 (by decide)
theorem ca_X11_widens_1 (l : Launch) : z_cok l RX11 (headSpec (.code yX11_widens cX11_widens 2 (some .int) :: zTT) rm_X11_widens).room (false, 0, fun _ => 0) (270, 4, 5, 2, 0, 0, sp_X6_rows) := z_ca4 (c_X6_rows l) mb_X6_rows ⟨_, rfl, rfl⟩ wt_651 wt_378 wt_379 (by decide)
theorem ca_X11_widens_2 (l : Launch) : z_cok l RX11 (headSpec (.code yX11_widens cX11_widens 2 (some .int) :: zTT) rm_X11_widens).room (false, 0, fun _ => 0) (251, 0, 0, 1, 0, 0, sp_X11_behind) := z_ca0 (c_X11_behind l) mb_X11_behind wt_641 wt_386 (by decide)
theorem ca_X11_widens_3 (l : Launch) : z_cok l RX11 (headSpec (.code yX11_widens cX11_widens 2 (some .int) :: zTT) rm_X11_widens).room (false, 0, fun _ => 0) (279, 0, 0, 1, 0, 0, sp_X11_ahead) := z_ca0 (c_X11_ahead l) mb_X11_ahead wt_677 wt_656 (by decide)
theorem ca_X11_widens_4 (l : Launch) : z_cok l RX11 (headSpec (.code yX11_widens cX11_widens 2 (some .int) :: zTT) rm_X11_widens).room (false, 0, fun _ => 0) (282, 0, 0, 2, 0, 0, sp_X10_widen) := z_ca0 (c_X10_widen l) mb_X10_widen wt_678 wt_679 (by decide)
theorem O_X11_widens (l : Launch) : z_OK l RX11 cX11_widens (headSpec (.code yX11_widens cX11_widens 2 (some .int) :: zTT) rm_X11_widens).room M_X11_widens := ⟨ok_X11_widens, fo_X11, List.forall_mem_cons.mpr ⟨ca_X11_widens_0 l, List.forall_mem_cons.mpr ⟨ca_X11_widens_1 l, List.forall_mem_cons.mpr ⟨ca_X11_widens_2 l, List.forall_mem_cons.mpr ⟨ca_X11_widens_3 l, List.forall_mem_cons.mpr ⟨ca_X11_widens_4 l, fun _ h => absurd h List.not_mem_nil⟩⟩⟩⟩⟩, fun _ h => absurd h List.not_mem_nil, fun _ h => absurd h List.not_mem_nil, fun _ h => absurd h List.not_mem_nil, fun _ h => absurd h List.not_mem_nil, rfl, rfl, fun _ h => absurd h List.not_mem_nil⟩
theorem c_X11_widens (l : Launch) : z_CS l yX11_widens cX11_widens 2 (some .int) rm_X11_widens sp_X11_widens := by
  refine z_meth (by decide) (Or.inr (Or.inl ⟨rfl, rfl⟩)) (fun h => by cases h) rfl (O_X11_widens l) ?_
  intro av w K h
  match av, h with
  | [.ref o, .int s], h =>
    obtain ⟨rfl, ⟨r, hG⟩, ⟨d, q, c, A, kp, tx, tl⟩, hC, h⟩ := h
    obtain ⟨G, wi, wl⟩ := w
    subst hG
    try dsimp only at h hC
    refine ⟨Nat.le_of_ble_eq_true rfl, fun Jm hs => hs 400 0 _ _ _ _ _ ?_⟩
    unfold st_widens at h
    dsimp only at h
    have hS := ct_S hC
    have h40 := cs_40 hS
    conv => whnf
    repeat ((first | refine ⟨zG_of _, ?_⟩ | refine ⟨trivial, ?_⟩ | refine ⟨rfl, ?_⟩ | refine ⟨fun hc => absurd hc (by decide), fun _ => ?_⟩ | refine ⟨fun _ => ?_, fun hc => absurd (by decide) hc⟩ | refine ⟨fun _ => ?_, fun hc => absurd hc (by decide)⟩ | refine ⟨fun hc => absurd (by decide) hc, fun _ => ?_⟩); conv => whnf)
    try dsimp only
    rw [isT_B, bI_0, Classical.not_not]
    refine ⟨fun h1 => ?_, fun h1 => ?_⟩
    · rw [if_pos h1] at h
      obtain ⟨s', hs', rfl⟩ := idB_N h1 (by omega)
      rw [nc_N (by omega)] at h
      have hd := cs_d hS
      have ds := hd s' hs'
      have dn := hd _ (nx_lt s')
      have dp := hd _ (pv_lt s')
      have dm : d (nx s') * d (pv s') ≤ 3 * 3 := Nat.mul_le_mul dn.2 dp.2
      have pf := pv_facts s' hs'
      conv => whnf
      repeat ((first | refine ⟨zG_of _, ?_⟩ | refine ⟨trivial, ?_⟩ | refine ⟨rfl, ?_⟩ | refine ⟨fun hc => absurd hc (by decide), fun _ => ?_⟩ | refine ⟨fun _ => ?_, fun hc => absurd (by decide) hc⟩ | refine ⟨fun _ => ?_, fun hc => absurd hc (by decide)⟩ | refine ⟨fun hc => absurd (by decide) hc, fun _ => ?_⟩); conv => whnf)
      try dsimp only
      rw [rows_S hS hs', ltN (by omega) (by omega)]
      refine ⟨fun h2 => ?_, fun h2 => ?_⟩
      · rw [if_neg (by omega)] at h
        have b1 := beh_nx hs'
        have b2 := ahd_pv hs'
        have r1 : rowsF wi 6 (nI (nx s')) = nI (d (nx s')) := rows_S hS (nx_lt s')
        have r2 : rowsF wi 6 (nI (pv s')) = nI (d (pv s')) := rows_S hS (pv_lt s')
        conv => whnf
        repeat ((first | refine ⟨zG_of _, ?_⟩ | refine ⟨trivial, ?_⟩ | refine ⟨rfl, ?_⟩ | refine ⟨fun hc => absurd hc (by decide), fun _ => ?_⟩ | refine ⟨fun _ => ?_, fun hc => absurd (by decide) hc⟩ | refine ⟨fun _ => ?_, fun hc => absurd hc (by decide)⟩ | refine ⟨fun hc => absurd (by decide) hc, fun _ => ?_⟩); conv => whnf)
        try dsimp only
        rw [b1, b2, r1, r2, cs_c hS, pk_mul, nI_add, ltN (by omega) (by omega)]
        refine ⟨fun h3 => ?_, fun h3 => ?_⟩
        · rw [if_neg h3] at h
          have hd' : ∀ t, t < 3 → 1 ≤ upD d s' (d s' + 1) t ∧ upD d s' (d s' + 1) t ≤ 3 := fun t ht => by
            unfold upD
            split
            · omega
            · exact hd t ht
          have en := ap_n hd' hs' (c, wdA d A s')
          have e1 : upD d s' (d s' + 1) (nx s') = d (nx s') := if_neg pf.2.2.1
          have e2 : upD d s' (d s' + 1) (pv s') = d (pv s') := if_neg pf.2.1
          rw [e1, e2] at en
          conv => whnf
          repeat ((first | refine ⟨zG_of _, ?_⟩ | refine ⟨trivial, ?_⟩ | refine ⟨rfl, ?_⟩ | refine ⟨fun hc => absurd hc (by decide), fun _ => ?_⟩ | refine ⟨fun _ => ?_, fun hc => absurd (by decide) hc⟩ | refine ⟨fun _ => ?_, fun hc => absurd hc (by decide)⟩ | refine ⟨fun hc => absurd (by decide) hc, fun _ => ?_⟩); conv => whnf)
          try dsimp only
          refine ⟨d, q, c, A, s', hS, rfl, hs', h2, by omega, fun wi1 hF1 hS1 => ?_⟩
          have h := h wi1 wl (fun y hy => ⟨hF1 y (by omega) (by omega), rfl⟩) (ct_now hC hS1 (apI_z (wdA_z (ct_Z hC) hs') _ (Nat.le_refl _)) (fun y hy => hF1 y (by omega) (by omega)) rfl)
          unfold wdT at h
          rw [← cs_c hS1] at h
          conv => whnf
          repeat ((first | refine ⟨zG_of _, ?_⟩ | refine ⟨trivial, ?_⟩ | refine ⟨rfl, ?_⟩ | refine ⟨fun hc => absurd hc (by decide), fun _ => ?_⟩ | refine ⟨fun _ => ?_, fun hc => absurd (by decide) hc⟩ | refine ⟨fun _ => ?_, fun hc => absurd hc (by decide)⟩ | refine ⟨fun hc => absurd (by decide) hc, fun _ => ?_⟩); conv => whnf)
          try dsimp only
          exact h
        · rw [if_pos h3] at h
          exact ⟨trivial, h wi wl (FrC_refl _ _) hC⟩
      · rw [if_pos (by omega)] at h
        exact ⟨trivial, h wi wl (FrC_refl _ _) hC⟩
    · rw [if_neg h1] at h
      exact ⟨trivial, h wi wl (FrC_refl _ _) hC⟩
theorem rlA_z {d : Nat → Nat} {c : Nat} {A : Nat → Nat → Nat} (h : ZS d c A) : ZS (nxD d) c (rlA A) := fun k hk p hp hp9 => by
  have km := mod3_lt k
  have nm := nx_lt (k % 3)
  refine h (3 * (k / 3) + nx (k % 3)) (by omega) p ?_ hp9
  rw [show (3 * (k / 3) + nx (k % 3)) % 3 = nx (k % 3) by omega]
  exact hp
def st_rolls (T : zT) : zT × Int32 := ((nxD T.1, T.2.1, T.2.2.1, rlA T.2.2.2.1, T.2.2.2.2), nI T.2.2.1)
def sp_X11_rolls : zSp := fun av w K => match av with
  | [.ref o] => o = 0 ∧ zG w.1 ∧ ∃ T, CT w.2.1 w.2.2 T ∧ ∀ wi' wl', FrC w.2.1 w.2.2 wi' wl' → CT wi' wl' (st_rolls T).1 → K (some (.int (st_rolls T).2)) (w.1, wi', wl')
  | _ => False
def rm_X11_rolls : Room := { frames := 3, cells := 0, slots := 0, locals := 67 }
def M_X11_rolls : zM := (k_X11_rolls, f_X11, [(294, 0, 0, 1, 0, 0, sp_X10_roll)], ([], [], []), [], [], 1, false, (false, 0, fun _ => 0), (0, 0, []))
theorem ca_X11_rolls_0 (l : Launch) : z_cok l RX11 (headSpec (.code yX11_rolls cX11_rolls 1 (some .int) :: zTT) rm_X11_rolls).room (false, 0, fun _ => 0) (294, 0, 0, 1, 0, 0, sp_X10_roll) := z_ca0 (c_X10_roll l) mb_X10_roll wt_704 wt_705 (by decide)
theorem O_X11_rolls (l : Launch) : z_OK l RX11 cX11_rolls (headSpec (.code yX11_rolls cX11_rolls 1 (some .int) :: zTT) rm_X11_rolls).room M_X11_rolls := ⟨ok_X11_rolls, fo_X11, List.forall_mem_cons.mpr ⟨ca_X11_rolls_0 l, fun _ h => absurd h List.not_mem_nil⟩, fun _ h => absurd h List.not_mem_nil, fun _ h => absurd h List.not_mem_nil, fun _ h => absurd h List.not_mem_nil, fun _ h => absurd h List.not_mem_nil, rfl, rfl, fun _ h => absurd h List.not_mem_nil⟩
theorem c_X11_rolls (l : Launch) : z_CS l yX11_rolls cX11_rolls 1 (some .int) rm_X11_rolls sp_X11_rolls := by
  refine z_meth (by decide) (Or.inr (Or.inl ⟨rfl, rfl⟩)) (fun h => by cases h) rfl (O_X11_rolls l) ?_
  intro av w K h
  match av, h with
  | [.ref o], h =>
    obtain ⟨rfl, ⟨r, hG⟩, ⟨d, q, c, A, kp, tx, tl⟩, hC, h⟩ := h
    obtain ⟨G, wi, wl⟩ := w
    subst hG
    try dsimp only at h hC
    refine ⟨Nat.le_of_ble_eq_true rfl, fun Jm hs => hs 400 0 _ _ _ _ _ ?_⟩
    unfold st_rolls at h
    dsimp only at h
    conv => whnf
    repeat ((first | refine ⟨zG_of _, ?_⟩ | refine ⟨trivial, ?_⟩ | refine ⟨rfl, ?_⟩ | refine ⟨fun hc => absurd hc (by decide), fun _ => ?_⟩ | refine ⟨fun _ => ?_, fun hc => absurd (by decide) hc⟩ | refine ⟨fun _ => ?_, fun hc => absurd hc (by decide)⟩ | refine ⟨fun hc => absurd (by decide) hc, fun _ => ?_⟩); conv => whnf)
    try dsimp only
    refine ⟨Or.inl rfl, zG_of _, d, q, c, A, ct_S hC, fun wi1 hF1 hS1 => ?_⟩
    have h := h wi1 wl (fun y hy => ⟨hF1 y (by omega) (by omega), rfl⟩) (ct_now hC hS1 (rlA_z (ct_Z hC)) (fun y hy => hF1 y (by omega) (by omega)) rfl)
    rw [← cs_c hS1] at h
    conv => whnf
    repeat ((first | refine ⟨zG_of _, ?_⟩ | refine ⟨trivial, ?_⟩ | refine ⟨rfl, ?_⟩ | refine ⟨fun hc => absurd hc (by decide), fun _ => ?_⟩ | refine ⟨fun _ => ?_, fun hc => absurd (by decide) hc⟩ | refine ⟨fun _ => ?_, fun hc => absurd hc (by decide)⟩ | refine ⟨fun hc => absurd (by decide) hc, fun _ => ?_⟩); conv => whnf)
    try dsimp only
    exact h
theorem trC_z {a y : Nat → Nat} {R C r n : Nat} (hy : zb n y) (hi : ∀ c, c < C → c * R + r < n) : ∀ c, c ≤ C → zb n (trC a R C r y c)
  | 0, _ => hy
  | c + 1, h => zb_set (trC_z hy hi c (by omega)) (hi c (by omega))
theorem trR_z {a : Nat → Nat} {R C n : Nat} (hi : ∀ r c, r < R → c < C → c * R + r < n) : ∀ r, r ≤ R → zb n (trR a R C r)
  | 0, _ => zb_0 _
  | r + 1, h => trC_z (trR_z hi r (by omega)) (fun c hc => hi r c (by omega) hc) C (Nat.le_refl C)
theorem trF_z (a : Nat → Nat) (R C : Nat) : zb (C * R) (trF a R C) := trR_z (fun r c hr hc => by
  have : (c + 1) * R ≤ C * R := Nat.mul_le_mul_right _ hc
  rw [Nat.add_mul, Nat.one_mul] at this
  omega) R (Nat.le_refl R)
theorem mrA_z {d : Nat → Nat} {c : Nat} {A : Nat → Nat → Nat} : ZS (mrD d) c (mrA d A) := fun k hk p hp hp9 => by
  have km := mod3_lt k
  unfold mrA
  refine trF_z _ _ _ p ?_ hp9
  rcases lt3 km with e | e | e <;> rw [e] at hp ⊢ <;> exact hp
def st_mirrors (T : zT) : zT × Int32 := ((mrD T.1, T.2.1, T.2.2.1, mrA T.1 T.2.2.2.1, T.2.2.2.2), nI T.2.2.1)
def sp_X11_mirrors : zSp := fun av w K => match av with
  | [.ref o] => o = 0 ∧ zG w.1 ∧ ∃ T, CT w.2.1 w.2.2 T ∧ ∀ wi' wl', FrC w.2.1 w.2.2 wi' wl' → CT wi' wl' (st_mirrors T).1 → K (some (.int (st_mirrors T).2)) (w.1, wi', wl')
  | _ => False
def rm_X11_mirrors : Room := { frames := 3, cells := 0, slots := 0, locals := 74 }
def M_X11_mirrors : zM := (k_X11_mirrors, f_X11, [(297, 0, 0, 1, 0, 0, sp_X10_mirror)], ([], [], []), [], [], 1, false, (false, 0, fun _ => 0), (0, 0, []))
theorem ca_X11_mirrors_0 (l : Launch) : z_cok l RX11 (headSpec (.code yX11_mirrors cX11_mirrors 1 (some .int) :: zTT) rm_X11_mirrors).room (false, 0, fun _ => 0) (297, 0, 0, 1, 0, 0, sp_X10_mirror) := z_ca0 (c_X10_mirror l) mb_X10_mirror wt_711 wt_712 (by decide)
theorem O_X11_mirrors (l : Launch) : z_OK l RX11 cX11_mirrors (headSpec (.code yX11_mirrors cX11_mirrors 1 (some .int) :: zTT) rm_X11_mirrors).room M_X11_mirrors := ⟨ok_X11_mirrors, fo_X11, List.forall_mem_cons.mpr ⟨ca_X11_mirrors_0 l, fun _ h => absurd h List.not_mem_nil⟩, fun _ h => absurd h List.not_mem_nil, fun _ h => absurd h List.not_mem_nil, fun _ h => absurd h List.not_mem_nil, fun _ h => absurd h List.not_mem_nil, rfl, rfl, fun _ h => absurd h List.not_mem_nil⟩
theorem c_X11_mirrors (l : Launch) : z_CS l yX11_mirrors cX11_mirrors 1 (some .int) rm_X11_mirrors sp_X11_mirrors := by
  refine z_meth (by decide) (Or.inr (Or.inl ⟨rfl, rfl⟩)) (fun h => by cases h) rfl (O_X11_mirrors l) ?_
  intro av w K h
  match av, h with
  | [.ref o], h =>
    obtain ⟨rfl, ⟨r, hG⟩, ⟨d, q, c, A, kp, tx, tl⟩, hC, h⟩ := h
    obtain ⟨G, wi, wl⟩ := w
    subst hG
    try dsimp only at h hC
    refine ⟨Nat.le_of_ble_eq_true rfl, fun Jm hs => hs 400 0 _ _ _ _ _ ?_⟩
    unfold st_mirrors at h
    dsimp only at h
    conv => whnf
    repeat ((first | refine ⟨zG_of _, ?_⟩ | refine ⟨trivial, ?_⟩ | refine ⟨rfl, ?_⟩ | refine ⟨fun hc => absurd hc (by decide), fun _ => ?_⟩ | refine ⟨fun _ => ?_, fun hc => absurd (by decide) hc⟩ | refine ⟨fun _ => ?_, fun hc => absurd hc (by decide)⟩ | refine ⟨fun hc => absurd (by decide) hc, fun _ => ?_⟩); conv => whnf)
    try dsimp only
    refine ⟨Or.inl rfl, zG_of _, d, q, c, A, ct_S hC, fun wi1 hF1 hS1 => ?_⟩
    have h := h wi1 wl (fun y hy => ⟨hF1 y (by omega) (by omega), rfl⟩) (ct_now hC hS1 mrA_z (fun y hy => hF1 y (by omega) (by omega)) rfl)
    rw [← cs_c hS1] at h
    conv => whnf
    repeat ((first | refine ⟨zG_of _, ?_⟩ | refine ⟨trivial, ?_⟩ | refine ⟨rfl, ?_⟩ | refine ⟨fun hc => absurd hc (by decide), fun _ => ?_⟩ | refine ⟨fun _ => ?_, fun hc => absurd (by decide) hc⟩ | refine ⟨fun _ => ?_, fun hc => absurd hc (by decide)⟩ | refine ⟨fun hc => absurd (by decide) hc, fun _ => ?_⟩); conv => whnf)
    try dsimp only
    exact h
theorem atA_z {q n fr to f : Nat} {a : Nat → Nat} (h : zb n a) (ht : to < n) : zb n (atA q a fr to f) := zb_set h ht
theorem shR_z {q n m fr to f C : Nat} {a : Nat → Nat} (h : zb m a) (hi : ∀ c, c < C → to * n + c < m) : ∀ c, c ≤ C → zb m (shR q a n fr to f c)
  | 0, _ => h
  | c + 1, hc => atA_z (shR_z h hi c (by omega)) (hi c (by omega))
theorem shC_z {q n m fr to f C : Nat} {a : Nat → Nat} (h : zb m a) (hi : ∀ c, c < C → c * n + fr < m) : ∀ c, c ≤ C → zb m (shC q a n fr to f c)
  | 0, _ => h
  | c + 1, hc => atA_z (shC_z h hi c (by omega)) (hi c (by omega))
theorem exA_z {n u v : Nat} {a : Nat → Nat} (h : zb n a) (hu : u < n) (hv : v < n) : zb n (exA a u v) := zb_set (zb_set h hu) hv
theorem swR_z {n m fr to C : Nat} {a : Nat → Nat} (h : zb m a) (h1 : ∀ c, c < C → fr * n + c < m) (h2 : ∀ c, c < C → to * n + c < m) : ∀ c, c ≤ C → zb m (swR a n fr to c)
  | 0, _ => h
  | c + 1, hc => exA_z (swR_z h h1 h2 c (by omega)) (h1 c (by omega)) (h2 c (by omega))
theorem swC_z {n m fr to C : Nat} {a : Nat → Nat} (h : zb m a) (h1 : ∀ c, c < C → c * n + fr < m) (h2 : ∀ c, c < C → c * n + to < m) : ∀ c, c ≤ C → zb m (swC a n fr to c)
  | 0, _ => h
  | c + 1, hc => exA_z (swC_z h h1 h2 c (by omega)) (h1 c (by omega)) (h2 c (by omega))
theorem zs_k {d : Nat → Nat} {c k : Nat} {A : Nat → Nat → Nat} (h : ZS d c A) (hk : k < 3 * c) : zb (pl d (k % 3)) (A k) := fun p h1 h2 => h k hk p h1 h2
theorem pl_pv (d : Nat → Nat) {s : Nat} (hs : s < 3) : pl d (pv s) = d (pv s) * d s := by
  have := (pv_facts s hs).1
  show d (pv s) * d (nx (pv s)) = _
  rw [this]
theorem shA_z {d : Nat → Nat} {q c s fr to f : Nat} {A : Nat → Nat → Nat} (h : ZS d c A) (hs : s < 3) (hfr : fr < d s) (hto : to < d s) : ZS d c (shA d q A s fr to f) := fun k hk p hp hp9 => by
  have z0 := zs_k h hk
  unfold shA
  split
  · rename_i e
    rw [e] at hp z0
    exact shR_z z0 (fun c hc => idx_pl (d := d) (u := s) (v := nx s) hto hc) _ (Nat.le_refl _) p hp hp9
  · split
    · rename_i e
      rw [e, pl_pv d hs] at hp z0
      exact shC_z z0 (fun c hc => idx_pl (d := d) (u := pv s) (v := s) hc hfr) _ (Nat.le_refl _) p hp hp9
    · exact z0 p hp hp9
theorem swA_z {d : Nat → Nat} {c s fr to : Nat} {A : Nat → Nat → Nat} (h : ZS d c A) (hs : s < 3) (hfr : fr < d s) (hto : to < d s) : ZS d c (swA d A s fr to) := fun k hk p hp hp9 => by
  have z0 := zs_k h hk
  unfold swA
  split
  · rename_i e
    rw [e] at hp z0
    exact swR_z z0 (fun c hc => idx_pl (d := d) (u := s) (v := nx s) hfr hc) (fun c hc => idx_pl (d := d) (u := s) (v := nx s) hto hc) _ (Nat.le_refl _) p hp hp9
  · split
    · rename_i e
      rw [e, pl_pv d hs] at hp z0
      exact swC_z z0 (fun c hc => idx_pl (d := d) (u := pv s) (v := s) hc hfr) (fun c hc => idx_pl (d := d) (u := pv s) (v := s) hc hto) _ (Nat.le_refl _) p hp hp9
    · exact z0 p hp hp9
def st_shears (T : zT) (s u v f : Int32) : zT × Int32 :=
  if (idB 3 s && (lnB (T.1 s.toNatClampNeg) u && (lnB (T.1 s.toNatClampNeg) v && (!decide (u = v) && fcB T.2.1 f)))) = true then
    ((T.1, T.2.1, T.2.2.1, shA T.1 T.2.1 T.2.2.2.1 s.toNatClampNeg (u.toNatClampNeg - 1) (v.toNatClampNeg - 1) f.toNatClampNeg, T.2.2.2.2), nI (fb_ct (otB (shA T.1 T.2.1 T.2.2.2.1 s.toNatClampNeg (u.toNatClampNeg - 1) (v.toNatClampNeg - 1) f.toNatClampNeg) T.2.2.2.1) (3 * T.2.2.1)))
  else (T, mI 1)
def sp_X11_shears : zSp := fun av w K => match av with
  | [.ref o, .int s, .int u, .int v, .int f] => o = 0 ∧ zG w.1 ∧ ∃ T, CT w.2.1 w.2.2 T ∧ ∀ wi' wl', FrC w.2.1 w.2.2 wi' wl' → CT wi' wl' (st_shears T s u v f).1 → K (some (.int (st_shears T s u v f).2)) (w.1, wi', wl')
  | _ => False
def rm_X11_shears : Room := { frames := 4, cells := 0, slots := 0, locals := 100 }
def M_X11_shears : zM := (k_X11_shears, f_X11, [(128, 0, 0, 1, 0, 0, sp_X11_isTable), (267, 4, 9, 3, 0, 0, sp_X11_isLine), (257, 4, 9, 2, 0, 0, sp_X11_isFactor), (107, 4, 5, 2, 0, 0, sp_X6_takeAll), (300, 0, 0, 5, 0, 0, sp_X10_shear), (304, 4, 5, 2, 0, 0, sp_X6_othersThan)], ([], [], []), [], [], 1, false, (false, 0, fun _ => 0), (0, 0, []))
theorem ca_X11_shears_0 (l : Launch) : z_cok l RX11 (headSpec (.code yX11_shears cX11_shears 5 (some .int) :: zTT) rm_X11_shears).room (false, 0, fun _ => 0) (128, 0, 0, 1, 0, 0, sp_X11_isTable) := z_ca0 (c_X11_isTable l) mb_X11_isTable wt_505 wt_506 (by decide)
theorem ca_X11_shears_1 (l : Launch) : z_cok l RX11 (headSpec (.code yX11_shears cX11_shears 5 (some .int) :: zTT) rm_X11_shears).room (false, 0, fun _ => 0) (267, 4, 9, 3, 0, 0, sp_X11_isLine) := z_ca4 (c_X11_isLine l) mb_X11_isLine ⟨_, rfl, rfl⟩ wt_647 wt_649 wt_13 (by decide)
theorem ca_X11_shears_2 (l : Launch) : z_cok l RX11 (headSpec (.code yX11_shears cX11_shears 5 (some .int) :: zTT) rm_X11_shears).room (false, 0, fun _ => 0) (257, 4, 9, 2, 0, 0, sp_X11_isFactor) := z_ca4 (c_X11_isFactor l) mb_X11_isFactor ⟨_, rfl, rfl⟩ wt_721 wt_723 wt_14 (by decide)
theorem ca_X11_shears_3 (l : Launch) : z_cok l RX11 (headSpec (.code yX11_shears cX11_shears 5 (some .int) :: zTT) rm_X11_shears).room (false, 0, fun _ => 0) (107, 4, 5, 2, 0, 0, sp_X6_takeAll) := z_ca4 (c_X6_takeAll l) mb_X6_takeAll ⟨_, rfl, rfl⟩ wt_725 wt_726 wt_727 (by decide)
theorem ca_X11_shears_4 (l : Launch) : z_cok l RX11 (headSpec (.code yX11_shears cX11_shears 5 (some .int) :: zTT) rm_X11_shears).room (false, 0, fun _ => 0) (300, 0, 0, 5, 0, 0, sp_X10_shear) := z_ca0 (c_X10_shear l) mb_X10_shear wt_730 wt_731 (by decide)
theorem ca_X11_shears_5 (l : Launch) : z_cok l RX11 (headSpec (.code yX11_shears cX11_shears 5 (some .int) :: zTT) rm_X11_shears).room (false, 0, fun _ => 0) (304, 4, 5, 2, 0, 0, sp_X6_othersThan) := z_ca4 (c_X6_othersThan l) mb_X6_othersThan ⟨_, rfl, rfl⟩ wt_737 wt_738 wt_739 (by decide)
theorem O_X11_shears (l : Launch) : z_OK l RX11 cX11_shears (headSpec (.code yX11_shears cX11_shears 5 (some .int) :: zTT) rm_X11_shears).room M_X11_shears := ⟨ok_X11_shears, fo_X11, List.forall_mem_cons.mpr ⟨ca_X11_shears_0 l, List.forall_mem_cons.mpr ⟨ca_X11_shears_1 l, List.forall_mem_cons.mpr ⟨ca_X11_shears_2 l, List.forall_mem_cons.mpr ⟨ca_X11_shears_3 l, List.forall_mem_cons.mpr ⟨ca_X11_shears_4 l, List.forall_mem_cons.mpr ⟨ca_X11_shears_5 l, fun _ h => absurd h List.not_mem_nil⟩⟩⟩⟩⟩⟩, fun _ h => absurd h List.not_mem_nil, fun _ h => absurd h List.not_mem_nil, fun _ h => absurd h List.not_mem_nil, fun _ h => absurd h List.not_mem_nil, rfl, rfl, fun _ h => absurd h List.not_mem_nil⟩
theorem c_X11_shears (l : Launch) : z_CS l yX11_shears cX11_shears 5 (some .int) rm_X11_shears sp_X11_shears := by
  refine z_meth (by decide) (Or.inr (Or.inl ⟨rfl, rfl⟩)) (fun h => by cases h) rfl (O_X11_shears l) ?_
  intro av w K h
  match av, h with
  | [.ref o, .int s, .int u, .int v, .int f], h =>
    obtain ⟨rfl, ⟨r, hG⟩, ⟨d, q, c, A, kp, tx, tl⟩, hC, h⟩ := h
    obtain ⟨G, wi, wl⟩ := w
    subst hG
    try dsimp only at h hC
    refine ⟨Nat.le_of_ble_eq_true rfl, fun Jm hs => hs 400 0 _ _ _ _ _ ?_⟩
    unfold st_shears at h
    dsimp only at h
    have hS := ct_S hC
    have h40 := cs_40 hS
    have q23 := cs_q23 hS
    have no : ¬ (idB 3 s && (lnB (d s.toNatClampNeg) u && (lnB (d s.toNatClampNeg) v && (!decide (u = v) && fcB q f)))) = true → K (some (.int (mI 1))) (GC ++ r, wi, wl) := fun hn => by
      rw [if_neg hn] at h
      exact h wi wl (FrC_refl _ _) hC
    conv => whnf
    repeat ((first | refine ⟨zG_of _, ?_⟩ | refine ⟨trivial, ?_⟩ | refine ⟨rfl, ?_⟩ | refine ⟨fun hc => absurd hc (by decide), fun _ => ?_⟩ | refine ⟨fun _ => ?_, fun hc => absurd (by decide) hc⟩ | refine ⟨fun _ => ?_, fun hc => absurd hc (by decide)⟩ | refine ⟨fun hc => absurd (by decide) hc, fun _ => ?_⟩); conv => whnf)
    try dsimp only
    rw [isT_B, bI_0]
    refine ⟨fun h1 => ⟨trivial, no (by simp [h1])⟩, fun h1 => ?_⟩
    have h1 := Classical.not_not.mp h1
    obtain ⟨s', hs', rfl⟩ := idB_N h1 (by omega)
    rw [nc_N (by omega)] at h no
    have ds := cs_d hS s' hs'
    conv => whnf
    repeat ((first | refine ⟨zG_of _, ?_⟩ | refine ⟨trivial, ?_⟩ | refine ⟨rfl, ?_⟩ | refine ⟨fun hc => absurd hc (by decide), fun _ => ?_⟩ | refine ⟨fun _ => ?_, fun hc => absurd (by decide) hc⟩ | refine ⟨fun _ => ?_, fun hc => absurd hc (by decide)⟩ | refine ⟨fun hc => absurd (by decide) hc, fun _ => ?_⟩); conv => whnf)
    try dsimp only
    rw [isL_S hS hs', bI_0]
    refine ⟨fun h2 => ⟨trivial, no (by simp [h2])⟩, fun h2 => ?_⟩
    conv => whnf
    repeat ((first | refine ⟨zG_of _, ?_⟩ | refine ⟨trivial, ?_⟩ | refine ⟨rfl, ?_⟩ | refine ⟨fun hc => absurd hc (by decide), fun _ => ?_⟩ | refine ⟨fun _ => ?_, fun hc => absurd (by decide) hc⟩ | refine ⟨fun _ => ?_, fun hc => absurd hc (by decide)⟩ | refine ⟨fun hc => absurd (by decide) hc, fun _ => ?_⟩); conv => whnf)
    try dsimp only
    rw [isL_S hS hs', bI_0]
    refine ⟨fun h3 => ⟨trivial, no (by simp [h3])⟩, fun h3 => ?_⟩
    conv => whnf
    repeat ((first | refine ⟨zG_of _, ?_⟩ | refine ⟨trivial, ?_⟩ | refine ⟨rfl, ?_⟩ | refine ⟨fun hc => absurd hc (by decide), fun _ => ?_⟩ | refine ⟨fun _ => ?_, fun hc => absurd (by decide) hc⟩ | refine ⟨fun _ => ?_, fun hc => absurd hc (by decide)⟩ | refine ⟨fun hc => absurd (by decide) hc, fun _ => ?_⟩); conv => whnf)
    try dsimp only
    refine ⟨fun h4 => ⟨trivial, no (by simp [h4])⟩, fun h4 => ?_⟩
    conv => whnf
    repeat ((first | refine ⟨zG_of _, ?_⟩ | refine ⟨trivial, ?_⟩ | refine ⟨rfl, ?_⟩ | refine ⟨fun hc => absurd hc (by decide), fun _ => ?_⟩ | refine ⟨fun _ => ?_, fun hc => absurd (by decide) hc⟩ | refine ⟨fun _ => ?_, fun hc => absurd hc (by decide)⟩ | refine ⟨fun hc => absurd (by decide) hc, fun _ => ?_⟩); conv => whnf)
    try dsimp only
    rw [isF_S hS, bI_0, Classical.not_not]
    refine ⟨fun h5 => ?_, fun h5 => ⟨trivial, no (by simp [h5])⟩⟩
    have h2 := Classical.not_not.mp h2
    have h3 := Classical.not_not.mp h3
    rw [if_pos (by simp [h1, h2, h3, h4, h5])] at h
    obtain ⟨u', u1, u2, rfl⟩ := rgB_N h2 (by decide) (by omega)
    obtain ⟨v', v1, v2, rfl⟩ := rgB_N h3 (by decide) (by omega)
    obtain ⟨f', f1, f2, rfl⟩ := fcB_N h5 (by omega)
    rw [nc_N (by omega), nc_N (by omega), nc_N (by omega)] at h
    conv => whnf
    repeat ((first | refine ⟨zG_of _, ?_⟩ | refine ⟨trivial, ?_⟩ | refine ⟨rfl, ?_⟩ | refine ⟨fun hc => absurd hc (by decide), fun _ => ?_⟩ | refine ⟨fun _ => ?_, fun hc => absurd (by decide) hc⟩ | refine ⟨fun _ => ?_, fun hc => absurd hc (by decide)⟩ | refine ⟨fun hc => absurd (by decide) hc, fun _ => ?_⟩); conv => whnf)
    try dsimp only
    refine ⟨by simp, zG_of _, d, q, c, A, hS, fun wi1 hF1 hS1 => ?_⟩
    have hS6 : CS wi1 6 d q c A := cs_Fr hS hF1 (by decide)
    conv => whnf
    repeat ((first | refine ⟨zG_of _, ?_⟩ | refine ⟨trivial, ?_⟩ | refine ⟨rfl, ?_⟩ | refine ⟨fun hc => absurd hc (by decide), fun _ => ?_⟩ | refine ⟨fun _ => ?_, fun hc => absurd (by decide) hc⟩ | refine ⟨fun _ => ?_, fun hc => absurd hc (by decide)⟩ | refine ⟨fun hc => absurd (by decide) hc, fun _ => ?_⟩); conv => whnf)
    try dsimp only
    refine ⟨d, q, c, A, s', u' - 1, v' - 1, f', hS6, rfl, hs', pk_sub u1, by omega, pk_sub v1, by omega, rfl, f1, f2, fun wi2 hF2 hS2 => ?_⟩
    have hS12 : CS wi2 12 d q c A := cs_Fr hS1 hF2 (by decide)
    conv => whnf
    repeat ((first | refine ⟨zG_of _, ?_⟩ | refine ⟨trivial, ?_⟩ | refine ⟨rfl, ?_⟩ | refine ⟨fun hc => absurd hc (by decide), fun _ => ?_⟩ | refine ⟨fun _ => ?_, fun hc => absurd (by decide) hc⟩ | refine ⟨fun _ => ?_, fun hc => absurd hc (by decide)⟩ | refine ⟨fun hc => absurd (by decide) hc, fun _ => ?_⟩); conv => whnf)
    try dsimp only
    refine ⟨d, q, c, _, d, A, hS2, hS12, ?_⟩
    conv => whnf
    repeat ((first | refine ⟨zG_of _, ?_⟩ | refine ⟨trivial, ?_⟩ | refine ⟨rfl, ?_⟩ | refine ⟨fun hc => absurd hc (by decide), fun _ => ?_⟩ | refine ⟨fun _ => ?_, fun hc => absurd (by decide) hc⟩ | refine ⟨fun _ => ?_, fun hc => absurd hc (by decide)⟩ | refine ⟨fun hc => absurd (by decide) hc, fun _ => ?_⟩); conv => whnf)
    try dsimp only
    exact h wi2 wl (fun y hy => ⟨by rw [hF2 y (by omega) (by omega), hF1 y (by omega) (by omega)], rfl⟩) (ct_now hC hS2 (shA_z (ct_Z hC) hs' (by omega) (by omega)) (fun y hy => by rw [hF2 y (by omega) (by omega), hF1 y (by omega) (by omega)]) rfl)
def st_swaps (T : zT) (s u v : Int32) : zT × Int32 :=
  if (idB 3 s && (lnB (T.1 s.toNatClampNeg) u && lnB (T.1 s.toNatClampNeg) v)) = true then
    ((T.1, T.2.1, T.2.2.1, swA T.1 T.2.2.2.1 s.toNatClampNeg (u.toNatClampNeg - 1) (v.toNatClampNeg - 1), T.2.2.2.2), nI (fb_ct (otB (swA T.1 T.2.2.2.1 s.toNatClampNeg (u.toNatClampNeg - 1) (v.toNatClampNeg - 1)) T.2.2.2.1) (3 * T.2.2.1)))
  else (T, mI 1)
def sp_X11_swaps : zSp := fun av w K => match av with
  | [.ref o, .int s, .int u, .int v] => o = 0 ∧ zG w.1 ∧ ∃ T, CT w.2.1 w.2.2 T ∧ ∀ wi' wl', FrC w.2.1 w.2.2 wi' wl' → CT wi' wl' (st_swaps T s u v).1 → K (some (.int (st_swaps T s u v).2)) (w.1, wi', wl')
  | _ => False
