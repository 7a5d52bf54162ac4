/-! the reference: rows, columns exchanged -/
theorem dm_div {n u : Nat} (h : u < n) (x : Nat) : (x * n + u) / n = x := by
  rw [Nat.mul_comm, Nat.mul_add_div (by omega), Nat.div_eq_of_lt h, Nat.add_zero]
theorem dm_mod {n u : Nat} (h : u < n) (x : Nat) : (x * n + u) % n = u := by
  rw [Nat.mul_comm, Nat.mul_add_mod, Nat.mod_eq_of_lt h]
theorem dm_inj {n x u y w : Nat} (hu : u < n) (hw : w < n) : x * n + u = y * n + w ↔ x = y ∧ u = w := by
  constructor
  · intro h
    have h1 := congrArg (· / n) h
    have h2 := congrArg (· % n) h
    rw [dm_div hu, dm_div hw] at h1
    rw [dm_mod hu, dm_mod hw] at h2
    exact ⟨h1, h2⟩
  · rintro ⟨rfl, rfl⟩
    rfl
theorem dm_eta {n : Nat} (k : Nat) : k / n * n + k % n = k := by
  rw [Nat.mul_comm]
  exact Nat.div_add_mod k n
def exN (x r s : Nat) : Nat := if x = r then s else if x = s then r else x
theorem exN_lt {x r s n : Nat} (hx : x < n) (hr : r < n) (hs : s < n) : exN x r s < n := by
  unfold exN
  split
  · exact hs
  · split
    · exact hr
    · exact hx
theorem exA_at (a : Nat → Nat) (U V p : Nat) : exA a U V p = if p = V then a U else if p = U then a V else a p := rfl
theorem swR_at {a : Nat → Nat} {n fr to x u : Nat} (hu : u < n) : ∀ C, C ≤ n → swR a n fr to C (x * n + u) = if u < C then a (exN x fr to * n + u) else a (x * n + u)
  | 0, _ => by
    rw [if_neg (Nat.not_lt_zero u)]
    rfl
  | C + 1, hC => by
    rw [swR, exA_at]
    by_cases e : u = C
    · subst e
      have ih : ∀ y, swR a n fr to u (y * n + u) = a (y * n + u) := fun y => by
        rw [swR_at hu u (by omega), if_neg (Nat.lt_irrefl u)]
      rw [if_pos (Nat.lt_succ_self u), ih, ih, ih]
      unfold exN
      by_cases e1 : x = to
      · by_cases e2 : x = fr
        · rw [if_pos (by rw [e1]), if_pos e2, ← e1, e2]
        · rw [if_pos (by rw [e1]), if_neg e2, if_pos e1]
      · rw [if_neg (fun z => e1 ((dm_inj hu hu).mp z).1)]
        by_cases e2 : x = fr
        · rw [if_pos (by rw [e2]), if_pos e2]
        · rw [if_neg (fun z => e2 ((dm_inj hu hu).mp z).1), if_neg e2, if_neg e1]
    · have hCn : C < n := by omega
      rw [if_neg (fun z => e ((dm_inj hu hCn).mp z).2), if_neg (fun z => e ((dm_inj hu hCn).mp z).2), swR_at hu C (by omega)]
      by_cases g : u < C
      · rw [if_pos g, if_pos (by omega)]
      · rw [if_neg g, if_neg (by omega)]
theorem swC_at {a : Nat → Nat} {n fr to x u : Nat} (hu : u < n) (hfr : fr < n) (hto : to < n) : ∀ R, swC a n fr to R (x * n + u) = if x < R then a (x * n + exN u fr to) else a (x * n + u)
  | 0 => by
    rw [if_neg (Nat.not_lt_zero x)]
    rfl
  | R + 1 => by
    rw [swC, exA_at]
    by_cases e : x = R
    · subst e
      have ih : ∀ y, y < n → swC a n fr to x (x * n + y) = a (x * n + y) := fun y hy => by
        rw [swC_at hy hfr hto x, if_neg (Nat.lt_irrefl x)]
      rw [if_pos (Nat.lt_succ_self x), ih _ hfr, ih _ hto, ih _ hu]
      unfold exN
      by_cases e1 : u = to
      · by_cases e2 : u = fr
        · rw [if_pos (by rw [e1]), if_pos e2, ← e1, e2]
        · rw [if_pos (by rw [e1]), if_neg e2, if_pos e1]
      · rw [if_neg (fun z => e1 ((dm_inj hu hto).mp z).2)]
        by_cases e2 : u = fr
        · rw [if_pos (by rw [e2]), if_pos e2]
        · rw [if_neg (fun z => e2 ((dm_inj hu hfr).mp z).2), if_neg e2, if_neg e1]
    · rw [if_neg (fun z => e ((dm_inj hu hto).mp z).1), if_neg (fun z => e ((dm_inj hu hfr).mp z).1), swC_at hu hfr hto R]
      by_cases g : x < R
      · rw [if_pos g, if_pos (by omega)]
      · rw [if_neg g, if_neg (by omega)]
theorem mix_0 (A W : Nat → Nat → Nat) (n : Nat) : mixA 0 A W n = A n := by
  funext p
  exact if_neg (Nat.not_lt_zero p)
theorem mix_s (k : Nat) (A W : Nat → Nat → Nat) (n : Nat) : setp (mixA k A W n) k (W n k) = mixA (k + 1) A W n := by
  funext p
  unfold setp mixA
  by_cases e : p = k
  · rw [if_pos e, if_pos (by omega), e]
  · rw [if_neg e]
    by_cases g : p < k
    · rw [if_pos g, if_pos (by omega)]
    · rw [if_neg g, if_neg (by omega)]
theorem z_nn0 {n : Nat} (h1 : 1 ≤ n) (h2 : n < 2 ^ 31) : ¬ nI n = 0 := by
  rw [show (0 : Int32) = nI 0 from rfl, eq0N h2]
  omega
def exI (x r s : Int32) : Int32 := if x = r then s else if x = s then r else x
theorem exI_N {x r s : Nat} (hx : x < 2 ^ 31) (hr : r < 2 ^ 31) (hs : s < 2 ^ 31) : exI (nI x) (nI r) (nI s) = nI (exN x r s) := by
  unfold exI exN
  simp only [nI_eq hx hr, nI_eq hx hs]
  split
  · rfl
  · split <;> rfl
def sp_X12_exchanged : zSp := fun av w K => match av with
  | [.int x, .int r, .int s] => K (some (.int (exI x r s))) w
  | _ => False
def rm_X12_exchanged : Room := { frames := 0, cells := 0, slots := 0, locals := 0 }
def M_X12_exchanged : zM := (k_X12_exchanged, f_X12, [], ([], [], []), [], [], 1, false, (false, 0, fun _ => 0), (0, 0))
theorem O_X12_exchanged (l : Launch) : z_OK l RX12 cX12_exchanged (headSpec (.code yX12_exchanged cX12_exchanged 3 (some .int) :: zTT) rm_X12_exchanged).room M_X12_exchanged := ⟨ok_X12_exchanged, fo_X12, fun _ h => absurd h List.not_mem_nil, fun _ h => absurd h List.not_mem_nil, fun _ h => absurd h List.not_mem_nil, fun _ h => absurd h List.not_mem_nil, fun _ h => absurd h List.not_mem_nil, rfl, rfl⟩
theorem c_X12_exchanged (l : Launch) : z_CS l yX12_exchanged cX12_exchanged 3 (some .int) rm_X12_exchanged sp_X12_exchanged := by
  refine z_meth (by decide) (Or.inr (Or.inl ⟨rfl, rfl⟩)) (fun h => by cases h) rfl (O_X12_exchanged l) ?_
  intro av w K h
  match av, h with
  | [.int x, .int r, .int s], h =>
    refine ⟨Nat.le_of_ble_eq_true rfl, fun Jm hs => hs 400 0 _ _ _ _ _ ?_⟩
    have h : K (some (.int (exI x r s))) w := h
    unfold exI at h
    conv => whnf
    repeat ((first | refine ⟨zH_of _, ?_⟩ | refine ⟨trivial, ?_⟩ | refine ⟨rfl, ?_⟩ | refine ⟨fun hc => absurd hc (by decide), fun _ => ?_⟩ | refine ⟨fun _ => ?_, fun hc => absurd (by decide) hc⟩ | refine ⟨fun _ => ?_, fun hc => absurd hc (by decide)⟩ | refine ⟨fun hc => absurd (by decide) hc, fun _ => ?_⟩); conv => whnf)
    try dsimp only
    refine ⟨fun hc => ?_, fun hc => ?_⟩
    · rw [if_neg hc] at h
      conv => whnf
      repeat ((first | refine ⟨zH_of _, ?_⟩ | refine ⟨trivial, ?_⟩ | refine ⟨rfl, ?_⟩ | refine ⟨fun hc => absurd hc (by decide), fun _ => ?_⟩ | refine ⟨fun _ => ?_, fun hc => absurd (by decide) hc⟩ | refine ⟨fun _ => ?_, fun hc => absurd hc (by decide)⟩ | refine ⟨fun hc => absurd (by decide) hc, fun _ => ?_⟩); conv => whnf)
      try dsimp only
      refine ⟨fun hc2 => ?_, fun hc2 => ?_⟩
      · rw [if_neg hc2] at h
        exact ⟨trivial, h⟩
      · rw [if_pos hc2] at h
        exact ⟨trivial, h⟩
    · rw [if_pos hc] at h
      exact ⟨trivial, h⟩
def sp_X12_swaps : zSp := fun av w K => match av with
  | [.ref o, .int s, .int u, .int v] => o = 45 ∧ zH w.1 ∧ ∃ T, MT w.2.1 w.2.2 T ∧ ZT T ∧ ∀ wi' wl', FrM w.2.1 w.2.2 wi' wl' → MT wi' wl' (st_swaps T s u v).1 → K (some (.int (st_swaps T s u v).2)) (w.1, wi', wl')
  | _ => False
def rm_X12_swaps : Room := { frames := 2, cells := 0, slots := 0, locals := 47 }
def M_X12_swaps : zM := (k_X12_swaps, f_X12, [(170, 0, 0, 1, 0, 0, sp_X12_isTable), (80, 0, 0, 3, 0, 0, sp_X12_in), (96, 4, 10, 2, 0, 0, sp_X12_placesOf), (88, 4, 10, 2, 0, 0, sp_X12_columnsOf), (107, 0, 0, 3, 0, 0, sp_X12_at), (303, 0, 0, 3, 0, 0, sp_X12_exchanged), (306, 4, 10, 1, 0, 0, sp_X12_othersThan)], ([], [], []), [], [(49, [true, true, true, true, true, false, false, false]), (91, [true, true, true, true, true, true, false, false]), (103, [true, true, true, true, true, true, true, false]), (176, [true, true, true, true, true, true, true, false])], 1, false, (false, 0, fun _ => 0), (0, 0))
theorem ca_X12_swaps_0 (l : Launch) : z_cok l RX12 (headSpec (.code yX12_swaps cX12_swaps 8 (some .int) :: zTT) rm_X12_swaps).room (170, 0, 0, 1, 0, 0, sp_X12_isTable) := z_ca0 (c_X12_isTable l) mb_X12_isTable wt_1338 wt_1339 (by decide)
theorem ca_X12_swaps_1 (l : Launch) : z_cok l RX12 (headSpec (.code yX12_swaps cX12_swaps 8 (some .int) :: zTT) rm_X12_swaps).room (80, 0, 0, 3, 0, 0, sp_X12_in) := z_ca0 (c_X12_in l) mb_X12_in wt_1253 wt_1254 (by decide)
theorem ca_X12_swaps_2 (l : Launch) : z_cok l RX12 (headSpec (.code yX12_swaps cX12_swaps 8 (some .int) :: zTT) rm_X12_swaps).room (96, 4, 10, 2, 0, 0, sp_X12_placesOf) := z_ca4 (c_X12_placesOf l) mb_X12_placesOf ⟨_, rfl, rfl⟩ wt_1349 wt_1351 wt_45 (by decide)
theorem ca_X12_swaps_3 (l : Launch) : z_cok l RX12 (headSpec (.code yX12_swaps cX12_swaps 8 (some .int) :: zTT) rm_X12_swaps).room (88, 4, 10, 2, 0, 0, sp_X12_columnsOf) := z_ca4 (c_X12_columnsOf l) mb_X12_columnsOf ⟨_, rfl, rfl⟩ wt_1306 wt_1308 wt_39 (by decide)
theorem ca_X12_swaps_4 (l : Launch) : z_cok l RX12 (headSpec (.code yX12_swaps cX12_swaps 8 (some .int) :: zTT) rm_X12_swaps).room (107, 0, 0, 3, 0, 0, sp_X12_at) := z_ca0 (c_X12_at l) mb_X12_at wt_1136 wt_1137 (by decide)
theorem ca_X12_swaps_5 (l : Launch) : z_cok l RX12 (headSpec (.code yX12_swaps cX12_swaps 8 (some .int) :: zTT) rm_X12_swaps).room (303, 0, 0, 3, 0, 0, sp_X12_exchanged) := z_ca0 (c_X12_exchanged l) mb_X12_exchanged wt_1554 wt_1555 (by decide)
theorem ca_X12_swaps_6 (l : Launch) : z_cok l RX12 (headSpec (.code yX12_swaps cX12_swaps 8 (some .int) :: zTT) rm_X12_swaps).room (306, 4, 10, 1, 0, 0, sp_X12_othersThan) := z_ca4 (c_X12_othersThan l) mb_X12_othersThan ⟨_, rfl, rfl⟩ wt_1557 wt_1559 wt_75 (by decide)
theorem O_X12_swaps (l : Launch) : z_OK l RX12 cX12_swaps (headSpec (.code yX12_swaps cX12_swaps 8 (some .int) :: zTT) rm_X12_swaps).room M_X12_swaps := ⟨ok_X12_swaps, fo_X12, List.forall_mem_cons.mpr ⟨ca_X12_swaps_0 l, List.forall_mem_cons.mpr ⟨ca_X12_swaps_1 l, List.forall_mem_cons.mpr ⟨ca_X12_swaps_2 l, List.forall_mem_cons.mpr ⟨ca_X12_swaps_3 l, List.forall_mem_cons.mpr ⟨ca_X12_swaps_4 l, List.forall_mem_cons.mpr ⟨ca_X12_swaps_5 l, List.forall_mem_cons.mpr ⟨ca_X12_swaps_6 l, fun _ h => absurd h List.not_mem_nil⟩⟩⟩⟩⟩⟩⟩, fun _ h => absurd h List.not_mem_nil, fun _ h => absurd h List.not_mem_nil, fun _ h => absurd h List.not_mem_nil, fun _ h => absurd h List.not_mem_nil, rfl, rfl⟩
theorem c_X12_swaps (l : Launch) : z_CS l yX12_swaps cX12_swaps 8 (some .int) rm_X12_swaps sp_X12_swaps := by
  refine z_meth (by decide) (Or.inr (Or.inl ⟨rfl, rfl⟩)) (fun h => by cases h) rfl (O_X12_swaps l) ?_
  intro av w K h
  match av, h with
  | [.ref o, .int s, .int u, .int v], h =>
    obtain ⟨rfl, ⟨r, hG⟩, ⟨d, q, c, A, kp, tx, tl⟩, hC, hZ, h⟩ := h
    obtain ⟨G, wi, wl⟩ := w
    subst hG
    try dsimp only at h hC hZ
    have hC := mt_fld (i := 11) (v := nI 0) hC (by decide)
    have hF0 : FrM wi wl (z_up wi 45 11 (nI 0)) wl := fm_fld
    refine ⟨Nat.le_of_ble_eq_true rfl, fun Jm hs => ?_⟩
    unfold st_swaps at h
    dsimp only at h
    have q23 := ms_q23 (mt_S hC)
    refine hs 400 0 _ _ _ _ _ ?_
    conv => whnf
    repeat ((first | refine ⟨zH_of _, ?_⟩ | refine ⟨trivial, ?_⟩ | refine ⟨rfl, ?_⟩ | refine ⟨fun hc => absurd hc (by decide), fun _ => ?_⟩ | refine ⟨fun _ => ?_, fun hc => absurd (by decide) hc⟩ | refine ⟨fun _ => ?_, fun hc => absurd hc (by decide)⟩ | refine ⟨fun hc => absurd (by decide) hc, fun _ => ?_⟩); conv => whnf)
    try dsimp only
    generalize z_up wi 45 11 (nI 0) = wi0 at *
    have hS := mt_S hC
    have h40 := ms_40 hS
    have no : ¬ (idB 3 s && (lnB (d s.toNatClampNeg) u && lnB (d s.toNatClampNeg) v)) = true → K (some (.int (mI 1))) (GC ++ (GM ++ r), wi0, wl) := fun hn => by
      rw [if_neg hn] at h
      exact h wi0 wl hF0 hC
    rw [bI_0]
    refine ⟨fun h1 => ⟨trivial, no (by simp [h1])⟩, fun h1 => ?_⟩
    have h1 := Classical.not_not.mp h1
    obtain ⟨s', hs', rfl⟩ := idB_N h1 (by omega)
    rw [nc_N (by omega)] at h no
    have ds := ms_hd hS s' hs'
    conv => whnf
    repeat ((first | refine ⟨zH_of _, ?_⟩ | refine ⟨trivial, ?_⟩ | refine ⟨rfl, ?_⟩ | refine ⟨fun hc => absurd hc (by decide), fun _ => ?_⟩ | refine ⟨fun _ => ?_, fun hc => absurd (by decide) hc⟩ | refine ⟨fun _ => ?_, fun hc => absurd hc (by decide)⟩ | refine ⟨fun hc => absurd (by decide) hc, fun _ => ?_⟩); conv => whnf)
    try dsimp only
    refine ⟨vp_in_nI (show s' < 3 from hs') (by decide), ?_⟩
    conv => whnf
    repeat ((first | refine ⟨zH_of _, ?_⟩ | refine ⟨trivial, ?_⟩ | refine ⟨rfl, ?_⟩ | refine ⟨fun hc => absurd hc (by decide), fun _ => ?_⟩ | refine ⟨fun _ => ?_, fun hc => absurd (by decide) hc⟩ | refine ⟨fun _ => ?_, fun hc => absurd hc (by decide)⟩ | refine ⟨fun hc => absurd (by decide) hc, fun _ => ?_⟩); conv => whnf)
    try dsimp only
    rw [nI_clamp (n := s') (by omega), ms_d hS s' hs', nI_l (by omega), in_rg (by decide) (by omega), bI_0]
    refine ⟨fun h2 => ?_, fun h2 => ?_⟩
    · have h2 : ¬ lnB (d s') u = true := h2
      exact ⟨trivial, no (by simp [h2])⟩
    have h2 : lnB (d s') u = true := Classical.not_not.mp h2
    conv => whnf
    repeat ((first | refine ⟨zH_of _, ?_⟩ | refine ⟨trivial, ?_⟩ | refine ⟨rfl, ?_⟩ | refine ⟨fun hc => absurd hc (by decide), fun _ => ?_⟩ | refine ⟨fun _ => ?_, fun hc => absurd (by decide) hc⟩ | refine ⟨fun _ => ?_, fun hc => absurd hc (by decide)⟩ | refine ⟨fun hc => absurd (by decide) hc, fun _ => ?_⟩); conv => whnf)
    try dsimp only
    refine ⟨vp_in_nI (show s' < 3 from hs') (by decide), ?_⟩
    conv => whnf
    repeat ((first | refine ⟨zH_of _, ?_⟩ | refine ⟨trivial, ?_⟩ | refine ⟨rfl, ?_⟩ | refine ⟨fun hc => absurd hc (by decide), fun _ => ?_⟩ | refine ⟨fun _ => ?_, fun hc => absurd (by decide) hc⟩ | refine ⟨fun _ => ?_, fun hc => absurd hc (by decide)⟩ | refine ⟨fun hc => absurd (by decide) hc, fun _ => ?_⟩); conv => whnf)
    try dsimp only
    rw [nI_clamp (n := s') (by omega), ms_d hS s' hs', nI_l (by omega), in_rg (by decide) (by omega), bI_0, Classical.not_not]
    refine ⟨fun h3 => ?_, fun h3 => ?_⟩
    case refine_2 =>
      have h3 : ¬ lnB (d s') v = true := h3
      exact ⟨trivial, no (by simp [h3])⟩
    have h3 : lnB (d s') v = true := h3
    rw [if_pos (by simp [h1, h2, h3])] at h
    obtain ⟨u', u1, u2, rfl⟩ := rgB_N h2 (by decide) (by omega)
    obtain ⟨v', v1, v2, rfl⟩ := rgB_N h3 (by decide) (by omega)
    rw [nc_N (by omega), nc_N (by omega)] at h
    clear no h1 h2 h3
    have hd := ms_hd hS
    have np := nx_pv hs'
    have pl3 := pv_lt s'
    have n3 := nx_lt s'
    have dn := hd _ n3
    have dp := hd _ pl3
    have hZ1 : ZS d c A := hZ.1
    have hZF := swA_z hZ1 hs' (show u' - 1 < d s' by omega) (show v' - 1 < d s' by omega)
    obtain ⟨F, hFF⟩ : ∃ F, F = swA d A s' (u' - 1) (v' - 1) := ⟨_, rfl⟩
    rw [← hFF] at h hZF
    have Fs : ∀ i k, k < pl d s' → F (3 * i + s') k = A (3 * i + s') (exN (k / d (nx s')) (u' - 1) (v' - 1) * d (nx s') + k % d (nx s')) := fun i k hk => by
      have hm : k % d (nx s') < d (nx s') := Nat.mod_lt _ (by omega)
      rw [hFF]
      unfold swA
      rw [if_pos (by omega)]
      have e := swR_at (a := A (3 * i + s')) (fr := u' - 1) (to := v' - 1) (x := k / d (nx s')) hm (d (nx s')) (Nat.le_refl _)
      rw [dm_eta, if_pos hm] at e
      exact e
    have Fp : ∀ i k, k < pl d (pv s') → F (3 * i + pv s') k = A (3 * i + pv s') (k / d s' * d s' + exN (k % d s') (u' - 1) (v' - 1)) := fun i k hk => by
      have hm : k % d s' < d s' := Nat.mod_lt _ (by omega)
      rw [pl_pv d hs'] at hk
      have hx : k / d s' < d (pv s') := Nat.div_lt_of_lt_mul (by rw [Nat.mul_comm]; exact hk)
      rw [hFF]
      unfold swA
      rw [if_neg (by have := np.2; omega), if_pos (by omega)]
      have e := swC_at (a := A (3 * i + pv s')) (x := k / d s') hm (show u' - 1 < d s' by omega) (show v' - 1 < d s' by omega) (d (pv s'))
      rw [dm_eta, if_pos hx] at e
      exact e
    have F0 : ∀ i u, u < 3 → u ≠ s' → u ≠ pv s' → F (3 * i + u) = A (3 * i + u) := fun i u h1 h2 h3 => by
      rw [hFF]
      unfold swA
      rw [if_neg (by omega), if_neg (by omega)]
    clear hFF
    have fin : ∀ i t, i < c → t < 3 → ∀ p, p < 9 → mixA (pl d t) A F (3 * i + t) p = F (3 * i + t) p := fun i t hi ht p hp => by
      unfold mixA
      split
      · rfl
      · rw [zs_at hZ1 hi ht p (by omega) hp, zs_at hZF hi ht p (by omega) hp]
    have main := up_ind (P := fun i => ∀ wi' : Nat → Nat → Int32, (∀ y, y ≠ 47 → y ≠ 57 → wi' y = wi0 y) → RW wi' 57 (27 * c) A → MS wi' d q c (prT F A i) → Jm 91 [some (.ref 45), some (.int (nI s')), some (.int (nI u')), some (.int (nI v')), some (.int (nI (pv s'))), some (.int (nI i)), none, none] [] (GC ++ (GM ++ r), wi', wl) 0 0) c (fun i hi ih => by
      intro wi' hF hB hS'
      refine hs 400 91 _ _ _ _ _ ?_
      conv => whnf
      repeat ((first | refine ⟨zH_of _, ?_⟩ | refine ⟨trivial, ?_⟩ | refine ⟨rfl, ?_⟩ | refine ⟨fun hc => absurd hc (by decide), fun _ => ?_⟩ | refine ⟨fun _ => ?_, fun hc => absurd (by decide) hc⟩ | refine ⟨fun _ => ?_, fun hc => absurd hc (by decide)⟩ | refine ⟨fun hc => absurd (by decide) hc, fun _ => ?_⟩); conv => whnf)
      try dsimp only
      rw [ms_c hS', ltN (by omega) (by omega)]
      refine ⟨fun hc => ?_, fun hc => ?_⟩
      · obtain rfl : i = c := by omega
        have hS2 : MS wi' d q i F := ms_congr hS' (fun k hk p _ => by rw [prT_end hk])
        conv => whnf
        repeat ((first | refine ⟨zH_of _, ?_⟩ | refine ⟨trivial, ?_⟩ | refine ⟨rfl, ?_⟩ | refine ⟨fun hc => absurd hc (by decide), fun _ => ?_⟩ | refine ⟨fun _ => ?_, fun hc => absurd (by decide) hc⟩ | refine ⟨fun _ => ?_, fun hc => absurd hc (by decide)⟩ | refine ⟨fun hc => absurd (by decide) hc, fun _ => ?_⟩); conv => whnf)
        try dsimp only
        refine ⟨d, q, i, F, A, hS2, hB, ms_A hS, ?_⟩
        conv => whnf
        repeat ((first | refine ⟨zH_of _, ?_⟩ | refine ⟨trivial, ?_⟩ | refine ⟨rfl, ?_⟩ | refine ⟨fun hc => absurd hc (by decide), fun _ => ?_⟩ | refine ⟨fun _ => ?_, fun hc => absurd (by decide) hc⟩ | refine ⟨fun _ => ?_, fun hc => absurd hc (by decide)⟩ | refine ⟨fun hc => absurd (by decide) hc, fun _ => ?_⟩); conv => whnf)
        try dsimp only
        exact h wi' wl (FrM_trans hF0 (fun y hy => ⟨hF y (by omega) (by omega), rfl⟩)) (mt_now hC hS2 (fun i hi => by rw [hF 45 (by decide) (by decide)]) (fun y hy => hF y (by omega) (by omega)) rfl)
      · have ih := ih hc
        have second := up_ind (P := fun k => ∀ wi' : Nat → Nat → Int32, (∀ y, y ≠ 47 → y ≠ 57 → wi' y = wi0 y) → RW wi' 57 (27 * c) A → MS wi' d q c (upA (upA (prT F A i) (3 * i + s') (F (3 * i + s'))) (3 * i + pv s') (mixA k A F (3 * i + pv s'))) → Jm 176 [some (.ref 45), some (.int (nI s')), some (.int (nI u')), some (.int (nI v')), some (.int (nI (pv s'))), some (.int (nI i)), some (.int (nI k)), none] [] (GC ++ (GM ++ r), wi', wl) 0 0) (pl d (pv s')) (fun k hk ihk => by
          intro wi' hF hB hS'
          have p9 := pl_le hd pl3
          refine hs 400 176 _ _ _ _ _ ?_
          conv => whnf
          repeat ((first | refine ⟨zH_of _, ?_⟩ | refine ⟨trivial, ?_⟩ | refine ⟨rfl, ?_⟩ | refine ⟨fun hc => absurd hc (by decide), fun _ => ?_⟩ | refine ⟨fun _ => ?_, fun hc => absurd (by decide) hc⟩ | refine ⟨fun _ => ?_, fun hc => absurd hc (by decide)⟩ | refine ⟨fun hc => absurd (by decide) hc, fun _ => ?_⟩); conv => whnf)
          try dsimp only
          refine ⟨pv s', rfl, pl3, ?_⟩
          rw [mpl hS' pl3]
          conv => whnf
          repeat ((first | refine ⟨zH_of _, ?_⟩ | refine ⟨trivial, ?_⟩ | refine ⟨rfl, ?_⟩ | refine ⟨fun hc => absurd hc (by decide), fun _ => ?_⟩ | refine ⟨fun _ => ?_, fun hc => absurd (by decide) hc⟩ | refine ⟨fun _ => ?_, fun hc => absurd hc (by decide)⟩ | refine ⟨fun hc => absurd (by decide) hc, fun _ => ?_⟩); conv => whnf)
          try dsimp only
          rw [ltN (by omega) (by omega)]
          refine ⟨fun hc2 => ?_, fun hc2 => ?_⟩
          · obtain hkn : k = pl d (pv s') := by omega
            rw [hkn] at hS'
            have hS2 := ms_congr hS' (B := prT F A (i + 1)) (fun m hm p hp => by
              rw [← prT_up2 F A i s' (pv s') hs' pl3 (F0 i)]
              unfold upA
              split
              · exact fin i (pv s') hc pl3 p hp
              · rfl)
            conv => whnf
            repeat ((first | refine ⟨zH_of _, ?_⟩ | refine ⟨trivial, ?_⟩ | refine ⟨rfl, ?_⟩ | refine ⟨fun hc => absurd hc (by decide), fun _ => ?_⟩ | refine ⟨fun _ => ?_, fun hc => absurd (by decide) hc⟩ | refine ⟨fun _ => ?_, fun hc => absurd hc (by decide)⟩ | refine ⟨fun hc => absurd (by decide) hc, fun _ => ?_⟩); conv => whnf)
            try dsimp only
            rw [nI_add]
            exact ih wi' hF hB hS2
          · have ihk := ihk hc2
            have e0 : wi' 46 (nx (pv s')) = nI (d s') := by rw [ms_d hS' _ (nx_lt _), np.1]
            have hk2 := hc2
            rw [pl_pv d hs'] at hk2
            have hm : k % d s' < d s' := Nat.mod_lt _ (by omega)
            have hx : k / d s' < d (pv s') := Nat.div_lt_of_lt_mul (by rw [Nat.mul_comm]; exact hk2)
            have x9 : k / d s' ≤ k := Nat.div_le_self _ _
            have fk := Fp i k hc2
            have ex := exN_lt (x := k % d s') (r := u' - 1) (s := v' - 1) hm (by omega) (by omega)
            have i9 := idx9 dp.2 ds.2 hx ex
            have fq : F (3 * i + pv s') k < q := by rw [fk]; exact ms_A hS _ (by omega) _ i9
            have hS2 := ms_put hS' hc pl3 (show k < 9 by omega) fq
            rw [upA_up, upA_at, mix_s] at hS2
            conv => whnf
            repeat ((first | refine ⟨zH_of _, ?_⟩ | refine ⟨trivial, ?_⟩ | refine ⟨rfl, ?_⟩ | refine ⟨fun hc => absurd hc (by decide), fun _ => ?_⟩ | refine ⟨fun _ => ?_, fun hc => absurd (by decide) hc⟩ | refine ⟨fun _ => ?_, fun hc => absurd hc (by decide)⟩ | refine ⟨fun hc => absurd (by decide) hc, fun _ => ?_⟩); conv => whnf)
            try dsimp only
            refine ⟨pv s', rfl, pl3, ?_⟩
            rw [e0]
            conv => whnf
            repeat ((first | refine ⟨zH_of _, ?_⟩ | refine ⟨trivial, ?_⟩ | refine ⟨rfl, ?_⟩ | refine ⟨fun hc => absurd hc (by decide), fun _ => ?_⟩ | refine ⟨fun _ => ?_, fun hc => absurd (by decide) hc⟩ | refine ⟨fun _ => ?_, fun hc => absurd hc (by decide)⟩ | refine ⟨fun hc => absurd (by decide) hc, fun _ => ?_⟩); conv => whnf)
            try dsimp only
            refine ⟨z_nn0 (by omega) (by omega), ?_⟩
            conv => whnf
            repeat ((first | refine ⟨zH_of _, ?_⟩ | refine ⟨trivial, ?_⟩ | refine ⟨rfl, ?_⟩ | refine ⟨fun hc => absurd hc (by decide), fun _ => ?_⟩ | refine ⟨fun _ => ?_, fun hc => absurd (by decide) hc⟩ | refine ⟨fun _ => ?_, fun hc => absurd hc (by decide)⟩ | refine ⟨fun hc => absurd (by decide) hc, fun _ => ?_⟩); conv => whnf)
            try dsimp only
            refine ⟨z_nn0 (by omega) (by omega), ?_⟩
            rw [pk_div (by omega) (by omega) (by omega), z_remN (by omega) (by omega) (by omega)]
            conv => whnf
            repeat ((first | refine ⟨zH_of _, ?_⟩ | refine ⟨trivial, ?_⟩ | refine ⟨rfl, ?_⟩ | refine ⟨fun hc => absurd hc (by decide), fun _ => ?_⟩ | refine ⟨fun _ => ?_, fun hc => absurd (by decide) hc⟩ | refine ⟨fun _ => ?_, fun hc => absurd hc (by decide)⟩ | refine ⟨fun hc => absurd (by decide) hc, fun _ => ?_⟩); conv => whnf)
            try dsimp only
            rw [pk_sub u1, pk_sub v1, exI_N (by omega) (by omega) (by omega), pk_mul, nI_add, at_N, at_N]
            refine ⟨vp_in_nI (show 27 * i + 9 * pv s' + (k / d s' * d s' + exN (k % d s') (u' - 1) (v' - 1)) < 1080 by omega) (by decide), ?_⟩
            conv => whnf
            repeat ((first | refine ⟨zH_of _, ?_⟩ | refine ⟨trivial, ?_⟩ | refine ⟨rfl, ?_⟩ | refine ⟨fun hc => absurd hc (by decide), fun _ => ?_⟩ | refine ⟨fun _ => ?_, fun hc => absurd (by decide) hc⟩ | refine ⟨fun _ => ?_, fun hc => absurd hc (by decide)⟩ | refine ⟨fun hc => absurd (by decide) hc, fun _ => ?_⟩); conv => whnf)
            try dsimp only
            refine ⟨vp_in_nI (show 27 * i + 9 * pv s' + k < 1080 by omega) (by decide), ?_⟩
            conv => whnf
            repeat ((first | refine ⟨zH_of _, ?_⟩ | refine ⟨trivial, ?_⟩ | refine ⟨rfl, ?_⟩ | refine ⟨fun hc => absurd hc (by decide), fun _ => ?_⟩ | refine ⟨fun _ => ?_, fun hc => absurd (by decide) hc⟩ | refine ⟨fun _ => ?_, fun hc => absurd hc (by decide)⟩ | refine ⟨fun hc => absurd (by decide) hc, fun _ => ?_⟩); conv => whnf)
            try dsimp only
            rw [nI_clamp (n := 27 * i + 9 * pv s' + (k / d s' * d s' + exN (k % d s') (u' - 1) (v' - 1))) (by omega), nI_clamp (n := 27 * i + 9 * pv s' + k) (by omega), rw_ra hB hc pl3 _ i9, ← fk, nI_add]
            refine ihk _ (fun y g1 g2 => by rw [z_up_ne g1, hF y g1 g2]) (fun j hj => ?_) hS2
            rw [z_up_ne (by decide)]
            exact hB j hj)
        have first := up_ind (P := fun k => ∀ wi' : Nat → Nat → Int32, (∀ y, y ≠ 47 → y ≠ 57 → wi' y = wi0 y) → RW wi' 57 (27 * c) A → MS wi' d q c (upA (prT F A i) (3 * i + s') (mixA k A F (3 * i + s'))) → Jm 103 [some (.ref 45), some (.int (nI s')), some (.int (nI u')), some (.int (nI v')), some (.int (nI (pv s'))), some (.int (nI i)), some (.int (nI k)), none] [] (GC ++ (GM ++ r), wi', wl) 0 0) (pl d s') (fun k hk ihk => by
          intro wi' hF hB hS'
          have p9 := pl_le hd hs'
          refine hs 400 103 _ _ _ _ _ ?_
          conv => whnf
          repeat ((first | refine ⟨zH_of _, ?_⟩ | refine ⟨trivial, ?_⟩ | refine ⟨rfl, ?_⟩ | refine ⟨fun hc => absurd hc (by decide), fun _ => ?_⟩ | refine ⟨fun _ => ?_, fun hc => absurd (by decide) hc⟩ | refine ⟨fun _ => ?_, fun hc => absurd hc (by decide)⟩ | refine ⟨fun hc => absurd (by decide) hc, fun _ => ?_⟩); conv => whnf)
          try dsimp only
          refine ⟨s', rfl, hs', ?_⟩
          rw [mpl hS' hs']
          conv => whnf
          repeat ((first | refine ⟨zH_of _, ?_⟩ | refine ⟨trivial, ?_⟩ | refine ⟨rfl, ?_⟩ | refine ⟨fun hc => absurd hc (by decide), fun _ => ?_⟩ | refine ⟨fun _ => ?_, fun hc => absurd (by decide) hc⟩ | refine ⟨fun _ => ?_, fun hc => absurd hc (by decide)⟩ | refine ⟨fun hc => absurd (by decide) hc, fun _ => ?_⟩); conv => whnf)
          try dsimp only
          rw [ltN (by omega) (by omega)]
          refine ⟨fun hc2 => ?_, fun hc2 => ?_⟩
          · obtain hkn : k = pl d s' := by omega
            rw [hkn] at hS'
            have hS2 := ms_congr hS' (B := upA (upA (prT F A i) (3 * i + s') (F (3 * i + s'))) (3 * i + pv s') (mixA 0 A F (3 * i + pv s'))) (fun m hm p hp => by
              rw [mix_0]
              unfold upA
              by_cases g1 : m = 3 * i + pv s'
              · rw [if_pos g1, if_neg (by have := np.2; omega), g1, prT_ge (by omega)]
              · rw [if_neg g1]
                split
                · exact fin i s' hc hs' p hp
                · rfl)
            conv => whnf
            repeat ((first | refine ⟨zH_of _, ?_⟩ | refine ⟨trivial, ?_⟩ | refine ⟨rfl, ?_⟩ | refine ⟨fun hc => absurd hc (by decide), fun _ => ?_⟩ | refine ⟨fun _ => ?_, fun hc => absurd (by decide) hc⟩ | refine ⟨fun _ => ?_, fun hc => absurd hc (by decide)⟩ | refine ⟨fun hc => absurd (by decide) hc, fun _ => ?_⟩); conv => whnf)
            try dsimp only
            exact second 0 (Nat.zero_le _) wi' hF hB hS2
          · have ihk := ihk hc2
            have e0 : wi' 46 (nx s') = nI (d (nx s')) := ms_d hS' _ n3
            have hk2 : k < d s' * d (nx s') := hc2
            have hm : k % d (nx s') < d (nx s') := Nat.mod_lt _ (by omega)
            have hx : k / d (nx s') < d s' := Nat.div_lt_of_lt_mul (by rw [Nat.mul_comm]; exact hk2)
            have x9 : k / d (nx s') ≤ k := Nat.div_le_self _ _
            have fk := Fs i k hc2
            have ex := exN_lt (x := k / d (nx s')) (r := u' - 1) (s := v' - 1) hx (by omega) (by omega)
            have i9 := idx9 ds.2 dn.2 ex hm
            have fq : F (3 * i + s') k < q := by rw [fk]; exact ms_A hS _ (by omega) _ i9
            have hS2 := ms_put hS' hc hs' (show k < 9 by omega) fq
            rw [upA_up, upA_at, mix_s] at hS2
            conv => whnf
            repeat ((first | refine ⟨zH_of _, ?_⟩ | refine ⟨trivial, ?_⟩ | refine ⟨rfl, ?_⟩ | refine ⟨fun hc => absurd hc (by decide), fun _ => ?_⟩ | refine ⟨fun _ => ?_, fun hc => absurd (by decide) hc⟩ | refine ⟨fun _ => ?_, fun hc => absurd hc (by decide)⟩ | refine ⟨fun hc => absurd (by decide) hc, fun _ => ?_⟩); conv => whnf)
            try dsimp only
            refine ⟨s', rfl, hs', ?_⟩
            rw [e0]
            conv => whnf
            repeat ((first | refine ⟨zH_of _, ?_⟩ | refine ⟨trivial, ?_⟩ | refine ⟨rfl, ?_⟩ | refine ⟨fun hc => absurd hc (by decide), fun _ => ?_⟩ | refine ⟨fun _ => ?_, fun hc => absurd (by decide) hc⟩ | refine ⟨fun _ => ?_, fun hc => absurd hc (by decide)⟩ | refine ⟨fun hc => absurd (by decide) hc, fun _ => ?_⟩); conv => whnf)
            try dsimp only
            refine ⟨z_nn0 (by omega) (by omega), ?_⟩
            rw [pk_div (by omega) (by omega) (by omega)]
            conv => whnf
            repeat ((first | refine ⟨zH_of _, ?_⟩ | refine ⟨trivial, ?_⟩ | refine ⟨rfl, ?_⟩ | refine ⟨fun hc => absurd hc (by decide), fun _ => ?_⟩ | refine ⟨fun _ => ?_, fun hc => absurd (by decide) hc⟩ | refine ⟨fun _ => ?_, fun hc => absurd hc (by decide)⟩ | refine ⟨fun hc => absurd (by decide) hc, fun _ => ?_⟩); conv => whnf)
            try dsimp only
            rw [pk_sub u1, pk_sub v1, exI_N (by omega) (by omega) (by omega)]
            conv => whnf
            repeat ((first | refine ⟨zH_of _, ?_⟩ | refine ⟨trivial, ?_⟩ | refine ⟨rfl, ?_⟩ | refine ⟨fun hc => absurd hc (by decide), fun _ => ?_⟩ | refine ⟨fun _ => ?_, fun hc => absurd (by decide) hc⟩ | refine ⟨fun _ => ?_, fun hc => absurd hc (by decide)⟩ | refine ⟨fun hc => absurd (by decide) hc, fun _ => ?_⟩); conv => whnf)
            try dsimp only
            refine ⟨z_nn0 (by omega) (by omega), ?_⟩
            rw [z_remN (by omega) (by omega) (by omega), pk_mul]
            conv => whnf
            repeat ((first | refine ⟨zH_of _, ?_⟩ | refine ⟨trivial, ?_⟩ | refine ⟨rfl, ?_⟩ | refine ⟨fun hc => absurd hc (by decide), fun _ => ?_⟩ | refine ⟨fun _ => ?_, fun hc => absurd (by decide) hc⟩ | refine ⟨fun _ => ?_, fun hc => absurd hc (by decide)⟩ | refine ⟨fun hc => absurd (by decide) hc, fun _ => ?_⟩); conv => whnf)
            try dsimp only
            rw [nI_add, at_N, at_N]
            refine ⟨vp_in_nI (show 27 * i + 9 * s' + (exN (k / d (nx s')) (u' - 1) (v' - 1) * d (nx s') + k % d (nx s')) < 1080 by omega) (by decide), ?_⟩
            conv => whnf
            repeat ((first | refine ⟨zH_of _, ?_⟩ | refine ⟨trivial, ?_⟩ | refine ⟨rfl, ?_⟩ | refine ⟨fun hc => absurd hc (by decide), fun _ => ?_⟩ | refine ⟨fun _ => ?_, fun hc => absurd (by decide) hc⟩ | refine ⟨fun _ => ?_, fun hc => absurd hc (by decide)⟩ | refine ⟨fun hc => absurd (by decide) hc, fun _ => ?_⟩); conv => whnf)
            try dsimp only
            refine ⟨vp_in_nI (show 27 * i + 9 * s' + k < 1080 by omega) (by decide), ?_⟩
            conv => whnf
            repeat ((first | refine ⟨zH_of _, ?_⟩ | refine ⟨trivial, ?_⟩ | refine ⟨rfl, ?_⟩ | refine ⟨fun hc => absurd hc (by decide), fun _ => ?_⟩ | refine ⟨fun _ => ?_, fun hc => absurd (by decide) hc⟩ | refine ⟨fun _ => ?_, fun hc => absurd hc (by decide)⟩ | refine ⟨fun hc => absurd (by decide) hc, fun _ => ?_⟩); conv => whnf)
            try dsimp only
            rw [nI_clamp (n := 27 * i + 9 * s' + (exN (k / d (nx s')) (u' - 1) (v' - 1) * d (nx s') + k % d (nx s'))) (by omega), nI_clamp (n := 27 * i + 9 * s' + k) (by omega), rw_ra hB hc hs' _ i9, ← fk, nI_add]
            refine ihk _ (fun y g1 g2 => by rw [z_up_ne g1, hF y g1 g2]) (fun j hj => ?_) hS2
            rw [z_up_ne (by decide)]
            exact hB j hj)
        conv => whnf
        repeat ((first | refine ⟨zH_of _, ?_⟩ | refine ⟨trivial, ?_⟩ | refine ⟨rfl, ?_⟩ | refine ⟨fun hc => absurd hc (by decide), fun _ => ?_⟩ | refine ⟨fun _ => ?_, fun hc => absurd (by decide) hc⟩ | refine ⟨fun _ => ?_, fun hc => absurd hc (by decide)⟩ | refine ⟨fun hc => absurd (by decide) hc, fun _ => ?_⟩); conv => whnf)
        try dsimp only
        refine first 0 (Nat.zero_le _) wi' hF hB ?_
        rw [mix_0, show A (3 * i + s') = prT F A i (3 * i + s') from (prT_ge (by omega)).symm, upA_self]
        exact hS')
    have copy := up_ind (P := fun k => ∀ wi' : Nat → Nat → Int32, (∀ y, y ≠ 57 → wi' y = wi0 y) → RW wi' 57 k A → Jm 49 [some (.ref 45), some (.int (nI s')), some (.int (nI u')), some (.int (nI v')), some (.int (nI k)), none, none, none] [] (GC ++ (GM ++ r), wi', wl) 0 0) (27 * c) (fun k hk ih => by
      intro wi' hF hR
      have e2 : wi' 45 2 = nI c := by rw [hF 45 (by decide)]; exact ms_c hS
      refine hs 400 49 _ _ _ _ _ ?_
      conv => whnf
      repeat ((first | refine ⟨zH_of _, ?_⟩ | refine ⟨trivial, ?_⟩ | refine ⟨rfl, ?_⟩ | refine ⟨fun hc => absurd hc (by decide), fun _ => ?_⟩ | refine ⟨fun _ => ?_, fun hc => absurd (by decide) hc⟩ | refine ⟨fun _ => ?_, fun hc => absurd hc (by decide)⟩ | refine ⟨fun hc => absurd (by decide) hc, fun _ => ?_⟩); conv => whnf)
      try dsimp only
      rw [e2, pk_mul, ltN (by omega) (by omega)]
      refine ⟨fun hc => ?_, fun hc => ?_⟩
      · obtain rfl : k = 27 * c := by omega
        conv => whnf
        repeat ((first | refine ⟨zH_of _, ?_⟩ | refine ⟨trivial, ?_⟩ | refine ⟨rfl, ?_⟩ | refine ⟨fun hc => absurd hc (by decide), fun _ => ?_⟩ | refine ⟨fun _ => ?_, fun hc => absurd (by decide) hc⟩ | refine ⟨fun _ => ?_, fun hc => absurd hc (by decide)⟩ | refine ⟨fun hc => absurd (by decide) hc, fun _ => ?_⟩); conv => whnf)
        try dsimp only
        refine ⟨n30, ?_⟩
        rw [rem3b hs']
        conv => whnf
        repeat ((first | refine ⟨zH_of _, ?_⟩ | refine ⟨trivial, ?_⟩ | refine ⟨rfl, ?_⟩ | refine ⟨fun hc => absurd hc (by decide), fun _ => ?_⟩ | refine ⟨fun _ => ?_, fun hc => absurd (by decide) hc⟩ | refine ⟨fun _ => ?_, fun hc => absurd hc (by decide)⟩ | refine ⟨fun hc => absurd (by decide) hc, fun _ => ?_⟩); conv => whnf)
        try dsimp only
        refine main 0 (Nat.zero_le _) wi' (fun y _ g => hF y g) hR ?_
        rw [prT_0]
        exact ms_fr hS (hF 46 (by decide)) (by rw [hF 45 (by decide)]) (by rw [hF 45 (by decide)]) (hF 47 (by decide))
      · have ih := ih hc
        conv => whnf
        repeat ((first | refine ⟨zH_of _, ?_⟩ | refine ⟨trivial, ?_⟩ | refine ⟨rfl, ?_⟩ | refine ⟨fun hc => absurd hc (by decide), fun _ => ?_⟩ | refine ⟨fun _ => ?_, fun hc => absurd (by decide) hc⟩ | refine ⟨fun _ => ?_, fun hc => absurd hc (by decide)⟩ | refine ⟨fun hc => absurd (by decide) hc, fun _ => ?_⟩); conv => whnf)
        try dsimp only
        refine ⟨vp_in_nI (show k < 1080 by omega) (by decide), ?_⟩
        conv => whnf
        repeat ((first | refine ⟨zH_of _, ?_⟩ | refine ⟨trivial, ?_⟩ | refine ⟨rfl, ?_⟩ | refine ⟨fun hc => absurd hc (by decide), fun _ => ?_⟩ | refine ⟨fun _ => ?_, fun hc => absurd (by decide) hc⟩ | refine ⟨fun _ => ?_, fun hc => absurd hc (by decide)⟩ | refine ⟨fun hc => absurd (by decide) hc, fun _ => ?_⟩); conv => whnf)
        try dsimp only
        refine ⟨vp_in_nI (show k < 1080 by omega) (by decide), ?_⟩
        conv => whnf
        repeat ((first | refine ⟨zH_of _, ?_⟩ | refine ⟨trivial, ?_⟩ | refine ⟨rfl, ?_⟩ | refine ⟨fun hc => absurd hc (by decide), fun _ => ?_⟩ | refine ⟨fun _ => ?_, fun hc => absurd (by decide) hc⟩ | refine ⟨fun _ => ?_, fun hc => absurd hc (by decide)⟩ | refine ⟨fun hc => absurd (by decide) hc, fun _ => ?_⟩); conv => whnf)
        try dsimp only
        rw [nI_clamp (n := k) (by omega), hF 47 (by decide), ms_f hS k hc, nI_add]
        refine ih _ (fun y hy => by rw [z_up_ne hy, hF y hy]) (fun j hj => ?_)
        by_cases e : j = k
        · rw [e, z_up_eq]
        · rw [z_up_nei e]
          exact hR j (by omega))
    conv => whnf
    repeat ((first | refine ⟨zH_of _, ?_⟩ | refine ⟨trivial, ?_⟩ | refine ⟨rfl, ?_⟩ | refine ⟨fun hc => absurd hc (by decide), fun _ => ?_⟩ | refine ⟨fun _ => ?_, fun hc => absurd (by decide) hc⟩ | refine ⟨fun _ => ?_, fun hc => absurd hc (by decide)⟩ | refine ⟨fun hc => absurd (by decide) hc, fun _ => ?_⟩); conv => whnf)
    try dsimp only
    exact copy 0 (Nat.zero_le _) wi0 (fun _ _ => rfl) (fun j hj => absurd hj (Nat.not_lt_zero j))

