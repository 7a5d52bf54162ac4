/-! the reference: narrower, wider -/
theorem dv_lt {k m n : Nat} (h : k < m * n) : k / n < m := Nat.div_lt_of_lt_mul (by rw [Nat.mul_comm]; exact h)
theorem ws_lt {g x n : Nat} (hx : x + 1 < n) : wsN g x < n := by
  unfold wsN
  split <;> omega
theorem rz_nr {d : Nat → Nat} {c s l : Nat} {A : Nat → Nat → Nat} (hd : ∀ t, t < 3 → 1 ≤ d t ∧ d t ≤ 3) (h : ZS d c A) (hs : s < 3) (hl : l < d s) (h2 : 2 ≤ d s) : ∀ k, k < 3 * c → ∀ p, p < 9 → rzA d A s (d s - 1) l k p = nrA d A s l k p := by
  intro k hk p hp
  have pf := pv_facts s hs
  have km := mod3_lt k
  have z0 := h k hk
  have ds := hd s hs
  unfold rzA nrA
  generalize k % 3 = t at *
  by_cases e1 : t = s
  · subst e1
    have dn := hd _ (nx_lt t)
    have ue : upD d t (d t - 1) (nx t) = d (nx t) := if_neg pf.2.2.1
    have pe : pl (upD d t (d t - 1)) t = (d t - 1) * d (nx t) := by
      show upD d t (d t - 1) t * upD d t (d t - 1) (nx t) = _
      rw [ue]
      unfold upD
      rw [if_pos rfl]
    have pe2 : pl d t = (d t - 1) * d (nx t) + d (nx t) := by
      show d t * d (nx t) = _
      rw [← Nat.succ_mul]
      congr 1
      omega
    have r1 : ∀ x, rzr t l t x = wsN l x := fun _ => if_pos rfl
    have r2 : ∀ x, rzr t l (nx t) x = x := fun _ => if_neg pf.2.2.1
    rw [if_pos rfl, ue, pe, r1, r2]
    have hm : p % d (nx t) < d (nx t) := Nat.mod_lt _ (by omega)
    have eta := dm_eta (n := d (nx t)) p
    have gl : l * d (nx t) ≤ (d t - 1) * d (nx t) := Nat.mul_le_mul_right _ (by omega)
    have p9 := (pl_le hd hs).2
    have lt : p / d (nx t) < l ↔ p < l * d (nx t) := by rw [Nat.div_lt_iff_lt_mul (by omega)]
    unfold woR
    by_cases g : p < (d t - 1) * d (nx t)
    · have dv := dv_lt g
      rw [if_pos ⟨g, ws_lt (by omega), hm⟩]
      unfold wsN
      by_cases g2 : p < l * d (nx t)
      · rw [if_pos (lt.mpr g2), if_pos g2, eta]
      · rw [if_neg (fun z => g2 (lt.mp z)), if_neg g2, if_pos (by omega)]
        congr 1
        rw [Nat.add_mul, Nat.one_mul]
        omega
    · rw [if_neg (fun z => g z.1), if_neg (by omega)]
      split
      · exact (z0 _ (by omega) (by assumption)).symm
      · rfl
  · rw [if_neg e1]
    by_cases e2 : t = pv s
    · subst e2
      have dp := hd _ km
      have ue : upD d s (d s - 1) (nx (pv s)) = d s - 1 := by rw [pf.1]; exact if_pos rfl
      have pe : pl (upD d s (d s - 1)) (pv s) = d (pv s) * (d s - 1) := by
        show upD d s (d s - 1) (pv s) * upD d s (d s - 1) (nx (pv s)) = _
        rw [ue]
        unfold upD
        rw [if_neg pf.2.1]
      have r1 : ∀ x, rzr s l (pv s) x = x := fun _ => if_neg pf.2.1
      have r2 : ∀ x, rzr s l (nx (pv s)) x = wsN l x := fun _ => if_pos pf.1
      rw [if_pos rfl, ue, pe, r1, r2, pf.1]
      unfold woC
      have hm : p % (d s - 1) < d s - 1 := Nat.mod_lt _ (by omega)
      by_cases g : p < d (pv s) * (d s - 1)
      · rw [if_pos ⟨g, dv_lt g, ws_lt (by omega)⟩, if_pos g]
        rfl
      · rw [if_neg (fun z => g z.1), if_neg g]
    · rw [if_neg e2]
      have e3 := third_t hs km e1 e2
      have e4 : nx t ≠ s := by rw [e3, pf.2.2.2.1]; exact pf.2.1
      have dn := hd _ (nx_lt t)
      have ue : upD d s (d s - 1) (nx t) = d (nx t) := if_neg e4
      have pe : pl (upD d s (d s - 1)) t = d t * d (nx t) := by
        show upD d s (d s - 1) t * upD d s (d s - 1) (nx t) = _
        rw [ue]
        unfold upD
        rw [if_neg e1]
      have r1 : ∀ x, rzr s l t x = x := fun _ => if_neg e1
      have r2 : ∀ x, rzr s l (nx t) x = x := fun _ => if_neg e4
      rw [ue, pe, r1, r2]
      have hm : p % d (nx t) < d (nx t) := Nat.mod_lt _ (by omega)
      by_cases g : p < d t * d (nx t)
      · rw [if_pos ⟨g, dv_lt g, hm⟩, dm_eta]
      · rw [if_neg (fun z => g z.1)]
        exact (z0 p (by show d t * d (nx t) ≤ p; omega) hp).symm
theorem rz_wd {d : Nat → Nat} {c s : Nat} {A : Nat → Nat → Nat} (hd : ∀ t, t < 3 → 1 ≤ d t ∧ d t ≤ 3) (h : ZS d c A) (hs : s < 3) (h3 : d s < 3) : ∀ k, k < 3 * c → ∀ p, p < 9 → rzA d A s (d s + 1) (d s) k p = wdA d A s k p := by
  intro k hk p hp
  have pf := pv_facts s hs
  have km := mod3_lt k
  have z0 := h k hk
  have ds := hd s hs
  have wl : ∀ x, wsN (d s) x < d s ↔ x < d s := fun x => by
    unfold wsN
    split <;> omega
  have wx : ∀ x, x < d s → wsN (d s) x = x := fun x hx => if_pos hx
  unfold rzA wdA
  generalize k % 3 = t at *
  by_cases e2 : t = pv s
  · subst e2
    have dp := hd _ km
    have ue : upD d s (d s + 1) (nx (pv s)) = d s + 1 := by rw [pf.1]; exact if_pos rfl
    have pe : pl (upD d s (d s + 1)) (pv s) = d (pv s) * (d s + 1) := by
      show upD d s (d s + 1) (pv s) * upD d s (d s + 1) (nx (pv s)) = _
      rw [ue]
      unfold upD
      rw [if_neg pf.2.1]
    have r1 : ∀ x, rzr s (d s) (pv s) x = x := fun _ => if_neg pf.2.1
    have r2 : ∀ x, rzr s (d s) (nx (pv s)) x = wsN (d s) x := fun _ => if_pos pf.1
    rw [if_pos rfl, ue, pe, r1, r2, pf.1]
    unfold wiC
    by_cases g : p < d (pv s) * (d s + 1) ∧ p % (d s + 1) < d s
    · rw [if_pos ⟨g.1, dv_lt g.1, (wl _).mpr g.2⟩, if_pos g, wx _ g.2]
    · rw [if_neg (fun z => g ⟨z.1, (wl _).mp z.2.2⟩), if_neg g]
  · rw [if_neg e2]
    by_cases e1 : t = s
    · subst e1
      have dn := hd _ (nx_lt t)
      have ue : upD d t (d t + 1) (nx t) = d (nx t) := if_neg pf.2.2.1
      have pe : pl (upD d t (d t + 1)) t = (d t + 1) * d (nx t) := by
        show upD d t (d t + 1) t * upD d t (d t + 1) (nx t) = _
        rw [ue]
        unfold upD
        rw [if_pos rfl]
      have r1 : ∀ x, rzr t (d t) t x = wsN (d t) x := fun _ => if_pos rfl
      have r2 : ∀ x, rzr t (d t) (nx t) x = x := fun _ => if_neg pf.2.2.1
      rw [ue, pe, r1, r2]
      have hm : p % d (nx t) < d (nx t) := Nat.mod_lt _ (by omega)
      have lt : p / d (nx t) < d t ↔ p < d t * d (nx t) := by rw [Nat.div_lt_iff_lt_mul (by omega)]
      by_cases g : p < d t * d (nx t)
      · rw [if_pos ⟨by rw [Nat.add_mul, Nat.one_mul]; omega, (wl _).mpr (lt.mpr g), hm⟩, wx _ (lt.mpr g), dm_eta]
      · rw [if_neg (fun z => g (lt.mp ((wl _).mp z.2.1)))]
        exact (z0 p (by show d t * d (nx t) ≤ p; omega) hp).symm
    · have e3 := third_t hs km e1 e2
      have e4 : nx t ≠ s := by rw [e3, pf.2.2.2.1]; exact pf.2.1
      have dn := hd _ (nx_lt t)
      have ue : upD d s (d s + 1) (nx t) = d (nx t) := if_neg e4
      have pe : pl (upD d s (d s + 1)) t = d t * d (nx t) := by
        show upD d s (d s + 1) t * upD d s (d s + 1) (nx t) = _
        rw [ue]
        unfold upD
        rw [if_neg e1]
      have r1 : ∀ x, rzr s (d s) t x = x := fun _ => if_neg e1
      have r2 : ∀ x, rzr s (d s) (nx t) x = x := fun _ => if_neg e4
      rw [ue, pe, r1, r2]
      have hm : p % d (nx t) < d (nx t) := Nat.mod_lt _ (by omega)
      by_cases g : p < d t * d (nx t)
      · rw [if_pos ⟨g, dv_lt g, hm⟩, dm_eta]
      · rw [if_neg (fun z => g z.1)]
        exact (z0 p (by show d t * d (nx t) ≤ p; omega) hp).symm
def sp_X12_narrows : zSp := fun av w K => match av with
  | [.ref o, .int s, .int v] => o = 45 ∧ zH w.1 ∧ ∃ T, MT w.2.1 w.2.2 T ∧ ZT T ∧ ∀ wi' wl', FrM w.2.1 w.2.2 wi' wl' → MT wi' wl' (st_narrows T s v).1 → K (some (.int (st_narrows T s v).2)) (w.1, wi', wl')
  | _ => False
def rm_X12_narrows : Room := { frames := 3, cells := 0, slots := 0, locals := 66 }
def M_X12_narrows : zM := (k_X12_narrows, f_X12, [(170, 0, 0, 1, 0, 0, sp_X12_isTable), (80, 0, 0, 3, 0, 0, sp_X12_in), (280, 4, 10, 4, 0, 0, sp_X12_resizes), (232, 4, 10, 1, 0, 0, sp_X12_zeroMany)], ([], [], []), [], [], 1, false, (false, 0, fun _ => 0), (0, 0))
theorem ca_X12_narrows_0 (l : Launch) : z_cok l RX12 (headSpec (.code yX12_narrows cX12_narrows 3 (some .int) :: zTT) rm_X12_narrows).room (170, 0, 0, 1, 0, 0, sp_X12_isTable) := z_ca0 (c_X12_isTable l) mb_X12_isTable wt_1338 wt_1339 (by decide)
theorem ca_X12_narrows_1 (l : Launch) : z_cok l RX12 (headSpec (.code yX12_narrows cX12_narrows 3 (some .int) :: zTT) rm_X12_narrows).room (80, 0, 0, 3, 0, 0, sp_X12_in) := z_ca0 (c_X12_in l) mb_X12_in wt_1253 wt_1254 (by decide)
theorem ca_X12_narrows_2 (l : Launch) : z_cok l RX12 (headSpec (.code yX12_narrows cX12_narrows 3 (some .int) :: zTT) rm_X12_narrows).room (280, 4, 10, 4, 0, 0, sp_X12_resizes) := z_ca4 (c_X12_resizes l) mb_X12_resizes ⟨_, rfl, rfl⟩ wt_1507 wt_1509 wt_70 (by decide)
theorem ca_X12_narrows_3 (l : Launch) : z_cok l RX12 (headSpec (.code yX12_narrows cX12_narrows 3 (some .int) :: zTT) rm_X12_narrows).room (232, 4, 10, 1, 0, 0, sp_X12_zeroMany) := z_ca4 (c_X12_zeroMany l) mb_X12_zeroMany ⟨_, rfl, rfl⟩ wt_1435 wt_1437 wt_58 (by decide)
theorem O_X12_narrows (l : Launch) : z_OK l RX12 cX12_narrows (headSpec (.code yX12_narrows cX12_narrows 3 (some .int) :: zTT) rm_X12_narrows).room M_X12_narrows := ⟨ok_X12_narrows, fo_X12, List.forall_mem_cons.mpr ⟨ca_X12_narrows_0 l, List.forall_mem_cons.mpr ⟨ca_X12_narrows_1 l, List.forall_mem_cons.mpr ⟨ca_X12_narrows_2 l, List.forall_mem_cons.mpr ⟨ca_X12_narrows_3 l, fun _ h => absurd h List.not_mem_nil⟩⟩⟩⟩, fun _ h => absurd h List.not_mem_nil, fun _ h => absurd h List.not_mem_nil, fun _ h => absurd h List.not_mem_nil, fun _ h => absurd h List.not_mem_nil, rfl, rfl⟩
theorem c_X12_narrows (l : Launch) : z_CS l yX12_narrows cX12_narrows 3 (some .int) rm_X12_narrows sp_X12_narrows := by
  refine z_meth (by decide) (Or.inr (Or.inl ⟨rfl, rfl⟩)) (fun h => by cases h) rfl (O_X12_narrows l) ?_
  intro av w K h
  match av, h with
  | [.ref o, .int s, .int v], h =>
    obtain ⟨rfl, ⟨r, hG⟩, ⟨d, q, c, A, kp, tx, tl⟩, hC, hZ, h⟩ := h
    obtain ⟨G, wi, wl⟩ := w
    subst hG
    try dsimp only at h hC hZ
    have hC := mt_fld (i := 11) (v := nI 0) hC (by decide)
    have hF0 : FrM wi wl (z_up wi 45 11 (nI 0)) wl := fm_fld
    refine ⟨Nat.le_of_ble_eq_true rfl, fun Jm hs => ?_⟩
    unfold st_narrows at h
    dsimp only at h
    refine hs 400 0 _ _ _ _ _ ?_
    conv => whnf
    repeat ((first | refine ⟨zH_of _, ?_⟩ | refine ⟨trivial, ?_⟩ | refine ⟨rfl, ?_⟩ | refine ⟨fun hc => absurd hc (by decide), fun _ => ?_⟩ | refine ⟨fun _ => ?_, fun hc => absurd (by decide) hc⟩ | refine ⟨fun _ => ?_, fun hc => absurd hc (by decide)⟩ | refine ⟨fun hc => absurd (by decide) hc, fun _ => ?_⟩); conv => whnf)
    try dsimp only
    generalize z_up wi 45 11 (nI 0) = wi0 at *
    have hS := mt_S hC
    have h40 := ms_40 hS
    have hZ1 : ZS d c A := hZ.1
    have no : ¬ (idB 3 s && lnB (d s.toNatClampNeg) v) = true → K (some (.int (mI 1))) (GC ++ (GM ++ r), wi0, wl) := fun hn => by
      rw [if_neg hn] at h
      exact h wi0 wl hF0 hC
    rw [bI_0]
    refine ⟨fun h1 => ⟨trivial, no (by simp [h1])⟩, fun h1 => ?_⟩
    have h1 := Classical.not_not.mp h1
    obtain ⟨s', hs', rfl⟩ := idB_N h1 (by omega)
    rw [nc_N (by omega)] at h no
    have ds := ms_hd hS s' hs'
    conv => whnf
    repeat ((first | refine ⟨zH_of _, ?_⟩ | refine ⟨trivial, ?_⟩ | refine ⟨rfl, ?_⟩ | refine ⟨fun hc => absurd hc (by decide), fun _ => ?_⟩ | refine ⟨fun _ => ?_, fun hc => absurd (by decide) hc⟩ | refine ⟨fun _ => ?_, fun hc => absurd hc (by decide)⟩ | refine ⟨fun hc => absurd (by decide) hc, fun _ => ?_⟩); conv => whnf)
    try dsimp only
    refine ⟨vp_in_nI (show s' < 3 from hs') (by decide), ?_⟩
    conv => whnf
    repeat ((first | refine ⟨zH_of _, ?_⟩ | refine ⟨trivial, ?_⟩ | refine ⟨rfl, ?_⟩ | refine ⟨fun hc => absurd hc (by decide), fun _ => ?_⟩ | refine ⟨fun _ => ?_, fun hc => absurd (by decide) hc⟩ | refine ⟨fun _ => ?_, fun hc => absurd hc (by decide)⟩ | refine ⟨fun hc => absurd (by decide) hc, fun _ => ?_⟩); conv => whnf)
    try dsimp only
    rw [nI_clamp (n := s') (by omega), ms_d hS s' hs', nI_l (by omega), in_rg (by decide) (by omega), bI_0, Classical.not_not]
    refine ⟨fun h2 => ?_, fun h2 => ?_⟩
    case refine_2 =>
      have h2 : ¬ lnB (d s') v = true := h2
      exact ⟨trivial, no (by simp [h2])⟩
    have h2 : lnB (d s') v = true := h2
    rw [if_pos (by simp [h1, h2])] at h
    obtain ⟨v', v1, v2, rfl⟩ := rgB_N h2 (by decide) (by omega)
    rw [nc_N (by omega)] at h
    clear no
    conv => whnf
    repeat ((first | refine ⟨zH_of _, ?_⟩ | refine ⟨trivial, ?_⟩ | refine ⟨rfl, ?_⟩ | refine ⟨fun hc => absurd hc (by decide), fun _ => ?_⟩ | refine ⟨fun _ => ?_, fun hc => absurd (by decide) hc⟩ | refine ⟨fun _ => ?_, fun hc => absurd hc (by decide)⟩ | refine ⟨fun hc => absurd (by decide) hc, fun _ => ?_⟩); conv => whnf)
    try dsimp only
    refine ⟨vp_in_nI (show s' < 3 from hs') (by decide), ?_⟩
    conv => whnf
    repeat ((first | refine ⟨zH_of _, ?_⟩ | refine ⟨trivial, ?_⟩ | refine ⟨rfl, ?_⟩ | refine ⟨fun hc => absurd hc (by decide), fun _ => ?_⟩ | refine ⟨fun _ => ?_, fun hc => absurd (by decide) hc⟩ | refine ⟨fun _ => ?_, fun hc => absurd hc (by decide)⟩ | refine ⟨fun hc => absurd (by decide) hc, fun _ => ?_⟩); conv => whnf)
    try dsimp only
    rw [nI_clamp (n := s') (by omega), ms_d hS s' hs', nI_eq (by omega) (by omega)]
    refine ⟨fun h3 => ?_, fun h3 => ?_⟩
    · rw [if_neg (by omega)] at h
      conv => whnf
      repeat ((first | refine ⟨zH_of _, ?_⟩ | refine ⟨trivial, ?_⟩ | refine ⟨rfl, ?_⟩ | refine ⟨fun hc => absurd hc (by decide), fun _ => ?_⟩ | refine ⟨fun _ => ?_, fun hc => absurd (by decide) hc⟩ | refine ⟨fun _ => ?_, fun hc => absurd hc (by decide)⟩ | refine ⟨fun hc => absurd (by decide) hc, fun _ => ?_⟩); conv => whnf)
      try dsimp only
      refine ⟨vp_in_nI (show s' < 3 from hs') (by decide), ?_⟩
      rw [nI_clamp (n := s') (by omega), ms_d hS s' hs']
      conv => whnf
      repeat ((first | refine ⟨zH_of _, ?_⟩ | refine ⟨trivial, ?_⟩ | refine ⟨rfl, ?_⟩ | refine ⟨fun hc => absurd hc (by decide), fun _ => ?_⟩ | refine ⟨fun _ => ?_, fun hc => absurd (by decide) hc⟩ | refine ⟨fun _ => ?_, fun hc => absurd hc (by decide)⟩ | refine ⟨fun hc => absurd (by decide) hc, fun _ => ?_⟩); conv => whnf)
      try dsimp only
      rw [pk_sub (by omega), pk_sub v1]
      refine ⟨d, q, c, A, s', d s' - 1, v' - 1, hS, rfl, hs', rfl, by omega, by omega, rfl, by omega, fun wi1 hF1 hS1 => ?_⟩
      have hS2 := ms_congr hS1 (rz_nr (ms_hd hS) hZ1 hs' (l := v' - 1) (by omega) (by omega))
      have h := h wi1 wl (FrM_trans hF0 (fun y hy => ⟨hF1 y (by omega) (by omega) (by omega), rfl⟩)) (mt_now hC hS2 (fun i hi => by rw [hF1 45 (by decide) (by decide) (by decide)]) (fun y hy => hF1 y (by omega) (by omega) (by omega)) rfl)
      conv => whnf
      repeat ((first | refine ⟨zH_of _, ?_⟩ | refine ⟨trivial, ?_⟩ | refine ⟨rfl, ?_⟩ | refine ⟨fun hc => absurd hc (by decide), fun _ => ?_⟩ | refine ⟨fun _ => ?_, fun hc => absurd (by decide) hc⟩ | refine ⟨fun _ => ?_, fun hc => absurd hc (by decide)⟩ | refine ⟨fun hc => absurd (by decide) hc, fun _ => ?_⟩); conv => whnf)
      try dsimp only
      refine ⟨_, q, c, _, hS2, ?_⟩
      conv => whnf
      repeat ((first | refine ⟨zH_of _, ?_⟩ | refine ⟨trivial, ?_⟩ | refine ⟨rfl, ?_⟩ | refine ⟨fun hc => absurd hc (by decide), fun _ => ?_⟩ | refine ⟨fun _ => ?_, fun hc => absurd (by decide) hc⟩ | refine ⟨fun _ => ?_, fun hc => absurd hc (by decide)⟩ | refine ⟨fun hc => absurd (by decide) hc, fun _ => ?_⟩); conv => whnf)
      try dsimp only
      exact h
    · rw [if_pos (by omega)] at h
      exact ⟨trivial, h wi0 wl hF0 hC⟩
def sp_X12_widens : zSp := fun av w K => match av with
  | [.ref o, .int s] => o = 45 ∧ zH w.1 ∧ ∃ T, MT w.2.1 w.2.2 T ∧ ZT T ∧ ∀ wi' wl', FrM w.2.1 w.2.2 wi' wl' → MT wi' wl' (st_widens T s).1 → K (some (.int (st_widens T s).2)) (w.1, wi', wl')
  | _ => False
def rm_X12_widens : Room := { frames := 2, cells := 0, slots := 0, locals := 54 }
def M_X12_widens : zM := (k_X12_widens, f_X12, [(170, 0, 0, 1, 0, 0, sp_X12_isTable), (280, 4, 10, 4, 0, 0, sp_X12_resizes), (99, 4, 10, 4, 0, 0, sp_X12_addsPlain)], ([], [], []), [], [(79, [true, true, true, true, false, false]), (92, [true, true, true, true, true, false]), (106, [true, true, true, true, true, true]), (150, [true, true, true, true, true, true])], 1, false, (false, 0, fun _ => 0), (0, 0))
theorem ca_X12_widens_0 (l : Launch) : z_cok l RX12 (headSpec (.code yX12_widens cX12_widens 6 (some .int) :: zTT) rm_X12_widens).room (170, 0, 0, 1, 0, 0, sp_X12_isTable) := z_ca0 (c_X12_isTable l) mb_X12_isTable wt_1338 wt_1339 (by decide)
theorem ca_X12_widens_1 (l : Launch) : z_cok l RX12 (headSpec (.code yX12_widens cX12_widens 6 (some .int) :: zTT) rm_X12_widens).room (280, 4, 10, 4, 0, 0, sp_X12_resizes) := z_ca4 (c_X12_resizes l) mb_X12_resizes ⟨_, rfl, rfl⟩ wt_1507 wt_1509 wt_70 (by decide)
theorem ca_X12_widens_2 (l : Launch) : z_cok l RX12 (headSpec (.code yX12_widens cX12_widens 6 (some .int) :: zTT) rm_X12_widens).room (99, 4, 10, 4, 0, 0, sp_X12_addsPlain) := z_ca4 (c_X12_addsPlain l) mb_X12_addsPlain ⟨_, rfl, rfl⟩ wt_1128 wt_1130 wt_27 (by decide)
theorem O_X12_widens (l : Launch) : z_OK l RX12 cX12_widens (headSpec (.code yX12_widens cX12_widens 6 (some .int) :: zTT) rm_X12_widens).room M_X12_widens := ⟨ok_X12_widens, fo_X12, List.forall_mem_cons.mpr ⟨ca_X12_widens_0 l, List.forall_mem_cons.mpr ⟨ca_X12_widens_1 l, List.forall_mem_cons.mpr ⟨ca_X12_widens_2 l, fun _ h => absurd h List.not_mem_nil⟩⟩⟩, fun _ h => absurd h List.not_mem_nil, fun _ h => absurd h List.not_mem_nil, fun _ h => absurd h List.not_mem_nil, fun _ h => absurd h List.not_mem_nil, rfl, rfl⟩
theorem c_X12_widens (l : Launch) : z_CS l yX12_widens cX12_widens 6 (some .int) rm_X12_widens sp_X12_widens := by
  refine z_meth (by decide) (Or.inr (Or.inl ⟨rfl, rfl⟩)) (fun h => by cases h) rfl (O_X12_widens l) ?_
  intro av w K h
  match av, h with
  | [.ref o, .int s], h =>
    obtain ⟨rfl, ⟨r, hG⟩, ⟨d, q, c, A, kp, tx, tl⟩, hC, hZ, h⟩ := h
    obtain ⟨G, wi, wl⟩ := w
    subst hG
    try dsimp only at h hC hZ
    have hC := mt_fld (i := 11) (v := nI 0) hC (by decide)
    have hF0 : FrM wi wl (z_up wi 45 11 (nI 0)) wl := fm_fld
    refine ⟨Nat.le_of_ble_eq_true rfl, fun Jm hs => ?_⟩
    unfold st_widens at h
    dsimp only at h
    refine hs 400 0 _ _ _ _ _ ?_
    conv => whnf
    repeat ((first | refine ⟨zH_of _, ?_⟩ | refine ⟨trivial, ?_⟩ | refine ⟨rfl, ?_⟩ | refine ⟨fun hc => absurd hc (by decide), fun _ => ?_⟩ | refine ⟨fun _ => ?_, fun hc => absurd (by decide) hc⟩ | refine ⟨fun _ => ?_, fun hc => absurd hc (by decide)⟩ | refine ⟨fun hc => absurd (by decide) hc, fun _ => ?_⟩); conv => whnf)
    try dsimp only
    generalize z_up wi 45 11 (nI 0) = wi0 at *
    have hS := mt_S hC
    have h40 := ms_40 hS
    have hZ1 : ZS d c A := hZ.1
    rw [bI_0, Classical.not_not]
    refine ⟨fun h1 => ?_, fun h1 => ?_⟩
    case refine_2 =>
      rw [if_neg h1] at h
      exact ⟨trivial, h wi0 wl hF0 hC⟩
    rw [if_pos h1] at h
    obtain ⟨s', hs', rfl⟩ := idB_N h1 (by omega)
    rw [nc_N (by omega)] at h
    have hd := ms_hd hS
    have ds := hd s' hs'
    have n3 := nx_lt s'
    have pl3 := pv_lt s'
    have dn := hd _ n3
    have dp := hd _ pl3
    have dm : d (nx s') * d (pv s') ≤ 3 * 3 := Nat.mul_le_mul dn.2 dp.2
    have pf := pv_facts s' hs'
    conv => whnf
    repeat ((first | refine ⟨zH_of _, ?_⟩ | refine ⟨trivial, ?_⟩ | refine ⟨rfl, ?_⟩ | refine ⟨fun hc => absurd hc (by decide), fun _ => ?_⟩ | refine ⟨fun _ => ?_, fun hc => absurd (by decide) hc⟩ | refine ⟨fun _ => ?_, fun hc => absurd hc (by decide)⟩ | refine ⟨fun hc => absurd (by decide) hc, fun _ => ?_⟩); conv => whnf)
    try dsimp only
    refine ⟨vp_in_nI (show s' < 3 from hs') (by decide), ?_⟩
    conv => whnf
    repeat ((first | refine ⟨zH_of _, ?_⟩ | refine ⟨trivial, ?_⟩ | refine ⟨rfl, ?_⟩ | refine ⟨fun hc => absurd hc (by decide), fun _ => ?_⟩ | refine ⟨fun _ => ?_, fun hc => absurd (by decide) hc⟩ | refine ⟨fun _ => ?_, fun hc => absurd hc (by decide)⟩ | refine ⟨fun hc => absurd (by decide) hc, fun _ => ?_⟩); conv => whnf)
    try dsimp only
    rw [nI_clamp (n := s') (by omega), ms_d hS s' hs', nI_eq (by omega) (by omega)]
    refine ⟨fun h2 => ?_, fun h2 => ?_⟩
    case refine_2 =>
      rw [if_pos h2] at h
      exact ⟨trivial, h wi0 wl hF0 hC⟩
    rw [if_neg h2] at h
    conv => whnf
    repeat ((first | refine ⟨zH_of _, ?_⟩ | refine ⟨trivial, ?_⟩ | refine ⟨rfl, ?_⟩ | refine ⟨fun hc => absurd hc (by decide), fun _ => ?_⟩ | refine ⟨fun _ => ?_, fun hc => absurd (by decide) hc⟩ | refine ⟨fun _ => ?_, fun hc => absurd hc (by decide)⟩ | refine ⟨fun hc => absurd (by decide) hc, fun _ => ?_⟩); conv => whnf)
    try dsimp only
    refine ⟨n30, ?_⟩
    rw [rem3 hs']
    conv => whnf
    repeat ((first | refine ⟨zH_of _, ?_⟩ | refine ⟨trivial, ?_⟩ | refine ⟨rfl, ?_⟩ | refine ⟨fun hc => absurd hc (by decide), fun _ => ?_⟩ | refine ⟨fun _ => ?_, fun hc => absurd (by decide) hc⟩ | refine ⟨fun _ => ?_, fun hc => absurd hc (by decide)⟩ | refine ⟨fun hc => absurd (by decide) hc, fun _ => ?_⟩); conv => whnf)
    try dsimp only
    refine ⟨vp_in_nI (show nx s' < 3 from n3) (by decide), ?_⟩
    rw [nI_clamp (n := nx s') (by omega), ms_d hS _ n3]
    conv => whnf
    repeat ((first | refine ⟨zH_of _, ?_⟩ | refine ⟨trivial, ?_⟩ | refine ⟨rfl, ?_⟩ | refine ⟨fun hc => absurd hc (by decide), fun _ => ?_⟩ | refine ⟨fun _ => ?_, fun hc => absurd (by decide) hc⟩ | refine ⟨fun _ => ?_, fun hc => absurd hc (by decide)⟩ | refine ⟨fun hc => absurd (by decide) hc, fun _ => ?_⟩); conv => whnf)
    try dsimp only
    refine ⟨n30, ?_⟩
    rw [rem3b hs']
    conv => whnf
    repeat ((first | refine ⟨zH_of _, ?_⟩ | refine ⟨trivial, ?_⟩ | refine ⟨rfl, ?_⟩ | refine ⟨fun hc => absurd hc (by decide), fun _ => ?_⟩ | refine ⟨fun _ => ?_, fun hc => absurd (by decide) hc⟩ | refine ⟨fun _ => ?_, fun hc => absurd hc (by decide)⟩ | refine ⟨fun hc => absurd (by decide) hc, fun _ => ?_⟩); conv => whnf)
    try dsimp only
    refine ⟨vp_in_nI (show pv s' < 3 from pl3) (by decide), ?_⟩
    rw [nI_clamp (n := pv s') (by omega), ms_d hS _ pl3]
    conv => whnf
    repeat ((first | refine ⟨zH_of _, ?_⟩ | refine ⟨trivial, ?_⟩ | refine ⟨rfl, ?_⟩ | refine ⟨fun hc => absurd hc (by decide), fun _ => ?_⟩ | refine ⟨fun _ => ?_, fun hc => absurd (by decide) hc⟩ | refine ⟨fun _ => ?_, fun hc => absurd hc (by decide)⟩ | refine ⟨fun hc => absurd (by decide) hc, fun _ => ?_⟩); conv => whnf)
    try dsimp only
    rw [ms_c hS, pk_mul, nI_add, ltN (by omega) (by omega)]
    refine ⟨fun h3 => ?_, fun h3 => ?_⟩
    case refine_2 =>
      rw [if_pos h3] at h
      exact ⟨trivial, h wi0 wl hF0 hC⟩
    rw [if_neg h3] at h
    unfold wdT at h
    have hu := upD_lt (s := s') hd (show 1 ≤ d s' + 1 by omega) (show d s' + 1 ≤ 3 by omega)
    have en := ap_n hu hs' (c, wdA d A s')
    have e1 : upD d s' (d s' + 1) (nx s') = d (nx s') := if_neg pf.2.2.1
    have e2 : upD d s' (d s' + 1) (pv s') = d (pv s') := if_neg pf.2.1
    have e3 : upD d s' (d s' + 1) s' = d s' + 1 := if_pos rfl
    rw [e1, e2] at en
    conv => whnf
    repeat ((first | refine ⟨zH_of _, ?_⟩ | refine ⟨trivial, ?_⟩ | refine ⟨rfl, ?_⟩ | refine ⟨fun hc => absurd hc (by decide), fun _ => ?_⟩ | refine ⟨fun _ => ?_, fun hc => absurd (by decide) hc⟩ | refine ⟨fun _ => ?_, fun hc => absurd hc (by decide)⟩ | refine ⟨fun hc => absurd (by decide) hc, fun _ => ?_⟩); conv => whnf)
    try dsimp only
    refine ⟨vp_in_nI (show s' < 3 from hs') (by decide), ?_⟩
    rw [nI_clamp (n := s') (by omega), ms_d hS s' hs']
    conv => whnf
    repeat ((first | refine ⟨zH_of _, ?_⟩ | refine ⟨trivial, ?_⟩ | refine ⟨rfl, ?_⟩ | refine ⟨fun hc => absurd hc (by decide), fun _ => ?_⟩ | refine ⟨fun _ => ?_, fun hc => absurd (by decide) hc⟩ | refine ⟨fun _ => ?_, fun hc => absurd hc (by decide)⟩ | refine ⟨fun hc => absurd (by decide) hc, fun _ => ?_⟩); conv => whnf)
    try dsimp only
    rw [nI_add]
    refine ⟨d, q, c, A, s', d s' + 1, d s', hS, rfl, hs', rfl, by omega, by omega, rfl, by omega, fun wi1 hF1 hS1 => ?_⟩
    have hS2 := ms_congr hS1 (rz_wd hd hZ1 hs' (by omega))
    have hX : ∀ wi' : Nat → Nat → Int32, (∀ y, y ≠ 45 → y ≠ 47 → wi' y = wi1 y) → (∀ i, i ≠ 2 → wi' 45 i = wi1 45 i) → MS wi' (upD d s' (d s' + 1)) q (apI s' (upD d s' (d s' + 1)) (upD d s' (d s' + 1) 0) (c, wdA d A s')).1 (apI s' (upD d s' (d s' + 1)) (upD d s' (d s' + 1) 0) (c, wdA d A s')).2 → K (some (.int (nI (apI s' (upD d s' (d s' + 1)) (upD d s' (d s' + 1) 0) (c, wdA d A s')).1))) (GC ++ (GM ++ r), wi', wl) := fun wi' k1 k2 k3 => h wi' wl (FrM_trans hF0 (fun y hy => ⟨by rw [k1 y (by omega) (by omega), hF1 y (by omega) (by omega) (by omega)], rfl⟩)) (mt_now hC k3 (fun i hi => by rw [k2 i (by omega), hF1 45 (by decide) (by decide) (by decide)]) (fun y hy => by rw [k1 y (by omega) (by omega), hF1 y (by omega) (by omega) (by omega)]) rfl)
    clear h hF1 hS1
    generalize wdA d A s' = W at *
    obtain ⟨m, hm⟩ : ∃ m, m = d s' := ⟨_, rfl⟩
    rw [← hm] at e3
    have m3 : m < 3 := by omega
    rw [← hm]
    rw [← hm] at hX hu en hS2
    generalize upD d s' (m + 1) = D at *
    have d0 := hu 0 (by decide)
    have d1 := hu 1 (by decide)
    have d2 := hu 2 (by decide)
    have hl : (apI s' D (D 0) (c, W)).1 ≤ 40 := by omega
    clear en e1 e2 dm
    have loop := up_ind (P := fun i => ∀ wi' : Nat → Nat → Int32, (∀ y, y ≠ 45 → y ≠ 47 → wi' y = wi1 y) → (∀ i, i ≠ 2 → wi' 45 i = wi1 45 i) → MS wi' D q (apI s' D i (c, W)).1 (apI s' D i (c, W)).2 → Jm 79 [some (.ref 45), some (.int (nI s')), some (.int (nI m)), some (.int (nI i)), none, none] [] (GC ++ (GM ++ r), wi', wl) 0 0) (D 0) (fun i hi ih => by
      intro wi' hF hI hS'
      refine hs 400 79 _ _ _ _ _ ?_
      conv => whnf
      repeat ((first | refine ⟨zH_of _, ?_⟩ | refine ⟨trivial, ?_⟩ | refine ⟨rfl, ?_⟩ | refine ⟨fun hc => absurd hc (by decide), fun _ => ?_⟩ | refine ⟨fun _ => ?_, fun hc => absurd (by decide) hc⟩ | refine ⟨fun _ => ?_, fun hc => absurd hc (by decide)⟩ | refine ⟨fun hc => absurd (by decide) hc, fun _ => ?_⟩); conv => whnf)
      try dsimp only
      refine ⟨vp_in_nI (show 0 < 3 by decide) (by decide), ?_⟩
      conv => whnf
      repeat ((first | refine ⟨zH_of _, ?_⟩ | refine ⟨trivial, ?_⟩ | refine ⟨rfl, ?_⟩ | refine ⟨fun hc => absurd hc (by decide), fun _ => ?_⟩ | refine ⟨fun _ => ?_, fun hc => absurd (by decide) hc⟩ | refine ⟨fun _ => ?_, fun hc => absurd hc (by decide)⟩ | refine ⟨fun hc => absurd (by decide) hc, fun _ => ?_⟩); conv => whnf)
      try dsimp only
      rw [nI_clamp (n := 0) (by decide), ms_d hS' 0 (by decide), ltN (by omega) (by omega)]
      refine ⟨fun hc => ?_, fun hc => ?_⟩
      · obtain hin : i = D 0 := by omega
        rw [hin] at hS'
        have hX := hX wi' hF hI hS'
        rw [← ms_c hS'] at hX
        conv => whnf
        repeat ((first | refine ⟨zH_of _, ?_⟩ | refine ⟨trivial, ?_⟩ | refine ⟨rfl, ?_⟩ | refine ⟨fun hc => absurd hc (by decide), fun _ => ?_⟩ | refine ⟨fun _ => ?_, fun hc => absurd (by decide) hc⟩ | refine ⟨fun _ => ?_, fun hc => absurd hc (by decide)⟩ | refine ⟨fun hc => absurd (by decide) hc, fun _ => ?_⟩); conv => whnf)
        try dsimp only
        exact hX
      · have ihn := ih hc
        have m_i := apI_mono s' D (c, W) (show i + 1 ≤ D 0 from hc)
        rw [apI] at ihn m_i
        generalize apI s' D i (c, W) = Ti at *
        have loopj := up_ind (P := fun j => ∀ wi' : Nat → Nat → Int32, (∀ y, y ≠ 45 → y ≠ 47 → wi' y = wi1 y) → (∀ i, i ≠ 2 → wi' 45 i = wi1 45 i) → MS wi' D q (apJ s' D i j Ti).1 (apJ s' D i j Ti).2 → Jm 92 [some (.ref 45), some (.int (nI s')), some (.int (nI m)), some (.int (nI i)), some (.int (nI j)), none] [] (GC ++ (GM ++ r), wi', wl) 0 0) (D 1) (fun j hj ihj => by
          intro wi' hF hI hS'
          refine hs 400 92 _ _ _ _ _ ?_
          conv => whnf
          repeat ((first | refine ⟨zH_of _, ?_⟩ | refine ⟨trivial, ?_⟩ | refine ⟨rfl, ?_⟩ | refine ⟨fun hc => absurd hc (by decide), fun _ => ?_⟩ | refine ⟨fun _ => ?_, fun hc => absurd (by decide) hc⟩ | refine ⟨fun _ => ?_, fun hc => absurd hc (by decide)⟩ | refine ⟨fun hc => absurd (by decide) hc, fun _ => ?_⟩); conv => whnf)
          try dsimp only
          refine ⟨vp_in_nI (show 1 < 3 by decide) (by decide), ?_⟩
          conv => whnf
          repeat ((first | refine ⟨zH_of _, ?_⟩ | refine ⟨trivial, ?_⟩ | refine ⟨rfl, ?_⟩ | refine ⟨fun hc => absurd hc (by decide), fun _ => ?_⟩ | refine ⟨fun _ => ?_, fun hc => absurd (by decide) hc⟩ | refine ⟨fun _ => ?_, fun hc => absurd hc (by decide)⟩ | refine ⟨fun hc => absurd (by decide) hc, fun _ => ?_⟩); conv => whnf)
          try dsimp only
          rw [nI_clamp (n := 1) (by decide), ms_d hS' 1 (by decide), ltN (by omega) (by omega)]
          refine ⟨fun hc2 => ?_, fun hc2 => ?_⟩
          · obtain hjn : j = D 1 := by omega
            rw [hjn] at hS'
            conv => whnf
            repeat ((first | refine ⟨zH_of _, ?_⟩ | refine ⟨trivial, ?_⟩ | refine ⟨rfl, ?_⟩ | refine ⟨fun hc => absurd hc (by decide), fun _ => ?_⟩ | refine ⟨fun _ => ?_, fun hc => absurd (by decide) hc⟩ | refine ⟨fun _ => ?_, fun hc => absurd hc (by decide)⟩ | refine ⟨fun hc => absurd (by decide) hc, fun _ => ?_⟩); conv => whnf)
            try dsimp only
            rw [nI_add]
            exact ihn wi' hF hI hS'
          · have ihjn := ihj hc2
            have m_j := apJ_mono s' D i Ti (show j + 1 ≤ D 1 from hc2)
            rw [apJ] at ihjn m_j
            generalize apJ s' D i j Ti = Tj at *
            have loopk := up_ind (P := fun k => ∀ wi' : Nat → Nat → Int32, (∀ y, y ≠ 45 → y ≠ 47 → wi' y = wi1 y) → (∀ i, i ≠ 2 → wi' 45 i = wi1 45 i) → MS wi' D q (apK s' D i j k Tj).1 (apK s' D i j k Tj).2 → Jm 106 [some (.ref 45), some (.int (nI s')), some (.int (nI m)), some (.int (nI i)), some (.int (nI j)), some (.int (nI k))] [] (GC ++ (GM ++ r), wi', wl) 0 0) (D 2) (fun k hk ihk => by
              intro wi' hF hI hS'
              refine hs 400 106 _ _ _ _ _ ?_
              conv => whnf
              repeat ((first | refine ⟨zH_of _, ?_⟩ | refine ⟨trivial, ?_⟩ | refine ⟨rfl, ?_⟩ | refine ⟨fun hc => absurd hc (by decide), fun _ => ?_⟩ | refine ⟨fun _ => ?_, fun hc => absurd (by decide) hc⟩ | refine ⟨fun _ => ?_, fun hc => absurd hc (by decide)⟩ | refine ⟨fun hc => absurd (by decide) hc, fun _ => ?_⟩); conv => whnf)
              try dsimp only
              refine ⟨vp_in_nI (show 2 < 3 by decide) (by decide), ?_⟩
              conv => whnf
              repeat ((first | refine ⟨zH_of _, ?_⟩ | refine ⟨trivial, ?_⟩ | refine ⟨rfl, ?_⟩ | refine ⟨fun hc => absurd hc (by decide), fun _ => ?_⟩ | refine ⟨fun _ => ?_, fun hc => absurd (by decide) hc⟩ | refine ⟨fun _ => ?_, fun hc => absurd hc (by decide)⟩ | refine ⟨fun hc => absurd (by decide) hc, fun _ => ?_⟩); conv => whnf)
              try dsimp only
              rw [nI_clamp (n := 2) (by decide), ms_d hS' 2 (by decide), ltN (by omega) (by omega)]
              refine ⟨fun hc3 => ?_, fun hc3 => ?_⟩
              · obtain hkn : k = D 2 := by omega
                rw [hkn] at hS'
                conv => whnf
                repeat ((first | refine ⟨zH_of _, ?_⟩ | refine ⟨trivial, ?_⟩ | refine ⟨rfl, ?_⟩ | refine ⟨fun hc => absurd hc (by decide), fun _ => ?_⟩ | refine ⟨fun _ => ?_, fun hc => absurd (by decide) hc⟩ | refine ⟨fun _ => ?_, fun hc => absurd hc (by decide)⟩ | refine ⟨fun hc => absurd (by decide) hc, fun _ => ?_⟩); conv => whnf)
                try dsimp only
                rw [nI_add]
                exact ihjn wi' hF hI hS'
              · have ihkn := ihk hc3
                have m_k := apK_mono s' D i j Tj (show k + 1 ≤ D 2 from hc3)
                rw [apK] at ihkn m_k
                generalize apK s' D i j k Tj = Tk at *
                have go : apC s' D i j k = true → ∀ wi2 : Nat → Nat → Int32, (∀ y, y ≠ 45 → y ≠ 47 → wi2 y = wi' y) → (∀ i, i ≠ 2 → wi2 45 i = wi' 45 i) → MS wi2 D q (Tk.1 + 1) (onA Tk.2 Tk.1 (i * D 1 + j) (j * D 2 + k) (k * D 0 + i)) → Jm 150 [some (.ref 45), some (.int (nI s')), some (.int (nI m)), some (.int (nI i)), some (.int (nI j)), some (.int (nI k))] [] (GC ++ (GM ++ r), wi2, wl) 0 0 := fun z wi2 k1 k2 k3 => by
                  rw [if_pos z] at ihkn
                  refine hs 400 150 _ _ _ _ _ ?_
                  conv => whnf
                  repeat ((first | refine ⟨zH_of _, ?_⟩ | refine ⟨trivial, ?_⟩ | refine ⟨rfl, ?_⟩ | refine ⟨fun hc => absurd hc (by decide), fun _ => ?_⟩ | refine ⟨fun _ => ?_, fun hc => absurd (by decide) hc⟩ | refine ⟨fun _ => ?_, fun hc => absurd hc (by decide)⟩ | refine ⟨fun hc => absurd (by decide) hc, fun _ => ?_⟩); conv => whnf)
                  try dsimp only
                  rw [nI_add]
                  exact ihkn wi2 (fun y g1 g2 => by rw [k1 y g1 g2, hF y g1 g2]) (fun i g => by rw [k2 i g, hI i g]) k3
                have no : ¬ apC s' D i j k = true → Jm 150 [some (.ref 45), some (.int (nI s')), some (.int (nI m)), some (.int (nI i)), some (.int (nI j)), some (.int (nI k))] [] (GC ++ (GM ++ r), wi', wl) 0 0 := fun z => by
                  rw [if_neg z] at ihkn
                  refine hs 400 150 _ _ _ _ _ ?_
                  conv => whnf
                  repeat ((first | refine ⟨zH_of _, ?_⟩ | refine ⟨trivial, ?_⟩ | refine ⟨rfl, ?_⟩ | refine ⟨fun hc => absurd hc (by decide), fun _ => ?_⟩ | refine ⟨fun _ => ?_, fun hc => absurd (by decide) hc⟩ | refine ⟨fun _ => ?_, fun hc => absurd hc (by decide)⟩ | refine ⟨fun hc => absurd (by decide) hc, fun _ => ?_⟩); conv => whnf)
                  try dsimp only
                  rw [nI_add]
                  exact ihkn wi' hF hI hS'
                have room : apC s' D i j k = true → Tk.1 + 1 ≤ 40 := fun z => by
                  rw [if_pos z] at m_k
                  have : Tk.1 + 1 ≤ _ := m_k
                  omega
                have ce : ∀ x, x = (if s' = 0 then i else if s' = 1 then j else k) → (apC s' D i j k = true ↔ x = m) := fun x hx => by
                  subst hx
                  unfold apC
                  rcases lt3 hs' with rfl | rfl | rfl
                  · simp
                    omega
                  · simp
                    omega
                  · simp
                    omega
                rcases lt3 hs' with rfl | rfl | rfl
                · have ce := ce i rfl
                  conv => whnf
                  repeat ((first | refine ⟨zH_of _, ?_⟩ | refine ⟨trivial, ?_⟩ | refine ⟨rfl, ?_⟩ | refine ⟨fun hc => absurd hc (by decide), fun _ => ?_⟩ | refine ⟨fun _ => ?_, fun hc => absurd (by decide) hc⟩ | refine ⟨fun _ => ?_, fun hc => absurd hc (by decide)⟩ | refine ⟨fun hc => absurd (by decide) hc, fun _ => ?_⟩); conv => whnf)
                  try dsimp only
                  rw [nI_eq (by omega) (by omega)]
                  refine ⟨fun z => ?_, fun z => ?_⟩
                  · exact no (fun y => z (ce.mp y))
                  · have y := ce.mpr z
                    have rm := room y
                    conv => whnf
                    repeat ((first | refine ⟨zH_of _, ?_⟩ | refine ⟨trivial, ?_⟩ | refine ⟨rfl, ?_⟩ | refine ⟨fun hc => absurd hc (by decide), fun _ => ?_⟩ | refine ⟨fun _ => ?_, fun hc => absurd (by decide) hc⟩ | refine ⟨fun _ => ?_, fun hc => absurd hc (by decide)⟩ | refine ⟨fun hc => absurd (by decide) hc, fun _ => ?_⟩); conv => whnf)
                    try dsimp only
                    refine ⟨D, q, Tk.1, Tk.2, i, j, k, hS', by omega, rfl, hc, rfl, hc2, rfl, hc3, fun wi2 hF2 hI2 hS2 => ?_⟩
                    conv => whnf
                    repeat ((first | refine ⟨zH_of _, ?_⟩ | refine ⟨trivial, ?_⟩ | refine ⟨rfl, ?_⟩ | refine ⟨fun hc => absurd hc (by decide), fun _ => ?_⟩ | refine ⟨fun _ => ?_, fun hc => absurd (by decide) hc⟩ | refine ⟨fun _ => ?_, fun hc => absurd hc (by decide)⟩ | refine ⟨fun hc => absurd (by decide) hc, fun _ => ?_⟩); conv => whnf)
                    try dsimp only
                    exact go y wi2 hF2 hI2 hS2
                · have ce := ce j rfl
                  conv => whnf
                  repeat ((first | refine ⟨zH_of _, ?_⟩ | refine ⟨trivial, ?_⟩ | refine ⟨rfl, ?_⟩ | refine ⟨fun hc => absurd hc (by decide), fun _ => ?_⟩ | refine ⟨fun _ => ?_, fun hc => absurd (by decide) hc⟩ | refine ⟨fun _ => ?_, fun hc => absurd hc (by decide)⟩ | refine ⟨fun hc => absurd (by decide) hc, fun _ => ?_⟩); conv => whnf)
                  try dsimp only
                  rw [nI_eq (by omega) (by omega)]
                  refine ⟨fun z => ?_, fun z => ?_⟩
                  · exact no (fun y => z (ce.mp y))
                  · have y := ce.mpr z
                    have rm := room y
                    conv => whnf
                    repeat ((first | refine ⟨zH_of _, ?_⟩ | refine ⟨trivial, ?_⟩ | refine ⟨rfl, ?_⟩ | refine ⟨fun hc => absurd hc (by decide), fun _ => ?_⟩ | refine ⟨fun _ => ?_, fun hc => absurd (by decide) hc⟩ | refine ⟨fun _ => ?_, fun hc => absurd hc (by decide)⟩ | refine ⟨fun hc => absurd (by decide) hc, fun _ => ?_⟩); conv => whnf)
                    try dsimp only
                    refine ⟨D, q, Tk.1, Tk.2, i, j, k, hS', by omega, rfl, hc, rfl, hc2, rfl, hc3, fun wi2 hF2 hI2 hS2 => ?_⟩
                    conv => whnf
                    repeat ((first | refine ⟨zH_of _, ?_⟩ | refine ⟨trivial, ?_⟩ | refine ⟨rfl, ?_⟩ | refine ⟨fun hc => absurd hc (by decide), fun _ => ?_⟩ | refine ⟨fun _ => ?_, fun hc => absurd (by decide) hc⟩ | refine ⟨fun _ => ?_, fun hc => absurd hc (by decide)⟩ | refine ⟨fun hc => absurd (by decide) hc, fun _ => ?_⟩); conv => whnf)
                    try dsimp only
                    exact go y wi2 hF2 hI2 hS2
                · have ce := ce k rfl
                  conv => whnf
                  repeat ((first | refine ⟨zH_of _, ?_⟩ | refine ⟨trivial, ?_⟩ | refine ⟨rfl, ?_⟩ | refine ⟨fun hc => absurd hc (by decide), fun _ => ?_⟩ | refine ⟨fun _ => ?_, fun hc => absurd (by decide) hc⟩ | refine ⟨fun _ => ?_, fun hc => absurd hc (by decide)⟩ | refine ⟨fun hc => absurd (by decide) hc, fun _ => ?_⟩); conv => whnf)
                  try dsimp only
                  rw [nI_eq (by omega) (by omega)]
                  refine ⟨fun z => ?_, fun z => ?_⟩
                  · exact no (fun y => z (ce.mp y))
                  · have y := ce.mpr z
                    have rm := room y
                    conv => whnf
                    repeat ((first | refine ⟨zH_of _, ?_⟩ | refine ⟨trivial, ?_⟩ | refine ⟨rfl, ?_⟩ | refine ⟨fun hc => absurd hc (by decide), fun _ => ?_⟩ | refine ⟨fun _ => ?_, fun hc => absurd (by decide) hc⟩ | refine ⟨fun _ => ?_, fun hc => absurd hc (by decide)⟩ | refine ⟨fun hc => absurd (by decide) hc, fun _ => ?_⟩); conv => whnf)
                    try dsimp only
                    refine ⟨D, q, Tk.1, Tk.2, i, j, k, hS', by omega, rfl, hc, rfl, hc2, rfl, hc3, fun wi2 hF2 hI2 hS2 => ?_⟩
                    conv => whnf
                    repeat ((first | refine ⟨zH_of _, ?_⟩ | refine ⟨trivial, ?_⟩ | refine ⟨rfl, ?_⟩ | refine ⟨fun hc => absurd hc (by decide), fun _ => ?_⟩ | refine ⟨fun _ => ?_, fun hc => absurd (by decide) hc⟩ | refine ⟨fun _ => ?_, fun hc => absurd hc (by decide)⟩ | refine ⟨fun hc => absurd (by decide) hc, fun _ => ?_⟩); conv => whnf)
                    try dsimp only
                    exact go y wi2 hF2 hI2 hS2
                )
            conv => whnf
            repeat ((first | refine ⟨zH_of _, ?_⟩ | refine ⟨trivial, ?_⟩ | refine ⟨rfl, ?_⟩ | refine ⟨fun hc => absurd hc (by decide), fun _ => ?_⟩ | refine ⟨fun _ => ?_, fun hc => absurd (by decide) hc⟩ | refine ⟨fun _ => ?_, fun hc => absurd hc (by decide)⟩ | refine ⟨fun hc => absurd (by decide) hc, fun _ => ?_⟩); conv => whnf)
            try dsimp only
            exact loopk 0 (Nat.zero_le _) wi' hF hI hS')
        conv => whnf
        repeat ((first | refine ⟨zH_of _, ?_⟩ | refine ⟨trivial, ?_⟩ | refine ⟨rfl, ?_⟩ | refine ⟨fun hc => absurd hc (by decide), fun _ => ?_⟩ | refine ⟨fun _ => ?_, fun hc => absurd (by decide) hc⟩ | refine ⟨fun _ => ?_, fun hc => absurd hc (by decide)⟩ | refine ⟨fun hc => absurd (by decide) hc, fun _ => ?_⟩); conv => whnf)
        try dsimp only
        exact loopj 0 (Nat.zero_le _) wi' hF hI hS')
    conv => whnf
    repeat ((first | refine ⟨zH_of _, ?_⟩ | refine ⟨trivial, ?_⟩ | refine ⟨rfl, ?_⟩ | refine ⟨fun hc => absurd hc (by decide), fun _ => ?_⟩ | refine ⟨fun _ => ?_, fun hc => absurd (by decide) hc⟩ | refine ⟨fun _ => ?_, fun hc => absurd hc (by decide)⟩ | refine ⟨fun hc => absurd (by decide) hc, fun _ => ?_⟩); conv => whnf)
    try dsimp only
    exact loop 0 (Nat.zero_le _) wi1 (fun _ _ _ => rfl) (fun _ _ => rfl) hS2

