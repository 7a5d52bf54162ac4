/-! the reference: a product scaled -/
theorem like_sym {q : Nat} {a b : Nat → Nat} (hq : q = 2 ∨ q = 3) (ha : ∀ p, p < 9 → a p < q) (hb : ∀ p, p < 9 → b p < q) : likeN q a b = likeN q b a := by
  unfold likeN
  have e1 : ((∀ p : Nat, p < 9 → a p = 0) ∨ ∀ p : Nat, p < 9 → b p = 0) ↔ ((∀ p : Nat, p < 9 → b p = 0) ∨ ∀ p : Nat, p < 9 → a p = 0) := Or.comm
  have e2 : (∀ p : Nat, p < 9 → b p = a p) ↔ ∀ p : Nat, p < 9 → a p = b p := ⟨fun h p hp => (h p hp).symm, fun h p hp => (h p hp).symm⟩
  have e3 : (q = 3 ∧ ∀ p : Nat, p < 9 → b p = 2 * a p % 3) ↔ (q = 3 ∧ ∀ p : Nat, p < 9 → a p = 2 * b p % 3) := by
    constructor
    · rintro ⟨rfl, h⟩
      exact ⟨rfl, fun p hp => by have := h p hp; have := ha p hp; omega⟩
    · rintro ⟨rfl, h⟩
      exact ⟨rfl, fun p hp => by have := h p hp; have := hb p hp; omega⟩
  simp only [e1, e2, e3]
theorem al_sym {q i k : Nat} {A B : Nat → Nat → Nat} (hq : q = 2 ∨ q = 3) (ha : ∀ t, t < 3 → ∀ p, p < 9 → A (3 * i + t) p < q) (hb : ∀ t, t < 3 → ∀ p, p < 9 → B (3 * k + t) p < q) : alB q A i B k = alB q B k A i := by
  have e : ∀ t, t ≤ 3 → lkP q A i B k t = lkP q B k A i t := by
    intro t
    induction t with
    | zero => exact fun _ => rfl
    | succ t ih =>
      intro ht
      rw [lkP, lkP, ih (by omega), like_sym hq (ha t (by omega)) (hb t (by omega))]
  unfold alB
  rw [e 3 (Nat.le_refl 3)]
theorem fc_rg {q : Nat} (hq : q = 2 ∨ q = 3) (f : Int32) : rgB 1 (q - 1) f = fcB q f := by
  unfold rgB fcB
  have e : (¬ f < nI 1 ∧ ¬ nI (q - 1) < f) ↔ (¬ f < nI 1 ∧ f < nI q) := by
    rw [Int32.lt_iff_toInt_lt, Int32.lt_iff_toInt_lt, Int32.lt_iff_toInt_lt, nI_toInt (n := 1) (by omega), nI_toInt (n := q - 1) (by omega), nI_toInt (n := q) (by omega)]
    omega
  exact decide_eq_decide.mpr e
theorem scX_n {q i t f : Nat} {A : Nat → Nat → Nat} (ht : t < 3) (n : Nat) : scX q A i t f n = if n = 3 * i + nx t then fMul q f (A (3 * i + nx t)) else if n = 3 * i + t then fMul q f (A (3 * i + t)) else A n := by
  have ne := nx_ne ht
  unfold scX upA
  generalize nx t = u at *
  simp only [show (3 * i + u = 3 * i + t) = False from eq_false (by omega), if_false]
def sp_X12_scales : zSp := fun av w K => match av with
  | [.ref o, .int i, .int t, .int f] => o = 45 ∧ zH w.1 ∧ ∃ T, MT w.2.1 w.2.2 T ∧ ZT T ∧ ∀ wi' wl', FrM w.2.1 w.2.2 wi' wl' → MT wi' wl' (st_scales T i t f).1 → K (some (.int (st_scales T i t f).2)) (w.1, wi', wl')
  | _ => False
def rm_X12_scales : Room := { frames := 3, cells := 0, slots := 0, locals := 75 }
def M_X12_scales : zM := (k_X12_scales, f_X12, [(163, 4, 10, 2, 0, 0, sp_X12_isProduct), (170, 0, 0, 1, 0, 0, sp_X12_isTable), (80, 0, 0, 3, 0, 0, sp_X12_in), (107, 0, 0, 3, 0, 0, sp_X12_at), (273, 4, 10, 5, 0, 0, sp_X12_areLike)], ([], [], []), [], [(41, [true, true, true, true, true]), (76, [true, true, true, true, true])], 1, false, (false, 0, fun _ => 0), (0, 0))
theorem ca_X12_scales_0 (l : Launch) : z_cok l RX12 (headSpec (.code yX12_scales cX12_scales 5 (some .int) :: zTT) rm_X12_scales).room (163, 4, 10, 2, 0, 0, sp_X12_isProduct) := z_ca4 (c_X12_isProduct l) mb_X12_isProduct ⟨_, rfl, rfl⟩ wt_1326 wt_1328 wt_42 (by decide)
theorem ca_X12_scales_1 (l : Launch) : z_cok l RX12 (headSpec (.code yX12_scales cX12_scales 5 (some .int) :: zTT) rm_X12_scales).room (170, 0, 0, 1, 0, 0, sp_X12_isTable) := z_ca0 (c_X12_isTable l) mb_X12_isTable wt_1338 wt_1339 (by decide)
theorem ca_X12_scales_2 (l : Launch) : z_cok l RX12 (headSpec (.code yX12_scales cX12_scales 5 (some .int) :: zTT) rm_X12_scales).room (80, 0, 0, 3, 0, 0, sp_X12_in) := z_ca0 (c_X12_in l) mb_X12_in wt_1253 wt_1254 (by decide)
theorem ca_X12_scales_3 (l : Launch) : z_cok l RX12 (headSpec (.code yX12_scales cX12_scales 5 (some .int) :: zTT) rm_X12_scales).room (107, 0, 0, 3, 0, 0, sp_X12_at) := z_ca0 (c_X12_at l) mb_X12_at wt_1136 wt_1137 (by decide)
theorem ca_X12_scales_4 (l : Launch) : z_cok l RX12 (headSpec (.code yX12_scales cX12_scales 5 (some .int) :: zTT) rm_X12_scales).room (273, 4, 10, 5, 0, 0, sp_X12_areLike) := z_ca4 (c_X12_areLike l) mb_X12_areLike ⟨_, rfl, rfl⟩ wt_1499 wt_1501 wt_69 (by decide)
theorem O_X12_scales (l : Launch) : z_OK l RX12 cX12_scales (headSpec (.code yX12_scales cX12_scales 5 (some .int) :: zTT) rm_X12_scales).room M_X12_scales := ⟨ok_X12_scales, fo_X12, List.forall_mem_cons.mpr ⟨ca_X12_scales_0 l, List.forall_mem_cons.mpr ⟨ca_X12_scales_1 l, List.forall_mem_cons.mpr ⟨ca_X12_scales_2 l, List.forall_mem_cons.mpr ⟨ca_X12_scales_3 l, List.forall_mem_cons.mpr ⟨ca_X12_scales_4 l, fun _ h => absurd h List.not_mem_nil⟩⟩⟩⟩⟩, fun _ h => absurd h List.not_mem_nil, fun _ h => absurd h List.not_mem_nil, fun _ h => absurd h List.not_mem_nil, fun _ h => absurd h List.not_mem_nil, rfl, rfl⟩
theorem c_X12_scales (l : Launch) : z_CS l yX12_scales cX12_scales 5 (some .int) rm_X12_scales sp_X12_scales := by
  refine z_meth (by decide) (Or.inr (Or.inl ⟨rfl, rfl⟩)) (fun h => by cases h) rfl (O_X12_scales l) ?_
  intro av w K h
  match av, h with
  | [.ref o, .int i, .int t, .int f], h =>
    obtain ⟨rfl, ⟨r, hG⟩, ⟨d, q, c, A, kp, tx, tl⟩, hC, hZ, h⟩ := h
    obtain ⟨G, wi, wl⟩ := w
    subst hG
    try dsimp only at h hC hZ
    have hC := mt_fld (i := 11) (v := nI 0) hC (by decide)
    have hF0 : FrM wi wl (z_up wi 45 11 (nI 0)) wl := fm_fld
    refine ⟨Nat.le_of_ble_eq_true rfl, fun Jm hs => ?_⟩
    unfold st_scales at h
    dsimp only at h
    have q23 := ms_q23 (mt_S hC)
    refine hs 400 0 _ _ _ _ _ ?_
    conv => whnf
    repeat ((first | refine ⟨zH_of _, ?_⟩ | refine ⟨trivial, ?_⟩ | refine ⟨rfl, ?_⟩ | refine ⟨fun hc => absurd hc (by decide), fun _ => ?_⟩ | refine ⟨fun _ => ?_, fun hc => absurd (by decide) hc⟩ | refine ⟨fun _ => ?_, fun hc => absurd hc (by decide)⟩ | refine ⟨fun hc => absurd (by decide) hc, fun _ => ?_⟩); conv => whnf)
    try dsimp only
    generalize z_up wi 45 11 (nI 0) = wi0 at *
    have hS := mt_S hC
    have h40 := ms_40 hS
    have no : ¬ (idB c i && (idB 3 t && fcB q f)) = true → K (some (.int (mI 1))) (GC ++ (GM ++ r), wi0, wl) := fun hn => by
      rw [if_neg hn] at h
      exact h wi0 wl hF0 hC
    refine ⟨c, ms_c hS, by omega, ?_⟩
    conv => whnf
    repeat ((first | refine ⟨zH_of _, ?_⟩ | refine ⟨trivial, ?_⟩ | refine ⟨rfl, ?_⟩ | refine ⟨fun hc => absurd hc (by decide), fun _ => ?_⟩ | refine ⟨fun _ => ?_, fun hc => absurd (by decide) hc⟩ | refine ⟨fun _ => ?_, fun hc => absurd hc (by decide)⟩ | refine ⟨fun hc => absurd (by decide) hc, fun _ => ?_⟩); conv => whnf)
    try dsimp only
    rw [bI_0]
    refine ⟨fun h1 => ⟨trivial, no (by simp [h1])⟩, fun h1 => ?_⟩
    conv => whnf
    repeat ((first | refine ⟨zH_of _, ?_⟩ | refine ⟨trivial, ?_⟩ | refine ⟨rfl, ?_⟩ | refine ⟨fun hc => absurd hc (by decide), fun _ => ?_⟩ | refine ⟨fun _ => ?_, fun hc => absurd (by decide) hc⟩ | refine ⟨fun _ => ?_, fun hc => absurd hc (by decide)⟩ | refine ⟨fun hc => absurd (by decide) hc, fun _ => ?_⟩); conv => whnf)
    try dsimp only
    rw [bI_0]
    refine ⟨fun h2 => ⟨trivial, no (by simp [h2])⟩, fun h2 => ?_⟩
    conv => whnf
    repeat ((first | refine ⟨zH_of _, ?_⟩ | refine ⟨trivial, ?_⟩ | refine ⟨rfl, ?_⟩ | refine ⟨fun hc => absurd hc (by decide), fun _ => ?_⟩ | refine ⟨fun _ => ?_, fun hc => absurd (by decide) hc⟩ | refine ⟨fun _ => ?_, fun hc => absurd hc (by decide)⟩ | refine ⟨fun hc => absurd (by decide) hc, fun _ => ?_⟩); conv => whnf)
    try dsimp only
    rw [ms_q hS, pk_sub (by omega), nI_l (by omega), in_rg (by decide) (by omega), fc_rg q23, bI_0, Classical.not_not]
    refine ⟨fun h3 => ?_, fun h3 => ⟨trivial, no (by simp [h3])⟩⟩
    have h1 := Classical.not_not.mp h1
    have h2 := Classical.not_not.mp h2
    rw [if_pos (by simp [h1, h2, h3])] at h
    obtain ⟨i', hi, rfl⟩ := idB_N h1 (by omega)
    obtain ⟨t', ht, rfl⟩ := idB_N h2 (by omega)
    obtain ⟨f', hf1, hf2, rfl⟩ := fcB_N h3 (by omega)
    rw [nc_N (by omega), nc_N (by omega), nc_N (by omega)] at h
    have n1 := nx_lt t'
    have ne := nx_ne ht
    have hW := fun n => scX_n (q := q) (i := i') (f := f') (A := A) ht n
    generalize scX q A i' t' f' = W at *
    have rem : z_rem (nI t' + nI 1) (nI 3) = nI (nx t') := rem3 ht
    generalize nx t' = u at *
    have hq : ∀ t p, t < 3 → p < 9 → A (3 * i' + t) p < q := fun t p h2 h3 => ms_A hS _ (by omega) p h3
    have w1 : ∀ p, W (3 * i' + t') p = A (3 * i' + t') p * f' % q := fun p => by rw [hW, if_neg (by omega), if_pos rfl]; unfold fMul; rw [Nat.mul_comm]
    have w2 : ∀ p, W (3 * i' + u) p = A (3 * i' + u) p * f' % q := fun p => by rw [hW, if_pos rfl]; unfold fMul; rw [Nat.mul_comm]
    have w0 : ∀ n p, n ≠ 3 * i' + t' → n ≠ 3 * i' + u → W n p = A n p := fun n p g1 g2 => by rw [hW, if_neg g2, if_neg g1]
    clear hW
    have wlt : ∀ n, n < 3 * c → ∀ p, p < 9 → W n p < q := fun n hn p hp => by
      by_cases g1 : n = 3 * i' + t'
      · rw [g1, w1]
        exact Nat.mod_lt _ (by omega)
      · by_cases g2 : n = 3 * i' + u
        · rw [g2, w2]
          exact Nat.mod_lt _ (by omega)
        · rw [w0 n p g1 g2]
          exact ms_A hS n hn p hp
    have hsc : ∀ s, scB0 A i' (3 * 0 + s) = A (3 * i' + s) := fun s => by
      unfold scB0 adA
      rw [if_neg (Nat.not_lt_zero _)]
      congr 1
      omega
    have loop := up_ind (P := fun k => ∀ wi' : Nat → Nat → Int32, (∀ y, y ≠ 47 → y ≠ 57 → wi' y = wi0 y) → (∀ j, j < 27 → wi' 57 j = nI (fl A (27 * i' + j))) → RW wi' 47 (27 * c) (mixA k A W) → Jm 76 [some (.ref 45), some (.int (nI i')), some (.int (nI t')), some (.int (nI f')), some (.int (nI k))] [] (GC ++ (GM ++ r), wi', wl) 0 0) 9 (fun k hk ih => by
      intro wi' hF hB hR
      have eq : wi' 45 1 = nI q := by rw [hF 45 (by decide) (by decide)]; exact ms_q hS
      refine hs 400 76 _ _ _ _ _ ?_
      conv => whnf
      repeat ((first | refine ⟨zH_of _, ?_⟩ | refine ⟨trivial, ?_⟩ | refine ⟨rfl, ?_⟩ | refine ⟨fun hc => absurd hc (by decide), fun _ => ?_⟩ | refine ⟨fun _ => ?_, fun hc => absurd (by decide) hc⟩ | refine ⟨fun _ => ?_, fun hc => absurd hc (by decide)⟩ | refine ⟨fun hc => absurd (by decide) hc, fun _ => ?_⟩); conv => whnf)
      try dsimp only
      rw [ltN (by omega) (by omega)]
      refine ⟨fun hc => ?_, fun hc => ?_⟩
      · obtain rfl : k = 9 := by omega
        have rw9 : RW wi' 47 (27 * c) W := fun n hn => by
          rw [hR n hn]
          unfold fl mixA
          rw [if_pos (by omega)]
        have hS2 : MS wi' d q c W := ⟨fun t ht => by rw [hF 46 (by decide) (by decide)]; exact ms_d hS t ht, ⟨eq, by rw [hF 45 (by decide) (by decide)]; exact ms_c hS⟩, rw9, q23, ms_hd hS, h40, wlt⟩
        have h := h wi' wl (FrM_trans hF0 (fun y hy => ⟨hF y (by omega) (by omega), rfl⟩)) (mt_now hC hS2 (fun i hi => by rw [hF 45 (by decide) (by decide)]) (fun y hy => hF y (by omega) (by omega)) rfl)
        rw [al_sym q23 (fun t ht p hp => wlt _ (by omega) p hp) (fun t ht p hp => by rw [hsc]; exact hq t p ht hp)] at h
        conv => whnf
        repeat ((first | refine ⟨zH_of _, ?_⟩ | refine ⟨trivial, ?_⟩ | refine ⟨rfl, ?_⟩ | refine ⟨fun hc => absurd hc (by decide), fun _ => ?_⟩ | refine ⟨fun _ => ?_, fun hc => absurd (by decide) hc⟩ | refine ⟨fun _ => ?_, fun hc => absurd hc (by decide)⟩ | refine ⟨fun hc => absurd (by decide) hc, fun _ => ?_⟩); conv => whnf)
        try dsimp only
        refine ⟨by simp, q, 0, i', scB0 A i', W, eq, q23, fun t ht => ⟨fun p hp => ?_, rw_ra rw9 hi ht, fun p hp => by rw [hsc]; exact hq t p ht hp, fun p hp => wlt _ (by omega) p hp⟩, rfl, by decide, rfl, by omega, ?_⟩
        · rw [hsc, show 27 * 0 + 9 * t + p = 9 * t + p by omega, hB _ (by omega), ← fl_at A ht hp, show 27 * i' + (9 * t + p) = 27 * i' + 9 * t + p by omega]
        · conv => whnf
          repeat ((first | refine ⟨zH_of _, ?_⟩ | refine ⟨trivial, ?_⟩ | refine ⟨rfl, ?_⟩ | refine ⟨fun hc => absurd hc (by decide), fun _ => ?_⟩ | refine ⟨fun _ => ?_, fun hc => absurd (by decide) hc⟩ | refine ⟨fun _ => ?_, fun hc => absurd hc (by decide)⟩ | refine ⟨fun hc => absurd (by decide) hc, fun _ => ?_⟩); conv => whnf)
          try dsimp only
          rw [bI_0]
          refine ⟨fun ha => ?_, fun ha => ?_⟩
          · rw [bI_f ha] at h
            exact ⟨trivial, h⟩
          · rw [bI_t (Classical.not_not.mp ha)] at h
            exact ⟨trivial, h⟩
      · have ih := ih hc
        have rd : ∀ s, s < 3 → wi' 47 (27 * i' + 9 * s + k) = nI (A (3 * i' + s) k) := fun s h2 => by
          rw [hR _ (by omega)]
          unfold fl mixA
          rw [show (27 * i' + 9 * s + k) / 9 = 3 * i' + s by omega, show (27 * i' + 9 * s + k) % 9 = k by omega, if_neg (Nat.lt_irrefl k)]
        have e1 := rd t' ht
        have e2 := rd u n1
        have x1 := hq t' k ht hc
        have x2 := hq u k n1 hc
        have m1 : A (3 * i' + t') k * f' ≤ 2 * 2 := Nat.mul_le_mul (by omega) (by omega)
        have m2 : A (3 * i' + u) k * f' ≤ 2 * 2 := Nat.mul_le_mul (by omega) (by omega)
        have w1 := w1 k
        have w2 := w2 k
        conv => whnf
        repeat ((first | refine ⟨zH_of _, ?_⟩ | refine ⟨trivial, ?_⟩ | refine ⟨rfl, ?_⟩ | refine ⟨fun hc => absurd hc (by decide), fun _ => ?_⟩ | refine ⟨fun _ => ?_, fun hc => absurd (by decide) hc⟩ | refine ⟨fun _ => ?_, fun hc => absurd hc (by decide)⟩ | refine ⟨fun hc => absurd (by decide) hc, fun _ => ?_⟩); conv => whnf)
        try dsimp only
        rw [at_N i' t' k]
        refine ⟨vp_in_nI (show 27 * i' + 9 * t' + k < 1080 by omega) (by decide), ?_⟩
        conv => whnf
        repeat ((first | refine ⟨zH_of _, ?_⟩ | refine ⟨trivial, ?_⟩ | refine ⟨rfl, ?_⟩ | refine ⟨fun hc => absurd hc (by decide), fun _ => ?_⟩ | refine ⟨fun _ => ?_, fun hc => absurd (by decide) hc⟩ | refine ⟨fun _ => ?_, fun hc => absurd hc (by decide)⟩ | refine ⟨fun hc => absurd (by decide) hc, fun _ => ?_⟩); conv => whnf)
        try dsimp only
        rw [eq]
        refine ⟨q_n0 q23, ?_⟩
        conv => whnf
        repeat ((first | refine ⟨zH_of _, ?_⟩ | refine ⟨trivial, ?_⟩ | refine ⟨rfl, ?_⟩ | refine ⟨fun hc => absurd hc (by decide), fun _ => ?_⟩ | refine ⟨fun _ => ?_, fun hc => absurd (by decide) hc⟩ | refine ⟨fun _ => ?_, fun hc => absurd hc (by decide)⟩ | refine ⟨fun hc => absurd (by decide) hc, fun _ => ?_⟩); conv => whnf)
        try dsimp only
        refine ⟨vp_in_nI (show 27 * i' + 9 * t' + k < 1080 by omega) (by decide), ?_⟩
        rw [nI_clamp (n := 27 * i' + 9 * t' + k) (by omega), e1, pk_mul, z_remN (by omega) (by omega) (by omega), ← w1]
        obtain ⟨wa, hwa⟩ : ∃ wa, wa = z_up wi' 47 (27 * i' + 9 * t' + k) (nI (W (3 * i' + t') k)) := ⟨_, rfl⟩
        rw [← hwa]
        have ra : ∀ x, x ≠ 27 * i' + 9 * t' + k → wa 47 x = wi' 47 x := fun x hx => by rw [hwa]; exact z_up_nei hx
        have va : wa 47 (27 * i' + 9 * t' + k) = nI (W (3 * i' + t') k) := by rw [hwa]; exact z_up_eq
        have fa : ∀ y, y ≠ 47 → wa y = wi' y := fun y hy => by rw [hwa]; exact z_up_ne hy
        clear hwa
        have qa : wa 45 1 = nI q := by rw [fa 45 (by decide)]; exact eq
        conv => whnf
        repeat ((first | refine ⟨zH_of _, ?_⟩ | refine ⟨trivial, ?_⟩ | refine ⟨rfl, ?_⟩ | refine ⟨fun hc => absurd hc (by decide), fun _ => ?_⟩ | refine ⟨fun _ => ?_, fun hc => absurd (by decide) hc⟩ | refine ⟨fun _ => ?_, fun hc => absurd hc (by decide)⟩ | refine ⟨fun hc => absurd (by decide) hc, fun _ => ?_⟩); conv => whnf)
        try dsimp only
        refine ⟨n30, ?_⟩
        rw [rem]
        conv => whnf
        repeat ((first | refine ⟨zH_of _, ?_⟩ | refine ⟨trivial, ?_⟩ | refine ⟨rfl, ?_⟩ | refine ⟨fun hc => absurd hc (by decide), fun _ => ?_⟩ | refine ⟨fun _ => ?_, fun hc => absurd (by decide) hc⟩ | refine ⟨fun _ => ?_, fun hc => absurd hc (by decide)⟩ | refine ⟨fun hc => absurd (by decide) hc, fun _ => ?_⟩); conv => whnf)
        try dsimp only
        refine ⟨n30, ?_⟩
        rw [rem]
        conv => whnf
        repeat ((first | refine ⟨zH_of _, ?_⟩ | refine ⟨trivial, ?_⟩ | refine ⟨rfl, ?_⟩ | refine ⟨fun hc => absurd hc (by decide), fun _ => ?_⟩ | refine ⟨fun _ => ?_, fun hc => absurd (by decide) hc⟩ | refine ⟨fun _ => ?_, fun hc => absurd hc (by decide)⟩ | refine ⟨fun hc => absurd (by decide) hc, fun _ => ?_⟩); conv => whnf)
        try dsimp only
        rw [at_N i' u k]
        refine ⟨vp_in_nI (show 27 * i' + 9 * u + k < 1080 by omega) (by decide), ?_⟩
        conv => whnf
        repeat ((first | refine ⟨zH_of _, ?_⟩ | refine ⟨trivial, ?_⟩ | refine ⟨rfl, ?_⟩ | refine ⟨fun hc => absurd hc (by decide), fun _ => ?_⟩ | refine ⟨fun _ => ?_, fun hc => absurd (by decide) hc⟩ | refine ⟨fun _ => ?_, fun hc => absurd hc (by decide)⟩ | refine ⟨fun hc => absurd (by decide) hc, fun _ => ?_⟩); conv => whnf)
        try dsimp only
        rw [qa]
        refine ⟨q_n0 q23, ?_⟩
        conv => whnf
        repeat ((first | refine ⟨zH_of _, ?_⟩ | refine ⟨trivial, ?_⟩ | refine ⟨rfl, ?_⟩ | refine ⟨fun hc => absurd hc (by decide), fun _ => ?_⟩ | refine ⟨fun _ => ?_, fun hc => absurd (by decide) hc⟩ | refine ⟨fun _ => ?_, fun hc => absurd hc (by decide)⟩ | refine ⟨fun hc => absurd (by decide) hc, fun _ => ?_⟩); conv => whnf)
        try dsimp only
        refine ⟨vp_in_nI (show 27 * i' + 9 * u + k < 1080 by omega) (by decide), ?_⟩
        rw [nI_clamp (n := 27 * i' + 9 * u + k) (by omega), ra (27 * i' + 9 * u + k) (by omega), e2, pk_mul, z_remN (by omega) (by omega) (by omega), ← w2]
        conv => whnf
        repeat ((first | refine ⟨zH_of _, ?_⟩ | refine ⟨trivial, ?_⟩ | refine ⟨rfl, ?_⟩ | refine ⟨fun hc => absurd hc (by decide), fun _ => ?_⟩ | refine ⟨fun _ => ?_, fun hc => absurd (by decide) hc⟩ | refine ⟨fun _ => ?_, fun hc => absurd hc (by decide)⟩ | refine ⟨fun hc => absurd (by decide) hc, fun _ => ?_⟩); conv => whnf)
        try dsimp only
        rw [nI_add]
        refine ih _ (fun y g1 g2 => by rw [z_up_ne g1, fa y g1, hF y g1 g2]) (fun j hj => by rw [z_up_ne (by decide), fa 57 (by decide)]; exact hB j hj) (fun n hn => ?_)
        unfold fl mixA
        by_cases b1 : n = 27 * i' + 9 * u + k
        · rw [b1, z_up_eq, show (27 * i' + 9 * u + k) / 9 = 3 * i' + u by omega, show (27 * i' + 9 * u + k) % 9 = k by omega, if_pos (Nat.lt_succ_self k)]
        · rw [z_up_nei b1]
          by_cases b2 : n = 27 * i' + 9 * t' + k
          · rw [b2, va, show (27 * i' + 9 * t' + k) / 9 = 3 * i' + t' by omega, show (27 * i' + 9 * t' + k) % 9 = k by omega, if_pos (Nat.lt_succ_self k)]
          · rw [ra n b2, hR n hn]
            unfold fl mixA
            by_cases g : n % 9 < k
            · rw [if_pos g, if_pos (by omega)]
            · rw [if_neg g]
              by_cases g0 : n % 9 = k
              · rw [if_pos (by omega), w0 _ _ (by omega) (by omega)]
              · rw [if_neg (by omega)])
    have copy := up_ind (P := fun k => ∀ wi' : Nat → Nat → Int32, (∀ y, y ≠ 57 → wi' y = wi0 y) → (∀ j, j < k → wi' 57 j = nI (fl A (27 * i' + j))) → Jm 41 [some (.ref 45), some (.int (nI i')), some (.int (nI t')), some (.int (nI f')), some (.int (nI k))] [] (GC ++ (GM ++ r), wi', wl) 0 0) 27 (fun k hk ih => by
      intro wi' hF hB
      refine hs 400 41 _ _ _ _ _ ?_
      conv => whnf
      repeat ((first | refine ⟨zH_of _, ?_⟩ | refine ⟨trivial, ?_⟩ | refine ⟨rfl, ?_⟩ | refine ⟨fun hc => absurd hc (by decide), fun _ => ?_⟩ | refine ⟨fun _ => ?_, fun hc => absurd (by decide) hc⟩ | refine ⟨fun _ => ?_, fun hc => absurd hc (by decide)⟩ | refine ⟨fun hc => absurd (by decide) hc, fun _ => ?_⟩); conv => whnf)
      try dsimp only
      rw [ltN (by omega) (by omega)]
      refine ⟨fun hc => ?_, fun hc => ?_⟩
      · obtain rfl : k = 27 := by omega
        conv => whnf
        repeat ((first | refine ⟨zH_of _, ?_⟩ | refine ⟨trivial, ?_⟩ | refine ⟨rfl, ?_⟩ | refine ⟨fun hc => absurd hc (by decide), fun _ => ?_⟩ | refine ⟨fun _ => ?_, fun hc => absurd (by decide) hc⟩ | refine ⟨fun _ => ?_, fun hc => absurd hc (by decide)⟩ | refine ⟨fun hc => absurd (by decide) hc, fun _ => ?_⟩); conv => whnf)
        try dsimp only
        refine loop 0 (Nat.zero_le _) wi' (fun y _ g => hF y g) hB (fun n hn => ?_)
        rw [hF 47 (by decide), ms_f hS n hn]
        rfl
      · have ih := ih hc
        conv => whnf
        repeat ((first | refine ⟨zH_of _, ?_⟩ | refine ⟨trivial, ?_⟩ | refine ⟨rfl, ?_⟩ | refine ⟨fun hc => absurd hc (by decide), fun _ => ?_⟩ | refine ⟨fun _ => ?_, fun hc => absurd (by decide) hc⟩ | refine ⟨fun _ => ?_, fun hc => absurd hc (by decide)⟩ | refine ⟨fun hc => absurd (by decide) hc, fun _ => ?_⟩); conv => whnf)
        try dsimp only
        rw [pk_mul, nI_add]
        refine ⟨vp_in_nI (show 27 * i' + k < 1080 by omega) (by decide), ?_⟩
        conv => whnf
        repeat ((first | refine ⟨zH_of _, ?_⟩ | refine ⟨trivial, ?_⟩ | refine ⟨rfl, ?_⟩ | refine ⟨fun hc => absurd hc (by decide), fun _ => ?_⟩ | refine ⟨fun _ => ?_, fun hc => absurd (by decide) hc⟩ | refine ⟨fun _ => ?_, fun hc => absurd hc (by decide)⟩ | refine ⟨fun hc => absurd (by decide) hc, fun _ => ?_⟩); conv => whnf)
        try dsimp only
        refine ⟨vp_in_nI (show k < 1080 by omega) (by decide), ?_⟩
        conv => whnf
        repeat ((first | refine ⟨zH_of _, ?_⟩ | refine ⟨trivial, ?_⟩ | refine ⟨rfl, ?_⟩ | refine ⟨fun hc => absurd hc (by decide), fun _ => ?_⟩ | refine ⟨fun _ => ?_, fun hc => absurd (by decide) hc⟩ | refine ⟨fun _ => ?_, fun hc => absurd hc (by decide)⟩ | refine ⟨fun hc => absurd (by decide) hc, fun _ => ?_⟩); conv => whnf)
        try dsimp only
        rw [nI_clamp (n := 27 * i' + k) (by omega), nI_clamp (n := k) (by omega), hF 47 (by decide), ms_f hS _ (by omega), nI_add]
        refine ih _ (fun y hy => by rw [z_up_ne hy, hF y hy]) (fun j hj => ?_)
        by_cases e : j = k
        · rw [e, z_up_eq]
        · rw [z_up_nei e]
          exact hB j (by omega))
    conv => whnf
    repeat ((first | refine ⟨zH_of _, ?_⟩ | refine ⟨trivial, ?_⟩ | refine ⟨rfl, ?_⟩ | refine ⟨fun hc => absurd hc (by decide), fun _ => ?_⟩ | refine ⟨fun _ => ?_, fun hc => absurd (by decide) hc⟩ | refine ⟨fun _ => ?_, fun hc => absurd hc (by decide)⟩ | refine ⟨fun hc => absurd (by decide) hc, fun _ => ?_⟩); conv => whnf)
    try dsimp only
    exact copy 0 (Nat.zero_le _) wi0 (fun _ _ => rfl) (fun j hj => absurd hj (Nat.not_lt_zero j))

