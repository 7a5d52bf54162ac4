/-! the reference: tables multiplied -/
theorem sm_modM {f g : Nat → Nat} {q : Nat} : ∀ {n : Nat}, (∀ k, k < n → f k % q = g k % q) → fb_sm f n % q = fb_sm g n % q
  | 0, _ => rfl
  | n + 1, h => by
    rw [fb_sm_succ, fb_sm_succ, Nat.add_mod, sm_modM (fun k hk => h k (by omega)), h n (by omega), ← Nat.add_mod]
def cmM (d : Nat → Nat) (A : Nat → Nat → Nat) (N : Nat → Nat) (z c : Nat) : Nat := fb_sm (fun i => weN (A (3 * i)) N 0 (pl d 0) * weN (A (3 * i + 1)) N (pl d 0) (pl d 1) * A (3 * i + 2) z) c
theorem cm_M {d : Nat → Nat} {q : Nat} {A : Nat → Nat → Nat} {N : Nat → Nat} {z c : Nat} : cmN d q A N z c % q = cmM d A N z c % q := sm_modM (fun i _ => by rw [Nat.mul_mod, Nat.mod_mod, ← Nat.mul_mod])
theorem tm_same {wi : Nat → Nat → Int32} {wl : Nat → Nat → Int64} {n m : Nat} {xs : Nat → Int64} {v : Int64} (h : TM wi wl n (upL xs m v)) (e : v = xs m) : TM wi wl n xs := ⟨h.1, h.2.1, fun k hk => by
  rw [h.2.2 k hk]
  unfold upL
  split
  · rename_i e2
    rw [e2, e]
  · rfl⟩
def sp_X12_multiplies : zSp := fun av w K => match av with
  | [.ref o] => o = 45 ∧ zH w.1 ∧ ∃ T, MT w.2.1 w.2.2 T ∧ ZT T ∧ ∀ wi' wl', FrM w.2.1 w.2.2 wi' wl' → MT wi' wl' (st_multiplies T).1 → K (some (.int (st_multiplies T).2)) (w.1, wi', wl')
  | _ => False
def rm_X12_multiplies : Room := { frames := 4, cells := 0, slots := 0, locals := 85 }
def M_X12_multiplies : zM := (k_X12_multiplies, f_X12, [(151, 4, 10, 1, 0, 0, sp_X12_begin), (96, 4, 10, 2, 0, 0, sp_X12_placesOf), (196, 4, 10, 2, 0, 0, sp_X12_readTables), (160, 4, 10, 1, 0, 0, sp_X12_told), (199, 4, 10, 4, 0, 0, sp_X12_madeOf), (107, 0, 0, 3, 0, 0, sp_X12_at), (88, 4, 10, 2, 0, 0, sp_X12_columnsOf), (192, 4, 10, 2, 0, 0, sp_X12_tell)], ([], [], []), [], [(46, [true, true, true, false, false, false, false, false]), (60, [true, true, true, true, true, false, false, false]), (136, [true, true, true, true, true, true, true, true])], 1, false, (false, 0, fun _ => 0), (0, 0))
theorem ca_X12_multiplies_0 (l : Launch) : z_cok l RX12 (headSpec (.code yX12_multiplies cX12_multiplies 8 (some .int) :: zTT) rm_X12_multiplies).room (151, 4, 10, 1, 0, 0, sp_X12_begin) := z_ca4 (c_X12_begin l) mb_X12_begin ⟨_, rfl, rfl⟩ wt_1266 wt_1268 wt_29 (by decide)
theorem ca_X12_multiplies_1 (l : Launch) : z_cok l RX12 (headSpec (.code yX12_multiplies cX12_multiplies 8 (some .int) :: zTT) rm_X12_multiplies).room (96, 4, 10, 2, 0, 0, sp_X12_placesOf) := z_ca4 (c_X12_placesOf l) mb_X12_placesOf ⟨_, rfl, rfl⟩ wt_1349 wt_1351 wt_45 (by decide)
theorem ca_X12_multiplies_2 (l : Launch) : z_cok l RX12 (headSpec (.code yX12_multiplies cX12_multiplies 8 (some .int) :: zTT) rm_X12_multiplies).room (196, 4, 10, 2, 0, 0, sp_X12_readTables) := z_ca4 (c_X12_readTables l) mb_X12_readTables ⟨_, rfl, rfl⟩ wt_1381 wt_1383 wt_50 (by decide)
theorem ca_X12_multiplies_3 (l : Launch) : z_cok l RX12 (headSpec (.code yX12_multiplies cX12_multiplies 8 (some .int) :: zTT) rm_X12_multiplies).room (160, 4, 10, 1, 0, 0, sp_X12_told) := z_ca4 (c_X12_told l) mb_X12_told ⟨_, rfl, rfl⟩ wt_1314 wt_1316 wt_41 (by decide)
theorem ca_X12_multiplies_4 (l : Launch) : z_cok l RX12 (headSpec (.code yX12_multiplies cX12_multiplies 8 (some .int) :: zTT) rm_X12_multiplies).room (199, 4, 10, 4, 0, 0, sp_X12_madeOf) := z_ca4 (c_X12_madeOf l) mb_X12_madeOf ⟨_, rfl, rfl⟩ wt_1385 wt_1387 wt_51 (by decide)
theorem ca_X12_multiplies_5 (l : Launch) : z_cok l RX12 (headSpec (.code yX12_multiplies cX12_multiplies 8 (some .int) :: zTT) rm_X12_multiplies).room (107, 0, 0, 3, 0, 0, sp_X12_at) := z_ca0 (c_X12_at l) mb_X12_at wt_1136 wt_1137 (by decide)
theorem ca_X12_multiplies_6 (l : Launch) : z_cok l RX12 (headSpec (.code yX12_multiplies cX12_multiplies 8 (some .int) :: zTT) rm_X12_multiplies).room (88, 4, 10, 2, 0, 0, sp_X12_columnsOf) := z_ca4 (c_X12_columnsOf l) mb_X12_columnsOf ⟨_, rfl, rfl⟩ wt_1306 wt_1308 wt_39 (by decide)
theorem ca_X12_multiplies_7 (l : Launch) : z_cok l RX12 (headSpec (.code yX12_multiplies cX12_multiplies 8 (some .int) :: zTT) rm_X12_multiplies).room (192, 4, 10, 2, 0, 0, sp_X12_tell) := z_ca4 (c_X12_tell l) mb_X12_tell ⟨_, rfl, rfl⟩ wt_1369 wt_1371 wt_49 (by decide)
theorem O_X12_multiplies (l : Launch) : z_OK l RX12 cX12_multiplies (headSpec (.code yX12_multiplies cX12_multiplies 8 (some .int) :: zTT) rm_X12_multiplies).room M_X12_multiplies := ⟨ok_X12_multiplies, fo_X12, List.forall_mem_cons.mpr ⟨ca_X12_multiplies_0 l, List.forall_mem_cons.mpr ⟨ca_X12_multiplies_1 l, List.forall_mem_cons.mpr ⟨ca_X12_multiplies_2 l, List.forall_mem_cons.mpr ⟨ca_X12_multiplies_3 l, List.forall_mem_cons.mpr ⟨ca_X12_multiplies_4 l, List.forall_mem_cons.mpr ⟨ca_X12_multiplies_5 l, List.forall_mem_cons.mpr ⟨ca_X12_multiplies_6 l, List.forall_mem_cons.mpr ⟨ca_X12_multiplies_7 l, fun _ h => absurd h List.not_mem_nil⟩⟩⟩⟩⟩⟩⟩⟩, fun _ h => absurd h List.not_mem_nil, fun _ h => absurd h List.not_mem_nil, fun _ h => absurd h List.not_mem_nil, fun _ h => absurd h List.not_mem_nil, rfl, rfl⟩
theorem c_X12_multiplies (l : Launch) : z_CS l yX12_multiplies cX12_multiplies 8 (some .int) rm_X12_multiplies sp_X12_multiplies := by
  refine z_meth (by decide) (Or.inr (Or.inl ⟨rfl, rfl⟩)) (fun h => by cases h) rfl (O_X12_multiplies l) ?_
  intro av w K h
  match av, h with
  | [.ref o], h =>
    obtain ⟨rfl, ⟨r, hG⟩, ⟨d, q, c, A, kp, ⟨L, x⟩, tl⟩, hC, hZ, h⟩ := h
    obtain ⟨G, wi, wl⟩ := w
    subst hG
    try dsimp only at h hC hZ
    have hC := mt_fld (i := 11) (v := nI 0) hC (by decide)
    have hF0 : FrM wi wl (z_up wi 45 11 (nI 0)) wl := fm_fld
    refine ⟨Nat.le_of_ble_eq_true rfl, fun Jm hs => ?_⟩
    have q23 := ms_q23 (mt_S hC)
    have hd3 := ms_hd (mt_S hC)
    have h40 := ms_40 (mt_S hC)
    have p0 := pl_le hd3 (t := 0) (by decide)
    have p1 := pl_le hd3 (t := 1) (by decide)
    have p2 := pl_le hd3 (t := 2) (by decide)
    have nlt := nuL_lt (x := x) (L := L) (q := q) (by omega) (pl d 0 + pl d 1)
    unfold st_multiplies txt0 wTl muN at h
    dsimp only at h
    generalize hR : nuL x L q (pl d 0 + pl d 1) = R at h nlt
    have hX := mt_X hC
    dsimp only at hX
    refine hs 400 0 _ _ _ _ _ ?_
    conv => whnf
    repeat ((first | refine ⟨zH_of _, ?_⟩ | refine ⟨trivial, ?_⟩ | refine ⟨rfl, ?_⟩ | refine ⟨fun hc => absurd hc (by decide), fun _ => ?_⟩ | refine ⟨fun _ => ?_, fun hc => absurd (by decide) hc⟩ | refine ⟨fun _ => ?_, fun hc => absurd hc (by decide)⟩ | refine ⟨fun hc => absurd (by decide) hc, fun _ => ?_⟩); conv => whnf)
    try dsimp only
    generalize z_up wi 45 11 (nI 0) = wi0 at *
    obtain ⟨wi1, hw1⟩ : ∃ wi1, wi1 = z_up (z_up (z_up (z_up wi0 45 12 (wi0 45 8)) 45 8 (nI 0)) 45 13 (nI 0)) 45 14 (mI 1) := ⟨_, rfl⟩
    have a8 : wi1 45 8 = nI 0 := by rw [hw1]; rfl
    have a12 : wi1 45 12 = wi0 45 8 := by rw [hw1]; rfl
    have a13 : wi1 45 13 = nI 0 := by rw [hw1]; rfl
    have a14 : wi1 45 14 = mI 1 := by rw [hw1]; rfl
    have hS1 : FSc wi0 wi1 := ⟨fun y g1 g2 => by rw [hw1, z_up_ne g1, z_up_ne g1, z_up_ne g1, z_up_ne g1], fun i g1 g2 g3 g4 g5 => by rw [hw1, z_up_nei g4, z_up_nei g3, z_up_nei g1, z_up_nei g2]⟩
    rw [← hw1]
    have hMS : ∀ wi' : Nat → Nat → Int32, wi' 46 = wi0 46 → wi' 47 = wi0 47 → wi' 45 1 = wi0 45 1 → wi' 45 2 = wi0 45 2 → MS wi' d q c A := fun wi' g1 g2 g3 g4 => ms_fr (mt_S hC) g1 g3 g4 g2
    have S1 : MS wi1 d q c A := hMS wi1 (hS1.1 46 (by decide) (by decide)) (hS1.1 47 (by decide) (by decide)) (hS1.2 1 (by decide) (by decide) (by decide) (by decide) (by decide)) (hS1.2 2 (by decide) (by decide) (by decide) (by decide) (by decide))
    refine ⟨0, rfl, by decide, ?_⟩
    rw [mpl S1 (by decide)]
    conv => whnf
    repeat ((first | refine ⟨zH_of _, ?_⟩ | refine ⟨trivial, ?_⟩ | refine ⟨rfl, ?_⟩ | refine ⟨fun hc => absurd hc (by decide), fun _ => ?_⟩ | refine ⟨fun _ => ?_, fun hc => absurd (by decide) hc⟩ | refine ⟨fun _ => ?_, fun hc => absurd hc (by decide)⟩ | refine ⟨fun hc => absurd (by decide) hc, fun _ => ?_⟩); conv => whnf)
    try dsimp only
    refine ⟨1, rfl, by decide, ?_⟩
    rw [mpl S1 (by decide)]
    conv => whnf
    repeat ((first | refine ⟨zH_of _, ?_⟩ | refine ⟨trivial, ?_⟩ | refine ⟨rfl, ?_⟩ | refine ⟨fun hc => absurd hc (by decide), fun _ => ?_⟩ | refine ⟨fun _ => ?_, fun hc => absurd (by decide) hc⟩ | refine ⟨fun _ => ?_, fun hc => absurd hc (by decide)⟩ | refine ⟨fun hc => absurd (by decide) hc, fun _ => ?_⟩); conv => whnf)
    try dsimp only
    rw [nI_add]
    refine ⟨L, x, q, pl d 0 + pl d 1, xm_xr hX a12 a13 (hS1.1 50 (by decide) (by decide)), a14, ms_q S1, q23, rfl, by omega, fun wi2 hF2 hP2 => ?_⟩
    rw [hR] at hP2
    have b8 : wi2 45 8 = nI 0 := by rw [hF2.2 8 (by decide) (by decide)]; exact a8
    have hF : (∀ y, y ≠ 45 → y ≠ 52 → y ≠ 53 → wi2 y = wi0 y) ∧ ∀ i, i ≠ 8 → i ≠ 12 → i ≠ 13 → i ≠ 14 → i ≠ 16 → wi2 45 i = wi0 45 i := ⟨fun y g1 g2 g3 => (hF2.1 y g1 g3).trans (hS1.1 y g1 g2), fun i g1 g2 g3 g4 g5 => (hF2.2 i g3 g4).trans (hS1.2 i g1 g2 g3 g4 g5)⟩
    have hM : MT wi2 wl (d, q, c, A, kp, (0, x), tl) := ⟨hMS wi2 (hF.1 46 (by decide) (by decide) (by decide)) (hF.1 47 (by decide) (by decide) (by decide)) (hF.2 1 (by decide) (by decide) (by decide) (by decide) (by decide)) (hF.2 2 (by decide) (by decide) (by decide) (by decide) (by decide)), km_fr (mt_K hC) (hF.2 4 (by decide) (by decide) (by decide) (by decide) (by decide)) (hF.1 48 (by decide) (by decide) (by decide)) (hF.1 49 (by decide) (by decide) (by decide)), ⟨b8, Nat.zero_le _, fun k hk => absurd hk (Nat.not_lt_zero k)⟩, tm_fr (mt_T hC) (hF.2 10 (by decide) (by decide) (by decide) (by decide) (by decide)) rfl⟩
    have hF1 : FrM wi wl wi2 wl := FrM_trans hF0 (fun y hy => ⟨hF.1 y (by omega) (by omega) (by omega), rfl⟩)
    conv => whnf
    repeat ((first | refine ⟨zH_of _, ?_⟩ | refine ⟨trivial, ?_⟩ | refine ⟨rfl, ?_⟩ | refine ⟨fun hc => absurd hc (by decide), fun _ => ?_⟩ | refine ⟨fun _ => ?_, fun hc => absurd (by decide) hc⟩ | refine ⟨fun _ => ?_, fun hc => absurd hc (by decide)⟩ | refine ⟨fun hc => absurd (by decide) hc, fun _ => ?_⟩); conv => whnf)
    try dsimp only
    rcases hP2 with ⟨ef, w2, hN⟩ | ⟨k', ef, w2, hk'⟩
    · rw [ef, if_pos (by decide)] at h
      refine ⟨fun _ => ?_, fun z => absurd w2 z⟩
      generalize R.2.2 = N at *
      have S2 := mt_S hM
      have M1 : TM (z_up wi2 45 10 (nI 0)) wl 0 (muX d q A c N) := tm_0
      have T1 : TF wi2 wl (z_up wi2 45 10 (nI 0)) wl := tf_fld (by decide)
      have we : ∀ i t s, i < c → t < 3 → s + pl d t ≤ pl d 0 + pl d 1 → weN (A (3 * i + t)) N s (pl d t) ≤ 36 := fun i t s hi ht hs => by
        have p9 := pl_le hd3 ht
        have := weN_le (a := A (3 * i + t)) (N := N) (s := s) (n := pl d t) (fun p hp => ms_3 S2 hi ht p (by omega)) (fun p hp => by have := nlt (s + p); omega)
        omega
      have cm_le : ∀ z k, z < 9 → k ≤ c → cmM d A N z k ≤ k * 2592 := fun z k hz hk => fb_sm_bound (fun i hi => by
        have e0 := we i 0 0 (by omega) (by decide) (by omega)
        have e1 := we i 1 (pl d 0) (by omega) (by decide) (by omega)
        have e2 := ms_3 S2 (i := i) (t := 2) (by omega) (by decide) z hz
        exact Nat.mul_le_mul (Nat.mul_le_mul e0 e1) (show A (3 * i + 2) z ≤ 2 by omega))
      generalize hB : muB d q A c N = f at *
      have fle : ∀ m, fb_ct f m ≤ m := fb_ct_le f
      have loop := up_ind (P := fun z => ∀ wi3 wl3, TF wi2 wl wi3 wl3 → TM wi3 wl3 z (muX d q A c N) → Jm 46 [some (.ref 45), some (.int (nI (fb_ct f z))), some (.int (nI z)), none, none, none, none, none] [] (GC ++ (GM ++ r), wi3, wl3) 0 0) (pl d 2) (fun z hz ih => by
        intro wi3 wl3 T3 M3
        have S3 := tf_ms T3 S2
        have hN3 : ∀ s, s < pl d 0 + pl d 1 → wi3 53 s = nI (N s) := fun s hs => by rw [T3.1 53 (by decide)]; exact hN s hs
        refine hs 400 46 _ _ _ _ _ ?_
        conv => whnf
        repeat ((first | refine ⟨zH_of _, ?_⟩ | refine ⟨trivial, ?_⟩ | refine ⟨rfl, ?_⟩ | refine ⟨fun hc => absurd hc (by decide), fun _ => ?_⟩ | refine ⟨fun _ => ?_, fun hc => absurd (by decide) hc⟩ | refine ⟨fun _ => ?_, fun hc => absurd hc (by decide)⟩ | refine ⟨fun hc => absurd (by decide) hc, fun _ => ?_⟩); conv => whnf)
        try dsimp only
        refine ⟨2, rfl, by decide, ?_⟩
        rw [mpl S3 (by decide)]
        conv => whnf
        repeat ((first | refine ⟨zH_of _, ?_⟩ | refine ⟨trivial, ?_⟩ | refine ⟨rfl, ?_⟩ | refine ⟨fun hc => absurd hc (by decide), fun _ => ?_⟩ | refine ⟨fun _ => ?_, fun hc => absurd (by decide) hc⟩ | refine ⟨fun _ => ?_, fun hc => absurd hc (by decide)⟩ | refine ⟨fun hc => absurd (by decide) hc, fun _ => ?_⟩); conv => whnf)
        try dsimp only
        rw [ltN (by omega) (by omega)]
        refine ⟨fun hc => ?_, fun hc => ?_⟩
        · obtain rfl : z = pl d 2 := by omega
          exact ⟨trivial, h wi3 wl3 (FrM_trans hF1 (tf_fr T3)) (tf_mt T3 hM M3)⟩
        · have ih := ih hc
          have come := up_ind (P := fun i => Jm 60 [some (.ref 45), some (.int (nI (fb_ct f z))), some (.int (nI z)), some (.int (nI (cmM d A N z i))), some (.int (nI i)), none, none, none] [] (GC ++ (GM ++ r), wi3, wl3) 0 0) c (fun i hi ihi => by
            refine hs 400 60 _ _ _ _ _ ?_
            conv => whnf
            repeat ((first | refine ⟨zH_of _, ?_⟩ | refine ⟨trivial, ?_⟩ | refine ⟨rfl, ?_⟩ | refine ⟨fun hc => absurd hc (by decide), fun _ => ?_⟩ | refine ⟨fun _ => ?_, fun hc => absurd (by decide) hc⟩ | refine ⟨fun _ => ?_, fun hc => absurd hc (by decide)⟩ | refine ⟨fun hc => absurd (by decide) hc, fun _ => ?_⟩); conv => whnf)
            try dsimp only
            rw [ms_c S3, ltN (by omega) (by omega)]
            refine ⟨fun hc2 => ?_, fun hc2 => ?_⟩
            · obtain hin : i = c := by omega
              rw [hin]
              have cl := cm_le z c (by omega) (Nat.le_refl c)
              have d0 := hd3 0 (by decide)
              have d1 := hd3 1 (by decide)
              have d2 := hd3 2 (by decide)
              have ez : z < d 2 * d 0 := hc
              have rr : z % d 0 < d 0 := Nat.mod_lt _ (by omega)
              have cc : z / d 0 < d 2 := Nat.div_lt_of_lt_mul (by rw [Nat.mul_comm]; exact ez)
              have z0 : z / d 0 ≤ z := Nat.div_le_self _ _
              have nz : ¬ nI (d 0) = 0 := by
                rw [show (0 : Int32) = nI 0 from rfl, eq0N (by omega)]
                omega
              have e0 : wi3 46 (nx 2) = nI (d 0) := ms_d S3 0 (by decide)
              have e1 : wi3 46 1 = nI (d 1) := ms_d S3 1 (by decide)
              have e2 : wi3 46 2 = nI (d 2) := ms_d S3 2 (by decide)
              conv => whnf
              repeat ((first | refine ⟨zH_of _, ?_⟩ | refine ⟨trivial, ?_⟩ | refine ⟨rfl, ?_⟩ | refine ⟨fun hc => absurd hc (by decide), fun _ => ?_⟩ | refine ⟨fun _ => ?_, fun hc => absurd (by decide) hc⟩ | refine ⟨fun _ => ?_, fun hc => absurd hc (by decide)⟩ | refine ⟨fun hc => absurd (by decide) hc, fun _ => ?_⟩); conv => whnf)
              try dsimp only
              refine ⟨2, rfl, by decide, ?_⟩
              rw [e0]
              conv => whnf
              repeat ((first | refine ⟨zH_of _, ?_⟩ | refine ⟨trivial, ?_⟩ | refine ⟨rfl, ?_⟩ | refine ⟨fun hc => absurd hc (by decide), fun _ => ?_⟩ | refine ⟨fun _ => ?_, fun hc => absurd (by decide) hc⟩ | refine ⟨fun _ => ?_, fun hc => absurd hc (by decide)⟩ | refine ⟨fun hc => absurd (by decide) hc, fun _ => ?_⟩); conv => whnf)
              try dsimp only
              refine ⟨nz, ?_⟩
              conv => whnf
              repeat ((first | refine ⟨zH_of _, ?_⟩ | refine ⟨trivial, ?_⟩ | refine ⟨rfl, ?_⟩ | refine ⟨fun hc => absurd hc (by decide), fun _ => ?_⟩ | refine ⟨fun _ => ?_, fun hc => absurd (by decide) hc⟩ | refine ⟨fun _ => ?_, fun hc => absurd hc (by decide)⟩ | refine ⟨fun hc => absurd (by decide) hc, fun _ => ?_⟩); conv => whnf)
              try dsimp only
              refine ⟨2, rfl, by decide, ?_⟩
              rw [e0]
              conv => whnf
              repeat ((first | refine ⟨zH_of _, ?_⟩ | refine ⟨trivial, ?_⟩ | refine ⟨rfl, ?_⟩ | refine ⟨fun hc => absurd hc (by decide), fun _ => ?_⟩ | refine ⟨fun _ => ?_, fun hc => absurd (by decide) hc⟩ | refine ⟨fun _ => ?_, fun hc => absurd hc (by decide)⟩ | refine ⟨fun hc => absurd (by decide) hc, fun _ => ?_⟩); conv => whnf)
              try dsimp only
              refine ⟨nz, ?_⟩
              rw [pk_div (by omega) (by omega) (by omega), z_remN (by omega) (by omega) (by omega)]
              conv => whnf
              repeat ((first | refine ⟨zH_of _, ?_⟩ | refine ⟨trivial, ?_⟩ | refine ⟨rfl, ?_⟩ | refine ⟨fun hc => absurd hc (by decide), fun _ => ?_⟩ | refine ⟨fun _ => ?_, fun hc => absurd (by decide) hc⟩ | refine ⟨fun _ => ?_, fun hc => absurd hc (by decide)⟩ | refine ⟨fun hc => absurd (by decide) hc, fun _ => ?_⟩); conv => whnf)
              try dsimp only
              have hB1 : ∀ j, j < d 1 → z % d 0 * d 1 + j < pl d 0 := fun j hj => by
                have k : (z % d 0 + 1) * d 1 ≤ d 0 * d 1 := Nat.mul_le_mul_right _ rr
                rw [Nat.add_mul, Nat.one_mul] at k
                show _ < d 0 * d 1
                omega
              have hB2 : ∀ j, j < d 1 → j * d 2 + z / d 0 < pl d 1 := fun j hj => by
                have k : (j + 1) * d 2 ≤ d 1 * d 2 := Nat.mul_le_mul_right _ hj
                rw [Nat.add_mul, Nat.one_mul] at k
                show _ < d 1 * d 2
                omega
              have due_le : ∀ j, j ≤ d 1 → duN d N z j ≤ j * 4 := fun j hj => fb_sm_bound (fun k hk => by
                have n1 := nlt (z % d 0 * d 1 + k)
                have n2 := nlt (pl d 0 + k * d 2 + z / d 0)
                exact Nat.mul_le_mul (show N (z % d 0 * d 1 + k) ≤ 2 by omega) (show N (pl d 0 + k * d 2 + z / d 0) ≤ 2 by omega))
              have dl := due_le (d 1) (Nat.le_refl _)
              have fz := fle z
              have cq : cmM d A N z c % q < q := Nat.mod_lt _ (by omega)
              have dq : duN d N z (d 1) % q < q := Nat.mod_lt _ (by omega)
              have fe : f z = !(cmM d A N z c % q == duN d N z (d 1) % q) := by
                rw [← hB]
                unfold muB
                rw [cm_M]
              have hmu : lN (cmM d A N z c % q) = muX d q A c N z := by
                unfold muX
                rw [cm_M]
              generalize hCM : cmM d A N z c = CM at *
              generalize hrr : z % d 0 = ro at *
              generalize hcc : z / d 0 = co at *
              have due := up_ind (P := fun j => Jm 136 [some (.ref 45), some (.int (nI (fb_ct f z))), some (.int (nI z)), some (.int (nI CM)), some (.int (nI co)), some (.int (nI ro)), some (.int (nI (duN d N z j))), some (.int (nI j))] [] (GC ++ (GM ++ r), wi3, wl3) 0 0) (d 1) (fun j hj ihj => by
                refine hs 400 136 _ _ _ _ _ ?_
                conv => whnf
                repeat ((first | refine ⟨zH_of _, ?_⟩ | refine ⟨trivial, ?_⟩ | refine ⟨rfl, ?_⟩ | refine ⟨fun hc => absurd hc (by decide), fun _ => ?_⟩ | refine ⟨fun _ => ?_, fun hc => absurd (by decide) hc⟩ | refine ⟨fun _ => ?_, fun hc => absurd hc (by decide)⟩ | refine ⟨fun hc => absurd (by decide) hc, fun _ => ?_⟩); conv => whnf)
                try dsimp only
                refine ⟨vp_in_nI (show 1 < 3 by decide) (by decide), ?_⟩
                conv => whnf
                repeat ((first | refine ⟨zH_of _, ?_⟩ | refine ⟨trivial, ?_⟩ | refine ⟨rfl, ?_⟩ | refine ⟨fun hc => absurd hc (by decide), fun _ => ?_⟩ | refine ⟨fun _ => ?_, fun hc => absurd (by decide) hc⟩ | refine ⟨fun _ => ?_, fun hc => absurd hc (by decide)⟩ | refine ⟨fun hc => absurd (by decide) hc, fun _ => ?_⟩); conv => whnf)
                try dsimp only
                rw [nI_clamp (n := 1) (by omega), e1, ltN (by omega) (by omega)]
                refine ⟨fun hc3 => ?_, fun hc3 => ?_⟩
                · obtain hjn : j = d 1 := by omega
                  rw [hjn]
                  generalize duN d N z (d 1) = D at *
                  conv => whnf
                  repeat ((first | refine ⟨zH_of _, ?_⟩ | refine ⟨trivial, ?_⟩ | refine ⟨rfl, ?_⟩ | refine ⟨fun hc => absurd hc (by decide), fun _ => ?_⟩ | refine ⟨fun _ => ?_, fun hc => absurd (by decide) hc⟩ | refine ⟨fun _ => ?_, fun hc => absurd hc (by decide)⟩ | refine ⟨fun hc => absurd (by decide) hc, fun _ => ?_⟩); conv => whnf)
                  try dsimp only
                  rw [ms_q S3]
                  refine ⟨q_n0 q23, ?_⟩
                  conv => whnf
                  repeat ((first | refine ⟨zH_of _, ?_⟩ | refine ⟨trivial, ?_⟩ | refine ⟨rfl, ?_⟩ | refine ⟨fun hc => absurd hc (by decide), fun _ => ?_⟩ | refine ⟨fun _ => ?_, fun hc => absurd (by decide) hc⟩ | refine ⟨fun _ => ?_, fun hc => absurd hc (by decide)⟩ | refine ⟨fun hc => absurd (by decide) hc, fun _ => ?_⟩); conv => whnf)
                  try dsimp only
                  rw [ms_q S3]
                  refine ⟨q_n0 q23, ?_⟩
                  conv => whnf
                  repeat ((first | refine ⟨zH_of _, ?_⟩ | refine ⟨trivial, ?_⟩ | refine ⟨rfl, ?_⟩ | refine ⟨fun hc => absurd hc (by decide), fun _ => ?_⟩ | refine ⟨fun _ => ?_, fun hc => absurd (by decide) hc⟩ | refine ⟨fun _ => ?_, fun hc => absurd hc (by decide)⟩ | refine ⟨fun hc => absurd (by decide) hc, fun _ => ?_⟩); conv => whnf)
                  try dsimp only
                  rw [z_remN (by omega) (by omega) (by omega), z_remN (by omega) (by omega) (by omega), nI_eq (by omega) (by omega)]
                  have tail : ∀ v : Nat, fb_ct f (z + 1) = fb_ct f z + v → ∀ wi4 wl4, TF wi3 wl3 wi4 wl4 → TM wi4 wl4 (z + 1) (upL (muX d q A c N) z (lN (CM % q))) → Jm 46 [some (.ref 45), some (.int (nI (fb_ct f z + v))), some (.int (nI (z + 1))), none, none, none, none, none] [] (GC ++ (GM ++ r), wi4, wl4) 0 0 := fun v hv wi4 wl4 T4 M4 => by
                    rw [← hv]
                    exact ih wi4 wl4 (tf_trans T3 T4) (tm_same M4 hmu)
                  refine ⟨fun hq => ?_, fun hq => ?_⟩
                  · have tail := tail 0 (ct_f (by rw [fe]; simp [hq]))
                    conv => whnf
                    repeat ((first | refine ⟨zH_of _, ?_⟩ | refine ⟨trivial, ?_⟩ | refine ⟨rfl, ?_⟩ | refine ⟨fun hc => absurd hc (by decide), fun _ => ?_⟩ | refine ⟨fun _ => ?_, fun hc => absurd (by decide) hc⟩ | refine ⟨fun _ => ?_, fun hc => absurd hc (by decide)⟩ | refine ⟨fun hc => absurd (by decide) hc, fun _ => ?_⟩); conv => whnf)
                    try dsimp only
                    rw [ms_q S3]
                    refine ⟨q_n0 q23, ?_⟩
                    conv => whnf
                    repeat ((first | refine ⟨zH_of _, ?_⟩ | refine ⟨trivial, ?_⟩ | refine ⟨rfl, ?_⟩ | refine ⟨fun hc => absurd hc (by decide), fun _ => ?_⟩ | refine ⟨fun _ => ?_, fun hc => absurd (by decide) hc⟩ | refine ⟨fun _ => ?_, fun hc => absurd hc (by decide)⟩ | refine ⟨fun hc => absurd (by decide) hc, fun _ => ?_⟩); conv => whnf)
                    try dsimp only
                    rw [z_remN (by omega) (by omega) (by omega), nI_l (by omega)]
                    refine ⟨z, _, M3, by omega, fun wi4 wl4 a1 a2 a3 M4 => ?_⟩
                    conv => whnf
                    repeat ((first | refine ⟨zH_of _, ?_⟩ | refine ⟨trivial, ?_⟩ | refine ⟨rfl, ?_⟩ | refine ⟨fun hc => absurd hc (by decide), fun _ => ?_⟩ | refine ⟨fun _ => ?_, fun hc => absurd (by decide) hc⟩ | refine ⟨fun _ => ?_, fun hc => absurd hc (by decide)⟩ | refine ⟨fun hc => absurd (by decide) hc, fun _ => ?_⟩); conv => whnf)
                    try dsimp only
                    rw [nI_add, nI_add]
                    exact tail wi4 wl4 (tf_tell a1 a2 a3) M4
                  · have tail := tail 1 (ct_t (by rw [fe]; simpa using hq))
                    conv => whnf
                    repeat ((first | refine ⟨zH_of _, ?_⟩ | refine ⟨trivial, ?_⟩ | refine ⟨rfl, ?_⟩ | refine ⟨fun hc => absurd hc (by decide), fun _ => ?_⟩ | refine ⟨fun _ => ?_, fun hc => absurd (by decide) hc⟩ | refine ⟨fun _ => ?_, fun hc => absurd hc (by decide)⟩ | refine ⟨fun hc => absurd (by decide) hc, fun _ => ?_⟩); conv => whnf)
                    try dsimp only
                    rw [ms_q S3]
                    refine ⟨q_n0 q23, ?_⟩
                    conv => whnf
                    repeat ((first | refine ⟨zH_of _, ?_⟩ | refine ⟨trivial, ?_⟩ | refine ⟨rfl, ?_⟩ | refine ⟨fun hc => absurd hc (by decide), fun _ => ?_⟩ | refine ⟨fun _ => ?_, fun hc => absurd (by decide) hc⟩ | refine ⟨fun _ => ?_, fun hc => absurd hc (by decide)⟩ | refine ⟨fun hc => absurd (by decide) hc, fun _ => ?_⟩); conv => whnf)
                    try dsimp only
                    rw [z_remN (by omega) (by omega) (by omega), nI_l (by omega)]
                    refine ⟨z, _, M3, by omega, fun wi4 wl4 a1 a2 a3 M4 => ?_⟩
                    conv => whnf
                    repeat ((first | refine ⟨zH_of _, ?_⟩ | refine ⟨trivial, ?_⟩ | refine ⟨rfl, ?_⟩ | refine ⟨fun hc => absurd hc (by decide), fun _ => ?_⟩ | refine ⟨fun _ => ?_, fun hc => absurd (by decide) hc⟩ | refine ⟨fun _ => ?_, fun hc => absurd hc (by decide)⟩ | refine ⟨fun hc => absurd (by decide) hc, fun _ => ?_⟩); conv => whnf)
                    try dsimp only
                    rw [nI_add, nI_add]
                    exact tail wi4 wl4 (tf_tell a1 a2 a3) M4
                · have ihj := ihj hc3
                  have b1 := hB1 j hc3
                  have b2 := hB2 j hc3
                  have e : nI (duN d N z (j + 1)) = nI (duN d N z j) + nI (N (ro * d 1 + j)) * nI (N (pl d 0 + j * d 2 + co)) := by
                    rw [pk_mul, nI_add, ← hrr, ← hcc]
                    rfl
                  rw [e] at ihj
                  conv => whnf
                  repeat ((first | refine ⟨zH_of _, ?_⟩ | refine ⟨trivial, ?_⟩ | refine ⟨rfl, ?_⟩ | refine ⟨fun hc => absurd hc (by decide), fun _ => ?_⟩ | refine ⟨fun _ => ?_, fun hc => absurd (by decide) hc⟩ | refine ⟨fun _ => ?_, fun hc => absurd hc (by decide)⟩ | refine ⟨fun hc => absurd (by decide) hc, fun _ => ?_⟩); conv => whnf)
                  try dsimp only
                  refine ⟨vp_in_nI (show 1 < 3 by decide) (by decide), ?_⟩
                  conv => whnf
                  repeat ((first | refine ⟨zH_of _, ?_⟩ | refine ⟨trivial, ?_⟩ | refine ⟨rfl, ?_⟩ | refine ⟨fun hc => absurd hc (by decide), fun _ => ?_⟩ | refine ⟨fun _ => ?_, fun hc => absurd (by decide) hc⟩ | refine ⟨fun _ => ?_, fun hc => absurd hc (by decide)⟩ | refine ⟨fun hc => absurd (by decide) hc, fun _ => ?_⟩); conv => whnf)
                  try dsimp only
                  rw [nI_clamp (n := 1) (by omega), e1, pk_mul, nI_add]
                  refine ⟨vp_in_nI (show ro * d 1 + j < 18 by omega) (by decide), ?_⟩
                  conv => whnf
                  repeat ((first | refine ⟨zH_of _, ?_⟩ | refine ⟨trivial, ?_⟩ | refine ⟨rfl, ?_⟩ | refine ⟨fun hc => absurd hc (by decide), fun _ => ?_⟩ | refine ⟨fun _ => ?_, fun hc => absurd (by decide) hc⟩ | refine ⟨fun _ => ?_, fun hc => absurd hc (by decide)⟩ | refine ⟨fun hc => absurd (by decide) hc, fun _ => ?_⟩); conv => whnf)
                  try dsimp only
                  refine ⟨0, rfl, by decide, ?_⟩
                  rw [mpl S3 (by decide)]
                  conv => whnf
                  repeat ((first | refine ⟨zH_of _, ?_⟩ | refine ⟨trivial, ?_⟩ | refine ⟨rfl, ?_⟩ | refine ⟨fun hc => absurd hc (by decide), fun _ => ?_⟩ | refine ⟨fun _ => ?_, fun hc => absurd (by decide) hc⟩ | refine ⟨fun _ => ?_, fun hc => absurd hc (by decide)⟩ | refine ⟨fun hc => absurd (by decide) hc, fun _ => ?_⟩); conv => whnf)
                  try dsimp only
                  refine ⟨vp_in_nI (show 2 < 3 by decide) (by decide), ?_⟩
                  conv => whnf
                  repeat ((first | refine ⟨zH_of _, ?_⟩ | refine ⟨trivial, ?_⟩ | refine ⟨rfl, ?_⟩ | refine ⟨fun hc => absurd hc (by decide), fun _ => ?_⟩ | refine ⟨fun _ => ?_, fun hc => absurd (by decide) hc⟩ | refine ⟨fun _ => ?_, fun hc => absurd hc (by decide)⟩ | refine ⟨fun hc => absurd (by decide) hc, fun _ => ?_⟩); conv => whnf)
                  try dsimp only
                  rw [nI_clamp (n := 2) (by omega), e2, pk_mul, nI_add, nI_add]
                  refine ⟨vp_in_nI (show pl d 0 + j * d 2 + co < 18 by omega) (by decide), ?_⟩
                  conv => whnf
                  repeat ((first | refine ⟨zH_of _, ?_⟩ | refine ⟨trivial, ?_⟩ | refine ⟨rfl, ?_⟩ | refine ⟨fun hc => absurd hc (by decide), fun _ => ?_⟩ | refine ⟨fun _ => ?_, fun hc => absurd (by decide) hc⟩ | refine ⟨fun _ => ?_, fun hc => absurd hc (by decide)⟩ | refine ⟨fun hc => absurd (by decide) hc, fun _ => ?_⟩); conv => whnf)
                  try dsimp only
                  rw [nI_clamp (n := ro * d 1 + j) (by omega), nI_clamp (n := pl d 0 + j * d 2 + co) (by omega), hN3 _ (by omega), hN3 _ (by omega), nI_add (a := j)]
                  exact ihj)
              exact due 0 (Nat.zero_le _)
            · have ihi := ihi hc2
              have e : nI (cmM d A N z (i + 1)) = nI (cmM d A N z i) + nI (weN (A (3 * i + 0)) N 0 (pl d 0)) * nI (weN (A (3 * i + 1)) N (pl d 0) (pl d 1)) * nI (A (3 * i + 2) z) := by
                rw [pk_mul, pk_mul, nI_add]
                rfl
              rw [e] at ihi
              conv => whnf
              repeat ((first | refine ⟨zH_of _, ?_⟩ | refine ⟨trivial, ?_⟩ | refine ⟨rfl, ?_⟩ | refine ⟨fun hc => absurd hc (by decide), fun _ => ?_⟩ | refine ⟨fun _ => ?_, fun hc => absurd (by decide) hc⟩ | refine ⟨fun _ => ?_, fun hc => absurd hc (by decide)⟩ | refine ⟨fun hc => absurd (by decide) hc, fun _ => ?_⟩); conv => whnf)
              try dsimp only
              refine ⟨d, q, c, A, i, 0, 0, N, S3, rfl, hc2, rfl, by decide, rfl, by omega, fun p hp => hN3 _ (by omega), ?_⟩
              conv => whnf
              repeat ((first | refine ⟨zH_of _, ?_⟩ | refine ⟨trivial, ?_⟩ | refine ⟨rfl, ?_⟩ | refine ⟨fun hc => absurd hc (by decide), fun _ => ?_⟩ | refine ⟨fun _ => ?_, fun hc => absurd (by decide) hc⟩ | refine ⟨fun _ => ?_, fun hc => absurd hc (by decide)⟩ | refine ⟨fun hc => absurd (by decide) hc, fun _ => ?_⟩); conv => whnf)
              try dsimp only
              refine ⟨0, rfl, by decide, ?_⟩
              rw [mpl S3 (by decide)]
              conv => whnf
              repeat ((first | refine ⟨zH_of _, ?_⟩ | refine ⟨trivial, ?_⟩ | refine ⟨rfl, ?_⟩ | refine ⟨fun hc => absurd hc (by decide), fun _ => ?_⟩ | refine ⟨fun _ => ?_, fun hc => absurd (by decide) hc⟩ | refine ⟨fun _ => ?_, fun hc => absurd hc (by decide)⟩ | refine ⟨fun hc => absurd (by decide) hc, fun _ => ?_⟩); conv => whnf)
              try dsimp only
              refine ⟨d, q, c, A, i, 1, pl d 0, N, S3, rfl, hc2, rfl, by decide, rfl, by omega, fun p hp => hN3 _ (by omega), ?_⟩
              conv => whnf
              repeat ((first | refine ⟨zH_of _, ?_⟩ | refine ⟨trivial, ?_⟩ | refine ⟨rfl, ?_⟩ | refine ⟨fun hc => absurd hc (by decide), fun _ => ?_⟩ | refine ⟨fun _ => ?_, fun hc => absurd (by decide) hc⟩ | refine ⟨fun _ => ?_, fun hc => absurd hc (by decide)⟩ | refine ⟨fun hc => absurd (by decide) hc, fun _ => ?_⟩); conv => whnf)
              try dsimp only
              rw [at_N]
              refine ⟨vp_in_nI (show 27 * i + 9 * 2 + z < 1080 by omega) (by decide), ?_⟩
              conv => whnf
              repeat ((first | refine ⟨zH_of _, ?_⟩ | refine ⟨trivial, ?_⟩ | refine ⟨rfl, ?_⟩ | refine ⟨fun hc => absurd hc (by decide), fun _ => ?_⟩ | refine ⟨fun _ => ?_, fun hc => absurd (by decide) hc⟩ | refine ⟨fun _ => ?_, fun hc => absurd hc (by decide)⟩ | refine ⟨fun hc => absurd (by decide) hc, fun _ => ?_⟩); conv => whnf)
              try dsimp only
              rw [nI_clamp (n := 27 * i + 9 * 2 + z) (by omega), ms_at S3 hc2 (by decide) (by omega), nI_add (a := i)]
              exact ihi)
          conv => whnf
          repeat ((first | refine ⟨zH_of _, ?_⟩ | refine ⟨trivial, ?_⟩ | refine ⟨rfl, ?_⟩ | refine ⟨fun hc => absurd hc (by decide), fun _ => ?_⟩ | refine ⟨fun _ => ?_, fun hc => absurd (by decide) hc⟩ | refine ⟨fun _ => ?_, fun hc => absurd hc (by decide)⟩ | refine ⟨fun hc => absurd (by decide) hc, fun _ => ?_⟩); conv => whnf)
          try dsimp only
          exact come 0 (Nat.zero_le _))
      conv => whnf
      repeat ((first | refine ⟨zH_of _, ?_⟩ | refine ⟨trivial, ?_⟩ | refine ⟨rfl, ?_⟩ | refine ⟨fun hc => absurd hc (by decide), fun _ => ?_⟩ | refine ⟨fun _ => ?_, fun hc => absurd (by decide) hc⟩ | refine ⟨fun _ => ?_, fun hc => absurd hc (by decide)⟩ | refine ⟨fun hc => absurd (by decide) hc, fun _ => ?_⟩); conv => whnf)
      try dsimp only
      exact loop 0 (Nat.zero_le _) _ _ T1 M1
    · rw [ef, if_neg (nI_nlt (Nat.zero_le _) (by omega))] at h
      have h := h wi2 wl hF1 hM
      rw [← w2] at h
      refine ⟨fun z => absurd (w2.symm.trans z) (nI_m1 (by omega)), fun _ => ?_⟩
      conv => whnf
      repeat ((first | refine ⟨zH_of _, ?_⟩ | refine ⟨trivial, ?_⟩ | refine ⟨rfl, ?_⟩ | refine ⟨fun hc => absurd hc (by decide), fun _ => ?_⟩ | refine ⟨fun _ => ?_, fun hc => absurd (by decide) hc⟩ | refine ⟨fun _ => ?_, fun hc => absurd hc (by decide)⟩ | refine ⟨fun hc => absurd (by decide) hc, fun _ => ?_⟩); conv => whnf)
      try dsimp only
      exact h

