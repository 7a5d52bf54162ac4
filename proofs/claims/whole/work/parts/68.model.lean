/-! the reference: sums, the text's signs -/
theorem hs_N {A : Nat → Nat → Nat} {z : Nat} : ∀ {c : Nat}, (∀ i, i < c → A (3 * i + 2) z < 3) → hsN A c z = fb_ct (fun i => A (3 * i + 2) z != 0) c
  | 0, _ => rfl
  | c + 1, h => by
    have ih := hs_N (A := A) (z := z) (c := c) (fun i hi => h i (by omega))
    have hc := h c (by omega)
    unfold hsN at *
    rw [fb_ct_succ, fb_ct_succ, fb_ct_succ, ← ih]
    have e : ∀ a, a < 3 → (if (a == 1) = true then 1 else 0) + (if (a == 2) = true then 1 else 0) = (if (a != 0) = true then 1 else 0) := by decide
    have e := e _ hc
    generalize (if (A (3 * c + 2) z == 1) = true then 1 else 0) = x at *
    generalize (if (A (3 * c + 2) z == 2) = true then 1 else 0) = y at *
    rw [← e]
    omega
theorem sm_moreM {f : Nat → Nat} {a : Nat} : ∀ {b : Nat}, a ≤ b → (∀ k, a ≤ k → k < b → f k = 0) → fb_sm f b = fb_sm f a
  | 0, h, _ => by rw [show a = 0 by omega]
  | b + 1, h, h0 => by
    rcases Nat.lt_or_ge b a with g | g
    · rw [show a = b + 1 by omega]
    · rw [fb_sm_succ, h0 b g (by omega), sm_moreM g (fun k h1 h2 => h0 k h1 (by omega))]
      rfl
theorem su1_le {A : Nat → Nat → Nat} {t c : Nat} : su1 A t c ≤ c * 9 := fb_sm_bound (fun i _ => Nat.le_trans (Nat.sub_le _ _) (nzc_le _))
theorem hs_le {A : Nat → Nat → Nat} {c z : Nat} (h : ∀ i, i < c → A (3 * i + 2) z < 3) : hsN A c z ≤ c := by
  rw [hs_N h]
  exact fb_ct_le _ c
def sumT (A : Nat → Nat → Nat) (c t : Nat) : Nat := if t < 2 then su1 A t c else su3 A c 9
def sp_X12_sums : zSp := fun av w K => match av with
  | [.ref o] => o = 45 ∧ zH w.1 ∧ ∃ T, MT w.2.1 w.2.2 T ∧ ZT T ∧ ∀ wi' wl', FrM w.2.1 w.2.2 wi' wl' → MT wi' wl' (st_sums T).1 → K (some (.int (st_sums T).2)) (w.1, wi', wl')
  | _ => False
def rm_X12_sums : Room := { frames := 2, cells := 0, slots := 0, locals := 46 }
def M_X12_sums : zM := (k_X12_sums, f_X12, [(202, 4, 10, 3, 0, 0, sp_X12_fullOf), (206, 0, 0, 1, 0, 0, sp_X12_lessOne), (107, 0, 0, 3, 0, 0, sp_X12_at), (192, 4, 10, 2, 0, 0, sp_X12_tell)], ([], [], []), [], [(14, [true, true, true, false, false, false, false]), (24, [true, true, true, true, true, false, false]), (60, [true, true, true, true, true, false, false]), (78, [true, true, true, true, true, true, true]), (133, [true, true, true, true, false, false, false])], 1, false, (false, 0, fun _ => 0), (0, 0))
theorem ca_X12_sums_0 (l : Launch) : z_cok l RX12 (headSpec (.code yX12_sums cX12_sums 7 (some .int) :: zTT) rm_X12_sums).room (202, 4, 10, 3, 0, 0, sp_X12_fullOf) := z_ca4 (c_X12_fullOf l) mb_X12_fullOf ⟨_, rfl, rfl⟩ wt_1393 wt_1395 wt_52 (by decide)
theorem ca_X12_sums_1 (l : Launch) : z_cok l RX12 (headSpec (.code yX12_sums cX12_sums 7 (some .int) :: zTT) rm_X12_sums).room (206, 0, 0, 1, 0, 0, sp_X12_lessOne) := z_ca0 (c_X12_lessOne l) mb_X12_lessOne wt_1397 wt_1398 (by decide)
theorem ca_X12_sums_2 (l : Launch) : z_cok l RX12 (headSpec (.code yX12_sums cX12_sums 7 (some .int) :: zTT) rm_X12_sums).room (107, 0, 0, 3, 0, 0, sp_X12_at) := z_ca0 (c_X12_at l) mb_X12_at wt_1136 wt_1137 (by decide)
theorem ca_X12_sums_3 (l : Launch) : z_cok l RX12 (headSpec (.code yX12_sums cX12_sums 7 (some .int) :: zTT) rm_X12_sums).room (192, 4, 10, 2, 0, 0, sp_X12_tell) := z_ca4 (c_X12_tell l) mb_X12_tell ⟨_, rfl, rfl⟩ wt_1369 wt_1371 wt_49 (by decide)
theorem O_X12_sums (l : Launch) : z_OK l RX12 cX12_sums (headSpec (.code yX12_sums cX12_sums 7 (some .int) :: zTT) rm_X12_sums).room M_X12_sums := ⟨ok_X12_sums, fo_X12, List.forall_mem_cons.mpr ⟨ca_X12_sums_0 l, List.forall_mem_cons.mpr ⟨ca_X12_sums_1 l, List.forall_mem_cons.mpr ⟨ca_X12_sums_2 l, List.forall_mem_cons.mpr ⟨ca_X12_sums_3 l, fun _ h => absurd h List.not_mem_nil⟩⟩⟩⟩, fun _ h => absurd h List.not_mem_nil, fun _ h => absurd h List.not_mem_nil, fun _ h => absurd h List.not_mem_nil, fun _ h => absurd h List.not_mem_nil, rfl, rfl⟩
theorem c_X12_sums (l : Launch) : z_CS l yX12_sums cX12_sums 7 (some .int) rm_X12_sums sp_X12_sums := by
  refine z_meth (by decide) (Or.inr (Or.inl ⟨rfl, rfl⟩)) (fun h => by cases h) rfl (O_X12_sums l) ?_
  intro av w K h
  match av, h with
  | [.ref o], h =>
    obtain ⟨rfl, ⟨r, hG⟩, ⟨d, q, c, A, kp, tx, tl⟩, hC, hZ, h⟩ := h
    obtain ⟨G, wi, wl⟩ := w
    subst hG
    try dsimp only at h hC hZ
    have hC := mt_fld (i := 11) (v := nI 0) hC (by decide)
    have hF0 : FrM wi wl (z_up wi 45 11 (nI 0)) wl := fm_fld
    refine ⟨Nat.le_of_ble_eq_true rfl, fun Jm hs => ?_⟩
    unfold st_sums wTl at h
    dsimp only at h
    refine hs 400 0 _ _ _ _ _ ?_
    have T1 : TF (z_up wi 45 11 (nI 0)) wl (z_up (z_up wi 45 11 (nI 0)) 45 10 (nI 0)) wl := tf_fld (by decide)
    have M1 : TM (z_up (z_up wi 45 11 (nI 0)) 45 10 (nI 0)) wl 0 (fun _ => 0) := tm_0
    conv => whnf
    repeat ((first | refine ⟨zH_of _, ?_⟩ | refine ⟨trivial, ?_⟩ | refine ⟨rfl, ?_⟩ | refine ⟨fun hc => absurd hc (by decide), fun _ => ?_⟩ | refine ⟨fun _ => ?_, fun hc => absurd (by decide) hc⟩ | refine ⟨fun _ => ?_, fun hc => absurd hc (by decide)⟩ | refine ⟨fun hc => absurd (by decide) hc, fun _ => ?_⟩); conv => whnf)
    try dsimp only
    generalize z_up (z_up wi 45 11 (nI 0)) 45 10 (nI 0) = wi1 at *
    generalize z_up wi 45 11 (nI 0) = wi0 at *
    have hS := mt_S hC
    have h40 := ms_40 hS
    have p2 := pl_le (ms_hd hS) (t := 2) (by decide)
    have l3 : ∀ z, z < 9 → ∀ i, i < c → A (3 * i + 2) z < 3 := fun z hz i hi => ms_3 hS hi (by decide) z hz
    have hle : ∀ z, z < 9 → hsN A c z ≤ 40 := fun z hz => Nat.le_trans (hs_le (l3 z hz)) h40
    have e9 : su3 A c 9 = su3 A c (pl d 2) := sm_moreM p2.2 (fun k h1 h2 => by
      rw [hs_N (l3 k h2)]
      have : fb_ct (fun i => A (3 * i + 2) k != 0) c = 0 := fb_ct_zero.mpr (fun i hi => by
        have := hZ.1 (3 * i + 2) (show 3 * i + 2 < 3 * c by omega) k (by rw [show (3 * i + 2) % 3 = 2 by omega]; exact h1) h2
        dsimp only at this
        rw [this]
        rfl)
      omega)
    rw [← e9] at h
    have su_le : ∀ t, sumT A c t ≤ 360 := fun t => by
      unfold sumT
      split
      · have := su1_le (A := A) (t := t) (c := c)
        omega
      · exact Nat.le_trans (fb_sm_bound (n := 9) (c := 40) (fun z hz => Nat.le_trans (Nat.sub_le _ _) (hle z hz))) (by decide)
    have turn : ∀ t, t < 3 → ∀ a wi2 wl2 xs, a ≤ 720 → TF wi0 wl wi2 wl2 → TM wi2 wl2 t xs → (∀ wi3 wl3, TF wi0 wl wi3 wl3 → TM wi3 wl3 (t + 1) (upL xs t (lN (sumT A c t))) → Jm 14 [some (.ref 45), some (.int (nI (a + sumT A c t))), some (.int (nI (t + 1))), none, none, none, none] [] (GC ++ (GM ++ r), wi3, wl3) 0 0) → Jm 14 [some (.ref 45), some (.int (nI a)), some (.int (nI t)), none, none, none, none] [] (GC ++ (GM ++ r), wi2, wl2) 0 0 := fun t ht a wi2 wl2 xs ha T2 M2 k => by
      have sl := su_le t
      have hS2 := tf_ms T2 hS
      have fin : Jm 133 [some (.ref 45), some (.int (nI a)), some (.int (nI t)), some (.int (nI (sumT A c t))), none, none, none] [] (GC ++ (GM ++ r), wi2, wl2) 0 0 := by
        refine hs 400 133 _ _ _ _ _ ?_
        conv => whnf
        repeat ((first | refine ⟨zH_of _, ?_⟩ | refine ⟨trivial, ?_⟩ | refine ⟨rfl, ?_⟩ | refine ⟨fun hc => absurd hc (by decide), fun _ => ?_⟩ | refine ⟨fun _ => ?_, fun hc => absurd (by decide) hc⟩ | refine ⟨fun _ => ?_, fun hc => absurd hc (by decide)⟩ | refine ⟨fun hc => absurd (by decide) hc, fun _ => ?_⟩); conv => whnf)
        try dsimp only
        rw [nI_l (by omega)]
        refine ⟨t, xs, M2, by omega, fun wi3 wl3 a1 a2 a3 M3 => ?_⟩
        conv => whnf
        repeat ((first | refine ⟨zH_of _, ?_⟩ | refine ⟨trivial, ?_⟩ | refine ⟨rfl, ?_⟩ | refine ⟨fun hc => absurd hc (by decide), fun _ => ?_⟩ | refine ⟨fun _ => ?_, fun hc => absurd (by decide) hc⟩ | refine ⟨fun _ => ?_, fun hc => absurd hc (by decide)⟩ | refine ⟨fun hc => absurd (by decide) hc, fun _ => ?_⟩); conv => whnf)
        try dsimp only
        rw [nI_add, nI_add]
        exact k wi3 wl3 (tf_trans T2 (tf_tell a1 a2 a3)) M3
      refine hs 400 14 _ _ _ _ _ ?_
      conv => whnf
      repeat ((first | refine ⟨zH_of _, ?_⟩ | refine ⟨trivial, ?_⟩ | refine ⟨rfl, ?_⟩ | refine ⟨fun hc => absurd hc (by decide), fun _ => ?_⟩ | refine ⟨fun _ => ?_, fun hc => absurd (by decide) hc⟩ | refine ⟨fun _ => ?_, fun hc => absurd hc (by decide)⟩ | refine ⟨fun hc => absurd (by decide) hc, fun _ => ?_⟩); conv => whnf)
      try dsimp only
      rw [ltN (by omega) (by omega)]
      refine ⟨fun z => absurd ht z, fun _ => ?_⟩
      conv => whnf
      repeat ((first | refine ⟨zH_of _, ?_⟩ | refine ⟨trivial, ?_⟩ | refine ⟨rfl, ?_⟩ | refine ⟨fun hc => absurd hc (by decide), fun _ => ?_⟩ | refine ⟨fun _ => ?_, fun hc => absurd (by decide) hc⟩ | refine ⟨fun _ => ?_, fun hc => absurd hc (by decide)⟩ | refine ⟨fun hc => absurd (by decide) hc, fun _ => ?_⟩); conv => whnf)
      try dsimp only
      by_cases h2 : t < 2
      · have es : sumT A c t = su1 A t c := if_pos h2
        have loop := up_ind (P := fun i => Jm 24 [some (.ref 45), some (.int (nI a)), some (.int (nI t)), some (.int (nI (su1 A t i))), some (.int (nI i)), none, none] [] (GC ++ (GM ++ r), wi2, wl2) 0 0) c (fun i hi ih => by
          refine hs 400 24 _ _ _ _ _ ?_
          conv => whnf
          repeat ((first | refine ⟨zH_of _, ?_⟩ | refine ⟨trivial, ?_⟩ | refine ⟨rfl, ?_⟩ | refine ⟨fun hc => absurd hc (by decide), fun _ => ?_⟩ | refine ⟨fun _ => ?_, fun hc => absurd (by decide) hc⟩ | refine ⟨fun _ => ?_, fun hc => absurd hc (by decide)⟩ | refine ⟨fun hc => absurd (by decide) hc, fun _ => ?_⟩); conv => whnf)
          try dsimp only
          rw [ms_c hS2, ltN (by omega) (by omega)]
          refine ⟨fun hc => ?_, fun hc => ?_⟩
          · obtain hin : i = c := by omega
            rw [hin, ← es]
            conv => whnf
            repeat ((first | refine ⟨zH_of _, ?_⟩ | refine ⟨trivial, ?_⟩ | refine ⟨rfl, ?_⟩ | refine ⟨fun hc => absurd hc (by decide), fun _ => ?_⟩ | refine ⟨fun _ => ?_, fun hc => absurd (by decide) hc⟩ | refine ⟨fun _ => ?_, fun hc => absurd hc (by decide)⟩ | refine ⟨fun hc => absurd (by decide) hc, fun _ => ?_⟩); conv => whnf)
            try dsimp only
            refine hs 400 60 _ _ _ _ _ ?_
            conv => whnf
            repeat ((first | refine ⟨zH_of _, ?_⟩ | refine ⟨trivial, ?_⟩ | refine ⟨rfl, ?_⟩ | refine ⟨fun hc => absurd hc (by decide), fun _ => ?_⟩ | refine ⟨fun _ => ?_, fun hc => absurd (by decide) hc⟩ | refine ⟨fun _ => ?_, fun hc => absurd hc (by decide)⟩ | refine ⟨fun hc => absurd (by decide) hc, fun _ => ?_⟩); conv => whnf)
            try dsimp only
            rw [nI_eq (by omega) (by decide)]
            refine ⟨fun _ => ?_, fun z => absurd h2 (by omega)⟩
            conv => whnf
            repeat ((first | refine ⟨zH_of _, ?_⟩ | refine ⟨trivial, ?_⟩ | refine ⟨rfl, ?_⟩ | refine ⟨fun hc => absurd hc (by decide), fun _ => ?_⟩ | refine ⟨fun _ => ?_, fun hc => absurd (by decide) hc⟩ | refine ⟨fun _ => ?_, fun hc => absurd hc (by decide)⟩ | refine ⟨fun hc => absurd (by decide) hc, fun _ => ?_⟩); conv => whnf)
            try dsimp only
            exact fin
          · have ih := ih hc
            conv => whnf
            repeat ((first | refine ⟨zH_of _, ?_⟩ | refine ⟨trivial, ?_⟩ | refine ⟨rfl, ?_⟩ | refine ⟨fun hc => absurd hc (by decide), fun _ => ?_⟩ | refine ⟨fun _ => ?_, fun hc => absurd (by decide) hc⟩ | refine ⟨fun _ => ?_, fun hc => absurd hc (by decide)⟩ | refine ⟨fun hc => absurd (by decide) hc, fun _ => ?_⟩); conv => whnf)
            try dsimp only
            rw [ltN (by omega) (by omega)]
            refine ⟨fun z => absurd h2 z, fun _ => ?_⟩
            conv => whnf
            repeat ((first | refine ⟨zH_of _, ?_⟩ | refine ⟨trivial, ?_⟩ | refine ⟨rfl, ?_⟩ | refine ⟨fun hc => absurd hc (by decide), fun _ => ?_⟩ | refine ⟨fun _ => ?_, fun hc => absurd (by decide) hc⟩ | refine ⟨fun _ => ?_, fun hc => absurd hc (by decide)⟩ | refine ⟨fun hc => absurd (by decide) hc, fun _ => ?_⟩); conv => whnf)
            try dsimp only
            refine ⟨d, q, c, A, i, t, hS2, rfl, hc, rfl, ht, ?_⟩
            have nz := nzc_le (A (3 * i + t))
            conv => whnf
            repeat ((first | refine ⟨zH_of _, ?_⟩ | refine ⟨trivial, ?_⟩ | refine ⟨rfl, ?_⟩ | refine ⟨fun hc => absurd hc (by decide), fun _ => ?_⟩ | refine ⟨fun _ => ?_, fun hc => absurd (by decide) hc⟩ | refine ⟨fun _ => ?_, fun hc => absurd hc (by decide)⟩ | refine ⟨fun hc => absurd (by decide) hc, fun _ => ?_⟩); conv => whnf)
            try dsimp only
            rw [less_N (by omega), nI_add, nI_add]
            exact ih)
        exact loop 0 (Nat.zero_le _)
      · obtain rfl : t = 2 := by omega
        have es : sumT A c 2 = su3 A c 9 := rfl
        have go : Jm 60 [some (.ref 45), some (.int (nI a)), some (.int (nI 2)), some (.int (nI 0)), some (.int (nI 0)), none, none] [] (GC ++ (GM ++ r), wi2, wl2) 0 0 := by
          have loop := up_ind (P := fun p => Jm 60 [some (.ref 45), some (.int (nI a)), some (.int (nI 2)), some (.int (nI (su3 A c p))), some (.int (nI p)), none, none] [] (GC ++ (GM ++ r), wi2, wl2) 0 0) 9 (fun p hp ih => by
            refine hs 400 60 _ _ _ _ _ ?_
            conv => whnf
            repeat ((first | refine ⟨zH_of _, ?_⟩ | refine ⟨trivial, ?_⟩ | refine ⟨rfl, ?_⟩ | refine ⟨fun hc => absurd hc (by decide), fun _ => ?_⟩ | refine ⟨fun _ => ?_, fun hc => absurd (by decide) hc⟩ | refine ⟨fun _ => ?_, fun hc => absurd hc (by decide)⟩ | refine ⟨fun hc => absurd (by decide) hc, fun _ => ?_⟩); conv => whnf)
            try dsimp only
            rw [ltN (by omega) (by omega)]
            refine ⟨fun hc => ?_, fun hc => ?_⟩
            · obtain hin : p = 9 := by omega
              rw [hin, ← es]
              conv => whnf
              repeat ((first | refine ⟨zH_of _, ?_⟩ | refine ⟨trivial, ?_⟩ | refine ⟨rfl, ?_⟩ | refine ⟨fun hc => absurd hc (by decide), fun _ => ?_⟩ | refine ⟨fun _ => ?_, fun hc => absurd (by decide) hc⟩ | refine ⟨fun _ => ?_, fun hc => absurd hc (by decide)⟩ | refine ⟨fun hc => absurd (by decide) hc, fun _ => ?_⟩); conv => whnf)
              try dsimp only
              exact fin
            · have ih := ih hc
              have hl := hle p hc
              have e : su3 A c (p + 1) = su3 A c p + (hsN A c p - 1) := rfl
              rw [e, hs_N (l3 p hc)] at ih
              rw [hs_N (l3 p hc)] at hl
              have inner := up_ind (P := fun i => Jm 78 [some (.ref 45), some (.int (nI a)), some (.int (nI 2)), some (.int (nI (su3 A c p))), some (.int (nI p)), some (.int (nI (fb_ct (fun i => A (3 * i + 2) p != 0) i))), some (.int (nI i))] [] (GC ++ (GM ++ r), wi2, wl2) 0 0) c (fun i hi ihi => by
                refine hs 400 78 _ _ _ _ _ ?_
                conv => whnf
                repeat ((first | refine ⟨zH_of _, ?_⟩ | refine ⟨trivial, ?_⟩ | refine ⟨rfl, ?_⟩ | refine ⟨fun hc => absurd hc (by decide), fun _ => ?_⟩ | refine ⟨fun _ => ?_, fun hc => absurd (by decide) hc⟩ | refine ⟨fun _ => ?_, fun hc => absurd hc (by decide)⟩ | refine ⟨fun hc => absurd (by decide) hc, fun _ => ?_⟩); conv => whnf)
                try dsimp only
                rw [ms_c hS2, ltN (by omega) (by omega)]
                refine ⟨fun hc2 => ?_, fun hc2 => ?_⟩
                · obtain hin : i = c := by omega
                  rw [hin]
                  conv => whnf
                  repeat ((first | refine ⟨zH_of _, ?_⟩ | refine ⟨trivial, ?_⟩ | refine ⟨rfl, ?_⟩ | refine ⟨fun hc => absurd hc (by decide), fun _ => ?_⟩ | refine ⟨fun _ => ?_, fun hc => absurd (by decide) hc⟩ | refine ⟨fun _ => ?_, fun hc => absurd hc (by decide)⟩ | refine ⟨fun hc => absurd (by decide) hc, fun _ => ?_⟩); conv => whnf)
                  try dsimp only
                  rw [less_N (by omega), nI_add, nI_add]
                  exact ih
                · have ihi := ihi hc2
                  have l3 := l3 p hc i hc2
                  conv => whnf
                  repeat ((first | refine ⟨zH_of _, ?_⟩ | refine ⟨trivial, ?_⟩ | refine ⟨rfl, ?_⟩ | refine ⟨fun hc => absurd hc (by decide), fun _ => ?_⟩ | refine ⟨fun _ => ?_, fun hc => absurd (by decide) hc⟩ | refine ⟨fun _ => ?_, fun hc => absurd hc (by decide)⟩ | refine ⟨fun hc => absurd (by decide) hc, fun _ => ?_⟩); conv => whnf)
                  try dsimp only
                  rw [at_N]
                  refine ⟨vp_in_nI (show 27 * i + 9 * 2 + p < 1080 by omega) (by decide), ?_⟩
                  conv => whnf
                  repeat ((first | refine ⟨zH_of _, ?_⟩ | refine ⟨trivial, ?_⟩ | refine ⟨rfl, ?_⟩ | refine ⟨fun hc => absurd hc (by decide), fun _ => ?_⟩ | refine ⟨fun _ => ?_, fun hc => absurd (by decide) hc⟩ | refine ⟨fun _ => ?_, fun hc => absurd hc (by decide)⟩ | refine ⟨fun hc => absurd (by decide) hc, fun _ => ?_⟩); conv => whnf)
                  try dsimp only
                  rw [nI_clamp (by omega), ms_at hS2 hc2 (by decide) hc, eq0N (by omega)]
                  refine ⟨fun hz => ?_, fun hz => ?_⟩
                  · rw [ct_f (by simp [hz])] at ihi
                    conv => whnf
                    repeat ((first | refine ⟨zH_of _, ?_⟩ | refine ⟨trivial, ?_⟩ | refine ⟨rfl, ?_⟩ | refine ⟨fun hc => absurd hc (by decide), fun _ => ?_⟩ | refine ⟨fun _ => ?_, fun hc => absurd (by decide) hc⟩ | refine ⟨fun _ => ?_, fun hc => absurd hc (by decide)⟩ | refine ⟨fun hc => absurd (by decide) hc, fun _ => ?_⟩); conv => whnf)
                    try dsimp only
                    rw [nI_add, nI_add, Nat.add_zero]
                    exact ihi
                  · rw [ct_t (by simp [hz])] at ihi
                    conv => whnf
                    repeat ((first | refine ⟨zH_of _, ?_⟩ | refine ⟨trivial, ?_⟩ | refine ⟨rfl, ?_⟩ | refine ⟨fun hc => absurd hc (by decide), fun _ => ?_⟩ | refine ⟨fun _ => ?_, fun hc => absurd (by decide) hc⟩ | refine ⟨fun _ => ?_, fun hc => absurd hc (by decide)⟩ | refine ⟨fun hc => absurd (by decide) hc, fun _ => ?_⟩); conv => whnf)
                    try dsimp only
                    rw [nI_add, nI_add]
                    exact ihi)
              conv => whnf
              repeat ((first | refine ⟨zH_of _, ?_⟩ | refine ⟨trivial, ?_⟩ | refine ⟨rfl, ?_⟩ | refine ⟨fun hc => absurd hc (by decide), fun _ => ?_⟩ | refine ⟨fun _ => ?_, fun hc => absurd (by decide) hc⟩ | refine ⟨fun _ => ?_, fun hc => absurd hc (by decide)⟩ | refine ⟨fun hc => absurd (by decide) hc, fun _ => ?_⟩); conv => whnf)
              try dsimp only
              exact inner 0 (Nat.zero_le _))
          exact loop 0 (Nat.zero_le _)
        refine hs 400 24 _ _ _ _ _ ?_
        conv => whnf
        repeat ((first | refine ⟨zH_of _, ?_⟩ | refine ⟨trivial, ?_⟩ | refine ⟨rfl, ?_⟩ | refine ⟨fun hc => absurd hc (by decide), fun _ => ?_⟩ | refine ⟨fun _ => ?_, fun hc => absurd (by decide) hc⟩ | refine ⟨fun _ => ?_, fun hc => absurd hc (by decide)⟩ | refine ⟨fun hc => absurd (by decide) hc, fun _ => ?_⟩); conv => whnf)
        try dsimp only
        refine ⟨fun _ => ?_, fun _ => ?_⟩
        · conv => whnf
          repeat ((first | refine ⟨zH_of _, ?_⟩ | refine ⟨trivial, ?_⟩ | refine ⟨rfl, ?_⟩ | refine ⟨fun hc => absurd hc (by decide), fun _ => ?_⟩ | refine ⟨fun _ => ?_, fun hc => absurd (by decide) hc⟩ | refine ⟨fun _ => ?_, fun hc => absurd hc (by decide)⟩ | refine ⟨fun hc => absurd (by decide) hc, fun _ => ?_⟩); conv => whnf)
          try dsimp only
          exact go
        · conv => whnf
          repeat ((first | refine ⟨zH_of _, ?_⟩ | refine ⟨trivial, ?_⟩ | refine ⟨rfl, ?_⟩ | refine ⟨fun hc => absurd hc (by decide), fun _ => ?_⟩ | refine ⟨fun _ => ?_, fun hc => absurd (by decide) hc⟩ | refine ⟨fun _ => ?_, fun hc => absurd hc (by decide)⟩ | refine ⟨fun hc => absurd (by decide) hc, fun _ => ?_⟩); conv => whnf)
          try dsimp only
          exact go
    have l0 := su_le 0
    have l1 := su_le 1
    refine turn 0 (by decide) 0 wi1 wl _ (by omega) T1 M1 (fun wi2 wl2 T2 M2 => ?_)
    rw [Nat.zero_add]
    refine turn 1 (by decide) _ wi2 wl2 _ (by omega) T2 M2 (fun wi3 wl3 T3 M3 => ?_)
    refine turn 2 (by decide) _ wi3 wl3 _ (by omega) T3 M3 (fun wi4 wl4 T4 M4 => ?_)
    refine hs 400 14 _ _ _ _ _ ?_
    conv => whnf
    repeat ((first | refine ⟨zH_of _, ?_⟩ | refine ⟨trivial, ?_⟩ | refine ⟨rfl, ?_⟩ | refine ⟨fun hc => absurd hc (by decide), fun _ => ?_⟩ | refine ⟨fun _ => ?_, fun hc => absurd (by decide) hc⟩ | refine ⟨fun _ => ?_, fun hc => absurd hc (by decide)⟩ | refine ⟨fun hc => absurd (by decide) hc, fun _ => ?_⟩); conv => whnf)
    try dsimp only
    exact h wi4 wl4 (FrM_trans hF0 (tf_fr T4)) (tf_mt T4 hC M4)
theorem i2b_and (v : Int32) : v.toInt8.toInt32 &&& nI 255 = v &&& nI 255 := by
  apply Int32.toBitVec_inj.mp
  rw [Int32.toBitVec_and, Int32.toBitVec_and, Int8.toBitVec_toInt32, Int32.toBitVec_toInt8]
  rw [BitVec.signExtend_eq_setWidth_of_le (v := 8) v.toBitVec (by decide)]
  show BitVec.signExtend 32 (BitVec.setWidth 8 v.toBitVec) &&& 255#32 = v.toBitVec &&& 255#32
  ext i hi
  simp only [BitVec.getElem_and]
  by_cases h : i < 8
  · simp [BitVec.getElem_signExtend, h, BitVec.getLsbD_eq_getElem hi]
  · have e : (255#32)[i] = false := by
      have k : ∀ i, i < 32 → ¬ i < 8 → (255#32).getLsbD i = false := by decide
      rw [← BitVec.getLsbD_eq_getElem hi]
      exact k i hi h
    rw [e, Bool.and_false, Bool.and_false]
def sgI (j : Nat) : Int32 := nI 3 - nI j
theorem bv_sar (b : BitVec 32) (k : Nat) (hk : k ≤ 24) : (b.sshiftRight k) &&& 255#32 = BitVec.ofNat 32 (b.toNat / 2 ^ k % 2 ^ 8) := by
  apply BitVec.eq_of_getLsbD_eq
  intro i hi
  rw [BitVec.getLsbD_and, BitVec.getLsbD_sshiftRight]
  by_cases h : i < 8
  · have e : (255#32).getLsbD i = true := by
      have k : ∀ i, i < 8 → (255#32).getLsbD i = true := by decide
      exact k i h
    have h1 : k + i < 32 := by omega
    rw [e, BitVec.getLsbD_ofNat, Nat.testBit_mod_two_pow, Nat.testBit_div_two_pow, BitVec.testBit_toNat]
    simp [h, hi, h1, Nat.add_comm i k]
  · have e : (255#32).getLsbD i = false := by
      have k : ∀ i, i < 32 → ¬ i < 8 → (255#32).getLsbD i = false := by decide
      exact k i hi h
    rw [e, BitVec.getLsbD_ofNat, Nat.testBit_mod_two_pow]
    simp [h]
theorem sar_and (v : Int32) : ∀ j, j < 4 → z_sar v (nI (24 - 8 * j)) &&& nI 255 = nI (byN (bvN v) j) := by
  intro j hj
  have e : ∀ j, j < 4 → (((nI (24 - 8 * j)) &&& 31).toBitVec.smod 32).toNat = 24 - 8 * j := by decide
  apply Int32.toBitVec_inj.mp
  unfold z_sar
  rw [Int32.toBitVec_and, Int32.toBitVec_shiftRight]
  unfold BitVec.sshiftRight'
  rw [e j hj]
  exact bv_sar v.toBitVec (24 - 8 * j) (by omega)
theorem nar_b (v : Int32) : vp_nar .byte v = v.toInt8.toInt32 := rfl
theorem sgI_neg : ∀ j, j ≤ 4 → (sgI j < nI 0 ↔ j = 4) := by decide
theorem sgI_next : ∀ j, j < 4 → sgI j - nI 1 = sgI (j + 1) := by decide
theorem sgI_at : ∀ j, j < 4 → nI 8 * sgI j = nI (24 - 8 * j) := by decide
def sp_X12_sign : zSp := fun av w K => match av with
  | [.ref o, .int v] => o = 45 ∧ zH w.1 ∧ ∃ T, MT w.2.1 w.2.2 T ∧ ZT T ∧ ∀ wi' wl', FrM w.2.1 w.2.2 wi' wl' → MT wi' wl' (st_sign T v).1 → K (some (.int (st_sign T v).2)) (w.1, wi', wl')
  | _ => False
def rm_X12_sign : Room := { frames := 0, cells := 0, slots := 0, locals := 0 }
def M_X12_sign : zM := (k_X12_sign, f_X12, [], ([], [], []), [], [(21, [true, true, true])], 1, false, (false, 0, fun _ => 0), (0, 0))
theorem O_X12_sign (l : Launch) : z_OK l RX12 cX12_sign (headSpec (.code yX12_sign cX12_sign 3 (some .int) :: zTT) rm_X12_sign).room M_X12_sign := ⟨ok_X12_sign, fo_X12, fun _ h => absurd h List.not_mem_nil, fun _ h => absurd h List.not_mem_nil, fun _ h => absurd h List.not_mem_nil, fun _ h => absurd h List.not_mem_nil, fun _ h => absurd h List.not_mem_nil, rfl, rfl⟩
theorem c_X12_sign (l : Launch) : z_CS l yX12_sign cX12_sign 3 (some .int) rm_X12_sign sp_X12_sign := by
  refine z_meth (by decide) (Or.inr (Or.inl ⟨rfl, rfl⟩)) (fun h => by cases h) rfl (O_X12_sign l) ?_
  intro av w K h
  match av, h with
  | [.ref o, .int v], h =>
    obtain ⟨rfl, ⟨r, hG⟩, ⟨d, q, c, A, kp, ⟨L, x⟩, tl⟩, hC, hZ, h⟩ := h
    obtain ⟨G, wi, wl⟩ := w
    subst hG
    try dsimp only at h hC hZ
    have hC := mt_fld (i := 11) (v := nI 0) hC (by decide)
    have hF0 : FrM wi wl (z_up wi 45 11 (nI 0)) wl := fm_fld
    refine ⟨Nat.le_of_ble_eq_true rfl, fun Jm hs => ?_⟩
    unfold st_sign at h
    dsimp only at h
    have hX := mt_X hC
    dsimp only at hX
    have hL := hX.2.1
    refine hs 400 0 _ _ _ _ _ ?_
    conv => whnf
    repeat ((first | refine ⟨zH_of _, ?_⟩ | refine ⟨trivial, ?_⟩ | refine ⟨rfl, ?_⟩ | refine ⟨fun hc => absurd hc (by decide), fun _ => ?_⟩ | refine ⟨fun _ => ?_, fun hc => absurd (by decide) hc⟩ | refine ⟨fun _ => ?_, fun hc => absurd hc (by decide)⟩ | refine ⟨fun hc => absurd (by decide) hc, fun _ => ?_⟩); conv => whnf)
    try dsimp only
    generalize z_up wi 45 11 (nI 0) = wi0 at *
    rw [hX.1, nI_add]
    refine ⟨fun hc => ?_, fun hc => ?_⟩
    · rw [ltN (by omega) (by omega)] at hc
      rw [if_pos (by omega)] at h
      have loop := up_ind (P := fun j => ∀ wi' : Nat → Nat → Int32, (∀ y, y ≠ 45 → y ≠ 50 → wi' y = wi0 y) → (∀ i, i ≠ 8 → wi' 45 i = wi0 45 i) → wi' 45 8 = nI (L + j) → (∀ k, k < L + j → (wi' 50 k &&& nI 255) = nI (apX x L (bvN v) k)) → Jm 21 [some (.ref 45), some (.int v), some (.int (sgI j))] [] (GC ++ (GM ++ r), wi', wl) 0 0) 4 (fun j hj ih => by
        intro wi' hF hI hl hx
        refine hs 400 21 _ _ _ _ _ ?_
        conv => whnf
        repeat ((first | refine ⟨zH_of _, ?_⟩ | refine ⟨trivial, ?_⟩ | refine ⟨rfl, ?_⟩ | refine ⟨fun hc => absurd hc (by decide), fun _ => ?_⟩ | refine ⟨fun _ => ?_, fun hc => absurd (by decide) hc⟩ | refine ⟨fun _ => ?_, fun hc => absurd hc (by decide)⟩ | refine ⟨fun hc => absurd (by decide) hc, fun _ => ?_⟩); conv => whnf)
        try dsimp only
        rw [sgI_neg j hj]
        refine ⟨fun hc2 => ?_, fun hc2 => ?_⟩
        · subst hc2
          have h := h wi' wl (FrM_trans hF0 (fun y hy => ⟨hF y (by omega) (by omega), rfl⟩)) ⟨ms_fr (mt_S hC) (hF 46 (by decide) (by decide)) (hI 1 (by decide)) (hI 2 (by decide)) (hF 47 (by decide) (by decide)), km_fr (mt_K hC) (hI 4 (by decide)) (hF 48 (by decide) (by decide)) (hF 49 (by decide) (by decide)), ⟨hl, by show L + 4 ≤ 400; omega, fun k hk => ⟨hx k hk, ?_⟩⟩, tm_fr (mt_T hC) (hI 10 (by decide)) rfl⟩
          · rw [← hl] at h
            exact ⟨trivial, h⟩
          · show apX x L (bvN v) k < 256
            unfold apX
            split
            · exact Nat.mod_lt _ (by decide)
            · exact (hX.2.2 k (by have hk : k < L + 4 := hk; show k < L; omega)).2
        · have ih := ih (by omega)
          have e1 : vp_nar .byte (z_sar v (nI 8 * sgI j)).toInt8.toInt32 &&& nI 255 = nI (byN (bvN v) j) := by
            rw [nar_b, i2b_and, i2b_and, sgI_at j (by omega), sar_and v j (by omega)]
          conv => whnf
          repeat ((first | refine ⟨zH_of _, ?_⟩ | refine ⟨trivial, ?_⟩ | refine ⟨rfl, ?_⟩ | refine ⟨fun hc => absurd hc (by decide), fun _ => ?_⟩ | refine ⟨fun _ => ?_, fun hc => absurd (by decide) hc⟩ | refine ⟨fun _ => ?_, fun hc => absurd hc (by decide)⟩ | refine ⟨fun hc => absurd (by decide) hc, fun _ => ?_⟩); conv => whnf)
          try dsimp only
          rw [hl, nI_add]
          refine ⟨vp_in_nI (show L + j < 400 by omega) (by decide), ?_⟩
          conv => whnf
          repeat ((first | refine ⟨zH_of _, ?_⟩ | refine ⟨trivial, ?_⟩ | refine ⟨rfl, ?_⟩ | refine ⟨fun hc => absurd hc (by decide), fun _ => ?_⟩ | refine ⟨fun _ => ?_, fun hc => absurd (by decide) hc⟩ | refine ⟨fun _ => ?_, fun hc => absurd hc (by decide)⟩ | refine ⟨fun hc => absurd (by decide) hc, fun _ => ?_⟩); conv => whnf)
          try dsimp only
          rw [nI_clamp (by omega), sgI_next j (by omega)]
          refine ih _ (fun y h1 h2 => by rw [z_up_ne h2, z_up_ne h1, hF y h1 h2]) (fun i hi => by rw [z_up_ne (by decide), z_up_nei hi, hI i hi]) (by rw [z_up_ne (by decide), z_up_eq]; rfl) (fun k hk => ?_)
          by_cases e : k = L + j
          · subst e
            rw [z_up_eq, e1]
            unfold apX
            rw [if_pos ⟨by omega, by omega⟩, show L + j - L = j by omega]
          · rw [z_up_nei e, z_up_ne (by decide)]
            exact hx k (by omega))
      conv => whnf
      repeat ((first | refine ⟨zH_of _, ?_⟩ | refine ⟨trivial, ?_⟩ | refine ⟨rfl, ?_⟩ | refine ⟨fun hc => absurd hc (by decide), fun _ => ?_⟩ | refine ⟨fun _ => ?_, fun hc => absurd (by decide) hc⟩ | refine ⟨fun _ => ?_, fun hc => absurd hc (by decide)⟩ | refine ⟨fun hc => absurd (by decide) hc, fun _ => ?_⟩); conv => whnf)
      try dsimp only
      refine loop 0 (Nat.zero_le _) wi0 (fun _ _ _ => rfl) (fun _ _ => rfl) hX.1 (fun k hk => ?_)
      unfold apX
      rw [if_neg (fun z => by omega)]
      exact (hX.2.2 k (by omega)).1
    · rw [ltN (by omega) (by omega)] at hc
      rw [if_neg (by omega)] at h
      exact ⟨trivial, h wi0 wl hF0 hC⟩
def sp_X12_end : zSp := fun av w K => match av with
  | [.ref o, .int v] => o = 45 ∧ zH w.1 ∧ ∃ T, MT w.2.1 w.2.2 T ∧ ZT T ∧ ∀ wi' wl', FrM w.2.1 w.2.2 wi' wl' → MT wi' wl' (st_end T v).1 → K (some (.int (st_end T v).2)) (w.1, wi', wl')
  | _ => False
def rm_X12_end : Room := { frames := 1, cells := 0, slots := 0, locals := 25 }
def M_X12_end : zM := (k_X12_end, f_X12, [(80, 0, 0, 3, 0, 0, sp_X12_in)], ([], [], []), [], [], 2, false, (false, 0, fun _ => 0), (0, 0))
theorem ca_X12_end_0 (l : Launch) : z_cok l RX12 (headSpec (.code yX12_end cX12_end 2 (some .boolean) :: zTT) rm_X12_end).room (80, 0, 0, 3, 0, 0, sp_X12_in) := z_ca0 (c_X12_in l) mb_X12_in wt_1253 wt_1254 (by decide)
theorem O_X12_end (l : Launch) : z_OK l RX12 cX12_end (headSpec (.code yX12_end cX12_end 2 (some .boolean) :: zTT) rm_X12_end).room M_X12_end := ⟨ok_X12_end, fo_X12, List.forall_mem_cons.mpr ⟨ca_X12_end_0 l, fun _ h => absurd h List.not_mem_nil⟩, fun _ h => absurd h List.not_mem_nil, fun _ h => absurd h List.not_mem_nil, fun _ h => absurd h List.not_mem_nil, fun _ h => absurd h List.not_mem_nil, rfl, rfl⟩
theorem c_X12_end (l : Launch) : z_CS l yX12_end cX12_end 2 (some .boolean) rm_X12_end sp_X12_end := by
  refine z_meth (by decide) (Or.inr (Or.inr (Or.inl ⟨rfl, rfl⟩))) (fun h => by cases h) rfl (O_X12_end l) ?_
  intro av w K h
  match av, h with
  | [.ref o, .int v], h =>
    obtain ⟨rfl, ⟨r, hG⟩, ⟨d, q, c, A, kp, ⟨L, x⟩, tl⟩, hC, hZ, h⟩ := h
    obtain ⟨G, wi, wl⟩ := w
    subst hG
    try dsimp only at h hC hZ
    have hC := mt_fld (i := 11) (v := nI 0) hC (by decide)
    have hF0 : FrM wi wl (z_up wi 45 11 (nI 0)) wl := fm_fld
    refine ⟨Nat.le_of_ble_eq_true rfl, fun Jm hs => hs 400 0 _ _ _ _ _ ?_⟩
    unfold st_end at h
    dsimp only at h
    have hX := mt_X hC
    dsimp only at hX
    have hL := hX.2.1
    conv => whnf
    repeat ((first | refine ⟨zH_of _, ?_⟩ | refine ⟨trivial, ?_⟩ | refine ⟨rfl, ?_⟩ | refine ⟨fun hc => absurd hc (by decide), fun _ => ?_⟩ | refine ⟨fun _ => ?_, fun hc => absurd (by decide) hc⟩ | refine ⟨fun _ => ?_, fun hc => absurd hc (by decide)⟩ | refine ⟨fun hc => absurd (by decide) hc, fun _ => ?_⟩); conv => whnf)
    try dsimp only
    generalize z_up wi 45 11 (nI 0) = wi0 at *
    have e : inF v.toInt64 (lN 0) (wi0 45 8).toInt64 = bI (idB (L + 1) v = true) := by
      rw [← in_id (by omega), hX.1, pk_sub (by omega)]
      rfl
    rw [e, bI_0, Classical.not_not]
    refine ⟨fun hn => ?_, fun hn => ?_⟩
    · obtain ⟨n, hn2, rfl⟩ := idB_N hn (by omega)
      rw [if_pos hn, nc_N (by omega)] at h
      conv => whnf
      repeat ((first | refine ⟨zH_of _, ?_⟩ | refine ⟨trivial, ?_⟩ | refine ⟨rfl, ?_⟩ | refine ⟨fun hc => absurd hc (by decide), fun _ => ?_⟩ | refine ⟨fun _ => ?_, fun hc => absurd (by decide) hc⟩ | refine ⟨fun _ => ?_, fun hc => absurd hc (by decide)⟩ | refine ⟨fun hc => absurd (by decide) hc, fun _ => ?_⟩); conv => whnf)
      try dsimp only
      refine ⟨Or.inr rfl, h _ wl (FrM_trans hF0 fm_fld) ⟨ms_fr (mt_S hC) (z_up_ne (by decide)) (z_up_nei (by decide)) (z_up_nei (by decide)) (z_up_ne (by decide)), km_fr (mt_K hC) (z_up_nei (by decide)) (z_up_ne (by decide)) (z_up_ne (by decide)), ⟨z_up_eq, by show n ≤ 400; omega, fun k hk => ?_⟩, tm_fr (mt_T hC) (z_up_nei (by decide)) rfl⟩⟩
      have hk : k < n := hk
      rw [z_up_ne (by decide)]
      exact hX.2.2 k (by omega)
    · rw [if_neg hn] at h
      exact ⟨Or.inl rfl, h wi0 wl hF0 hC⟩

