/-! numbers read; signs that come, go -/
def nuL (x : Nat → Nat) (L q : Nat) : Nat → Bool × Nat × (Nat → Nat)
  | 0 => (true, 0, fun _ => 0)
  | m + 1 =>
    if (nuL x L q m).1 = true then
      if m ≠ 0 ∧ see x L (nuL x L q m).2.1 ≠ 44 then (false, (nuL x L q m).2.1, (nuL x L q m).2.2)
      else if 48 ≤ see x L (if m = 0 then (nuL x L q m).2.1 else (nuL x L q m).2.1 + 1) ∧ see x L (if m = 0 then (nuL x L q m).2.1 else (nuL x L q m).2.1 + 1) < 48 + q then
        (true, (if m = 0 then (nuL x L q m).2.1 else (nuL x L q m).2.1 + 1) + 1, setp (nuL x L q m).2.2 m (see x L (if m = 0 then (nuL x L q m).2.1 else (nuL x L q m).2.1 + 1) - 48))
      else (false, (if m = 0 then (nuL x L q m).2.1 else (nuL x L q m).2.1 + 1), (nuL x L q m).2.2)
    else nuL x L q m
theorem nuL_fail (x : Nat → Nat) (L q : Nat) {t : Nat} (h : ¬ (nuL x L q t).1 = true) : ∀ m, nuL x L q (t + m) = nuL x L q t
  | 0 => rfl
  | m + 1 => by
    have ih := nuL_fail x L q h m
    rw [← Nat.add_assoc, nuL, ih, if_neg h]
def FN (wi wi' : Nat → Nat → Int32) : Prop := ∀ y, y ≠ 1 → y ≠ 17 → wi' y = wi y
def sp_X8_readNumbers : zSp := fun av w K => match av with
  | [.ref o, .ref o2, .int n, .int g] => o = 1 ∧ o2 = 16 ∧ zG w.1 ∧ ∃ L x n' q, TL w.2.1 L x ∧ n = nI n' ∧ n' ≤ 18 ∧ g = nI q ∧ (q = 2 ∨ q = 3) ∧ ∀ wi' : Nat → Nat → Int32, FN w.2.1 wi' → TL wi' L x → ((nuL x L q n').1 = true → ∀ j, j < n' → wi' 17 j = nI ((nuL x L q n').2.2 j) ∧ (nuL x L q n').2.2 j < q) → K (some (.int (ffI (nuL x L q n').1 (nuL x L q n').2.1 L))) (w.1, wi', w.2.2)
  | _ => False
def rm_X8_readNumbers : Room := { frames := 3, cells := 0, slots := 0, locals := 62 }
def M_X8_readNumbers : zM := (k_X8_readNumbers, f_X8, [(35, 4, 7, 2, 0, 0, sp_X8_take), (47, 4, 7, 1, 0, 0, sp_X8_peek), (24, 4, 2, 3, 0, 0, sp_X3_put), (39, 4, 7, 1, 0, 0, sp_X8_restFault)], ([], [], []), [], [(8, [true, true, true, true, true, false]), (33, [true, true, true, true, true, false])], 1, false, (false, 0, fun _ => 0), (0, 0, []))
theorem ca_X8_readNumbers_0 (l : Launch) : z_cok l RX8 (headSpec (.code yX8_readNumbers cX8_readNumbers 6 (some .int) :: zTT) rm_X8_readNumbers).room (false, 0, fun _ => 0) (35, 4, 7, 2, 0, 0, sp_X8_take) := z_ca4 (c_X8_take l) mb_X8_take ⟨_, rfl, rfl⟩ wt_357 wt_359 wt_2 (by decide)
theorem ca_X8_readNumbers_1 (l : Launch) : z_cok l RX8 (headSpec (.code yX8_readNumbers cX8_readNumbers 6 (some .int) :: zTT) rm_X8_readNumbers).room (false, 0, fun _ => 0) (47, 4, 7, 1, 0, 0, sp_X8_peek) := z_ca4 (c_X8_peek l) mb_X8_peek ⟨_, rfl, rfl⟩ wt_361 wt_363 wt_3 (by decide)
theorem ca_X8_readNumbers_2 (l : Launch) : z_cok l RX8 (headSpec (.code yX8_readNumbers cX8_readNumbers 6 (some .int) :: zTT) rm_X8_readNumbers).room (false, 0, fun _ => 0) (24, 4, 2, 3, 0, 0, sp_X3_put) := z_ca4 (c_X3_put l) mb_X3_put ⟨_, rfl, rfl⟩ wt_481 wt_293 wt_294 (by decide)
theorem ca_X8_readNumbers_3 (l : Launch) : z_cok l RX8 (headSpec (.code yX8_readNumbers cX8_readNumbers 6 (some .int) :: zTT) rm_X8_readNumbers).room (false, 0, fun _ => 0) (39, 4, 7, 1, 0, 0, sp_X8_restFault) := z_ca4 (c_X8_restFault l) mb_X8_restFault ⟨_, rfl, rfl⟩ wt_394 wt_396 wt_6 (by decide)
theorem O_X8_readNumbers (l : Launch) : z_OK l RX8 cX8_readNumbers (headSpec (.code yX8_readNumbers cX8_readNumbers 6 (some .int) :: zTT) rm_X8_readNumbers).room M_X8_readNumbers := ⟨ok_X8_readNumbers, fo_X8, List.forall_mem_cons.mpr ⟨ca_X8_readNumbers_0 l, List.forall_mem_cons.mpr ⟨ca_X8_readNumbers_1 l, List.forall_mem_cons.mpr ⟨ca_X8_readNumbers_2 l, List.forall_mem_cons.mpr ⟨ca_X8_readNumbers_3 l, fun _ h => absurd h List.not_mem_nil⟩⟩⟩⟩, fun _ h => absurd h List.not_mem_nil, fun _ h => absurd h List.not_mem_nil, fun _ h => absurd h List.not_mem_nil, fun _ h => absurd h List.not_mem_nil, rfl, rfl, fun _ h => absurd h List.not_mem_nil⟩
theorem c_X8_readNumbers (l : Launch) : z_CS l yX8_readNumbers cX8_readNumbers 6 (some .int) rm_X8_readNumbers sp_X8_readNumbers := by
  refine z_meth (by decide) (Or.inr (Or.inl ⟨rfl, rfl⟩)) (fun h => by cases h) rfl (O_X8_readNumbers l) ?_
  intro av w K h
  match av, h with
  | [.ref o, .ref o2, .int n, .int g], h =>
    obtain ⟨rfl, rfl, ⟨r, hG⟩, L, x, n', q, hT, rfl, hn, rfl, hq, h⟩ := h
    obtain ⟨G, wi, wl⟩ := w
    subst hG
    try dsimp only at h hT
    refine ⟨Nat.le_of_ble_eq_true rfl, fun Jm hs => ?_⟩
    have failed : ∀ (t k : Nat) (B : Nat → Nat) (wi' : Nat → Nat → Int32), t < n' → nuL x L q (t + 1) = (false, k, B) → FN wi wi' → TX wi' L x k → K (some (.int (nI k))) (GC ++ r, wi', wl) := fun t k B wi' ht he hF hT' => by
      have ef : nuL x L q n' = (false, k, B) := by
        rw [← he, show n' = t + 1 + (n' - t - 1) by omega]
        exact nuL_fail x L q (by rw [he]; exact Bool.false_ne_true) _
      rw [ef] at h
      have h2 := h wi' hF (tx_TL hT') (fun z => absurd z Bool.false_ne_true)
      unfold ffI at h2
      rw [if_neg (fun z => Bool.false_ne_true z.1)] at h2
      exact h2
    have loop := up_ind (P := fun m => ∀ (wi' : Nat → Nat → Int32), FN wi wi' → TX wi' L x (nuL x L q m).2.1 → (nuL x L q m).1 = true → (∀ j, j < m → wi' 17 j = nI ((nuL x L q m).2.2 j) ∧ (nuL x L q m).2.2 j < q) → Jm 8 [some (.ref 1), some (.ref 16), some (.int (nI n')), some (.int (nI q)), some (.int (nI m)), none] [] (GC ++ r, wi', wl) 0 0) n' (fun m hm ih => by
      intro wi' hF hT' hok hN
      refine hs 400 8 _ _ _ _ _ ?_
      conv => whnf
      repeat ((first | refine ⟨zG_of _, ?_⟩ | refine ⟨trivial, ?_⟩ | refine ⟨rfl, ?_⟩ | refine ⟨fun hc => absurd hc (by decide), fun _ => ?_⟩ | refine ⟨fun _ => ?_, fun hc => absurd (by decide) hc⟩ | refine ⟨fun _ => ?_, fun hc => absurd hc (by decide)⟩ | refine ⟨fun hc => absurd (by decide) hc, fun _ => ?_⟩); conv => whnf)
      try dsimp only
      rw [ltN (by omega) (by omega)]
      refine ⟨fun hc => ?_, fun hc => ?_⟩
      · obtain rfl : m = n' := by omega
        have h2 := h wi' hF (tx_TL hT') (fun _ => hN)
        rw [hok, ff_rest] at h2
        conv => whnf
        repeat ((first | refine ⟨zG_of _, ?_⟩ | refine ⟨trivial, ?_⟩ | refine ⟨rfl, ?_⟩ | refine ⟨fun hc => absurd hc (by decide), fun _ => ?_⟩ | refine ⟨fun _ => ?_, fun hc => absurd (by decide) hc⟩ | refine ⟨fun _ => ?_, fun hc => absurd hc (by decide)⟩ | refine ⟨fun hc => absurd (by decide) hc, fun _ => ?_⟩); conv => whnf)
        try dsimp only
        exact ⟨L, x, _, hT', trivial, h2⟩
      · have ihn := ih hc
        have digit : ∀ (wi1 : Nat → Nat → Int32), FN wi wi1 → TX wi1 L x (if m = 0 then (nuL x L q m).2.1 else (nuL x L q m).2.1 + 1) → (∀ j, j < m → wi1 17 j = nI ((nuL x L q m).2.2 j)) → ¬ (m ≠ 0 ∧ see x L (nuL x L q m).2.1 ≠ 44) → Jm 33 [some (.ref 1), some (.ref 16), some (.int (nI n')), some (.int (nI q)), some (.int (nI m)), none] [] (GC ++ r, wi1, wl) 0 0 := by
          intro wi1 hF1 hT1 hN1 h44
          have he : nuL x L q (m + 1) = nuL x L q (m + 1) := rfl
          conv at he => rhs; rw [nuL, if_pos hok, if_neg h44]
          generalize hk : (if m = 0 then (nuL x L q m).2.1 else (nuL x L q m).2.1 + 1) = k at *
          refine hs 400 33 _ _ _ _ _ ?_
          conv => whnf
          repeat ((first | refine ⟨zG_of _, ?_⟩ | refine ⟨trivial, ?_⟩ | refine ⟨rfl, ?_⟩ | refine ⟨fun hc => absurd hc (by decide), fun _ => ?_⟩ | refine ⟨fun _ => ?_, fun hc => absurd (by decide) hc⟩ | refine ⟨fun _ => ?_, fun hc => absurd hc (by decide)⟩ | refine ⟨fun hc => absurd (by decide) hc, fun _ => ?_⟩); conv => whnf)
          try dsimp only
          refine ⟨L, x, k, hT1, ?_⟩
          conv => whnf
          repeat ((first | refine ⟨zG_of _, ?_⟩ | refine ⟨trivial, ?_⟩ | refine ⟨rfl, ?_⟩ | refine ⟨fun hc => absurd hc (by decide), fun _ => ?_⟩ | refine ⟨fun _ => ?_, fun hc => absurd (by decide) hc⟩ | refine ⟨fun _ => ?_, fun hc => absurd hc (by decide)⟩ | refine ⟨fun hc => absurd (by decide) hc, fun _ => ?_⟩); conv => whnf)
          try dsimp only
          rw [dig_lt hT1 (by decide)]
          refine ⟨fun hd => ?_, fun hd => ?_⟩
          · rw [if_neg (fun z => hd ⟨see_in hT1 (c := see x L k) (by omega) rfl, z.1⟩)] at he
            conv => whnf
            repeat ((first | refine ⟨zG_of _, ?_⟩ | refine ⟨trivial, ?_⟩ | refine ⟨rfl, ?_⟩ | refine ⟨fun hc => absurd hc (by decide), fun _ => ?_⟩ | refine ⟨fun _ => ?_, fun hc => absurd (by decide) hc⟩ | refine ⟨fun _ => ?_, fun hc => absurd hc (by decide)⟩ | refine ⟨fun hc => absurd (by decide) hc, fun _ => ?_⟩); conv => whnf)
            try dsimp only
            rw [hT1.2.1]
            exact failed m k _ wi1 hc he hF1 hT1
          · have hd := Classical.not_not.mp hd
            rw [dig_N hd.1 hd.2]
            have hv : see x L k < 256 := by
              have := (hT1.2.2.2.2 _ hd.1).2
              unfold see
              rw [if_pos hd.1]
              exact this
            conv => whnf
            repeat ((first | refine ⟨zG_of _, ?_⟩ | refine ⟨trivial, ?_⟩ | refine ⟨rfl, ?_⟩ | refine ⟨fun hc => absurd hc (by decide), fun _ => ?_⟩ | refine ⟨fun _ => ?_, fun hc => absurd (by decide) hc⟩ | refine ⟨fun _ => ?_, fun hc => absurd hc (by decide)⟩ | refine ⟨fun hc => absurd (by decide) hc, fun _ => ?_⟩); conv => whnf)
            try dsimp only
            rw [ltN (by omega) (by omega)]
            refine ⟨fun hd2 => ?_, fun hd2 => ?_⟩
            · rw [if_pos ⟨hd.2, by omega⟩] at he
              obtain ⟨wi2, e2, hT2, hF2, hf2⟩ := tx_adv (wi := z_up wi1 17 m (nI (see x L k - 48))) (tx_fr hT1 (z_up_ne (by decide)) (z_up_ne (by decide))) hd.1
              have ep : putF wi1 17 18 (nI m) (nI (see x L k - 48)) = z_up wi1 17 m (nI (see x L k - 48)) := putF_in (by omega) (by decide)
              conv => whnf
              repeat ((first | refine ⟨zG_of _, ?_⟩ | refine ⟨trivial, ?_⟩ | refine ⟨rfl, ?_⟩ | refine ⟨fun hc => absurd hc (by decide), fun _ => ?_⟩ | refine ⟨fun _ => ?_, fun hc => absurd (by decide) hc⟩ | refine ⟨fun _ => ?_, fun hc => absurd hc (by decide)⟩ | refine ⟨fun hc => absurd (by decide) hc, fun _ => ?_⟩); conv => whnf)
              try dsimp only
              rw [ep, e2, nI_add]
              have ih2 := ihn wi2
              rw [he] at ih2
              refine ih2 (fun y h1 h2 => by rw [hF2 y h1, z_up_ne h2, hF1 y h1 h2]) hT2 rfl (fun j hj => ?_)
              rw [hF2 17 (by decide)]
              unfold setp
              dsimp only
              by_cases e : j = m
              · subst e
                rw [z_up_eq, if_pos rfl]
                exact ⟨rfl, by omega⟩
              · rw [z_up_nei e, if_neg e]
                exact ⟨hN1 j (by omega), (hN j (by omega)).2⟩
            · rw [if_neg (fun z => hd2 (by omega))] at he
              conv => whnf
              repeat ((first | refine ⟨zG_of _, ?_⟩ | refine ⟨trivial, ?_⟩ | refine ⟨rfl, ?_⟩ | refine ⟨fun hc => absurd hc (by decide), fun _ => ?_⟩ | refine ⟨fun _ => ?_, fun hc => absurd (by decide) hc⟩ | refine ⟨fun _ => ?_, fun hc => absurd hc (by decide)⟩ | refine ⟨fun hc => absurd (by decide) hc, fun _ => ?_⟩); conv => whnf)
              try dsimp only
              rw [hT1.2.1]
              exact failed m k _ wi1 hc he hF1 hT1
        conv => whnf
        repeat ((first | refine ⟨zG_of _, ?_⟩ | refine ⟨trivial, ?_⟩ | refine ⟨rfl, ?_⟩ | refine ⟨fun hc => absurd hc (by decide), fun _ => ?_⟩ | refine ⟨fun _ => ?_, fun hc => absurd (by decide) hc⟩ | refine ⟨fun _ => ?_, fun hc => absurd hc (by decide)⟩ | refine ⟨fun hc => absurd (by decide) hc, fun _ => ?_⟩); conv => whnf)
        try dsimp only
        rw [ltN (by omega) (by omega)]
        refine ⟨fun hm0 => ?_, fun hm0 => ?_⟩
        · have hm0 : m = 0 := by omega
          conv => whnf
          repeat ((first | refine ⟨zG_of _, ?_⟩ | refine ⟨trivial, ?_⟩ | refine ⟨rfl, ?_⟩ | refine ⟨fun hc => absurd hc (by decide), fun _ => ?_⟩ | refine ⟨fun _ => ?_, fun hc => absurd (by decide) hc⟩ | refine ⟨fun _ => ?_, fun hc => absurd hc (by decide)⟩ | refine ⟨fun hc => absurd (by decide) hc, fun _ => ?_⟩); conv => whnf)
          try dsimp only
          refine digit wi' hF ?_ (fun j hj => (hN j hj).1) (fun z => z.1 hm0)
          rw [if_pos hm0]
          exact hT'
        · have hm0 : ¬ m = 0 := by omega
          conv => whnf
          repeat ((first | refine ⟨zG_of _, ?_⟩ | refine ⟨trivial, ?_⟩ | refine ⟨rfl, ?_⟩ | refine ⟨fun hc => absurd hc (by decide), fun _ => ?_⟩ | refine ⟨fun _ => ?_, fun hc => absurd (by decide) hc⟩ | refine ⟨fun _ => ?_, fun hc => absurd hc (by decide)⟩ | refine ⟨fun hc => absurd (by decide) hc, fun _ => ?_⟩); conv => whnf)
          try dsimp only
          refine ⟨L, x, _, 44, hT', rfl, by decide, fun h44 => ?_, fun h44 wi1 hF1 hT1 hf1 => ?_⟩
          · have he : nuL x L q (m + 1) = (false, (nuL x L q m).2.1, (nuL x L q m).2.2) := by
              rw [nuL, if_pos hok, if_pos ⟨hm0, h44⟩]
            conv => whnf
            repeat ((first | refine ⟨zG_of _, ?_⟩ | refine ⟨trivial, ?_⟩ | refine ⟨rfl, ?_⟩ | refine ⟨fun hc => absurd hc (by decide), fun _ => ?_⟩ | refine ⟨fun _ => ?_, fun hc => absurd (by decide) hc⟩ | refine ⟨fun _ => ?_, fun hc => absurd hc (by decide)⟩ | refine ⟨fun hc => absurd (by decide) hc, fun _ => ?_⟩); conv => whnf)
            try dsimp only
            rw [hT'.2.1]
            exact failed m _ _ wi' hc he hF hT'
          · conv => whnf
            repeat ((first | refine ⟨zG_of _, ?_⟩ | refine ⟨trivial, ?_⟩ | refine ⟨rfl, ?_⟩ | refine ⟨fun hc => absurd hc (by decide), fun _ => ?_⟩ | refine ⟨fun _ => ?_, fun hc => absurd (by decide) hc⟩ | refine ⟨fun _ => ?_, fun hc => absurd hc (by decide)⟩ | refine ⟨fun hc => absurd (by decide) hc, fun _ => ?_⟩); conv => whnf)
            try dsimp only
            refine digit wi1 (fun y h1 h2 => by rw [hF1 y h1, hF y h1 h2]) ?_ (fun j hj => by rw [hF1 17 (by decide)]; exact (hN j hj).1) (fun z => z.2 h44)
            rw [if_neg hm0]
            exact hT1)
    refine hs 400 0 _ _ _ _ _ ?_
    conv => whnf
    repeat ((first | refine ⟨zG_of _, ?_⟩ | refine ⟨trivial, ?_⟩ | refine ⟨rfl, ?_⟩ | refine ⟨fun hc => absurd hc (by decide), fun _ => ?_⟩ | refine ⟨fun _ => ?_, fun hc => absurd (by decide) hc⟩ | refine ⟨fun _ => ?_, fun hc => absurd hc (by decide)⟩ | refine ⟨fun hc => absurd (by decide) hc, fun _ => ?_⟩); conv => whnf)
    try dsimp only
    exact loop 0 (Nat.zero_le _) _ (fun y h1 _ => z_up_ne h1) (tl_0 hT) rfl (fun j hj => absurd hj (Nat.not_lt_zero j))
theorem nn_N {v : Int32} (h : ¬ v < nI 0) : ∃ n, n < 2 ^ 31 ∧ v = nI n := by
  obtain ⟨N, h1, h2⟩ := int_eq_ofNat_of_bounds (n := v) (C := 2147483647) (by decide) (by
    rw [Int32.le_iff_toInt_le]
    rw [Int32.lt_iff_toInt_lt, nI_toInt (by decide)] at h
    have : (0 : Int32).toInt = 0 := by decide
    omega) (by
    rw [Int32.le_iff_toInt_le]
    have h2 : (Int32.ofNat 2147483647).toInt = 2147483647 := by decide
    have := Int32.toInt_lt v
    omega)
  exact ⟨N, by omega, h2⟩
theorem neg_N {v : Int32} {n : Nat} (h : v < nI 0) (hn : n < 2 ^ 31) : ¬ v = nI n := fun e => by
  rw [e] at h
  exact absurd h (nI_nlt (Nat.zero_le _) hn)
def sp_X8_cut : zSp := fun av w K => match av with
  | [.ref o, .int v] => o = 1 ∧ zG w.1 ∧ ∃ L x, TL w.2.1 L x ∧ ((∀ n, n ≤ L → ¬ v = nI n) → K (some (.int (nI 0))) w) ∧ (∀ n, n ≤ L → v = nI n → ∀ wi' : Nat → Nat → Int32, F1 w.2.1 wi' → TL wi' n x → K (some (.int (nI 1))) (w.1, wi', w.2.2))
  | _ => False
def rm_X8_cut : Room := { frames := 0, cells := 0, slots := 0, locals := 0 }
def M_X8_cut : zM := (k_X8_cut, f_X8, [], ([], [], []), [], [], 2, false, (false, 0, fun _ => 0), (0, 0, []))
theorem O_X8_cut (l : Launch) : z_OK l RX8 cX8_cut (headSpec (.code yX8_cut cX8_cut 2 (some .boolean) :: zTT) rm_X8_cut).room M_X8_cut := ⟨ok_X8_cut, fo_X8, fun _ h => absurd h List.not_mem_nil, fun _ h => absurd h List.not_mem_nil, fun _ h => absurd h List.not_mem_nil, fun _ h => absurd h List.not_mem_nil, fun _ h => absurd h List.not_mem_nil, rfl, rfl, fun _ h => absurd h List.not_mem_nil⟩
theorem c_X8_cut (l : Launch) : z_CS l yX8_cut cX8_cut 2 (some .boolean) rm_X8_cut sp_X8_cut := by
  refine z_meth (by decide) (Or.inr (Or.inr (Or.inl ⟨rfl, rfl⟩))) (fun h => by cases h) rfl (O_X8_cut l) ?_
  intro av w K h
  match av, h with
  | [.ref o, .int v], h =>
    obtain ⟨rfl, ⟨r, hG⟩, L, x, hT, h0, h1⟩ := h
    obtain ⟨G, wi, wl⟩ := w
    subst hG
    try dsimp only at h0 h1 hT
    have hL := hT.2.1
    refine ⟨Nat.le_of_ble_eq_true rfl, fun Jm hs => hs 400 0 _ _ _ _ _ ?_⟩
    conv => whnf
    repeat ((first | refine ⟨zG_of _, ?_⟩ | refine ⟨trivial, ?_⟩ | refine ⟨rfl, ?_⟩ | refine ⟨fun hc => absurd hc (by decide), fun _ => ?_⟩ | refine ⟨fun _ => ?_, fun hc => absurd (by decide) hc⟩ | refine ⟨fun _ => ?_, fun hc => absurd hc (by decide)⟩ | refine ⟨fun hc => absurd (by decide) hc, fun _ => ?_⟩); conv => whnf)
    try dsimp only
    refine ⟨fun hc => ⟨Or.inl rfl, h0 (fun n hn => neg_N hc (by omega))⟩, fun hc => ?_⟩
    obtain ⟨n, hn, rfl⟩ := nn_N hc
    conv => whnf
    repeat ((first | refine ⟨zG_of _, ?_⟩ | refine ⟨trivial, ?_⟩ | refine ⟨rfl, ?_⟩ | refine ⟨fun hc => absurd hc (by decide), fun _ => ?_⟩ | refine ⟨fun _ => ?_, fun hc => absurd (by decide) hc⟩ | refine ⟨fun _ => ?_, fun hc => absurd hc (by decide)⟩ | refine ⟨fun hc => absurd (by decide) hc, fun _ => ?_⟩); conv => whnf)
    try dsimp only
    rw [hT.1, ltN (by omega) (by omega)]
    refine ⟨fun hc2 => ?_, fun hc2 => ?_⟩
    · conv => whnf
      repeat ((first | refine ⟨zG_of _, ?_⟩ | refine ⟨trivial, ?_⟩ | refine ⟨rfl, ?_⟩ | refine ⟨fun hc => absurd hc (by decide), fun _ => ?_⟩ | refine ⟨fun _ => ?_, fun hc => absurd (by decide) hc⟩ | refine ⟨fun _ => ?_, fun hc => absurd hc (by decide)⟩ | refine ⟨fun hc => absurd (by decide) hc, fun _ => ?_⟩); conv => whnf)
      try dsimp only
      refine ⟨Or.inr rfl, h1 n (by omega) rfl _ F1_up ⟨?_, by omega, fun k hk => ?_⟩⟩
      · rw [z_up_eq]
      · rw [z_up_ne (by decide)]
        exact hT.2.2 k (by omega)
    · exact ⟨Or.inl rfl, h0 (fun m hm => by rw [nI_eq (by omega) (by omega)]; omega)⟩
def sp_X8_empty : zSp := fun av w K => match av with
  | [.ref o] => o = 1 ∧ zG w.1 ∧ ∃ L x, TL w.2.1 L x ∧ ∀ wi' : Nat → Nat → Int32, F1 w.2.1 wi' → TL wi' 0 x → wi' 1 3 = w.2.1 1 3 → K none (w.1, wi', w.2.2)
  | _ => False
def rm_X8_empty : Room := { frames := 0, cells := 0, slots := 0, locals := 0 }
def M_X8_empty : zM := (k_X8_empty, f_X8, [], ([], [], []), [], [], 0, false, (false, 0, fun _ => 0), (0, 0, []))
theorem O_X8_empty (l : Launch) : z_OK l RX8 cX8_empty (headSpec (.code yX8_empty cX8_empty 1 none :: zTT) rm_X8_empty).room M_X8_empty := ⟨ok_X8_empty, fo_X8, fun _ h => absurd h List.not_mem_nil, fun _ h => absurd h List.not_mem_nil, fun _ h => absurd h List.not_mem_nil, fun _ h => absurd h List.not_mem_nil, fun _ h => absurd h List.not_mem_nil, rfl, rfl, fun _ h => absurd h List.not_mem_nil⟩
theorem c_X8_empty (l : Launch) : z_CS l yX8_empty cX8_empty 1 none rm_X8_empty sp_X8_empty := by
  refine z_meth (by decide) (Or.inl ⟨rfl, rfl⟩) (fun h => by cases h) rfl (O_X8_empty l) ?_
  intro av w K h
  match av, h with
  | [.ref o], h =>
    obtain ⟨rfl, ⟨r, hG⟩, L, x, hT, h⟩ := h
    obtain ⟨G, wi, wl⟩ := w
    subst hG
    try dsimp only at h hT
    refine ⟨Nat.le_of_ble_eq_true rfl, fun Jm hs => hs 400 0 _ _ _ _ _ ?_⟩
    conv => whnf
    repeat ((first | refine ⟨zG_of _, ?_⟩ | refine ⟨trivial, ?_⟩ | refine ⟨rfl, ?_⟩ | refine ⟨fun hc => absurd hc (by decide), fun _ => ?_⟩ | refine ⟨fun _ => ?_, fun hc => absurd (by decide) hc⟩ | refine ⟨fun _ => ?_, fun hc => absurd hc (by decide)⟩ | refine ⟨fun hc => absurd (by decide) hc, fun _ => ?_⟩); conv => whnf)
    try dsimp only
    exact h _ F1_up ⟨z_up_eq, by decide, fun k hk => absurd hk (Nat.not_lt_zero k)⟩ (z_up_nei (by decide))

