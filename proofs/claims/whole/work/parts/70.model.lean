/-! the reference: terms, forms, products read -/
theorem nI_m1 {k : Nat} (h : k < 2 ^ 31) : nI k ≠ mI 1 := fun z => by
  have z := congrArg Int32.toInt z
  rw [nI_toInt h] at z
  have : (mI 1).toInt = -1 := by decide
  omega
def FTm (F : Nat) (wi wi' : Nat → Nat → Int32) : Prop := (∀ y, y ≠ 45 → y ≠ 52 → wi' y = wi y) ∧ (∀ i, i ≠ 13 → i ≠ 14 → wi' 45 i = wi 45 i) ∧ ∀ j, (j < F ∨ F + 9 ≤ j) → wi' 52 j = wi 52 j
theorem ftm_refl {F : Nat} {wi : Nat → Nat → Int32} : FTm F wi wi := ⟨fun _ _ _ => rfl, fun _ _ _ => rfl, fun _ _ => rfl⟩
theorem ftm_trans {F : Nat} {wi wi' wi2 : Nat → Nat → Int32} (h : FTm F wi wi') (h2 : FTm F wi' wi2) : FTm F wi wi2 := ⟨fun y g1 g2 => (h2.1 y g1 g2).trans (h.1 y g1 g2), fun i g1 g2 => (h2.2.1 i g1 g2).trans (h.2.1 i g1 g2), fun j hj => (h2.2.2 j hj).trans (h.2.2 j hj)⟩
theorem ftm_13 {F : Nat} {wi : Nat → Nat → Int32} {v : Int32} : FTm F wi (z_up wi 45 13 v) := ⟨fun y g1 _ => z_up_ne g1, fun i g1 _ => z_up_nei g1, fun j _ => by rw [z_up_ne (by decide)]⟩
theorem ftm_14 {F : Nat} {wi : Nat → Nat → Int32} {v : Int32} : FTm F wi (z_up wi 45 14 v) := ⟨fun y g1 _ => z_up_ne g1, fun i _ g2 => z_up_nei g2, fun j _ => by rw [z_up_ne (by decide)]⟩
theorem ftm_52 {F j : Nat} {wi : Nat → Nat → Int32} {v : Int32} (h : F ≤ j) (h2 : j < F + 9) : FTm F wi (z_up wi 52 j v) := ⟨fun y _ g2 => z_up_ne g2, fun i _ _ => by rw [z_up_ne (by decide)], fun i hi => z_up_nei (by omega)⟩
def RdP (wi' : Nat → Nat → Int32) (L : Nat) (x : Nat → Nat) (F : Nat) (R : Bool × Nat × (Nat → Nat)) : Prop := (R.1 = true ∧ XR wi' L x R.2.1 ∧ wi' 45 14 = mI 1 ∧ RA wi' 52 F R.2.2) ∨ (¬ R.1 = true ∧ wi' 45 14 = nI R.2.1 ∧ R.2.1 ≤ 400 ∧ ∃ k2, XR wi' L x k2)
theorem i2c_t : ∀ t, t < 3 → ((nI 97 + nI t).toUInt32 % 65536).toInt32 = nI (97 + t) := by decide
theorem ra_fr {wi wi' : Nat → Nat → Int32} {o F : Nat} {a : Nat → Nat} (h : RA wi o F a) (e : wi' o = wi o) : RA wi' o F a := fun p hp => by rw [e]; exact h p hp
def sp_X12_readTerm : zSp := fun av w K => match av with
  | [.ref o, .int f, .int t, .int m] => o = 45 ∧ zH w.1 ∧ ∃ L x k d q F t' b a, XR w.2.1 L x k ∧ w.2.1 45 14 = mI 1 ∧ (∀ t, t < 3 → w.2.1 46 t = nI (d t)) ∧ (∀ t, t < 3 → 1 ≤ d t ∧ d t ≤ 3) ∧ w.2.1 45 1 = nI q ∧ (q = 2 ∨ q = 3) ∧ f = nI F ∧ F + 9 ≤ 1080 ∧ t = nI t' ∧ t' < 3 ∧ m = bI (b = true) ∧ RA w.2.1 52 F a ∧ (∀ p, p < 9 → a p < q) ∧ ∀ wi', FTm F w.2.1 wi' → RdP wi' L x F (tmP x L d t' (if b = true then q - 1 else 1) k a) → K none (w.1, wi', w.2.2)
  | _ => False
def rm_X12_readTerm : Room := { frames := 3, cells := 0, slots := 0, locals := 62 }
def M_X12_readTerm : zM := (k_X12_readTerm, f_X12, [(133, 4, 10, 2, 0, 0, sp_X12_expect), (84, 4, 10, 2, 0, 0, sp_X12_rowsOf), (137, 4, 10, 2, 0, 0, sp_X12_readSide), (88, 4, 10, 2, 0, 0, sp_X12_columnsOf), (130, 4, 10, 2, 0, 0, sp_X12_fault)], ([], [], []), [], [], 0, false, (false, 0, fun _ => 0), (0, 0))
theorem ca_X12_readTerm_0 (l : Launch) : z_cok l RX12 (headSpec (.code yX12_readTerm cX12_readTerm 7 none :: zTT) rm_X12_readTerm).room (133, 4, 10, 2, 0, 0, sp_X12_expect) := z_ca4 (c_X12_expect l) mb_X12_expect ⟨_, rfl, rfl⟩ wt_1274 wt_1276 wt_31 (by decide)
theorem ca_X12_readTerm_1 (l : Launch) : z_cok l RX12 (headSpec (.code yX12_readTerm cX12_readTerm 7 none :: zTT) rm_X12_readTerm).room (84, 4, 10, 2, 0, 0, sp_X12_rowsOf) := z_ca4 (c_X12_rowsOf l) mb_X12_rowsOf ⟨_, rfl, rfl⟩ wt_1298 wt_1300 wt_37 (by decide)
theorem ca_X12_readTerm_2 (l : Launch) : z_cok l RX12 (headSpec (.code yX12_readTerm cX12_readTerm 7 none :: zTT) rm_X12_readTerm).room (137, 4, 10, 2, 0, 0, sp_X12_readSide) := z_ca4 (c_X12_readSide l) mb_X12_readSide ⟨_, rfl, rfl⟩ wt_1302 wt_1304 wt_38 (by decide)
theorem ca_X12_readTerm_3 (l : Launch) : z_cok l RX12 (headSpec (.code yX12_readTerm cX12_readTerm 7 none :: zTT) rm_X12_readTerm).room (88, 4, 10, 2, 0, 0, sp_X12_columnsOf) := z_ca4 (c_X12_columnsOf l) mb_X12_columnsOf ⟨_, rfl, rfl⟩ wt_1306 wt_1308 wt_39 (by decide)
theorem ca_X12_readTerm_4 (l : Launch) : z_cok l RX12 (headSpec (.code yX12_readTerm cX12_readTerm 7 none :: zTT) rm_X12_readTerm).room (130, 4, 10, 2, 0, 0, sp_X12_fault) := z_ca4 (c_X12_fault l) mb_X12_fault ⟨_, rfl, rfl⟩ wt_1286 wt_1288 wt_34 (by decide)
theorem O_X12_readTerm (l : Launch) : z_OK l RX12 cX12_readTerm (headSpec (.code yX12_readTerm cX12_readTerm 7 none :: zTT) rm_X12_readTerm).room M_X12_readTerm := ⟨ok_X12_readTerm, fo_X12, List.forall_mem_cons.mpr ⟨ca_X12_readTerm_0 l, List.forall_mem_cons.mpr ⟨ca_X12_readTerm_1 l, List.forall_mem_cons.mpr ⟨ca_X12_readTerm_2 l, List.forall_mem_cons.mpr ⟨ca_X12_readTerm_3 l, List.forall_mem_cons.mpr ⟨ca_X12_readTerm_4 l, fun _ h => absurd h List.not_mem_nil⟩⟩⟩⟩⟩, fun _ h => absurd h List.not_mem_nil, fun _ h => absurd h List.not_mem_nil, fun _ h => absurd h List.not_mem_nil, fun _ h => absurd h List.not_mem_nil, rfl, rfl⟩
theorem c_X12_readTerm (l : Launch) : z_CS l yX12_readTerm cX12_readTerm 7 none rm_X12_readTerm sp_X12_readTerm := by
  refine z_meth (by decide) (Or.inl ⟨rfl, rfl⟩) (fun h => by cases h) rfl (O_X12_readTerm l) ?_
  intro av w K h
  match av, h with
  | [.ref o, .int f, .int t, .int m], h =>
    obtain ⟨rfl, ⟨r, hG⟩, L, x, k, d, q, F, t', b, a, hX, hw, hd, hd3, hq, q23, rfl, hF, rfl, ht, rfl, hA, ha, h⟩ := h
    obtain ⟨G, wi, wl⟩ := w
    subst hG
    try dsimp only at h hX hw hd hq hA
    have hL := hX.2.2.1
    have hk := hX.2.2.2.1
    have dr := hd3 _ ht
    have dc := hd3 _ (nx_lt t')
    unfold tmP at h
    refine ⟨Nat.le_of_ble_eq_true rfl, fun Jm hs => hs 400 0 _ _ _ _ _ ?_⟩
    conv => whnf
    repeat ((first | refine ⟨zH_of _, ?_⟩ | refine ⟨trivial, ?_⟩ | refine ⟨rfl, ?_⟩ | refine ⟨fun hc => absurd hc (by decide), fun _ => ?_⟩ | refine ⟨fun _ => ?_, fun hc => absurd (by decide) hc⟩ | refine ⟨fun _ => ?_, fun hc => absurd hc (by decide)⟩ | refine ⟨fun hc => absurd (by decide) hc, fun _ => ?_⟩); conv => whnf)
    try dsimp only
    rw [i2c_t t' ht]
    refine ⟨L, x, k, 97 + t', hX, rfl, by omega, fun z => absurd hw z, fun _ he => ?_, fun _ he => ?_⟩
    · rw [if_neg he] at h
      have hX1 : XR (z_up wi 45 14 (nI k)) L x k := xr_up hX (by decide) (by decide)
      have hw1 : z_up wi 45 14 (nI k) 45 14 = nI k := z_up_eq
      have n1 : nI k ≠ mI 1 := nI_m1 (by omega)
      have h := h _ ftm_14 (Or.inr ⟨Bool.false_ne_true, hw1, by show k ≤ 400; omega, k, hX1⟩)
      have e46 : z_up wi 45 14 (nI k) 46 = wi 46 := z_up_ne (by decide)
      generalize z_up wi 45 14 (nI k) = wi1 at *
      conv => whnf
      repeat ((first | refine ⟨zH_of _, ?_⟩ | refine ⟨trivial, ?_⟩ | refine ⟨rfl, ?_⟩ | refine ⟨fun hc => absurd hc (by decide), fun _ => ?_⟩ | refine ⟨fun _ => ?_, fun hc => absurd (by decide) hc⟩ | refine ⟨fun _ => ?_, fun hc => absurd hc (by decide)⟩ | refine ⟨fun hc => absurd (by decide) hc, fun _ => ?_⟩); conv => whnf)
      try dsimp only
      refine ⟨t', rfl, ht, ?_⟩
      rw [e46, hd _ ht]
      conv => whnf
      repeat ((first | refine ⟨zH_of _, ?_⟩ | refine ⟨trivial, ?_⟩ | refine ⟨rfl, ?_⟩ | refine ⟨fun hc => absurd hc (by decide), fun _ => ?_⟩ | refine ⟨fun _ => ?_, fun hc => absurd (by decide) hc⟩ | refine ⟨fun _ => ?_, fun hc => absurd hc (by decide)⟩ | refine ⟨fun hc => absurd (by decide) hc, fun _ => ?_⟩); conv => whnf)
      try dsimp only
      refine ⟨L, x, k, d t', hX1, rfl, by omega, fun _ => ?_, fun z => absurd (hw1.symm.trans z) n1, fun z => absurd (hw1.symm.trans z) n1⟩
      conv => whnf
      repeat ((first | refine ⟨zH_of _, ?_⟩ | refine ⟨trivial, ?_⟩ | refine ⟨rfl, ?_⟩ | refine ⟨fun hc => absurd hc (by decide), fun _ => ?_⟩ | refine ⟨fun _ => ?_, fun hc => absurd (by decide) hc⟩ | refine ⟨fun _ => ?_, fun hc => absurd hc (by decide)⟩ | refine ⟨fun hc => absurd (by decide) hc, fun _ => ?_⟩); conv => whnf)
      try dsimp only
      refine ⟨t', rfl, ht, ?_⟩
      rw [e46, hd _ (nx_lt t')]
      conv => whnf
      repeat ((first | refine ⟨zH_of _, ?_⟩ | refine ⟨trivial, ?_⟩ | refine ⟨rfl, ?_⟩ | refine ⟨fun hc => absurd hc (by decide), fun _ => ?_⟩ | refine ⟨fun _ => ?_, fun hc => absurd (by decide) hc⟩ | refine ⟨fun _ => ?_, fun hc => absurd hc (by decide)⟩ | refine ⟨fun hc => absurd (by decide) hc, fun _ => ?_⟩); conv => whnf)
      try dsimp only
      refine ⟨L, x, k, d (nx t'), hX1, rfl, by omega, fun _ => ?_, fun z => absurd (hw1.symm.trans z) n1, fun z => absurd (hw1.symm.trans z) n1⟩
      conv => whnf
      repeat ((first | refine ⟨zH_of _, ?_⟩ | refine ⟨trivial, ?_⟩ | refine ⟨rfl, ?_⟩ | refine ⟨fun hc => absurd hc (by decide), fun _ => ?_⟩ | refine ⟨fun _ => ?_, fun hc => absurd (by decide) hc⟩ | refine ⟨fun _ => ?_, fun hc => absurd hc (by decide)⟩ | refine ⟨fun hc => absurd (by decide) hc, fun _ => ?_⟩); conv => whnf)
      try dsimp only
      exact ⟨fun z => absurd (hw1.symm.trans z) n1, fun _ => h⟩
    · rw [if_pos he] at h
      have hkL : k < L := xr_in (by omega) he
      have hX1 : XR (z_up wi 45 13 (nI (k + 1))) L x (k + 1) := xr_adv hX hkL
      have hF1 : FTm F wi (z_up wi 45 13 (nI (k + 1))) := ftm_13
      have hw1 : z_up wi 45 13 (nI (k + 1)) 45 14 = mI 1 := by rw [z_up_nei (by decide)]; exact hw
      have e46 : z_up wi 45 13 (nI (k + 1)) 46 = wi 46 := z_up_ne (by decide)
      have f52 : z_up wi 45 13 (nI (k + 1)) 52 = wi 52 := z_up_ne (by decide)
      generalize z_up wi 45 13 (nI (k + 1)) = wi1 at *
      conv => whnf
      repeat ((first | refine ⟨zH_of _, ?_⟩ | refine ⟨trivial, ?_⟩ | refine ⟨rfl, ?_⟩ | refine ⟨fun hc => absurd hc (by decide), fun _ => ?_⟩ | refine ⟨fun _ => ?_, fun hc => absurd (by decide) hc⟩ | refine ⟨fun _ => ?_, fun hc => absurd hc (by decide)⟩ | refine ⟨fun hc => absurd (by decide) hc, fun _ => ?_⟩); conv => whnf)
      try dsimp only
      refine ⟨t', rfl, ht, ?_⟩
      rw [e46, hd _ ht]
      conv => whnf
      repeat ((first | refine ⟨zH_of _, ?_⟩ | refine ⟨trivial, ?_⟩ | refine ⟨rfl, ?_⟩ | refine ⟨fun hc => absurd hc (by decide), fun _ => ?_⟩ | refine ⟨fun _ => ?_, fun hc => absurd (by decide) hc⟩ | refine ⟨fun _ => ?_, fun hc => absurd hc (by decide)⟩ | refine ⟨fun hc => absurd (by decide) hc, fun _ => ?_⟩); conv => whnf)
      try dsimp only
      refine ⟨L, x, k + 1, d t', hX1, rfl, by omega, fun z => absurd hw1 z, fun _ h2 v1 => ?_, fun _ h2 => ?_⟩
      · rw [if_neg h2] at h
        have hX2 : XR (z_up wi1 45 14 (nI (k + 1))) L x (k + 1) := xr_up hX1 (by decide) (by decide)
        have hw2 : z_up wi1 45 14 (nI (k + 1)) 45 14 = nI (k + 1) := z_up_eq
        have n1 : nI (k + 1) ≠ mI 1 := nI_m1 (by omega)
        have h := h _ (ftm_trans hF1 ftm_14) (Or.inr ⟨Bool.false_ne_true, hw2, by show k + 1 ≤ 400; omega, k + 1, hX2⟩)
        have e46b : z_up wi1 45 14 (nI (k + 1)) 46 = wi1 46 := z_up_ne (by decide)
        generalize z_up wi1 45 14 (nI (k + 1)) = wi2 at *
        conv => whnf
        repeat ((first | refine ⟨zH_of _, ?_⟩ | refine ⟨trivial, ?_⟩ | refine ⟨rfl, ?_⟩ | refine ⟨fun hc => absurd hc (by decide), fun _ => ?_⟩ | refine ⟨fun _ => ?_, fun hc => absurd (by decide) hc⟩ | refine ⟨fun _ => ?_, fun hc => absurd hc (by decide)⟩ | refine ⟨fun hc => absurd (by decide) hc, fun _ => ?_⟩); conv => whnf)
        try dsimp only
        refine ⟨t', rfl, ht, ?_⟩
        rw [e46b, e46, hd _ (nx_lt t')]
        conv => whnf
        repeat ((first | refine ⟨zH_of _, ?_⟩ | refine ⟨trivial, ?_⟩ | refine ⟨rfl, ?_⟩ | refine ⟨fun hc => absurd hc (by decide), fun _ => ?_⟩ | refine ⟨fun _ => ?_, fun hc => absurd (by decide) hc⟩ | refine ⟨fun _ => ?_, fun hc => absurd hc (by decide)⟩ | refine ⟨fun hc => absurd (by decide) hc, fun _ => ?_⟩); conv => whnf)
        try dsimp only
        refine ⟨L, x, k + 1, d (nx t'), hX2, rfl, by omega, fun _ => ?_, fun z => absurd (hw2.symm.trans z) n1, fun z => absurd (hw2.symm.trans z) n1⟩
        conv => whnf
        repeat ((first | refine ⟨zH_of _, ?_⟩ | refine ⟨trivial, ?_⟩ | refine ⟨rfl, ?_⟩ | refine ⟨fun hc => absurd hc (by decide), fun _ => ?_⟩ | refine ⟨fun _ => ?_, fun hc => absurd (by decide) hc⟩ | refine ⟨fun _ => ?_, fun hc => absurd hc (by decide)⟩ | refine ⟨fun hc => absurd (by decide) hc, fun _ => ?_⟩); conv => whnf)
        try dsimp only
        exact ⟨fun z => absurd (hw2.symm.trans z) n1, fun _ => h⟩
      · rw [if_pos h2] at h
        have hkL2 : k + 1 < L := xr_in (c := see x L (k + 1)) (by omega) rfl
        have hX2 : XR (z_up wi1 45 13 (nI (k + 1 + 1))) L x (k + 1 + 1) := xr_adv hX1 hkL2
        have hF2 : FTm F wi (z_up wi1 45 13 (nI (k + 1 + 1))) := ftm_trans hF1 ftm_13
        have hw2 : z_up wi1 45 13 (nI (k + 1 + 1)) 45 14 = mI 1 := by rw [z_up_nei (by decide)]; exact hw1
        have f52b : z_up wi1 45 13 (nI (k + 1 + 1)) 52 = wi 52 := by rw [z_up_ne (by decide)]; exact f52
        have e46b : z_up wi1 45 13 (nI (k + 1 + 1)) 46 = wi 46 := by rw [z_up_ne (by decide)]; exact e46
        generalize z_up wi1 45 13 (nI (k + 1 + 1)) = wi2 at *
        have hX2 : XR wi2 L x (k + 2) := hX2
        conv => whnf
        repeat ((first | refine ⟨zH_of _, ?_⟩ | refine ⟨trivial, ?_⟩ | refine ⟨rfl, ?_⟩ | refine ⟨fun hc => absurd hc (by decide), fun _ => ?_⟩ | refine ⟨fun _ => ?_, fun hc => absurd (by decide) hc⟩ | refine ⟨fun _ => ?_, fun hc => absurd hc (by decide)⟩ | refine ⟨fun hc => absurd (by decide) hc, fun _ => ?_⟩); conv => whnf)
        try dsimp only
        refine ⟨t', rfl, ht, ?_⟩
        rw [e46b, hd _ (nx_lt t')]
        conv => whnf
        repeat ((first | refine ⟨zH_of _, ?_⟩ | refine ⟨trivial, ?_⟩ | refine ⟨rfl, ?_⟩ | refine ⟨fun hc => absurd hc (by decide), fun _ => ?_⟩ | refine ⟨fun _ => ?_, fun hc => absurd (by decide) hc⟩ | refine ⟨fun _ => ?_, fun hc => absurd hc (by decide)⟩ | refine ⟨fun hc => absurd (by decide) hc, fun _ => ?_⟩); conv => whnf)
        try dsimp only
        refine ⟨L, x, k + 2, d (nx t'), hX2, rfl, by omega, fun z => absurd hw2 z, fun _ h3 v2 => ?_, fun _ h3 => ?_⟩
        · rw [if_neg h3] at h
          have hX3 : XR (z_up wi2 45 14 (nI (k + 2))) L x (k + 2) := xr_up hX2 (by decide) (by decide)
          have hw3 : z_up wi2 45 14 (nI (k + 2)) 45 14 = nI (k + 2) := z_up_eq
          have n1 : nI (k + 2) ≠ mI 1 := nI_m1 (by omega)
          have h := h _ (ftm_trans hF2 ftm_14) (Or.inr ⟨Bool.false_ne_true, hw3, by show k + 2 ≤ 400; omega, k + 2, hX3⟩)
          generalize z_up wi2 45 14 (nI (k + 2)) = wi3 at *
          conv => whnf
          repeat ((first | refine ⟨zH_of _, ?_⟩ | refine ⟨trivial, ?_⟩ | refine ⟨rfl, ?_⟩ | refine ⟨fun hc => absurd hc (by decide), fun _ => ?_⟩ | refine ⟨fun _ => ?_, fun hc => absurd (by decide) hc⟩ | refine ⟨fun _ => ?_, fun hc => absurd hc (by decide)⟩ | refine ⟨fun hc => absurd (by decide) hc, fun _ => ?_⟩); conv => whnf)
          try dsimp only
          exact ⟨fun z => absurd (hw3.symm.trans z) n1, fun _ => h⟩
        · rw [if_pos h3] at h
          have hkL3 : k + 2 < L := xr_in (c := see x L (k + 2)) (by omega) rfl
          have hX3 : XR (z_up wi2 45 13 (nI (k + 2 + 1))) L x (k + 2 + 1) := xr_adv hX2 hkL3
          have hF3 : FTm F wi (z_up wi2 45 13 (nI (k + 2 + 1))) := ftm_trans hF2 ftm_13
          have hw3 : z_up wi2 45 13 (nI (k + 2 + 1)) 45 14 = mI 1 := by rw [z_up_nei (by decide)]; exact hw2
          have f52c : z_up wi2 45 13 (nI (k + 2 + 1)) 52 = wi 52 := by rw [z_up_ne (by decide)]; exact f52b
          have e46c : z_up wi2 45 13 (nI (k + 2 + 1)) 46 = wi 46 := by rw [z_up_ne (by decide)]; exact e46b
          generalize z_up wi2 45 13 (nI (k + 2 + 1)) = wi3 at *
          have hX3 : XR wi3 L x (k + 3) := hX3
          have hA3 : RA wi3 52 F a := ra_fr hA f52c
          have i9 := idx9 (r := see x L (k + 1) - 49) (c := see x L (k + 2) - 49) dr.2 dc.2 (by omega) (by omega)
          conv => whnf
          repeat ((first | refine ⟨zH_of _, ?_⟩ | refine ⟨trivial, ?_⟩ | refine ⟨rfl, ?_⟩ | refine ⟨fun hc => absurd hc (by decide), fun _ => ?_⟩ | refine ⟨fun _ => ?_, fun hc => absurd (by decide) hc⟩ | refine ⟨fun _ => ?_, fun hc => absurd hc (by decide)⟩ | refine ⟨fun hc => absurd (by decide) hc, fun _ => ?_⟩); conv => whnf)
          try dsimp only
          refine ⟨fun _ => ?_, fun z => absurd hw3 z⟩
          conv => whnf
          repeat ((first | refine ⟨zH_of _, ?_⟩ | refine ⟨trivial, ?_⟩ | refine ⟨rfl, ?_⟩ | refine ⟨fun hc => absurd hc (by decide), fun _ => ?_⟩ | refine ⟨fun _ => ?_, fun hc => absurd (by decide) hc⟩ | refine ⟨fun _ => ?_, fun hc => absurd hc (by decide)⟩ | refine ⟨fun hc => absurd (by decide) hc, fun _ => ?_⟩); conv => whnf)
          try dsimp only
          refine ⟨t', rfl, ht, ?_⟩
          rw [e46c, hd _ (nx_lt t')]
          have em : nI F + (nI (see x L (k + 1) - 48) - nI 1) * nI (d (nx t')) + nI (see x L (k + 2) - 48) - nI 1 = nI (F + ((see x L (k + 1) - 49) * d (nx t') + (see x L (k + 2) - 49))) := by
            rw [pk_sub (by omega), pk_mul, nI_add, nI_add, pk_sub (by omega), show see x L (k + 1) - 48 - 1 = see x L (k + 1) - 49 by omega]
            congr 1
            omega
          generalize (see x L (k + 1) - 49) * d (nx t') + (see x L (k + 2) - 49) = m at *
          have am := ha m i9
          have eq3 : wi3 45 1 = nI q := by rw [hF3.2.1 1 (by decide) (by decide)]; exact hq
          conv => whnf
          repeat ((first | refine ⟨zH_of _, ?_⟩ | refine ⟨trivial, ?_⟩ | refine ⟨rfl, ?_⟩ | refine ⟨fun hc => absurd hc (by decide), fun _ => ?_⟩ | refine ⟨fun _ => ?_, fun hc => absurd (by decide) hc⟩ | refine ⟨fun _ => ?_, fun hc => absurd hc (by decide)⟩ | refine ⟨fun hc => absurd (by decide) hc, fun _ => ?_⟩); conv => whnf)
          try dsimp only
          rw [em]
          refine ⟨vp_in_nI (show F + m < 1080 by omega) (by decide), ?_⟩
          conv => whnf
          repeat ((first | refine ⟨zH_of _, ?_⟩ | refine ⟨trivial, ?_⟩ | refine ⟨rfl, ?_⟩ | refine ⟨fun hc => absurd hc (by decide), fun _ => ?_⟩ | refine ⟨fun _ => ?_, fun hc => absurd (by decide) hc⟩ | refine ⟨fun _ => ?_, fun hc => absurd hc (by decide)⟩ | refine ⟨fun hc => absurd (by decide) hc, fun _ => ?_⟩); conv => whnf)
          try dsimp only
          rw [nI_clamp (by omega), hA3 m i9, eq0N (by omega)]
          refine ⟨fun h6 => ?_, fun h6 => ?_⟩
          · rw [if_pos h6] at h
            have go : ∀ n : Nat, n = (if b = true then q - 1 else 1) → K none (GC ++ (GM ++ r), z_up wi3 52 (F + m) (nI n), wl) := fun n hn => by
              subst hn
              refine h _ (ftm_trans hF3 (ftm_52 (by omega) (by omega))) (Or.inl ⟨rfl, xr_fr hX3 (by rw [z_up_ne (by decide)]) (by rw [z_up_ne (by decide)]) (z_up_ne (by decide)), by rw [z_up_ne (by decide)]; exact hw3, fun p hp => ?_⟩)
              show z_up wi3 52 (F + m) _ 52 (F + p) = nI (setp a m _ p)
              unfold setp
              by_cases e : p = m
              · rw [e, z_up_eq, if_pos rfl]
              · rw [z_up_nei (by omega), if_neg e]
                exact hA3 p hp
            conv => whnf
            repeat ((first | refine ⟨zH_of _, ?_⟩ | refine ⟨trivial, ?_⟩ | refine ⟨rfl, ?_⟩ | refine ⟨fun hc => absurd hc (by decide), fun _ => ?_⟩ | refine ⟨fun _ => ?_, fun hc => absurd (by decide) hc⟩ | refine ⟨fun _ => ?_, fun hc => absurd hc (by decide)⟩ | refine ⟨fun hc => absurd (by decide) hc, fun _ => ?_⟩); conv => whnf)
            try dsimp only
            rw [bI_0]
            refine ⟨fun hb => ?_, fun hb => ?_⟩
            · conv => whnf
              repeat ((first | refine ⟨zH_of _, ?_⟩ | refine ⟨trivial, ?_⟩ | refine ⟨rfl, ?_⟩ | refine ⟨fun hc => absurd hc (by decide), fun _ => ?_⟩ | refine ⟨fun _ => ?_, fun hc => absurd (by decide) hc⟩ | refine ⟨fun _ => ?_, fun hc => absurd hc (by decide)⟩ | refine ⟨fun hc => absurd (by decide) hc, fun _ => ?_⟩); conv => whnf)
              try dsimp only
              refine ⟨vp_in_nI (show F + m < 1080 by omega) (by decide), ?_⟩
              rw [nI_clamp (by omega)]
              exact go 1 (by rw [if_neg hb])
            · conv => whnf
              repeat ((first | refine ⟨zH_of _, ?_⟩ | refine ⟨trivial, ?_⟩ | refine ⟨rfl, ?_⟩ | refine ⟨fun hc => absurd hc (by decide), fun _ => ?_⟩ | refine ⟨fun _ => ?_, fun hc => absurd (by decide) hc⟩ | refine ⟨fun _ => ?_, fun hc => absurd hc (by decide)⟩ | refine ⟨fun hc => absurd (by decide) hc, fun _ => ?_⟩); conv => whnf)
              try dsimp only
              refine ⟨vp_in_nI (show F + m < 1080 by omega) (by decide), ?_⟩
              rw [nI_clamp (by omega), eq3, pk_sub (by omega)]
              exact go (q - 1) (by rw [if_pos (Classical.not_not.mp hb)])
          · rw [if_neg h6] at h
            conv => whnf
            repeat ((first | refine ⟨zH_of _, ?_⟩ | refine ⟨trivial, ?_⟩ | refine ⟨rfl, ?_⟩ | refine ⟨fun hc => absurd hc (by decide), fun _ => ?_⟩ | refine ⟨fun _ => ?_, fun hc => absurd (by decide) hc⟩ | refine ⟨fun _ => ?_, fun hc => absurd hc (by decide)⟩ | refine ⟨fun hc => absurd (by decide) hc, fun _ => ?_⟩); conv => whnf)
            try dsimp only
            rw [hX3.2.1, pk_sub (by omega)]
            refine ⟨fun _ => ?_, fun z => absurd hw3 z⟩
            have hX4 : XR (z_up wi3 45 14 (nI (k + 3 - 1))) L x (k + 3) := xr_up hX3 (by decide) (by decide)
            have hF4 : FTm F wi (z_up wi3 45 14 (nI (k + 3 - 1))) := ftm_trans hF3 ftm_14
            have hw4 : z_up wi3 45 14 (nI (k + 3 - 1)) 45 14 = nI (k + 2) := z_up_eq
            have eq4 : z_up wi3 45 14 (nI (k + 3 - 1)) 45 1 = nI q := by rw [z_up_nei (by decide)]; exact eq3
            generalize z_up wi3 45 14 (nI (k + 3 - 1)) = wi4 at *
            have go : ∀ n : Int32, K none (GC ++ (GM ++ r), z_up wi4 52 (F + m) n, wl) := fun n => h _ (ftm_trans hF4 (ftm_52 (by omega) (by omega))) (Or.inr ⟨Bool.false_ne_true, by rw [z_up_ne (by decide)]; exact hw4, by show k + 2 ≤ 400; omega, k + 3, xr_fr hX4 (by rw [z_up_ne (by decide)]) (by rw [z_up_ne (by decide)]) (z_up_ne (by decide))⟩)
            conv => whnf
            repeat ((first | refine ⟨zH_of _, ?_⟩ | refine ⟨trivial, ?_⟩ | refine ⟨rfl, ?_⟩ | refine ⟨fun hc => absurd hc (by decide), fun _ => ?_⟩ | refine ⟨fun _ => ?_, fun hc => absurd (by decide) hc⟩ | refine ⟨fun _ => ?_, fun hc => absurd hc (by decide)⟩ | refine ⟨fun hc => absurd (by decide) hc, fun _ => ?_⟩); conv => whnf)
            try dsimp only
            rw [bI_0]
            refine ⟨fun hb => ?_, fun hb => ?_⟩
            · conv => whnf
              repeat ((first | refine ⟨zH_of _, ?_⟩ | refine ⟨trivial, ?_⟩ | refine ⟨rfl, ?_⟩ | refine ⟨fun hc => absurd hc (by decide), fun _ => ?_⟩ | refine ⟨fun _ => ?_, fun hc => absurd (by decide) hc⟩ | refine ⟨fun _ => ?_, fun hc => absurd hc (by decide)⟩ | refine ⟨fun hc => absurd (by decide) hc, fun _ => ?_⟩); conv => whnf)
              try dsimp only
              refine ⟨vp_in_nI (show F + m < 1080 by omega) (by decide), ?_⟩
              rw [nI_clamp (by omega)]
              exact go _
            · conv => whnf
              repeat ((first | refine ⟨zH_of _, ?_⟩ | refine ⟨trivial, ?_⟩ | refine ⟨rfl, ?_⟩ | refine ⟨fun hc => absurd hc (by decide), fun _ => ?_⟩ | refine ⟨fun _ => ?_, fun hc => absurd (by decide) hc⟩ | refine ⟨fun _ => ?_, fun hc => absurd hc (by decide)⟩ | refine ⟨fun hc => absurd (by decide) hc, fun _ => ?_⟩); conv => whnf)
              try dsimp only
              refine ⟨vp_in_nI (show F + m < 1080 by omega) (by decide), ?_⟩
              rw [nI_clamp (by omega)]
              exact go _
/-- a form, read on: its sum so far, the sign of what comes -/
def sp_X12_readForm : zSp := fun av w K => match av with
  | [.ref o, .int f, .int t] => o = 45 ∧ zH w.1 ∧ ∃ L x k d q F t', XR w.2.1 L x k ∧ w.2.1 45 14 = mI 1 ∧ (∀ t, t < 3 → w.2.1 46 t = nI (d t)) ∧ (∀ t, t < 3 → 1 ≤ d t ∧ d t ≤ 3) ∧ w.2.1 45 1 = nI q ∧ (q = 2 ∨ q = 3) ∧ f = nI F ∧ F + 9 ≤ 1080 ∧ t = nI t' ∧ t' < 3 ∧ ∀ wi', FTm F w.2.1 wi' → RdP wi' L x F (fmP x L d q t' k) → K none (w.1, wi', w.2.2)
  | _ => False
def rm_X12_readForm : Room := { frames := 4, cells := 0, slots := 0, locals := 88 }
def M_X12_readForm : zM := (k_X12_readForm, f_X12, [(126, 4, 10, 2, 0, 0, sp_X12_passes), (140, 4, 10, 4, 0, 0, sp_X12_readTerm)], ([], [], []), [], [(2, [true, true, true, true, false]), (33, [true, true, true, true, true])], 0, false, (false, 0, fun _ => 0), (0, 0))
theorem ca_X12_readForm_0 (l : Launch) : z_cok l RX12 (headSpec (.code yX12_readForm cX12_readForm 5 none :: zTT) rm_X12_readForm).room (126, 4, 10, 2, 0, 0, sp_X12_passes) := z_ca4 (c_X12_passes l) mb_X12_passes ⟨_, rfl, rfl⟩ wt_1278 wt_1280 wt_32 (by decide)
theorem ca_X12_readForm_1 (l : Launch) : z_cok l RX12 (headSpec (.code yX12_readForm cX12_readForm 5 none :: zTT) rm_X12_readForm).room (140, 4, 10, 4, 0, 0, sp_X12_readTerm) := z_ca4 (c_X12_readTerm l) mb_X12_readTerm ⟨_, rfl, rfl⟩ wt_1294 wt_1296 wt_36 (by decide)
theorem O_X12_readForm (l : Launch) : z_OK l RX12 cX12_readForm (headSpec (.code yX12_readForm cX12_readForm 5 none :: zTT) rm_X12_readForm).room M_X12_readForm := ⟨ok_X12_readForm, fo_X12, List.forall_mem_cons.mpr ⟨ca_X12_readForm_0 l, List.forall_mem_cons.mpr ⟨ca_X12_readForm_1 l, fun _ h => absurd h List.not_mem_nil⟩⟩, fun _ h => absurd h List.not_mem_nil, fun _ h => absurd h List.not_mem_nil, fun _ h => absurd h List.not_mem_nil, fun _ h => absurd h List.not_mem_nil, rfl, rfl⟩
theorem c_X12_readForm (l : Launch) : z_CS l yX12_readForm cX12_readForm 5 none rm_X12_readForm sp_X12_readForm := by
  refine z_meth (by decide) (Or.inl ⟨rfl, rfl⟩) (fun h => by cases h) rfl (O_X12_readForm l) ?_
  intro av w K h
  match av, h with
  | [.ref o, .int f, .int t], h =>
    obtain ⟨rfl, ⟨r, hG⟩, L, x, k, d, q, F, t', hX, hw, hd, hd3, hq, q23, rfl, hF, rfl, ht, h⟩ := h
    obtain ⟨G, wi, wl⟩ := w
    subst hG
    try dsimp only at h hX hw hd hq
    have hL := hX.2.2.1
    refine ⟨Nat.le_of_ble_eq_true rfl, fun Jm hs => ?_⟩
    generalize hR : fmP x L d q t' k = R at h
    have step : ∀ (wi' : Nat → Nat → Int32) (b : Bool) (k' : Nat) (a : Nat → Nat) (M : Bool × Nat × (Nat → Nat)), tmP x L d t' (if b = true then q - 1 else 1) k' a = M → FTm F wi wi' → XR wi' L x k' → wi' 45 14 = mI 1 → RA wi' 52 F a → (∀ p, p < 9 → a p < q) → (¬ M.1 = true → ¬ R.1 = true ∧ R.2.1 = M.2.1) → (M.1 = true → see x L M.2.1 = 45 → ∀ wi2, FTm F wi wi2 → XR wi2 L x (M.2.1 + 1) → wi2 45 14 = mI 1 → RA wi2 52 F M.2.2 → Jm 33 [some (.ref 45), some (.int (nI F)), some (.int (nI t')), some (.int (nI 1)), some (.int (nI 1))] [] (GC ++ (GM ++ r), wi2, wl) 0 0) → (M.1 = true → see x L M.2.1 ≠ 45 → see x L M.2.1 = 43 → ∀ wi2, FTm F wi wi2 → XR wi2 L x (M.2.1 + 1) → wi2 45 14 = mI 1 → RA wi2 52 F M.2.2 → Jm 33 [some (.ref 45), some (.int (nI F)), some (.int (nI t')), some (.int (nI 0)), some (.int (nI 1))] [] (GC ++ (GM ++ r), wi2, wl) 0 0) → (M.1 = true → see x L M.2.1 ≠ 45 → see x L M.2.1 ≠ 43 → R = (true, M.2.1, M.2.2)) → Jm 33 [some (.ref 45), some (.int (nI F)), some (.int (nI t')), some (.int (bI (b = true))), some (.int (nI 1))] [] (GC ++ (GM ++ r), wi', wl) 0 0 := fun wi' b k' a M hM hF' hX' hw' hA ha kf k45 k43 k0 => by
      refine hs 400 33 _ _ _ _ _ ?_
      conv => whnf
      repeat ((first | refine ⟨zH_of _, ?_⟩ | refine ⟨trivial, ?_⟩ | refine ⟨rfl, ?_⟩ | refine ⟨fun hc => absurd hc (by decide), fun _ => ?_⟩ | refine ⟨fun _ => ?_, fun hc => absurd (by decide) hc⟩ | refine ⟨fun _ => ?_, fun hc => absurd hc (by decide)⟩ | refine ⟨fun hc => absurd (by decide) hc, fun _ => ?_⟩); conv => whnf)
      try dsimp only
      refine ⟨fun z => absurd hw' z, fun _ => ?_⟩
      conv => whnf
      repeat ((first | refine ⟨zH_of _, ?_⟩ | refine ⟨trivial, ?_⟩ | refine ⟨rfl, ?_⟩ | refine ⟨fun hc => absurd hc (by decide), fun _ => ?_⟩ | refine ⟨fun _ => ?_, fun hc => absurd (by decide) hc⟩ | refine ⟨fun _ => ?_, fun hc => absurd hc (by decide)⟩ | refine ⟨fun hc => absurd (by decide) hc, fun _ => ?_⟩); conv => whnf)
      try dsimp only
      refine ⟨L, x, k', d, q, F, t', b, a, hX', hw', fun t ht => by rw [hF'.1 46 (by decide) (by decide)]; exact hd t ht, hd3, by rw [hF'.2.1 1 (by decide) (by decide)]; exact hq, q23, rfl, hF, rfl, ht, rfl, hA, ha, fun wi1 hF1 hP => ?_⟩
      rw [hM] at hP
      have hF1 := ftm_trans hF' hF1
      rcases hP with ⟨m1, hX1, hw1, hA1⟩ | ⟨m1, hw1, m4, k2, hX1⟩
      · conv => whnf
        repeat ((first | refine ⟨zH_of _, ?_⟩ | refine ⟨trivial, ?_⟩ | refine ⟨rfl, ?_⟩ | refine ⟨fun hc => absurd hc (by decide), fun _ => ?_⟩ | refine ⟨fun _ => ?_, fun hc => absurd (by decide) hc⟩ | refine ⟨fun _ => ?_, fun hc => absurd hc (by decide)⟩ | refine ⟨fun hc => absurd (by decide) hc, fun _ => ?_⟩); conv => whnf)
        try dsimp only
        refine ⟨L, x, M.2.1, 45, hX1, rfl, by decide, fun hn => ?_, fun _ h45 => ?_⟩
        · have hn : see x L M.2.1 ≠ 45 := by
            rcases hn with hn | hn
            · exact absurd hw1 hn
            · exact hn
          conv => whnf
          repeat ((first | refine ⟨zH_of _, ?_⟩ | refine ⟨trivial, ?_⟩ | refine ⟨rfl, ?_⟩ | refine ⟨fun hc => absurd hc (by decide), fun _ => ?_⟩ | refine ⟨fun _ => ?_, fun hc => absurd (by decide) hc⟩ | refine ⟨fun _ => ?_, fun hc => absurd hc (by decide)⟩ | refine ⟨fun hc => absurd (by decide) hc, fun _ => ?_⟩); conv => whnf)
          try dsimp only
          refine ⟨L, x, M.2.1, 43, hX1, rfl, by decide, fun hn2 => ?_, fun _ h43 => ?_⟩
          · have hn2 : see x L M.2.1 ≠ 43 := by
              rcases hn2 with hn2 | hn2
              · exact absurd hw1 hn2
              · exact hn2
            have e := k0 m1 hn hn2
            have h := h wi1 hF1 (by rw [e]; exact Or.inl ⟨rfl, hX1, hw1, hA1⟩)
            conv => whnf
            repeat ((first | refine ⟨zH_of _, ?_⟩ | refine ⟨trivial, ?_⟩ | refine ⟨rfl, ?_⟩ | refine ⟨fun hc => absurd hc (by decide), fun _ => ?_⟩ | refine ⟨fun _ => ?_, fun hc => absurd (by decide) hc⟩ | refine ⟨fun _ => ?_, fun hc => absurd hc (by decide)⟩ | refine ⟨fun hc => absurd (by decide) hc, fun _ => ?_⟩); conv => whnf)
            try dsimp only
            refine hs 400 33 _ _ _ _ _ ?_
            conv => whnf
            repeat ((first | refine ⟨zH_of _, ?_⟩ | refine ⟨trivial, ?_⟩ | refine ⟨rfl, ?_⟩ | refine ⟨fun hc => absurd hc (by decide), fun _ => ?_⟩ | refine ⟨fun _ => ?_, fun hc => absurd (by decide) hc⟩ | refine ⟨fun _ => ?_, fun hc => absurd hc (by decide)⟩ | refine ⟨fun hc => absurd (by decide) hc, fun _ => ?_⟩); conv => whnf)
            try dsimp only
            exact h
          · conv => whnf
            repeat ((first | refine ⟨zH_of _, ?_⟩ | refine ⟨trivial, ?_⟩ | refine ⟨rfl, ?_⟩ | refine ⟨fun hc => absurd hc (by decide), fun _ => ?_⟩ | refine ⟨fun _ => ?_, fun hc => absurd (by decide) hc⟩ | refine ⟨fun _ => ?_, fun hc => absurd hc (by decide)⟩ | refine ⟨fun hc => absurd (by decide) hc, fun _ => ?_⟩); conv => whnf)
            try dsimp only
            exact k43 m1 hn h43 _ (ftm_trans hF1 ftm_13) (xr_adv hX1 (xr_in (by decide) h43)) (by rw [z_up_nei (by decide)]; exact hw1) (ra_fr hA1 (z_up_ne (by decide)))
        · conv => whnf
          repeat ((first | refine ⟨zH_of _, ?_⟩ | refine ⟨trivial, ?_⟩ | refine ⟨rfl, ?_⟩ | refine ⟨fun hc => absurd hc (by decide), fun _ => ?_⟩ | refine ⟨fun _ => ?_, fun hc => absurd (by decide) hc⟩ | refine ⟨fun _ => ?_, fun hc => absurd hc (by decide)⟩ | refine ⟨fun hc => absurd (by decide) hc, fun _ => ?_⟩); conv => whnf)
          try dsimp only
          exact k45 m1 h45 _ (ftm_trans hF1 ftm_13) (xr_adv hX1 (xr_in (by decide) h45)) (by rw [z_up_nei (by decide)]; exact hw1) (ra_fr hA1 (z_up_ne (by decide)))
      · have n1 : nI M.2.1 ≠ mI 1 := nI_m1 (by omega)
        have e := kf m1
        have h := h wi1 hF1 (Or.inr ⟨e.1, by rw [e.2]; exact hw1, by rw [e.2]; exact m4, k2, hX1⟩)
        conv => whnf
        repeat ((first | refine ⟨zH_of _, ?_⟩ | refine ⟨trivial, ?_⟩ | refine ⟨rfl, ?_⟩ | refine ⟨fun hc => absurd hc (by decide), fun _ => ?_⟩ | refine ⟨fun _ => ?_, fun hc => absurd (by decide) hc⟩ | refine ⟨fun _ => ?_, fun hc => absurd hc (by decide)⟩ | refine ⟨fun hc => absurd (by decide) hc, fun _ => ?_⟩); conv => whnf)
        try dsimp only
        refine ⟨L, x, k2, 45, hX1, rfl, by decide, fun _ => ?_, fun z => absurd (hw1.symm.trans z) n1⟩
        conv => whnf
        repeat ((first | refine ⟨zH_of _, ?_⟩ | refine ⟨trivial, ?_⟩ | refine ⟨rfl, ?_⟩ | refine ⟨fun hc => absurd hc (by decide), fun _ => ?_⟩ | refine ⟨fun _ => ?_, fun hc => absurd (by decide) hc⟩ | refine ⟨fun _ => ?_, fun hc => absurd hc (by decide)⟩ | refine ⟨fun hc => absurd (by decide) hc, fun _ => ?_⟩); conv => whnf)
        try dsimp only
        refine ⟨L, x, k2, 43, hX1, rfl, by decide, fun _ => ?_, fun z => absurd (hw1.symm.trans z) n1⟩
        conv => whnf
        repeat ((first | refine ⟨zH_of _, ?_⟩ | refine ⟨trivial, ?_⟩ | refine ⟨rfl, ?_⟩ | refine ⟨fun hc => absurd hc (by decide), fun _ => ?_⟩ | refine ⟨fun _ => ?_, fun hc => absurd (by decide) hc⟩ | refine ⟨fun _ => ?_, fun hc => absurd hc (by decide)⟩ | refine ⟨fun hc => absurd (by decide) hc, fun _ => ?_⟩); conv => whnf)
        try dsimp only
        refine hs 400 33 _ _ _ _ _ ?_
        conv => whnf
        repeat ((first | refine ⟨zH_of _, ?_⟩ | refine ⟨trivial, ?_⟩ | refine ⟨rfl, ?_⟩ | refine ⟨fun hc => absurd hc (by decide), fun _ => ?_⟩ | refine ⟨fun _ => ?_, fun hc => absurd (by decide) hc⟩ | refine ⟨fun _ => ?_, fun hc => absurd hc (by decide)⟩ | refine ⟨fun hc => absurd (by decide) hc, fun _ => ?_⟩); conv => whnf)
        try dsimp only
        exact h
    have loop : ∀ (m : Nat) (wi' : Nat → Nat → Int32) (b : Bool) (k' : Nat) (a : Nat → Nat), FTm F wi wi' → XR wi' L x k' → wi' 45 14 = mI 1 → RA wi' 52 F a → (∀ p, p < 9 → a p < q) → L ≤ k' + m → fmL x L d q t' m (if b = true then q - 1 else 1) k' a = R → Jm 33 [some (.ref 45), some (.int (nI F)), some (.int (nI t')), some (.int (bI (b = true))), some (.int (nI 1))] [] (GC ++ (GM ++ r), wi', wl) 0 0 := by
      intro m
      induction m with
      | zero =>
        intro wi' b k' a hF' hX' hw' hA ha hm hR'
        have e : (false, k', a) = R := hR'
        have hM : tmP x L d t' (if b = true then q - 1 else 1) k' a = (false, k', a) := by
          unfold tmP
          rw [if_neg (fun z => by have := xr_in (c := 97 + t') (by omega) z; omega)]
        refine step wi' b k' a _ hM hF' hX' hw' hA ha (fun _ => by rw [← e]; exact ⟨Bool.false_ne_true, rfl⟩) (fun z => absurd z Bool.false_ne_true) (fun z => absurd z Bool.false_ne_true) (fun z => absurd z Bool.false_ne_true)
      | succ m ih =>
        intro wi' b k' a hF' hX' hw' hA ha hm hR'
        rw [fmL] at hR'
        have tlt := tm_lt (x := x) (L := L) (d := d) (t := t') (k := k') (n := if b = true then q - 1 else 1) ha (by split <;> omega)
        have tk : (tmP x L d t' (if b = true then q - 1 else 1) k' a).1 = true → k' + 3 ≤ (tmP x L d t' (if b = true then q - 1 else 1) k' a).2.1 := by
          unfold tmP
          split
          · split
            · split
              · split
                · exact fun _ => Nat.le_refl _
                · exact fun z => absurd z Bool.false_ne_true
              · exact fun z => absurd z Bool.false_ne_true
            · exact fun z => absurd z Bool.false_ne_true
          · exact fun z => absurd z Bool.false_ne_true
        generalize hM : tmP x L d t' (if b = true then q - 1 else 1) k' a = M at *
        refine step wi' b k' a M hM hF' hX' hw' hA ha (fun hz => ?_) (fun hz h45 wi2 hF2 hX2 hw2 hA2 => ?_) (fun hz h45 h43 wi2 hF2 hX2 hw2 hA2 => ?_) (fun hz h45 h43 => ?_)
        · rw [if_neg hz] at hR'
          rw [← hR']
          exact ⟨Bool.false_ne_true, rfl⟩
        · rw [if_pos hz, if_neg (by omega), if_pos h45] at hR'
          exact ih wi2 true _ _ hF2 hX2 hw2 hA2 tlt (by have := tk hz; omega) hR'
        · rw [if_pos hz, if_pos h43] at hR'
          exact ih wi2 false _ _ hF2 hX2 hw2 hA2 tlt (by have := tk hz; omega) hR'
        · rw [if_pos hz, if_neg h43, if_neg h45] at hR'
          exact hR'.symm
    have zero := up_ind (P := fun p => ∀ wi' : Nat → Nat → Int32, FTm F wi wi' → XR wi' L x k → wi' 45 14 = mI 1 → (∀ j, j < p → wi' 52 (F + j) = nI 0) → Jm 2 [some (.ref 45), some (.int (nI F)), some (.int (nI t')), some (.int (nI p)), none] [] (GC ++ (GM ++ r), wi', wl) 0 0) 9 (fun p hp ih => by
      intro wi' hF' hX' hw' hz
      refine hs 400 2 _ _ _ _ _ ?_
      conv => whnf
      repeat ((first | refine ⟨zH_of _, ?_⟩ | refine ⟨trivial, ?_⟩ | refine ⟨rfl, ?_⟩ | refine ⟨fun hc => absurd hc (by decide), fun _ => ?_⟩ | refine ⟨fun _ => ?_, fun hc => absurd (by decide) hc⟩ | refine ⟨fun _ => ?_, fun hc => absurd hc (by decide)⟩ | refine ⟨fun hc => absurd (by decide) hc, fun _ => ?_⟩); conv => whnf)
      try dsimp only
      rw [ltN (by omega) (by omega)]
      refine ⟨fun hc => ?_, fun hc => ?_⟩
      · obtain rfl : p = 9 := by omega
        unfold fmP at hR
        conv => whnf
        repeat ((first | refine ⟨zH_of _, ?_⟩ | refine ⟨trivial, ?_⟩ | refine ⟨rfl, ?_⟩ | refine ⟨fun hc => absurd hc (by decide), fun _ => ?_⟩ | refine ⟨fun _ => ?_, fun hc => absurd (by decide) hc⟩ | refine ⟨fun _ => ?_, fun hc => absurd hc (by decide)⟩ | refine ⟨fun hc => absurd (by decide) hc, fun _ => ?_⟩); conv => whnf)
        try dsimp only
        refine ⟨L, x, k, 45, hX', rfl, by decide, fun hn => ?_, fun _ h45 => ?_⟩
        · have hn : see x L k ≠ 45 := by
            rcases hn with hn | hn
            · exact absurd hw' hn
            · exact hn
          rw [if_neg hn] at hR
          conv => whnf
          repeat ((first | refine ⟨zH_of _, ?_⟩ | refine ⟨trivial, ?_⟩ | refine ⟨rfl, ?_⟩ | refine ⟨fun hc => absurd hc (by decide), fun _ => ?_⟩ | refine ⟨fun _ => ?_, fun hc => absurd (by decide) hc⟩ | refine ⟨fun _ => ?_, fun hc => absurd hc (by decide)⟩ | refine ⟨fun hc => absurd (by decide) hc, fun _ => ?_⟩); conv => whnf)
          try dsimp only
          exact loop 400 wi' false k (fun _ => 0) hF' hX' hw' hz (fun _ _ => by show 0 < q; omega) (by omega) hR
        · rw [if_pos h45] at hR
          conv => whnf
          repeat ((first | refine ⟨zH_of _, ?_⟩ | refine ⟨trivial, ?_⟩ | refine ⟨rfl, ?_⟩ | refine ⟨fun hc => absurd hc (by decide), fun _ => ?_⟩ | refine ⟨fun _ => ?_, fun hc => absurd (by decide) hc⟩ | refine ⟨fun _ => ?_, fun hc => absurd hc (by decide)⟩ | refine ⟨fun hc => absurd (by decide) hc, fun _ => ?_⟩); conv => whnf)
          try dsimp only
          exact loop 400 _ true (k + 1) (fun _ => 0) (ftm_trans hF' ftm_13) (xr_adv hX' (xr_in (by decide) h45)) (by rw [z_up_nei (by decide)]; exact hw') (fun j hj => by rw [z_up_ne (by decide)]; exact hz j hj) (fun _ _ => by show 0 < q; omega) (by omega) hR
      · have ih := ih hc
        conv => whnf
        repeat ((first | refine ⟨zH_of _, ?_⟩ | refine ⟨trivial, ?_⟩ | refine ⟨rfl, ?_⟩ | refine ⟨fun hc => absurd hc (by decide), fun _ => ?_⟩ | refine ⟨fun _ => ?_, fun hc => absurd (by decide) hc⟩ | refine ⟨fun _ => ?_, fun hc => absurd hc (by decide)⟩ | refine ⟨fun hc => absurd (by decide) hc, fun _ => ?_⟩); conv => whnf)
        try dsimp only
        rw [nI_add]
        refine ⟨vp_in_nI (show F + p < 1080 by omega) (by decide), ?_⟩
        conv => whnf
        repeat ((first | refine ⟨zH_of _, ?_⟩ | refine ⟨trivial, ?_⟩ | refine ⟨rfl, ?_⟩ | refine ⟨fun hc => absurd hc (by decide), fun _ => ?_⟩ | refine ⟨fun _ => ?_, fun hc => absurd (by decide) hc⟩ | refine ⟨fun _ => ?_, fun hc => absurd hc (by decide)⟩ | refine ⟨fun hc => absurd (by decide) hc, fun _ => ?_⟩); conv => whnf)
        try dsimp only
        rw [nI_clamp (by omega), nI_add]
        refine ih _ (ftm_trans hF' (ftm_52 (by omega) (by omega))) (xr_fr hX' (by rw [z_up_ne (by decide)]) (by rw [z_up_ne (by decide)]) (z_up_ne (by decide))) (by rw [z_up_ne (by decide)]; exact hw') (fun j hj => ?_)
        by_cases e : j = p
        · rw [e, z_up_eq]
        · rw [z_up_nei (by omega)]
          exact hz j (by omega))
    exact hs 400 0 _ _ _ _ _ (zero 0 (Nat.zero_le _) wi ftm_refl hX hw (fun j hj => absurd hj (Nat.not_lt_zero j)))

