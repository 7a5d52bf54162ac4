/-! a product from another scheme; shapes taken over, whole schemes; a product gone -/
def adA (A : Nat → Nat → Nat) (c : Nat) (B : Nat → Nat → Nat) (i : Nat) : Nat → Nat → Nat := fun k => if k < 3 * c then A k else B (3 * i + (k - 3 * c))
def adT (A : Nat → Nat → Nat) (c : Nat) (B : Nat → Nat → Nat) (i t : Nat) : Nat → Nat → Nat := fun k p => if k < 3 * c + t then adA A c B i k p else 0
def sp_X6_addFrom : zSp := fun av w K => match av with
  | [.ref o, .ref o2, .int i] => zG w.1 ∧ ((((o = 6 ∧ o2 = 12) ∨ (o = 12 ∧ o2 = 6)) ∧ ∃ d q c A d2 c2 B i', CS w.2.1 o d q c A ∧ CS w.2.1 o2 d2 q c2 B ∧ c < 40 ∧ i = nI i' ∧ i' < c2 ∧ ∀ wi' : Nat → Nat → Int32, Fr o (o + 2) w.2.1 wi' → CS wi' o d q (c + 1) (adA A c B i') → K none (w.1, wi', w.2.2))
      ∨ ((o = 6 ∧ o2 = 6) ∧ ∃ d q c A i', CS w.2.1 6 d q c A ∧ c < 40 ∧ i = nI i' ∧ i' < c ∧ ∀ wi' : Nat → Nat → Int32, Fr 6 8 w.2.1 wi' → CS wi' 6 d q (c + 1) (adA A c A i') → K none (w.1, wi', w.2.2)))
  | _ => False
theorem adT_0 (A : Nat → Nat → Nat) (c : Nat) (B : Nat → Nat → Nat) (i : Nat) : adT A c B i 0 = zA A c := by
  funext k p
  unfold adT zA adA
  rw [Nat.add_zero]
  split
  · rfl
  · rfl
theorem adT_up (A : Nat → Nat → Nat) (c : Nat) (B : Nat → Nat → Nat) (i t : Nat) : upA (adT A c B i t) (3 * c + t) (B (3 * i + t)) = adT A c B i (t + 1) := by
  funext k p
  unfold upA adT adA
  by_cases e : k = 3 * c + t
  · have e3 : k < 3 * c + (t + 1) := by omega
    have e4 : ¬ k < 3 * c := by omega
    rw [if_pos e, if_pos e3, if_neg e4, e, show 3 * c + t - 3 * c = t by omega]
  · rw [if_neg e]
    by_cases e2 : k < 3 * c + t
    · have e3 : k < 3 * c + (t + 1) := by omega
      rw [if_pos e2, if_pos e3]
    · have e3 : ¬ k < 3 * c + (t + 1) := by omega
      rw [if_neg e2, if_neg e3]
def rm_X6_addFrom : Room := { frames := 3, cells := 0, slots := 0, locals := 66 }
def M_X6_addFrom : zM := (k_X6_addFrom, f_X6, [(43, 4, 5, 1, 0, 0, sp_X6_addZero), (59, 4, 5, 3, 0, 0, sp_X6_formAt), (53, 4, 5, 4, 0, 0, sp_X6_setForm)], ([], [], []), [], [(9, [true, true, true, true])], 0, false, (false, 0, fun _ => 0), (0, 0, []))
theorem ca_X6_addFrom_0 (l : Launch) : z_cok l RX6 (headSpec (.code yX6_addFrom cX6_addFrom 4 none :: zTT) rm_X6_addFrom).room (false, 0, fun _ => 0) (43, 4, 5, 1, 0, 0, sp_X6_addZero) := z_ca4 (c_X6_addZero l) mb_X6_addZero ⟨_, rfl, rfl⟩ wt_280 wt_281 wt_282 (by decide)
theorem ca_X6_addFrom_1 (l : Launch) : z_cok l RX6 (headSpec (.code yX6_addFrom cX6_addFrom 4 none :: zTT) rm_X6_addFrom).room (false, 0, fun _ => 0) (59, 4, 5, 3, 0, 0, sp_X6_formAt) := z_ca4 (c_X6_formAt l) mb_X6_formAt ⟨_, rfl, rfl⟩ wt_407 wt_408 wt_409 (by decide)
theorem ca_X6_addFrom_2 (l : Launch) : z_cok l RX6 (headSpec (.code yX6_addFrom cX6_addFrom 4 none :: zTT) rm_X6_addFrom).room (false, 0, fun _ => 0) (53, 4, 5, 4, 0, 0, sp_X6_setForm) := z_ca4 (c_X6_setForm l) mb_X6_setForm ⟨_, rfl, rfl⟩ wt_288 wt_289 wt_290 (by decide)
theorem O_X6_addFrom (l : Launch) : z_OK l RX6 cX6_addFrom (headSpec (.code yX6_addFrom cX6_addFrom 4 none :: zTT) rm_X6_addFrom).room M_X6_addFrom := ⟨ok_X6_addFrom, fo_X6, List.forall_mem_cons.mpr ⟨ca_X6_addFrom_0 l, List.forall_mem_cons.mpr ⟨ca_X6_addFrom_1 l, List.forall_mem_cons.mpr ⟨ca_X6_addFrom_2 l, fun _ h => absurd h List.not_mem_nil⟩⟩⟩, fun _ h => absurd h List.not_mem_nil, fun _ h => absurd h List.not_mem_nil, fun _ h => absurd h List.not_mem_nil, fun _ h => absurd h List.not_mem_nil, rfl, rfl, fun _ h => absurd h List.not_mem_nil⟩
theorem c_X6_addFrom (l : Launch) : z_CS l yX6_addFrom cX6_addFrom 4 none rm_X6_addFrom sp_X6_addFrom := by
  refine z_meth (by decide) (Or.inl ⟨rfl, rfl⟩) (fun h => by cases h) rfl (O_X6_addFrom l) ?_
  intro av w K h
  match av, h with
  | [.ref o, .ref o2, .int i], h =>
    obtain ⟨⟨r, hG⟩, h⟩ := h
    obtain ⟨G, wi, wl⟩ := w
    subst hG
    try dsimp only at h
    have main : ∃ d q c A B i', CS wi o d q c A ∧ c < 40 ∧ i = nI i' ∧ ((o = 6 ∧ o2 = 12) ∨ (o = 12 ∧ o2 = 6) ∨ (o = 6 ∧ o2 = 6)) ∧ (∀ t, t < 3 → ∀ wi' : Nat → Nat → Int32, Fr o (o + 2) wi wi' → CS wi' o d q (c + 1) (adT A c B i' t) → fmF wi' o2 (nI i') (nI t) = pk (B (3 * i' + t))) ∧ (∀ t, t < 3 → ∀ p, p < 9 → B (3 * i' + t) p < q) ∧ ∀ wi' : Nat → Nat → Int32, Fr o (o + 2) wi wi' → CS wi' o d q (c + 1) (adA A c B i') → K none (GC ++ r, wi', wl) := by
      rcases h with ⟨ho, d, q, c, A, d2, c2, B, i', hS, hS2, hc, e, hi, h⟩ | ⟨⟨rfl, rfl⟩, d, q, c, A, i', hS, hc, e, hi, h⟩
      · refine ⟨d, q, c, A, B, i', hS, hc, e, ho.elim Or.inl (fun z => Or.inr (Or.inl z)), fun t ht wi' hF _ => ?_, fun t ht => cs_A hS2 _ (by omega), h⟩
        have hS3 : CS wi' o2 d2 q c2 B := cs_Fr hS2 hF (by rcases ho with ⟨rfl, rfl⟩ | ⟨rfl, rfl⟩ <;> decide)
        exact fm_S hS3 hi ht
      · refine ⟨d, q, c, A, A, i', hS, hc, e, Or.inr (Or.inr ⟨rfl, rfl⟩), fun t ht wi' hF hS' => ?_, fun t ht => cs_A hS _ (by omega), h⟩
        rw [fm_S hS' (by omega) ht]
        refine pk_congr (fun p _ => ?_)
        unfold adT adA
        rw [if_pos (by omega), if_pos (by omega)]
    obtain ⟨d, q, c, A, B, i', hS, hc, rfl, ho, hval, hq, hK⟩ := main
    rcases ho with ⟨rfl, rfl⟩ | ⟨rfl, rfl⟩ | ⟨rfl, rfl⟩
    · refine ⟨Nat.le_of_ble_eq_true rfl, fun Jm hs => ?_⟩
      refine hs 400 0 _ _ _ _ _ ?_
      conv => whnf
      repeat ((first | refine ⟨zG_of _, ?_⟩ | refine ⟨trivial, ?_⟩ | refine ⟨rfl, ?_⟩ | refine ⟨fun hc => absurd hc (by decide), fun _ => ?_⟩ | refine ⟨fun _ => ?_, fun hc => absurd (by decide) hc⟩ | refine ⟨fun _ => ?_, fun hc => absurd hc (by decide)⟩ | refine ⟨fun hc => absurd (by decide) hc, fun _ => ?_⟩); conv => whnf)
      try dsimp only
      refine ⟨by first | exact Or.inl rfl | exact Or.inr rfl, zG_of _, d, q, c, A, hS, fun z => absurd z (by omega), fun _ wi1 hF1 hS1 => ?_⟩
      rw [← adT_0 A c B i'] at hS1
      have loop := up_ind (P := fun t => ∀ wi' : Nat → Nat → Int32, Fr 6 8 wi wi' → CS wi' 6 d q (c + 1) (adT A c B i' t) → Jm 9 [some (.ref 6), some (.ref 12), some (.int (nI i')), some (.int (nI t))] [] (GC ++ r, wi', wl) 0 0) 3 (fun t hi ih => by
        intro wi' hF hS'
        refine hs 400 9 _ _ _ _ _ ?_
        conv => whnf
        repeat ((first | refine ⟨zG_of _, ?_⟩ | refine ⟨trivial, ?_⟩ | refine ⟨rfl, ?_⟩ | refine ⟨fun hc => absurd hc (by decide), fun _ => ?_⟩ | refine ⟨fun _ => ?_, fun hc => absurd (by decide) hc⟩ | refine ⟨fun _ => ?_, fun hc => absurd hc (by decide)⟩ | refine ⟨fun hc => absurd (by decide) hc, fun _ => ?_⟩); conv => whnf)
        try dsimp only
        rw [ltN (by omega) (by omega)]
        refine ⟨fun hc2 => ?_, fun hc2 => ?_⟩
        · obtain rfl : t = 3 := by omega
          refine hK wi' hF (cs_congr hS' (fun k hk p _ => ?_))
          unfold adT
          rw [if_pos (by omega)]
        · have ih := ih hc2
          conv => whnf
          repeat ((first | refine ⟨zG_of _, ?_⟩ | refine ⟨trivial, ?_⟩ | refine ⟨rfl, ?_⟩ | refine ⟨fun hc => absurd hc (by decide), fun _ => ?_⟩ | refine ⟨fun _ => ?_, fun hc => absurd (by decide) hc⟩ | refine ⟨fun _ => ?_, fun hc => absurd hc (by decide)⟩ | refine ⟨fun hc => absurd (by decide) hc, fun _ => ?_⟩); conv => whnf)
          try dsimp only
          refine ⟨by first | exact Or.inl rfl | exact Or.inr rfl, zG_of _, c, t, ?_, hc, rfl, hc2, fun wi2 e2 => ?_⟩
          · rw [cs_c hS', pk_sub (by omega)]
            rfl
          · have k2 := cs_set hS' (show c < c + 1 by omega) hc2 (hval t hc2 wi' hF hS') (hq t hc2) e2
            rw [adT_up] at k2
            conv => whnf
            repeat ((first | refine ⟨zG_of _, ?_⟩ | refine ⟨trivial, ?_⟩ | refine ⟨rfl, ?_⟩ | refine ⟨fun hc => absurd hc (by decide), fun _ => ?_⟩ | refine ⟨fun _ => ?_, fun hc => absurd (by decide) hc⟩ | refine ⟨fun _ => ?_, fun hc => absurd hc (by decide)⟩ | refine ⟨fun hc => absurd (by decide) hc, fun _ => ?_⟩); conv => whnf)
            try dsimp only
            rw [nI_add]
            exact ih wi2 (Fr_trans hF k2.2) k2.1)
      conv => whnf
      repeat ((first | refine ⟨zG_of _, ?_⟩ | refine ⟨trivial, ?_⟩ | refine ⟨rfl, ?_⟩ | refine ⟨fun hc => absurd hc (by decide), fun _ => ?_⟩ | refine ⟨fun _ => ?_, fun hc => absurd (by decide) hc⟩ | refine ⟨fun _ => ?_, fun hc => absurd hc (by decide)⟩ | refine ⟨fun hc => absurd (by decide) hc, fun _ => ?_⟩); conv => whnf)
      try dsimp only
      exact loop 0 (Nat.zero_le _) wi1 hF1 hS1
    · refine ⟨Nat.le_of_ble_eq_true rfl, fun Jm hs => ?_⟩
      refine hs 400 0 _ _ _ _ _ ?_
      conv => whnf
      repeat ((first | refine ⟨zG_of _, ?_⟩ | refine ⟨trivial, ?_⟩ | refine ⟨rfl, ?_⟩ | refine ⟨fun hc => absurd hc (by decide), fun _ => ?_⟩ | refine ⟨fun _ => ?_, fun hc => absurd (by decide) hc⟩ | refine ⟨fun _ => ?_, fun hc => absurd hc (by decide)⟩ | refine ⟨fun hc => absurd (by decide) hc, fun _ => ?_⟩); conv => whnf)
      try dsimp only
      refine ⟨by first | exact Or.inl rfl | exact Or.inr rfl, zG_of _, d, q, c, A, hS, fun z => absurd z (by omega), fun _ wi1 hF1 hS1 => ?_⟩
      rw [← adT_0 A c B i'] at hS1
      have loop := up_ind (P := fun t => ∀ wi' : Nat → Nat → Int32, Fr 12 14 wi wi' → CS wi' 12 d q (c + 1) (adT A c B i' t) → Jm 9 [some (.ref 12), some (.ref 6), some (.int (nI i')), some (.int (nI t))] [] (GC ++ r, wi', wl) 0 0) 3 (fun t hi ih => by
        intro wi' hF hS'
        refine hs 400 9 _ _ _ _ _ ?_
        conv => whnf
        repeat ((first | refine ⟨zG_of _, ?_⟩ | refine ⟨trivial, ?_⟩ | refine ⟨rfl, ?_⟩ | refine ⟨fun hc => absurd hc (by decide), fun _ => ?_⟩ | refine ⟨fun _ => ?_, fun hc => absurd (by decide) hc⟩ | refine ⟨fun _ => ?_, fun hc => absurd hc (by decide)⟩ | refine ⟨fun hc => absurd (by decide) hc, fun _ => ?_⟩); conv => whnf)
        try dsimp only
        rw [ltN (by omega) (by omega)]
        refine ⟨fun hc2 => ?_, fun hc2 => ?_⟩
        · obtain rfl : t = 3 := by omega
          refine hK wi' hF (cs_congr hS' (fun k hk p _ => ?_))
          unfold adT
          rw [if_pos (by omega)]
        · have ih := ih hc2
          conv => whnf
          repeat ((first | refine ⟨zG_of _, ?_⟩ | refine ⟨trivial, ?_⟩ | refine ⟨rfl, ?_⟩ | refine ⟨fun hc => absurd hc (by decide), fun _ => ?_⟩ | refine ⟨fun _ => ?_, fun hc => absurd (by decide) hc⟩ | refine ⟨fun _ => ?_, fun hc => absurd hc (by decide)⟩ | refine ⟨fun hc => absurd (by decide) hc, fun _ => ?_⟩); conv => whnf)
          try dsimp only
          refine ⟨by first | exact Or.inl rfl | exact Or.inr rfl, zG_of _, c, t, ?_, hc, rfl, hc2, fun wi2 e2 => ?_⟩
          · rw [cs_c hS', pk_sub (by omega)]
            rfl
          · have k2 := cs_set hS' (show c < c + 1 by omega) hc2 (hval t hc2 wi' hF hS') (hq t hc2) e2
            rw [adT_up] at k2
            conv => whnf
            repeat ((first | refine ⟨zG_of _, ?_⟩ | refine ⟨trivial, ?_⟩ | refine ⟨rfl, ?_⟩ | refine ⟨fun hc => absurd hc (by decide), fun _ => ?_⟩ | refine ⟨fun _ => ?_, fun hc => absurd (by decide) hc⟩ | refine ⟨fun _ => ?_, fun hc => absurd hc (by decide)⟩ | refine ⟨fun hc => absurd (by decide) hc, fun _ => ?_⟩); conv => whnf)
            try dsimp only
            rw [nI_add]
            exact ih wi2 (Fr_trans hF k2.2) k2.1)
      conv => whnf
      repeat ((first | refine ⟨zG_of _, ?_⟩ | refine ⟨trivial, ?_⟩ | refine ⟨rfl, ?_⟩ | refine ⟨fun hc => absurd hc (by decide), fun _ => ?_⟩ | refine ⟨fun _ => ?_, fun hc => absurd (by decide) hc⟩ | refine ⟨fun _ => ?_, fun hc => absurd hc (by decide)⟩ | refine ⟨fun hc => absurd (by decide) hc, fun _ => ?_⟩); conv => whnf)
      try dsimp only
      exact loop 0 (Nat.zero_le _) wi1 hF1 hS1
    · refine ⟨Nat.le_of_ble_eq_true rfl, fun Jm hs => ?_⟩
      refine hs 400 0 _ _ _ _ _ ?_
      conv => whnf
      repeat ((first | refine ⟨zG_of _, ?_⟩ | refine ⟨trivial, ?_⟩ | refine ⟨rfl, ?_⟩ | refine ⟨fun hc => absurd hc (by decide), fun _ => ?_⟩ | refine ⟨fun _ => ?_, fun hc => absurd (by decide) hc⟩ | refine ⟨fun _ => ?_, fun hc => absurd hc (by decide)⟩ | refine ⟨fun hc => absurd (by decide) hc, fun _ => ?_⟩); conv => whnf)
      try dsimp only
      refine ⟨by first | exact Or.inl rfl | exact Or.inr rfl, zG_of _, d, q, c, A, hS, fun z => absurd z (by omega), fun _ wi1 hF1 hS1 => ?_⟩
      rw [← adT_0 A c B i'] at hS1
      have loop := up_ind (P := fun t => ∀ wi' : Nat → Nat → Int32, Fr 6 8 wi wi' → CS wi' 6 d q (c + 1) (adT A c B i' t) → Jm 9 [some (.ref 6), some (.ref 6), some (.int (nI i')), some (.int (nI t))] [] (GC ++ r, wi', wl) 0 0) 3 (fun t hi ih => by
        intro wi' hF hS'
        refine hs 400 9 _ _ _ _ _ ?_
        conv => whnf
        repeat ((first | refine ⟨zG_of _, ?_⟩ | refine ⟨trivial, ?_⟩ | refine ⟨rfl, ?_⟩ | refine ⟨fun hc => absurd hc (by decide), fun _ => ?_⟩ | refine ⟨fun _ => ?_, fun hc => absurd (by decide) hc⟩ | refine ⟨fun _ => ?_, fun hc => absurd hc (by decide)⟩ | refine ⟨fun hc => absurd (by decide) hc, fun _ => ?_⟩); conv => whnf)
        try dsimp only
        rw [ltN (by omega) (by omega)]
        refine ⟨fun hc2 => ?_, fun hc2 => ?_⟩
        · obtain rfl : t = 3 := by omega
          refine hK wi' hF (cs_congr hS' (fun k hk p _ => ?_))
          unfold adT
          rw [if_pos (by omega)]
        · have ih := ih hc2
          conv => whnf
          repeat ((first | refine ⟨zG_of _, ?_⟩ | refine ⟨trivial, ?_⟩ | refine ⟨rfl, ?_⟩ | refine ⟨fun hc => absurd hc (by decide), fun _ => ?_⟩ | refine ⟨fun _ => ?_, fun hc => absurd (by decide) hc⟩ | refine ⟨fun _ => ?_, fun hc => absurd hc (by decide)⟩ | refine ⟨fun hc => absurd (by decide) hc, fun _ => ?_⟩); conv => whnf)
          try dsimp only
          refine ⟨by first | exact Or.inl rfl | exact Or.inr rfl, zG_of _, c, t, ?_, hc, rfl, hc2, fun wi2 e2 => ?_⟩
          · rw [cs_c hS', pk_sub (by omega)]
            rfl
          · have k2 := cs_set hS' (show c < c + 1 by omega) hc2 (hval t hc2 wi' hF hS') (hq t hc2) e2
            rw [adT_up] at k2
            conv => whnf
            repeat ((first | refine ⟨zG_of _, ?_⟩ | refine ⟨trivial, ?_⟩ | refine ⟨rfl, ?_⟩ | refine ⟨fun hc => absurd hc (by decide), fun _ => ?_⟩ | refine ⟨fun _ => ?_, fun hc => absurd (by decide) hc⟩ | refine ⟨fun _ => ?_, fun hc => absurd hc (by decide)⟩ | refine ⟨fun hc => absurd (by decide) hc, fun _ => ?_⟩); conv => whnf)
            try dsimp only
            rw [nI_add]
            exact ih wi2 (Fr_trans hF k2.2) k2.1)
      conv => whnf
      repeat ((first | refine ⟨zG_of _, ?_⟩ | refine ⟨trivial, ?_⟩ | refine ⟨rfl, ?_⟩ | refine ⟨fun hc => absurd hc (by decide), fun _ => ?_⟩ | refine ⟨fun _ => ?_, fun hc => absurd (by decide) hc⟩ | refine ⟨fun _ => ?_, fun hc => absurd hc (by decide)⟩ | refine ⟨fun hc => absurd (by decide) hc, fun _ => ?_⟩); conv => whnf)
      try dsimp only
      exact loop 0 (Nat.zero_le _) wi1 hF1 hS1
/-- a shape is taken over, no products -/
def sp_X6_takeShape : zSp := fun av w K => match av with
  | [.ref o, .ref o2] => ((o = 6 ∧ o2 = 12) ∨ (o = 12 ∧ o2 = 6) ∨ (o = 9 ∧ o2 = 6) ∨ (o = 6 ∧ o2 = 9)) ∧ zG w.1 ∧ ∃ d q c A, CS w.2.1 o2 d q c A ∧ ∀ wi' : Nat → Nat → Int32, (∀ x, x ≠ o → wi' x = w.2.1 x) → (wi' o 1 = nI (d 0) ∧ wi' o 2 = nI (d 1) ∧ wi' o 3 = nI (d 2) ∧ wi' o 4 = nI q ∧ wi' o 5 = nI 0) → K none (w.1, wi', w.2.2)
  | _ => False
def rm_X6_takeShape : Room := { frames := 0, cells := 0, slots := 0, locals := 0 }
def M_X6_takeShape : zM := (k_X6_takeShape, f_X6, [], ([], [], []), [], [], 0, false, (false, 0, fun _ => 0), (0, 0, []))
theorem O_X6_takeShape (l : Launch) : z_OK l RX6 cX6_takeShape (headSpec (.code yX6_takeShape cX6_takeShape 2 none :: zTT) rm_X6_takeShape).room M_X6_takeShape := ⟨ok_X6_takeShape, fo_X6, fun _ h => absurd h List.not_mem_nil, fun _ h => absurd h List.not_mem_nil, fun _ h => absurd h List.not_mem_nil, fun _ h => absurd h List.not_mem_nil, fun _ h => absurd h List.not_mem_nil, rfl, rfl, fun _ h => absurd h List.not_mem_nil⟩
theorem c_X6_takeShape (l : Launch) : z_CS l yX6_takeShape cX6_takeShape 2 none rm_X6_takeShape sp_X6_takeShape := by
  refine z_meth (by decide) (Or.inl ⟨rfl, rfl⟩) (fun h => by cases h) rfl (O_X6_takeShape l) ?_
  intro av w K h
  match av, h with
  | [.ref o, .ref o2], h =>
    obtain ⟨ho, ⟨r, hG⟩, d, q, c, A, hS, h⟩ := h
    obtain ⟨G, wi, wl⟩ := w
    subst hG
    try dsimp only at h hS
    rcases ho with ⟨rfl, rfl⟩ | ⟨rfl, rfl⟩ | ⟨rfl, rfl⟩ | ⟨rfl, rfl⟩
    · refine ⟨Nat.le_of_ble_eq_true rfl, fun Jm hs => ?_⟩
      refine hs 400 0 _ _ _ _ _ ?_
      conv => whnf
      repeat ((first | refine ⟨zG_of _, ?_⟩ | refine ⟨trivial, ?_⟩ | refine ⟨rfl, ?_⟩ | refine ⟨fun hc => absurd hc (by decide), fun _ => ?_⟩ | refine ⟨fun _ => ?_, fun hc => absurd (by decide) hc⟩ | refine ⟨fun _ => ?_, fun hc => absurd hc (by decide)⟩ | refine ⟨fun hc => absurd (by decide) hc, fun _ => ?_⟩); conv => whnf)
      try dsimp only
      refine h _ (fun x hx => ?_) ?_
      · rw [z_up_ne hx, z_up_ne hx, z_up_ne hx, z_up_ne hx, z_up_ne hx]
      · have n : (12 : Nat) ≠ 6 := by decide
        simp only [z_up_ne n]
        have h1 := cs_1 hS
        have h2 := cs_2 hS
        have h3 := cs_3 hS
        have h4 := cs_q hS
        simp [z_up, h1, h2, h3, h4]
    · refine ⟨Nat.le_of_ble_eq_true rfl, fun Jm hs => ?_⟩
      refine hs 400 0 _ _ _ _ _ ?_
      conv => whnf
      repeat ((first | refine ⟨zG_of _, ?_⟩ | refine ⟨trivial, ?_⟩ | refine ⟨rfl, ?_⟩ | refine ⟨fun hc => absurd hc (by decide), fun _ => ?_⟩ | refine ⟨fun _ => ?_, fun hc => absurd (by decide) hc⟩ | refine ⟨fun _ => ?_, fun hc => absurd hc (by decide)⟩ | refine ⟨fun hc => absurd (by decide) hc, fun _ => ?_⟩); conv => whnf)
      try dsimp only
      refine h _ (fun x hx => ?_) ?_
      · rw [z_up_ne hx, z_up_ne hx, z_up_ne hx, z_up_ne hx, z_up_ne hx]
      · have n : (6 : Nat) ≠ 12 := by decide
        simp only [z_up_ne n]
        have h1 := cs_1 hS
        have h2 := cs_2 hS
        have h3 := cs_3 hS
        have h4 := cs_q hS
        simp [z_up, h1, h2, h3, h4]
    · refine ⟨Nat.le_of_ble_eq_true rfl, fun Jm hs => ?_⟩
      refine hs 400 0 _ _ _ _ _ ?_
      conv => whnf
      repeat ((first | refine ⟨zG_of _, ?_⟩ | refine ⟨trivial, ?_⟩ | refine ⟨rfl, ?_⟩ | refine ⟨fun hc => absurd hc (by decide), fun _ => ?_⟩ | refine ⟨fun _ => ?_, fun hc => absurd (by decide) hc⟩ | refine ⟨fun _ => ?_, fun hc => absurd hc (by decide)⟩ | refine ⟨fun hc => absurd (by decide) hc, fun _ => ?_⟩); conv => whnf)
      try dsimp only
      refine h _ (fun x hx => ?_) ?_
      · rw [z_up_ne hx, z_up_ne hx, z_up_ne hx, z_up_ne hx, z_up_ne hx]
      · have n : (6 : Nat) ≠ 9 := by decide
        simp only [z_up_ne n]
        have h1 := cs_1 hS
        have h2 := cs_2 hS
        have h3 := cs_3 hS
        have h4 := cs_q hS
        simp [z_up, h1, h2, h3, h4]
    · refine ⟨Nat.le_of_ble_eq_true rfl, fun Jm hs => ?_⟩
      refine hs 400 0 _ _ _ _ _ ?_
      conv => whnf
      repeat ((first | refine ⟨zG_of _, ?_⟩ | refine ⟨trivial, ?_⟩ | refine ⟨rfl, ?_⟩ | refine ⟨fun hc => absurd hc (by decide), fun _ => ?_⟩ | refine ⟨fun _ => ?_, fun hc => absurd (by decide) hc⟩ | refine ⟨fun _ => ?_, fun hc => absurd hc (by decide)⟩ | refine ⟨fun hc => absurd (by decide) hc, fun _ => ?_⟩); conv => whnf)
      try dsimp only
      refine h _ (fun x hx => ?_) ?_
      · rw [z_up_ne hx, z_up_ne hx, z_up_ne hx, z_up_ne hx, z_up_ne hx]
      · have n : (9 : Nat) ≠ 6 := by decide
        simp only [z_up_ne n]
        have h1 := cs_1 hS
        have h2 := cs_2 hS
        have h3 := cs_3 hS
        have h4 := cs_q hS
        simp [z_up, h1, h2, h3, h4]
def sp_X6_takeAll : zSp := fun av w K => match av with
  | [.ref o, .ref o2] => ((o = 6 ∧ o2 = 12) ∨ (o = 12 ∧ o2 = 6) ∨ (o = 9 ∧ o2 = 6) ∨ (o = 6 ∧ o2 = 9)) ∧ zG w.1 ∧ ∃ d q c A, CS w.2.1 o2 d q c A ∧ ∀ wi' : Nat → Nat → Int32, Fr o (o + 2) w.2.1 wi' → CS wi' o d q c A → K none (w.1, wi', w.2.2)
  | _ => False
def rm_X6_takeAll : Room := { frames := 1, cells := 0, slots := 0, locals := 22 }
def M_X6_takeAll : zM := (k_X6_takeAll, f_X6, [(75, 4, 5, 2, 0, 0, sp_X6_takeShape), (67, 4, 2, 2, 0, 0, sp_X3_at), (71, 4, 2, 3, 0, 0, sp_X3_put)], ([], [], []), [], [(15, [true, true, true])], 0, false, (false, 0, fun _ => 0), (0, 0, []))
theorem ca_X6_takeAll_0 (l : Launch) : z_cok l RX6 (headSpec (.code yX6_takeAll cX6_takeAll 3 none :: zTT) rm_X6_takeAll).room (false, 0, fun _ => 0) (75, 4, 5, 2, 0, 0, sp_X6_takeShape) := z_ca4 (c_X6_takeShape l) mb_X6_takeShape ⟨_, rfl, rfl⟩ wt_729 wt_345 wt_346 (by decide)
theorem ca_X6_takeAll_1 (l : Launch) : z_cok l RX6 (headSpec (.code yX6_takeAll cX6_takeAll 3 none :: zTT) rm_X6_takeAll).room (false, 0, fun _ => 0) (67, 4, 2, 2, 0, 0, sp_X3_at) := z_ca4 (c_X3_at l) mb_X3_at ⟨_, rfl, rfl⟩ wt_411 wt_366 wt_367 (by decide)
theorem ca_X6_takeAll_2 (l : Launch) : z_cok l RX6 (headSpec (.code yX6_takeAll cX6_takeAll 3 none :: zTT) rm_X6_takeAll).room (false, 0, fun _ => 0) (71, 4, 2, 3, 0, 0, sp_X3_put) := z_ca4 (c_X3_put l) mb_X3_put ⟨_, rfl, rfl⟩ wt_292 wt_293 wt_294 (by decide)
theorem O_X6_takeAll (l : Launch) : z_OK l RX6 cX6_takeAll (headSpec (.code yX6_takeAll cX6_takeAll 3 none :: zTT) rm_X6_takeAll).room M_X6_takeAll := ⟨ok_X6_takeAll, fo_X6, List.forall_mem_cons.mpr ⟨ca_X6_takeAll_0 l, List.forall_mem_cons.mpr ⟨ca_X6_takeAll_1 l, List.forall_mem_cons.mpr ⟨ca_X6_takeAll_2 l, fun _ h => absurd h List.not_mem_nil⟩⟩⟩, fun _ h => absurd h List.not_mem_nil, fun _ h => absurd h List.not_mem_nil, fun _ h => absurd h List.not_mem_nil, fun _ h => absurd h List.not_mem_nil, rfl, rfl, fun _ h => absurd h List.not_mem_nil⟩
theorem c_X6_takeAll (l : Launch) : z_CS l yX6_takeAll cX6_takeAll 3 none rm_X6_takeAll sp_X6_takeAll := by
  refine z_meth (by decide) (Or.inl ⟨rfl, rfl⟩) (fun h => by cases h) rfl (O_X6_takeAll l) ?_
  intro av w K h
  match av, h with
  | [.ref o, .ref o2], h =>
    obtain ⟨ho, ⟨r, hG⟩, d, q, c, A, hS, h⟩ := h
    obtain ⟨G, wi, wl⟩ := w
    subst hG
    try dsimp only at h hS
    have h40 := cs_40 hS
    rcases ho with ⟨rfl, rfl⟩ | ⟨rfl, rfl⟩ | ⟨rfl, rfl⟩ | ⟨rfl, rfl⟩
    · refine ⟨Nat.le_of_ble_eq_true rfl, fun Jm hs => ?_⟩
      have loop := up_ind (P := fun k => ∀ wi' : Nat → Nat → Int32, Fr 6 8 wi wi' → (wi' 6 1 = nI (d 0) ∧ wi' 6 2 = nI (d 1) ∧ wi' 6 3 = nI (d 2) ∧ wi' 6 4 = nI q ∧ wi' 6 5 = nI c) → (∀ j, j < k → wi' 8 j = pk (A j)) → Jm 15 [some (.ref 6), some (.ref 12), some (.int (nI k))] [] (GC ++ r, wi', wl) 0 0) (3 * c) (fun k hk ih => by
        intro wi' hF hD hA
        have hS' : CS wi' 12 d q c A := cs_Fr hS hF (by decide)
        refine hs 400 15 _ _ _ _ _ ?_
        conv => whnf
        repeat ((first | refine ⟨zG_of _, ?_⟩ | refine ⟨trivial, ?_⟩ | refine ⟨rfl, ?_⟩ | refine ⟨fun hc => absurd hc (by decide), fun _ => ?_⟩ | refine ⟨fun _ => ?_, fun hc => absurd (by decide) hc⟩ | refine ⟨fun _ => ?_, fun hc => absurd hc (by decide)⟩ | refine ⟨fun hc => absurd (by decide) hc, fun _ => ?_⟩); conv => whnf)
        try dsimp only
        rw [hD.2.2.2.2, pk_mul, ltN (by omega) (by omega)]
        refine ⟨fun hc => ?_, fun hc => ?_⟩
        · exact h wi' hF ⟨hD, fun j hj => hA j (by omega), cs_q23 hS, cs_d hS, h40, cs_A hS⟩
        · have ih := ih hc
          conv => whnf
          repeat ((first | refine ⟨zG_of _, ?_⟩ | refine ⟨trivial, ?_⟩ | refine ⟨rfl, ?_⟩ | refine ⟨fun hc => absurd hc (by decide), fun _ => ?_⟩ | refine ⟨fun _ => ?_, fun hc => absurd (by decide) hc⟩ | refine ⟨fun _ => ?_, fun hc => absurd hc (by decide)⟩ | refine ⟨fun hc => absurd (by decide) hc, fun _ => ?_⟩); conv => whnf)
          try dsimp only
          have e : putF wi' 8 120 (nI k) (atF (wi' 14) 120 (nI k)) = z_up wi' 8 k (pk (A k)) := by
            rw [putF_in (by omega) (by decide), show atF (wi' 14) 120 (nI k) = pk (A k) from at_S hS' hc]
          rw [e, nI_add]
          refine ih _ (Fr_trans hF (Fr_up (Or.inr rfl))) ?_ (fun j hj => ?_)
          · rw [z_up_ne (by decide)]
            exact hD
          · by_cases q : j = k
            · subst q
              rw [z_up_eq]
            · rw [z_up_nei q]
              exact hA j (by omega))
      refine hs 400 0 _ _ _ _ _ ?_
      conv => whnf
      repeat ((first | refine ⟨zG_of _, ?_⟩ | refine ⟨trivial, ?_⟩ | refine ⟨rfl, ?_⟩ | refine ⟨fun hc => absurd hc (by decide), fun _ => ?_⟩ | refine ⟨fun _ => ?_, fun hc => absurd (by decide) hc⟩ | refine ⟨fun _ => ?_, fun hc => absurd hc (by decide)⟩ | refine ⟨fun hc => absurd (by decide) hc, fun _ => ?_⟩); conv => whnf)
      try dsimp only
      refine ⟨by simp, zG_of _, d, q, c, A, hS, fun wi1 hF1 hD1 => ?_⟩
      conv => whnf
      repeat ((first | refine ⟨zG_of _, ?_⟩ | refine ⟨trivial, ?_⟩ | refine ⟨rfl, ?_⟩ | refine ⟨fun hc => absurd hc (by decide), fun _ => ?_⟩ | refine ⟨fun _ => ?_, fun hc => absurd (by decide) hc⟩ | refine ⟨fun _ => ?_, fun hc => absurd hc (by decide)⟩ | refine ⟨fun hc => absurd (by decide) hc, fun _ => ?_⟩); conv => whnf)
      try dsimp only
      refine loop 0 (Nat.zero_le _) _ (fun x h1 h2 => ?_) ?_ (fun j hj => absurd hj (Nat.not_lt_zero j))
      · rw [z_up_ne h1]
        exact hF1 x h1
      · rw [z_up_nei (by decide), z_up_nei (by decide), z_up_nei (by decide), z_up_nei (by decide), z_up_eq, hF1 12 (by decide)]
        exact ⟨hD1.1, hD1.2.1, hD1.2.2.1, hD1.2.2.2.1, cs_c hS⟩
    · refine ⟨Nat.le_of_ble_eq_true rfl, fun Jm hs => ?_⟩
      have loop := up_ind (P := fun k => ∀ wi' : Nat → Nat → Int32, Fr 12 14 wi wi' → (wi' 12 1 = nI (d 0) ∧ wi' 12 2 = nI (d 1) ∧ wi' 12 3 = nI (d 2) ∧ wi' 12 4 = nI q ∧ wi' 12 5 = nI c) → (∀ j, j < k → wi' 14 j = pk (A j)) → Jm 15 [some (.ref 12), some (.ref 6), some (.int (nI k))] [] (GC ++ r, wi', wl) 0 0) (3 * c) (fun k hk ih => by
        intro wi' hF hD hA
        have hS' : CS wi' 6 d q c A := cs_Fr hS hF (by decide)
        refine hs 400 15 _ _ _ _ _ ?_
        conv => whnf
        repeat ((first | refine ⟨zG_of _, ?_⟩ | refine ⟨trivial, ?_⟩ | refine ⟨rfl, ?_⟩ | refine ⟨fun hc => absurd hc (by decide), fun _ => ?_⟩ | refine ⟨fun _ => ?_, fun hc => absurd (by decide) hc⟩ | refine ⟨fun _ => ?_, fun hc => absurd hc (by decide)⟩ | refine ⟨fun hc => absurd (by decide) hc, fun _ => ?_⟩); conv => whnf)
        try dsimp only
        rw [hD.2.2.2.2, pk_mul, ltN (by omega) (by omega)]
        refine ⟨fun hc => ?_, fun hc => ?_⟩
        · exact h wi' hF ⟨hD, fun j hj => hA j (by omega), cs_q23 hS, cs_d hS, h40, cs_A hS⟩
        · have ih := ih hc
          conv => whnf
          repeat ((first | refine ⟨zG_of _, ?_⟩ | refine ⟨trivial, ?_⟩ | refine ⟨rfl, ?_⟩ | refine ⟨fun hc => absurd hc (by decide), fun _ => ?_⟩ | refine ⟨fun _ => ?_, fun hc => absurd (by decide) hc⟩ | refine ⟨fun _ => ?_, fun hc => absurd hc (by decide)⟩ | refine ⟨fun hc => absurd (by decide) hc, fun _ => ?_⟩); conv => whnf)
          try dsimp only
          have e : putF wi' 14 120 (nI k) (atF (wi' 8) 120 (nI k)) = z_up wi' 14 k (pk (A k)) := by
            rw [putF_in (by omega) (by decide), show atF (wi' 8) 120 (nI k) = pk (A k) from at_S hS' hc]
          rw [e, nI_add]
          refine ih _ (Fr_trans hF (Fr_up (Or.inr rfl))) ?_ (fun j hj => ?_)
          · rw [z_up_ne (by decide)]
            exact hD
          · by_cases q : j = k
            · subst q
              rw [z_up_eq]
            · rw [z_up_nei q]
              exact hA j (by omega))
      refine hs 400 0 _ _ _ _ _ ?_
      conv => whnf
      repeat ((first | refine ⟨zG_of _, ?_⟩ | refine ⟨trivial, ?_⟩ | refine ⟨rfl, ?_⟩ | refine ⟨fun hc => absurd hc (by decide), fun _ => ?_⟩ | refine ⟨fun _ => ?_, fun hc => absurd (by decide) hc⟩ | refine ⟨fun _ => ?_, fun hc => absurd hc (by decide)⟩ | refine ⟨fun hc => absurd (by decide) hc, fun _ => ?_⟩); conv => whnf)
      try dsimp only
      refine ⟨by simp, zG_of _, d, q, c, A, hS, fun wi1 hF1 hD1 => ?_⟩
      conv => whnf
      repeat ((first | refine ⟨zG_of _, ?_⟩ | refine ⟨trivial, ?_⟩ | refine ⟨rfl, ?_⟩ | refine ⟨fun hc => absurd hc (by decide), fun _ => ?_⟩ | refine ⟨fun _ => ?_, fun hc => absurd (by decide) hc⟩ | refine ⟨fun _ => ?_, fun hc => absurd hc (by decide)⟩ | refine ⟨fun hc => absurd (by decide) hc, fun _ => ?_⟩); conv => whnf)
      try dsimp only
      refine loop 0 (Nat.zero_le _) _ (fun x h1 h2 => ?_) ?_ (fun j hj => absurd hj (Nat.not_lt_zero j))
      · rw [z_up_ne h1]
        exact hF1 x h1
      · rw [z_up_nei (by decide), z_up_nei (by decide), z_up_nei (by decide), z_up_nei (by decide), z_up_eq, hF1 6 (by decide)]
        exact ⟨hD1.1, hD1.2.1, hD1.2.2.1, hD1.2.2.2.1, cs_c hS⟩
    · refine ⟨Nat.le_of_ble_eq_true rfl, fun Jm hs => ?_⟩
      have loop := up_ind (P := fun k => ∀ wi' : Nat → Nat → Int32, Fr 9 11 wi wi' → (wi' 9 1 = nI (d 0) ∧ wi' 9 2 = nI (d 1) ∧ wi' 9 3 = nI (d 2) ∧ wi' 9 4 = nI q ∧ wi' 9 5 = nI c) → (∀ j, j < k → wi' 11 j = pk (A j)) → Jm 15 [some (.ref 9), some (.ref 6), some (.int (nI k))] [] (GC ++ r, wi', wl) 0 0) (3 * c) (fun k hk ih => by
        intro wi' hF hD hA
        have hS' : CS wi' 6 d q c A := cs_Fr hS hF (by decide)
        refine hs 400 15 _ _ _ _ _ ?_
        conv => whnf
        repeat ((first | refine ⟨zG_of _, ?_⟩ | refine ⟨trivial, ?_⟩ | refine ⟨rfl, ?_⟩ | refine ⟨fun hc => absurd hc (by decide), fun _ => ?_⟩ | refine ⟨fun _ => ?_, fun hc => absurd (by decide) hc⟩ | refine ⟨fun _ => ?_, fun hc => absurd hc (by decide)⟩ | refine ⟨fun hc => absurd (by decide) hc, fun _ => ?_⟩); conv => whnf)
        try dsimp only
        rw [hD.2.2.2.2, pk_mul, ltN (by omega) (by omega)]
        refine ⟨fun hc => ?_, fun hc => ?_⟩
        · exact h wi' hF ⟨hD, fun j hj => hA j (by omega), cs_q23 hS, cs_d hS, h40, cs_A hS⟩
        · have ih := ih hc
          conv => whnf
          repeat ((first | refine ⟨zG_of _, ?_⟩ | refine ⟨trivial, ?_⟩ | refine ⟨rfl, ?_⟩ | refine ⟨fun hc => absurd hc (by decide), fun _ => ?_⟩ | refine ⟨fun _ => ?_, fun hc => absurd (by decide) hc⟩ | refine ⟨fun _ => ?_, fun hc => absurd hc (by decide)⟩ | refine ⟨fun hc => absurd (by decide) hc, fun _ => ?_⟩); conv => whnf)
          try dsimp only
          have e : putF wi' 11 120 (nI k) (atF (wi' 8) 120 (nI k)) = z_up wi' 11 k (pk (A k)) := by
            rw [putF_in (by omega) (by decide), show atF (wi' 8) 120 (nI k) = pk (A k) from at_S hS' hc]
          rw [e, nI_add]
          refine ih _ (Fr_trans hF (Fr_up (Or.inr rfl))) ?_ (fun j hj => ?_)
          · rw [z_up_ne (by decide)]
            exact hD
          · by_cases q : j = k
            · subst q
              rw [z_up_eq]
            · rw [z_up_nei q]
              exact hA j (by omega))
      refine hs 400 0 _ _ _ _ _ ?_
      conv => whnf
      repeat ((first | refine ⟨zG_of _, ?_⟩ | refine ⟨trivial, ?_⟩ | refine ⟨rfl, ?_⟩ | refine ⟨fun hc => absurd hc (by decide), fun _ => ?_⟩ | refine ⟨fun _ => ?_, fun hc => absurd (by decide) hc⟩ | refine ⟨fun _ => ?_, fun hc => absurd hc (by decide)⟩ | refine ⟨fun hc => absurd (by decide) hc, fun _ => ?_⟩); conv => whnf)
      try dsimp only
      refine ⟨by simp, zG_of _, d, q, c, A, hS, fun wi1 hF1 hD1 => ?_⟩
      conv => whnf
      repeat ((first | refine ⟨zG_of _, ?_⟩ | refine ⟨trivial, ?_⟩ | refine ⟨rfl, ?_⟩ | refine ⟨fun hc => absurd hc (by decide), fun _ => ?_⟩ | refine ⟨fun _ => ?_, fun hc => absurd (by decide) hc⟩ | refine ⟨fun _ => ?_, fun hc => absurd hc (by decide)⟩ | refine ⟨fun hc => absurd (by decide) hc, fun _ => ?_⟩); conv => whnf)
      try dsimp only
      refine loop 0 (Nat.zero_le _) _ (fun x h1 h2 => ?_) ?_ (fun j hj => absurd hj (Nat.not_lt_zero j))
      · rw [z_up_ne h1]
        exact hF1 x h1
      · rw [z_up_nei (by decide), z_up_nei (by decide), z_up_nei (by decide), z_up_nei (by decide), z_up_eq, hF1 6 (by decide)]
        exact ⟨hD1.1, hD1.2.1, hD1.2.2.1, hD1.2.2.2.1, cs_c hS⟩
    · refine ⟨Nat.le_of_ble_eq_true rfl, fun Jm hs => ?_⟩
      have loop := up_ind (P := fun k => ∀ wi' : Nat → Nat → Int32, Fr 6 8 wi wi' → (wi' 6 1 = nI (d 0) ∧ wi' 6 2 = nI (d 1) ∧ wi' 6 3 = nI (d 2) ∧ wi' 6 4 = nI q ∧ wi' 6 5 = nI c) → (∀ j, j < k → wi' 8 j = pk (A j)) → Jm 15 [some (.ref 6), some (.ref 9), some (.int (nI k))] [] (GC ++ r, wi', wl) 0 0) (3 * c) (fun k hk ih => by
        intro wi' hF hD hA
        have hS' : CS wi' 9 d q c A := cs_Fr hS hF (by decide)
        refine hs 400 15 _ _ _ _ _ ?_
        conv => whnf
        repeat ((first | refine ⟨zG_of _, ?_⟩ | refine ⟨trivial, ?_⟩ | refine ⟨rfl, ?_⟩ | refine ⟨fun hc => absurd hc (by decide), fun _ => ?_⟩ | refine ⟨fun _ => ?_, fun hc => absurd (by decide) hc⟩ | refine ⟨fun _ => ?_, fun hc => absurd hc (by decide)⟩ | refine ⟨fun hc => absurd (by decide) hc, fun _ => ?_⟩); conv => whnf)
        try dsimp only
        rw [hD.2.2.2.2, pk_mul, ltN (by omega) (by omega)]
        refine ⟨fun hc => ?_, fun hc => ?_⟩
        · exact h wi' hF ⟨hD, fun j hj => hA j (by omega), cs_q23 hS, cs_d hS, h40, cs_A hS⟩
        · have ih := ih hc
          conv => whnf
          repeat ((first | refine ⟨zG_of _, ?_⟩ | refine ⟨trivial, ?_⟩ | refine ⟨rfl, ?_⟩ | refine ⟨fun hc => absurd hc (by decide), fun _ => ?_⟩ | refine ⟨fun _ => ?_, fun hc => absurd (by decide) hc⟩ | refine ⟨fun _ => ?_, fun hc => absurd hc (by decide)⟩ | refine ⟨fun hc => absurd (by decide) hc, fun _ => ?_⟩); conv => whnf)
          try dsimp only
          have e : putF wi' 8 120 (nI k) (atF (wi' 11) 120 (nI k)) = z_up wi' 8 k (pk (A k)) := by
            rw [putF_in (by omega) (by decide), show atF (wi' 11) 120 (nI k) = pk (A k) from at_S hS' hc]
          rw [e, nI_add]
          refine ih _ (Fr_trans hF (Fr_up (Or.inr rfl))) ?_ (fun j hj => ?_)
          · rw [z_up_ne (by decide)]
            exact hD
          · by_cases q : j = k
            · subst q
              rw [z_up_eq]
            · rw [z_up_nei q]
              exact hA j (by omega))
      refine hs 400 0 _ _ _ _ _ ?_
      conv => whnf
      repeat ((first | refine ⟨zG_of _, ?_⟩ | refine ⟨trivial, ?_⟩ | refine ⟨rfl, ?_⟩ | refine ⟨fun hc => absurd hc (by decide), fun _ => ?_⟩ | refine ⟨fun _ => ?_, fun hc => absurd (by decide) hc⟩ | refine ⟨fun _ => ?_, fun hc => absurd hc (by decide)⟩ | refine ⟨fun hc => absurd (by decide) hc, fun _ => ?_⟩); conv => whnf)
      try dsimp only
      refine ⟨by simp, zG_of _, d, q, c, A, hS, fun wi1 hF1 hD1 => ?_⟩
      conv => whnf
      repeat ((first | refine ⟨zG_of _, ?_⟩ | refine ⟨trivial, ?_⟩ | refine ⟨rfl, ?_⟩ | refine ⟨fun hc => absurd hc (by decide), fun _ => ?_⟩ | refine ⟨fun _ => ?_, fun hc => absurd (by decide) hc⟩ | refine ⟨fun _ => ?_, fun hc => absurd hc (by decide)⟩ | refine ⟨fun hc => absurd (by decide) hc, fun _ => ?_⟩); conv => whnf)
      try dsimp only
      refine loop 0 (Nat.zero_le _) _ (fun x h1 h2 => ?_) ?_ (fun j hj => absurd hj (Nat.not_lt_zero j))
      · rw [z_up_ne h1]
        exact hF1 x h1
      · rw [z_up_nei (by decide), z_up_nei (by decide), z_up_nei (by decide), z_up_nei (by decide), z_up_eq, hF1 9 (by decide)]
        exact ⟨hD1.1, hD1.2.1, hD1.2.2.1, hD1.2.2.2.1, cs_c hS⟩
def rmA (A : Nat → Nat → Nat) (i : Nat) : Nat → Nat → Nat := fun k => if k < 3 * i then A k else A (k + 3)
def sp_X6_remove : zSp := fun av w K => match av with
  | [.ref o, .int i] => o = 6 ∧ zG w.1 ∧ ∃ d q c A i', CS w.2.1 6 d q c A ∧ i = nI i' ∧ i' < c ∧ ∀ wi' : Nat → Nat → Int32, Fr 6 8 w.2.1 wi' → CS wi' 6 d q (c - 1) (rmA A i') → K none (w.1, wi', w.2.2)
  | _ => False
def rm_X6_remove : Room := { frames := 1, cells := 0, slots := 0, locals := 22 }
def M_X6_remove : zM := (k_X6_remove, f_X6, [(63, 4, 5, 2, 0, 0, sp_X6_isProduct), (67, 4, 2, 2, 0, 0, sp_X3_at), (71, 4, 2, 3, 0, 0, sp_X3_put)], ([], [], []), [], [(12, [true, true, true])], 0, false, (false, 0, fun _ => 0), (0, 0, []))
theorem ca_X6_remove_0 (l : Launch) : z_cok l RX6 (headSpec (.code yX6_remove cX6_remove 3 none :: zTT) rm_X6_remove).room (false, 0, fun _ => 0) (63, 4, 5, 2, 0, 0, sp_X6_isProduct) := z_ca4 (c_X6_isProduct l) mb_X6_isProduct ⟨_, rfl, rfl⟩ wt_424 wt_417 wt_418 (by decide)
theorem ca_X6_remove_1 (l : Launch) : z_cok l RX6 (headSpec (.code yX6_remove cX6_remove 3 none :: zTT) rm_X6_remove).room (false, 0, fun _ => 0) (67, 4, 2, 2, 0, 0, sp_X3_at) := z_ca4 (c_X3_at l) mb_X3_at ⟨_, rfl, rfl⟩ wt_411 wt_366 wt_367 (by decide)
theorem ca_X6_remove_2 (l : Launch) : z_cok l RX6 (headSpec (.code yX6_remove cX6_remove 3 none :: zTT) rm_X6_remove).room (false, 0, fun _ => 0) (71, 4, 2, 3, 0, 0, sp_X3_put) := z_ca4 (c_X3_put l) mb_X3_put ⟨_, rfl, rfl⟩ wt_292 wt_293 wt_294 (by decide)
theorem O_X6_remove (l : Launch) : z_OK l RX6 cX6_remove (headSpec (.code yX6_remove cX6_remove 3 none :: zTT) rm_X6_remove).room M_X6_remove := ⟨ok_X6_remove, fo_X6, List.forall_mem_cons.mpr ⟨ca_X6_remove_0 l, List.forall_mem_cons.mpr ⟨ca_X6_remove_1 l, List.forall_mem_cons.mpr ⟨ca_X6_remove_2 l, fun _ h => absurd h List.not_mem_nil⟩⟩⟩, fun _ h => absurd h List.not_mem_nil, fun _ h => absurd h List.not_mem_nil, fun _ h => absurd h List.not_mem_nil, fun _ h => absurd h List.not_mem_nil, rfl, rfl, fun _ h => absurd h List.not_mem_nil⟩
theorem c_X6_remove (l : Launch) : z_CS l yX6_remove cX6_remove 3 none rm_X6_remove sp_X6_remove := by
  refine z_meth (by decide) (Or.inl ⟨rfl, rfl⟩) (fun h => by cases h) rfl (O_X6_remove l) ?_
  intro av w K h
  match av, h with
  | [.ref o, .int i], h =>
    obtain ⟨rfl, ⟨r, hG⟩, d, q, c, A, i', hS, rfl, hi, h⟩ := h
    obtain ⟨G, wi, wl⟩ := w
    subst hG
    try dsimp only at h hS
    have h40 := cs_40 hS
    refine ⟨Nat.le_of_ble_eq_true rfl, fun Jm hs => ?_⟩
    have loop := up_ind (P := fun k => 3 * i' ≤ k → ∀ wi' : Nat → Nat → Int32, (∀ x, x ≠ 8 → wi' x = wi x) → (∀ j, j < k → wi' 8 j = pk (rmA A i' j)) → (∀ j, k ≤ j → j < 3 * c → wi' 8 j = pk (A j)) → Jm 12 [some (.ref 6), some (.int (nI i')), some (.int (nI k))] [] (GC ++ r, wi', wl) 0 0) (3 * (c - 1)) (fun k hk ih => by
      intro hik wi' hF hA1 hA2
      have e6 : wi' 6 = wi 6 := hF 6 (by decide)
      refine hs 400 12 _ _ _ _ _ ?_
      conv => whnf
      repeat ((first | refine ⟨zG_of _, ?_⟩ | refine ⟨trivial, ?_⟩ | refine ⟨rfl, ?_⟩ | refine ⟨fun hc => absurd hc (by decide), fun _ => ?_⟩ | refine ⟨fun _ => ?_, fun hc => absurd (by decide) hc⟩ | refine ⟨fun _ => ?_, fun hc => absurd hc (by decide)⟩ | refine ⟨fun hc => absurd (by decide) hc, fun _ => ?_⟩); conv => whnf)
      try dsimp only
      rw [e6, cs_c hS, pk_sub (by omega), pk_mul, ltN (by omega) (by omega)]
      refine ⟨fun hc => ?_, fun hc => ?_⟩
      · obtain rfl : k = 3 * (c - 1) := by omega
        conv => whnf
        repeat ((first | refine ⟨zG_of _, ?_⟩ | refine ⟨trivial, ?_⟩ | refine ⟨rfl, ?_⟩ | refine ⟨fun hc => absurd hc (by decide), fun _ => ?_⟩ | refine ⟨fun _ => ?_, fun hc => absurd (by decide) hc⟩ | refine ⟨fun _ => ?_, fun hc => absurd hc (by decide)⟩ | refine ⟨fun hc => absurd (by decide) hc, fun _ => ?_⟩); conv => whnf)
        try dsimp only
        refine h _ (fun x h1 h2 => ?_) ⟨?_, fun j hj => ?_, cs_q23 hS, cs_d hS, by omega, fun j hj p hp => ?_⟩
        · rw [z_up_ne h1]
          exact hF x h2
        · rw [z_up_nei (by decide), z_up_nei (by decide), z_up_nei (by decide), z_up_nei (by decide), z_up_eq, e6, cs_c hS, pk_sub (by omega)]
          exact ⟨cs_1 hS, cs_2 hS, cs_3 hS, cs_q hS, rfl⟩
        · rw [z_up_ne (by decide)]
          exact hA1 j hj
        · unfold rmA
          split
          · exact cs_A hS j (by omega) p hp
          · exact cs_A hS (j + 3) (by omega) p hp
      · have ih := ih hc
        conv => whnf
        repeat ((first | refine ⟨zG_of _, ?_⟩ | refine ⟨trivial, ?_⟩ | refine ⟨rfl, ?_⟩ | refine ⟨fun hc => absurd hc (by decide), fun _ => ?_⟩ | refine ⟨fun _ => ?_, fun hc => absurd (by decide) hc⟩ | refine ⟨fun _ => ?_, fun hc => absurd hc (by decide)⟩ | refine ⟨fun hc => absurd (by decide) hc, fun _ => ?_⟩); conv => whnf)
        try dsimp only
        have e : putF wi' 8 120 (nI k) (atF (wi' 8) 120 (nI k + nI 3)) = z_up wi' 8 k (pk (A (k + 3))) := by
          rw [putF_in (by omega) (by decide), nI_add, atF_in (by omega) (by decide), hA2 (k + 3) (by omega) (by omega)]
        rw [e, nI_add]
        refine ih (by omega) _ (fun x hx => (z_up_ne hx).trans (hF x hx)) (fun j hj => ?_) (fun j hj hj2 => ?_)
        · by_cases q : j = k
          · subst q
            rw [z_up_eq]
            unfold rmA
            rw [if_neg (by omega)]
          · rw [z_up_nei q]
            exact hA1 j (by omega)
        · rw [z_up_nei (by omega)]
          exact hA2 j (by omega) hj2)
    refine hs 400 0 _ _ _ _ _ ?_
    have e : isPF wi 6 (nI i') = nI 1 := by
      unfold isPF
      rw [cs_c hS]
      exact bI_t ⟨nI_nlt (Nat.zero_le _) (by omega), nI_lt hi (by omega)⟩
    conv => whnf
    repeat ((first | refine ⟨zG_of _, ?_⟩ | refine ⟨trivial, ?_⟩ | refine ⟨rfl, ?_⟩ | refine ⟨fun hc => absurd hc (by decide), fun _ => ?_⟩ | refine ⟨fun _ => ?_, fun hc => absurd (by decide) hc⟩ | refine ⟨fun _ => ?_, fun hc => absurd hc (by decide)⟩ | refine ⟨fun hc => absurd (by decide) hc, fun _ => ?_⟩); conv => whnf)
    try dsimp only
    rw [e]
    refine ⟨fun hc => absurd hc (by decide), fun _ => ?_⟩
    conv => whnf
    repeat ((first | refine ⟨zG_of _, ?_⟩ | refine ⟨trivial, ?_⟩ | refine ⟨rfl, ?_⟩ | refine ⟨fun hc => absurd hc (by decide), fun _ => ?_⟩ | refine ⟨fun _ => ?_, fun hc => absurd (by decide) hc⟩ | refine ⟨fun _ => ?_, fun hc => absurd hc (by decide)⟩ | refine ⟨fun hc => absurd (by decide) hc, fun _ => ?_⟩); conv => whnf)
    try dsimp only
    rw [pk_mul]
    refine loop (3 * i') (by omega) (Nat.le_refl _) wi (fun _ _ => rfl) (fun j hj => ?_) (fun j hj hj2 => cs_f hS j hj2)
    unfold rmA
    rw [if_pos hj]
    exact cs_f hS j (by omega)

