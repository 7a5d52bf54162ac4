/-! schemes read; the text's signs -/
/-- more products, at most n: whether all is well, where reading stops, how many, their forms -/
def scN (x : Nat → Nat) (L : Nat) (d : Nat → Nat) (q : Nat) : Nat → Bool × Nat × Nat × (Nat → Nat → Nat) → Bool × Nat × Nat × (Nat → Nat → Nat)
  | 0, S => S
  | n + 1, S => if S.1 = true ∧ see x L S.2.1 = 59 then scN x L d q n ((prP x L d q (S.2.1 + 1)).1, (prP x L d q (S.2.1 + 1)).2.1, S.2.2.1 + 1, ndA S.2.2.2 S.2.2.1 (prP x L d q (S.2.1 + 1)).2.2) else S
def scP (x : Nat → Nat) (L : Nat) (d : Nat → Nat) (q : Nat) : Bool × Nat × Nat × (Nat → Nat → Nat) := scN x L d q 39 ((prP x L d q 0).1, (prP x L d q 0).2.1, 1, ndA (fun _ _ => 0) 0 (prP x L d q 0).2.2)
/-- the place of a fault, or none -/
def ffI (ok : Bool) (k L : Nat) : Int32 := if ok = true ∧ ¬ k < L then mI 1 else nI k
theorem scN_fail {x : Nat → Nat} {L : Nat} {d : Nat → Nat} {q : Nat} {S : Bool × Nat × Nat × (Nat → Nat → Nat)} (h : ¬ S.1 = true) : ∀ n, scN x L d q n S = S
  | 0 => rfl
  | n + 1 => by rw [scN, if_neg (fun z => h z.1)]
theorem ff_rest (k L : Nat) : ffI true k L = (if k < L then nI k else mI 1) := by
  unfold ffI
  by_cases h : k < L
  · rw [if_neg (fun z => z.2 h), if_pos h]
  · rw [if_pos ⟨rfl, h⟩, if_neg h]
def TL (wi : Nat → Nat → Int32) (L : Nat) (x : Nat → Nat) : Prop := wi 1 1 = nI L ∧ L ≤ 400 ∧ ∀ k, k < L → wi 3 k = nI (x k) ∧ x k < 256
theorem tx_TL {wi : Nat → Nat → Int32} {L : Nat} {x : Nat → Nat} {k : Nat} (h : TX wi L x k) : TL wi L x := ⟨h.1, h.2.2.1, h.2.2.2.2⟩
theorem tl_0 {wi : Nat → Nat → Int32} {L : Nat} {x : Nat → Nat} (h : TL wi L x) : TX (z_up wi 1 2 (nI 0)) L x 0 := by
  refine ⟨?_, ?_, h.2.1, Nat.zero_le _, fun k hk => ?_⟩
  · rw [z_up_nei (by decide)]; exact h.1
  · rw [z_up_eq]
  · rw [z_up_ne (by decide)]; exact h.2.2 k hk
def sp_X8_readScheme : zSp := fun av w K => match av with
  | [.ref o, .ref o2] => o = 1 ∧ o2 = 12 ∧ zG w.1 ∧ ∃ L x d q A, TL w.2.1 L x ∧ CS w.2.1 12 d q 0 A ∧ ∀ wi' : Nat → Nat → Int32, FT w.2.1 wi' → TL wi' L x → ((scP x L d q).1 = true → CS wi' 12 d q (scP x L d q).2.2.1 (scP x L d q).2.2.2) → K (some (.int (ffI (scP x L d q).1 (scP x L d q).2.1 L))) (w.1, wi', w.2.2)
  | _ => False
def sp_X8_readProduct : zSp := fun av w K => match av with
  | [.ref o, .ref o2] => o = 1 ∧ o2 = 12 ∧ zG w.1 ∧ ∃ L x d q A, TL w.2.1 L x ∧ CS w.2.1 12 d q 0 A ∧ ∀ wi' : Nat → Nat → Int32, FT w.2.1 wi' → TL wi' L x → ((prP x L d q 0).1 = true → CS wi' 12 d q 1 (prP x L d q 0).2.2) → K (some (.int (ffI (prP x L d q 0).1 (prP x L d q 0).2.1 L))) (w.1, wi', w.2.2)
  | _ => False
def rm_X8_readProduct : Room := { frames := 5, cells := 0, slots := 0, locals := 114 }
def M_X8_readProduct : zM := (k_X8_readProduct, f_X8, [(31, 4, 7, 2, 0, 0, sp_X8_takeProduct), (39, 4, 7, 1, 0, 0, sp_X8_restFault)], ([], [], []), [], [], 1, false, (false, 0, fun _ => 0), (0, 0, []))
theorem ca_X8_readProduct_0 (l : Launch) : z_cok l RX8 (headSpec (.code yX8_readProduct cX8_readProduct 2 (some .int) :: zTT) rm_X8_readProduct).room (false, 0, fun _ => 0) (31, 4, 7, 2, 0, 0, sp_X8_takeProduct) := z_ca4 (c_X8_takeProduct l) mb_X8_takeProduct ⟨_, rfl, rfl⟩ wt_352 wt_354 wt_1 (by decide)
theorem ca_X8_readProduct_1 (l : Launch) : z_cok l RX8 (headSpec (.code yX8_readProduct cX8_readProduct 2 (some .int) :: zTT) rm_X8_readProduct).room (false, 0, fun _ => 0) (39, 4, 7, 1, 0, 0, sp_X8_restFault) := z_ca4 (c_X8_restFault l) mb_X8_restFault ⟨_, rfl, rfl⟩ wt_394 wt_396 wt_6 (by decide)
theorem O_X8_readProduct (l : Launch) : z_OK l RX8 cX8_readProduct (headSpec (.code yX8_readProduct cX8_readProduct 2 (some .int) :: zTT) rm_X8_readProduct).room M_X8_readProduct := ⟨ok_X8_readProduct, fo_X8, List.forall_mem_cons.mpr ⟨ca_X8_readProduct_0 l, List.forall_mem_cons.mpr ⟨ca_X8_readProduct_1 l, fun _ h => absurd h List.not_mem_nil⟩⟩, fun _ h => absurd h List.not_mem_nil, fun _ h => absurd h List.not_mem_nil, fun _ h => absurd h List.not_mem_nil, fun _ h => absurd h List.not_mem_nil, rfl, rfl, fun _ h => absurd h List.not_mem_nil⟩
theorem c_X8_readProduct (l : Launch) : z_CS l yX8_readProduct cX8_readProduct 2 (some .int) rm_X8_readProduct sp_X8_readProduct := by
  refine z_meth (by decide) (Or.inr (Or.inl ⟨rfl, rfl⟩)) (fun h => by cases h) rfl (O_X8_readProduct l) ?_
  intro av w K h
  match av, h with
  | [.ref o, .ref o2], h =>
    obtain ⟨rfl, rfl, ⟨r, hG⟩, L, x, d, q, A, hT, hS, h⟩ := h
    obtain ⟨G, wi, wl⟩ := w
    subst hG
    try dsimp only at h hT hS
    refine ⟨Nat.le_of_ble_eq_true rfl, fun Jm hs => hs 400 0 _ _ _ _ _ ?_⟩
    conv => whnf
    repeat ((first | refine ⟨zG_of _, ?_⟩ | refine ⟨trivial, ?_⟩ | refine ⟨rfl, ?_⟩ | refine ⟨fun hc => absurd hc (by decide), fun _ => ?_⟩ | refine ⟨fun _ => ?_, fun hc => absurd (by decide) hc⟩ | refine ⟨fun _ => ?_, fun hc => absurd hc (by decide)⟩ | refine ⟨fun hc => absurd (by decide) hc, fun _ => ?_⟩); conv => whnf)
    try dsimp only
    refine ⟨L, x, 0, d, q, 0, A, tl_0 hT, cs_fr hS (z_up_ne (by decide)) (z_up_ne (by decide)), by decide, fun hz wi2 hF2 hT2 => ?_, fun hz wi2 hF2 hT2 hS2 => ?_⟩
    · have h2 := h wi2 (FT_trans (FT_1 (FT_refl _) F1_up) hF2) (tx_TL hT2) (fun z => absurd z hz)
      unfold ffI at h2
      rw [if_neg (fun z => hz z.1)] at h2
      conv => whnf
      repeat ((first | refine ⟨zG_of _, ?_⟩ | refine ⟨trivial, ?_⟩ | refine ⟨rfl, ?_⟩ | refine ⟨fun hc => absurd hc (by decide), fun _ => ?_⟩ | refine ⟨fun _ => ?_, fun hc => absurd (by decide) hc⟩ | refine ⟨fun _ => ?_, fun hc => absurd hc (by decide)⟩ | refine ⟨fun hc => absurd (by decide) hc, fun _ => ?_⟩); conv => whnf)
      try dsimp only
      rw [hT2.2.1]
      exact h2
    · have h2 := h wi2 (FT_trans (FT_1 (FT_refl _) F1_up) hF2) (tx_TL hT2) (fun z => cs_congr hS2 (fun k hk p _ => by
        unfold ndA
        rw [if_neg (by omega)]
        rfl))
      rw [hz, ff_rest] at h2
      conv => whnf
      repeat ((first | refine ⟨zG_of _, ?_⟩ | refine ⟨trivial, ?_⟩ | refine ⟨rfl, ?_⟩ | refine ⟨fun hc => absurd hc (by decide), fun _ => ?_⟩ | refine ⟨fun _ => ?_, fun hc => absurd (by decide) hc⟩ | refine ⟨fun _ => ?_, fun hc => absurd hc (by decide)⟩ | refine ⟨fun hc => absurd (by decide) hc, fun _ => ?_⟩); conv => whnf)
      try dsimp only
      exact ⟨L, x, _, hT2, trivial, h2⟩
def sp_X8_readForm : zSp := fun av w K => match av with
  | [.ref o, .ref o2, .int t] => o = 1 ∧ o2 = 6 ∧ zG w.1 ∧ ∃ L x d q c A t', TL w.2.1 L x ∧ CS w.2.1 6 d q c A ∧ t = nI t' ∧ t' < 3 ∧ ∀ wi' : Nat → Nat → Int32, F1 w.2.1 wi' → TL wi' L x → wi' 1 3 = pk (fmP x L d q t' 0).2.2 → K (some (.int (ffI (fmP x L d q t' 0).1 (fmP x L d q t' 0).2.1 L))) (w.1, wi', w.2.2)
  | _ => False
def rm_X8_readForm : Room := { frames := 4, cells := 0, slots := 0, locals := 92 }
def M_X8_readForm : zM := (k_X8_readForm, f_X8, [(43, 4, 7, 3, 0, 0, sp_X8_takeForm), (39, 4, 7, 1, 0, 0, sp_X8_restFault)], ([], [], []), [], [], 1, false, (false, 0, fun _ => 0), (0, 0, []))
theorem ca_X8_readForm_0 (l : Launch) : z_cok l RX8 (headSpec (.code yX8_readForm cX8_readForm 3 (some .int) :: zTT) rm_X8_readForm).room (false, 0, fun _ => 0) (43, 4, 7, 3, 0, 0, sp_X8_takeForm) := z_ca4 (c_X8_takeForm l) mb_X8_takeForm ⟨_, rfl, rfl⟩ wt_369 wt_371 wt_4 (by decide)
theorem ca_X8_readForm_1 (l : Launch) : z_cok l RX8 (headSpec (.code yX8_readForm cX8_readForm 3 (some .int) :: zTT) rm_X8_readForm).room (false, 0, fun _ => 0) (39, 4, 7, 1, 0, 0, sp_X8_restFault) := z_ca4 (c_X8_restFault l) mb_X8_restFault ⟨_, rfl, rfl⟩ wt_394 wt_396 wt_6 (by decide)
theorem O_X8_readForm (l : Launch) : z_OK l RX8 cX8_readForm (headSpec (.code yX8_readForm cX8_readForm 3 (some .int) :: zTT) rm_X8_readForm).room M_X8_readForm := ⟨ok_X8_readForm, fo_X8, List.forall_mem_cons.mpr ⟨ca_X8_readForm_0 l, List.forall_mem_cons.mpr ⟨ca_X8_readForm_1 l, fun _ h => absurd h List.not_mem_nil⟩⟩, fun _ h => absurd h List.not_mem_nil, fun _ h => absurd h List.not_mem_nil, fun _ h => absurd h List.not_mem_nil, fun _ h => absurd h List.not_mem_nil, rfl, rfl, fun _ h => absurd h List.not_mem_nil⟩
theorem c_X8_readForm (l : Launch) : z_CS l yX8_readForm cX8_readForm 3 (some .int) rm_X8_readForm sp_X8_readForm := by
  refine z_meth (by decide) (Or.inr (Or.inl ⟨rfl, rfl⟩)) (fun h => by cases h) rfl (O_X8_readForm l) ?_
  intro av w K h
  match av, h with
  | [.ref o, .ref o2, .int t], h =>
    obtain ⟨rfl, rfl, ⟨r, hG⟩, L, x, d, q, c, A, t', hT, hS, rfl, ht, h⟩ := h
    obtain ⟨G, wi, wl⟩ := w
    subst hG
    try dsimp only at h hT hS
    refine ⟨Nat.le_of_ble_eq_true rfl, fun Jm hs => hs 400 0 _ _ _ _ _ ?_⟩
    conv => whnf
    repeat ((first | refine ⟨zG_of _, ?_⟩ | refine ⟨trivial, ?_⟩ | refine ⟨rfl, ?_⟩ | refine ⟨fun hc => absurd hc (by decide), fun _ => ?_⟩ | refine ⟨fun _ => ?_, fun hc => absurd (by decide) hc⟩ | refine ⟨fun _ => ?_, fun hc => absurd hc (by decide)⟩ | refine ⟨fun hc => absurd (by decide) hc, fun _ => ?_⟩); conv => whnf)
    try dsimp only
    refine ⟨Or.inl rfl, zG_of _, L, x, 0, d, q, c, A, t', tl_0 hT, cs_fr hS (z_up_ne (by decide)) (z_up_ne (by decide)), rfl, ht, fun wi2 hF2 hT2 hf2 => ?_⟩
    have h2 := h wi2 (F1_trans F1_up hF2) (tx_TL hT2) hf2
    by_cases hz : (fmP x L d q t' 0).1 = true
    · rw [bI_t hz]
      rw [hz, ff_rest] at h2
      conv => whnf
      repeat ((first | refine ⟨zG_of _, ?_⟩ | refine ⟨trivial, ?_⟩ | refine ⟨rfl, ?_⟩ | refine ⟨fun hc => absurd hc (by decide), fun _ => ?_⟩ | refine ⟨fun _ => ?_, fun hc => absurd (by decide) hc⟩ | refine ⟨fun _ => ?_, fun hc => absurd hc (by decide)⟩ | refine ⟨fun hc => absurd (by decide) hc, fun _ => ?_⟩); conv => whnf)
      try dsimp only
      exact ⟨L, x, _, hT2, trivial, h2⟩
    · rw [bI_f hz]
      unfold ffI at h2
      rw [if_neg (fun z => hz z.1)] at h2
      conv => whnf
      repeat ((first | refine ⟨zG_of _, ?_⟩ | refine ⟨trivial, ?_⟩ | refine ⟨rfl, ?_⟩ | refine ⟨fun hc => absurd hc (by decide), fun _ => ?_⟩ | refine ⟨fun _ => ?_, fun hc => absurd (by decide) hc⟩ | refine ⟨fun _ => ?_, fun hc => absurd hc (by decide)⟩ | refine ⟨fun hc => absurd (by decide) hc, fun _ => ?_⟩); conv => whnf)
      try dsimp only
      rw [hT2.2.1]
      exact h2

