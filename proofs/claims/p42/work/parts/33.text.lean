/-! the text -/
def TX (wi : Nat → Nat → Int32) (L : Nat) (x : Nat → Nat) (at' : Nat) : Prop := wi 1 1 = nI L ∧ wi 1 2 = nI at' ∧ L ≤ 400 ∧ at' ≤ L ∧ ∀ k, k < L → wi 3 k = nI (x k) ∧ x k < 256
def F1 (wi wi' : Nat → Nat → Int32) : Prop := ∀ y, y ≠ 1 → wi' y = wi y
theorem F1_refl (wi : Nat → Nat → Int32) : F1 wi wi := fun _ _ => rfl
theorem F1_trans {wi wi' wi2 : Nat → Nat → Int32} (h : F1 wi wi') (h2 : F1 wi' wi2) : F1 wi wi2 := fun y hy => (h2 y hy).trans (h y hy)
theorem F1_up {wi : Nat → Nat → Int32} {i : Nat} {v : Int32} : F1 wi (z_up wi 1 i v) := fun _ hy => z_up_ne hy
def see (x : Nat → Nat) (L at' : Nat) : Nat := if at' < L then x at' else 256
def seeI (x : Nat → Nat) (L at' : Nat) : Int32 := if at' < L then nI (x at') else mI 1
section
variable {wi : Nat → Nat → Int32} {L : Nat} {x : Nat → Nat} {t : Nat}
theorem tx_adv (h : TX wi L x t) (hl : t < L) : ∃ wi1, z_up wi 1 2 (wi 1 2 + nI 1) = wi1 ∧ TX wi1 L x (t + 1) ∧ F1 wi wi1 ∧ wi1 1 3 = wi 1 3 := by
  refine ⟨_, rfl, ⟨?_, ?_, h.2.2.1, hl, fun k hk => ?_⟩, F1_up, ?_⟩
  · rw [z_up_nei (by decide)]; exact h.1
  · rw [z_up_eq, h.2.1, nI_add]
  · rw [z_up_ne (by decide)]; exact h.2.2.2.2 k hk
  · rw [z_up_nei (by decide)]
theorem tx_form (h : TX wi L x t) (v : Int32) : TX (z_up wi 1 3 v) L x t := by
  refine ⟨?_, ?_, h.2.2.1, h.2.2.2.1, fun k hk => ?_⟩
  · rw [z_up_nei (by decide)]; exact h.1
  · rw [z_up_nei (by decide)]; exact h.2.1
  · rw [z_up_ne (by decide)]; exact h.2.2.2.2 k hk
theorem see_in (h : TX wi L x t) {c : Nat} (hc : c < 256) (e : see x L t = c) : t < L := by
  unfold see at e
  by_cases q : t < L
  · exact q
  · rw [if_neg q] at e; omega
theorem see_eq (h : TX wi L x t) {c : Nat} (hc : c < 256) : seeI x L t = nI c ↔ see x L t = c := by
  unfold seeI see
  by_cases q : t < L
  · have := (h.2.2.2.2 t q).2
    rw [if_pos q, if_pos q, nI_eq (by omega) (by omega)]
  · rw [if_neg q, if_neg q]
    constructor
    · intro e
      have e2 : mI 1 < nI 0 := by decide
      rw [e] at e2
      exact absurd e2 (nI_nlt (Nat.zero_le _) (by omega))
    · intro e; omega
theorem neg_dig : ∀ b, b < 100 → mI 1 - nI b < nI 0 := by decide
theorem dig_lt (h : TX wi L x t) {b : Nat} (hb : b < 100) : seeI x L t - nI b < nI 0 ↔ ¬ (t < L ∧ b ≤ see x L t) := by
  unfold seeI see
  by_cases q : t < L
  · have := (h.2.2.2.2 t q).2
    rw [if_pos q, if_pos q]
    by_cases e : b ≤ x t
    · rw [pk_sub e]
      exact ⟨fun k => absurd k (nI_nlt (Nat.zero_le _) (by omega)), fun k => absurd ⟨q, e⟩ k⟩
    · refine ⟨fun _ k => e k.2, fun _ => ?_⟩
      rw [Int32.lt_iff_toInt_lt, pk_sub_toInt (by omega) (by omega), nI_toInt (by decide)]
      omega
  · rw [if_neg q]
    exact ⟨fun _ k => q k.1, fun _ => neg_dig b hb⟩
theorem dig_N {b : Nat} (hl : t < L) (hb : b ≤ see x L t) : seeI x L t - nI b = nI (see x L t - b) := by
  unfold seeI see at *
  rw [if_pos hl] at hb ⊢
  rw [if_pos hl, pk_sub hb]
end
def sp_X8_peek : zSp := fun av w K => match av with
  | [.ref o] => o = 1 ∧ zG w.1 ∧ ∃ L x t, TX w.2.1 L x t ∧ K (some (.int (seeI x L t))) w
  | _ => False
def rm_X8_peek : Room := { frames := 1, cells := 0, slots := 0, locals := 21 }
def M_X8_peek : zM := (k_X8_peek, f_X8, [(50, 4, 2, 2, 0, 0, sp_X3_at)], ([], [], []), [], [], 1, false, (false, 0, fun _ => 0), (0, 0, []))
theorem ca_X8_peek_0 (l : Launch) : z_cok l RX8 (headSpec (.code yX8_peek cX8_peek 1 (some .int) :: zTT) rm_X8_peek).room (false, 0, fun _ => 0) (50, 4, 2, 2, 0, 0, sp_X3_at) := z_ca4 (c_X3_at l) mb_X3_at ⟨_, rfl, rfl⟩ wt_365 wt_366 wt_367 (by decide)
theorem O_X8_peek (l : Launch) : z_OK l RX8 cX8_peek (headSpec (.code yX8_peek cX8_peek 1 (some .int) :: zTT) rm_X8_peek).room M_X8_peek := ⟨ok_X8_peek, fo_X8, List.forall_mem_cons.mpr ⟨ca_X8_peek_0 l, fun _ h => absurd h List.not_mem_nil⟩, fun _ h => absurd h List.not_mem_nil, fun _ h => absurd h List.not_mem_nil, fun _ h => absurd h List.not_mem_nil, fun _ h => absurd h List.not_mem_nil, rfl, rfl, fun _ h => absurd h List.not_mem_nil⟩
theorem c_X8_peek (l : Launch) : z_CS l yX8_peek cX8_peek 1 (some .int) rm_X8_peek sp_X8_peek := by
  refine z_meth (by decide) (Or.inr (Or.inl ⟨rfl, rfl⟩)) (fun h => by cases h) rfl (O_X8_peek l) ?_
  intro av w K h
  match av, h with
  | [.ref o], h =>
    obtain ⟨rfl, ⟨r, hG⟩, L, x, t, hT, h⟩ := h
    obtain ⟨G, wi, wl⟩ := w
    subst hG
    try dsimp only at h hT
    have hL := hT.2.2.1
    have ht := hT.2.2.2.1
    refine ⟨Nat.le_of_ble_eq_true rfl, fun Jm hs => hs 400 0 _ _ _ _ _ ?_⟩
    unfold seeI at h
    conv => whnf
    repeat ((first | refine ⟨zG_of _, ?_⟩ | refine ⟨trivial, ?_⟩ | refine ⟨rfl, ?_⟩ | refine ⟨fun hc => absurd hc (by decide), fun _ => ?_⟩ | refine ⟨fun _ => ?_, fun hc => absurd (by decide) hc⟩ | refine ⟨fun _ => ?_, fun hc => absurd hc (by decide)⟩ | refine ⟨fun hc => absurd (by decide) hc, fun _ => ?_⟩); conv => whnf)
    try dsimp only
    rw [hT.1, hT.2.1, ltN (by omega) (by omega)]
    refine ⟨fun hc => ?_, fun hc => ?_⟩
    · rw [if_neg hc] at h
      exact ⟨trivial, h⟩
    · rw [if_pos hc] at h
      conv => whnf
      repeat ((first | refine ⟨zG_of _, ?_⟩ | refine ⟨trivial, ?_⟩ | refine ⟨rfl, ?_⟩ | refine ⟨fun hc => absurd hc (by decide), fun _ => ?_⟩ | refine ⟨fun _ => ?_, fun hc => absurd (by decide) hc⟩ | refine ⟨fun _ => ?_, fun hc => absurd hc (by decide)⟩ | refine ⟨fun hc => absurd (by decide) hc, fun _ => ?_⟩); conv => whnf)
      try dsimp only
      have e : atF (wi 3) 400 (wi 1 2) = nI (x t) := by
        rw [hT.2.1, atF_in (by omega) (by decide)]
        exact (hT.2.2.2.2 t hc).1
      rw [e]
      exact h
def sp_X8_take : zSp := fun av w K => match av with
  | [.ref o, .int g] => o = 1 ∧ zG w.1 ∧ ∃ L x t c, TX w.2.1 L x t ∧ g = nI c ∧ c < 256 ∧ (¬ see x L t = c → K (some (.int (nI 0))) w) ∧ (see x L t = c → ∀ wi' : Nat → Nat → Int32, F1 w.2.1 wi' → TX wi' L x (t + 1) → wi' 1 3 = w.2.1 1 3 → K (some (.int (nI 1))) (w.1, wi', w.2.2))
  | _ => False
def rm_X8_take : Room := { frames := 2, cells := 0, slots := 0, locals := 41 }
def M_X8_take : zM := (k_X8_take, f_X8, [(47, 4, 7, 1, 0, 0, sp_X8_peek)], ([], [], []), [], [], 2, false, (false, 0, fun _ => 0), (0, 0, []))
theorem ca_X8_take_0 (l : Launch) : z_cok l RX8 (headSpec (.code yX8_take cX8_take 2 (some .boolean) :: zTT) rm_X8_take).room (false, 0, fun _ => 0) (47, 4, 7, 1, 0, 0, sp_X8_peek) := z_ca4 (c_X8_peek l) mb_X8_peek ⟨_, rfl, rfl⟩ wt_361 wt_363 wt_3 (by decide)
theorem O_X8_take (l : Launch) : z_OK l RX8 cX8_take (headSpec (.code yX8_take cX8_take 2 (some .boolean) :: zTT) rm_X8_take).room M_X8_take := ⟨ok_X8_take, fo_X8, List.forall_mem_cons.mpr ⟨ca_X8_take_0 l, fun _ h => absurd h List.not_mem_nil⟩, fun _ h => absurd h List.not_mem_nil, fun _ h => absurd h List.not_mem_nil, fun _ h => absurd h List.not_mem_nil, fun _ h => absurd h List.not_mem_nil, rfl, rfl, fun _ h => absurd h List.not_mem_nil⟩
theorem c_X8_take (l : Launch) : z_CS l yX8_take cX8_take 2 (some .boolean) rm_X8_take sp_X8_take := by
  refine z_meth (by decide) (Or.inr (Or.inr (Or.inl ⟨rfl, rfl⟩))) (fun h => by cases h) rfl (O_X8_take l) ?_
  intro av w K h
  match av, h with
  | [.ref o, .int g], h =>
    obtain ⟨rfl, ⟨r, hG⟩, L, x, t, c, hT, rfl, hc, h0, h1⟩ := h
    obtain ⟨G, wi, wl⟩ := w
    subst hG
    try dsimp only at h0 h1 hT
    refine ⟨Nat.le_of_ble_eq_true rfl, fun Jm hs => hs 400 0 _ _ _ _ _ ?_⟩
    conv => whnf
    repeat ((first | refine ⟨zG_of _, ?_⟩ | refine ⟨trivial, ?_⟩ | refine ⟨rfl, ?_⟩ | refine ⟨fun hc => absurd hc (by decide), fun _ => ?_⟩ | refine ⟨fun _ => ?_, fun hc => absurd (by decide) hc⟩ | refine ⟨fun _ => ?_, fun hc => absurd hc (by decide)⟩ | refine ⟨fun hc => absurd (by decide) hc, fun _ => ?_⟩); conv => whnf)
    try dsimp only
    refine ⟨L, x, t, hT, ?_⟩
    conv => whnf
    repeat ((first | refine ⟨zG_of _, ?_⟩ | refine ⟨trivial, ?_⟩ | refine ⟨rfl, ?_⟩ | refine ⟨fun hc => absurd hc (by decide), fun _ => ?_⟩ | refine ⟨fun _ => ?_, fun hc => absurd (by decide) hc⟩ | refine ⟨fun _ => ?_, fun hc => absurd hc (by decide)⟩ | refine ⟨fun hc => absurd (by decide) hc, fun _ => ?_⟩); conv => whnf)
    try dsimp only
    rw [see_eq hT hc]
    refine ⟨fun hq => ?_, fun hq => ⟨Or.inl rfl, h0 hq⟩⟩
    obtain ⟨wi1, e1, hT1, hF1, hf1⟩ := tx_adv hT (see_in hT hc hq)
    conv => whnf
    repeat ((first | refine ⟨zG_of _, ?_⟩ | refine ⟨trivial, ?_⟩ | refine ⟨rfl, ?_⟩ | refine ⟨fun hc => absurd hc (by decide), fun _ => ?_⟩ | refine ⟨fun _ => ?_, fun hc => absurd (by decide) hc⟩ | refine ⟨fun _ => ?_, fun hc => absurd hc (by decide)⟩ | refine ⟨fun hc => absurd (by decide) hc, fun _ => ?_⟩); conv => whnf)
    try dsimp only
    rw [e1]
    exact ⟨Or.inr rfl, h1 hq wi1 hF1 hT1 hf1⟩
def sp_X8_restFault : zSp := fun av w K => match av with
  | [.ref o] => o = 1 ∧ zG w.1 ∧ ∃ L x t, TX w.2.1 L x t ∧ K (some (.int (if t < L then nI t else mI 1))) w
  | _ => False
def rm_X8_restFault : Room := { frames := 0, cells := 0, slots := 0, locals := 0 }
def M_X8_restFault : zM := (k_X8_restFault, f_X8, [], ([], [], []), [], [], 1, false, (false, 0, fun _ => 0), (0, 0, []))
theorem O_X8_restFault (l : Launch) : z_OK l RX8 cX8_restFault (headSpec (.code yX8_restFault cX8_restFault 1 (some .int) :: zTT) rm_X8_restFault).room M_X8_restFault := ⟨ok_X8_restFault, fo_X8, fun _ h => absurd h List.not_mem_nil, fun _ h => absurd h List.not_mem_nil, fun _ h => absurd h List.not_mem_nil, fun _ h => absurd h List.not_mem_nil, fun _ h => absurd h List.not_mem_nil, rfl, rfl, fun _ h => absurd h List.not_mem_nil⟩
theorem c_X8_restFault (l : Launch) : z_CS l yX8_restFault cX8_restFault 1 (some .int) rm_X8_restFault sp_X8_restFault := by
  refine z_meth (by decide) (Or.inr (Or.inl ⟨rfl, rfl⟩)) (fun h => by cases h) rfl (O_X8_restFault l) ?_
  intro av w K h
  match av, h with
  | [.ref o], h =>
    obtain ⟨rfl, ⟨r, hG⟩, L, x, t, hT, h⟩ := h
    obtain ⟨G, wi, wl⟩ := w
    subst hG
    try dsimp only at h hT
    have hL := hT.2.2.1
    have ht := hT.2.2.2.1
    refine ⟨Nat.le_of_ble_eq_true rfl, fun Jm hs => hs 400 0 _ _ _ _ _ ?_⟩
    conv => whnf
    repeat ((first | refine ⟨zG_of _, ?_⟩ | refine ⟨trivial, ?_⟩ | refine ⟨rfl, ?_⟩ | refine ⟨fun hc => absurd hc (by decide), fun _ => ?_⟩ | refine ⟨fun _ => ?_, fun hc => absurd (by decide) hc⟩ | refine ⟨fun _ => ?_, fun hc => absurd hc (by decide)⟩ | refine ⟨fun hc => absurd (by decide) hc, fun _ => ?_⟩); conv => whnf)
    try dsimp only
    rw [hT.1, hT.2.1, ltN (by omega) (by omega)]
    refine ⟨fun hc => ?_, fun hc => ?_⟩
    · rw [if_neg hc] at h
      exact ⟨trivial, h⟩
    · rw [if_pos hc, ← hT.2.1] at h
      conv => whnf
      repeat ((first | refine ⟨zG_of _, ?_⟩ | refine ⟨trivial, ?_⟩ | refine ⟨rfl, ?_⟩ | refine ⟨fun hc => absurd hc (by decide), fun _ => ?_⟩ | refine ⟨fun _ => ?_, fun hc => absurd (by decide) hc⟩ | refine ⟨fun _ => ?_, fun hc => absurd hc (by decide)⟩ | refine ⟨fun hc => absurd (by decide) hc, fun _ => ?_⟩); conv => whnf)
      try dsimp only
      exact h
/-- a term: whether it stands there, where reading stops, the form behind it -/
def tmP (x : Nat → Nat) (L : Nat) (d : Nat → Nat) (t n k : Nat) (a : Nat → Nat) : Bool × Nat × (Nat → Nat) :=
  if see x L k = 97 + t then
    if 49 ≤ see x L (k + 1) ∧ see x L (k + 1) < 49 + d t then
      if 49 ≤ see x L (k + 2) ∧ see x L (k + 2) < 49 + d (nx t) then
        if a ((see x L (k + 1) - 49) * d (nx t) + (see x L (k + 2) - 49)) = 0 then (true, k + 3, setp a ((see x L (k + 1) - 49) * d (nx t) + (see x L (k + 2) - 49)) n) else (false, k + 2, a)
      else (false, k + 2, a)
    else (false, k + 1, a)
  else (false, k, a)
def sp_X8_takeTerm : zSp := fun av w K => match av with
  | [.ref o, .ref o2, .int t, .int n] => o = 1 ∧ (o2 = 6 ∨ o2 = 12) ∧ zG w.1 ∧ ∃ L x k a d q c A t' n', TX w.2.1 L x k ∧ CS w.2.1 o2 d q c A ∧ w.2.1 1 3 = pk a ∧ (∀ p, p < 9 → a p < 3) ∧ t = nI t' ∧ t' < 3 ∧ n = nI n' ∧ n' < 3 ∧ ∀ wi' : Nat → Nat → Int32, F1 w.2.1 wi' → TX wi' L x (tmP x L d t' n' k a).2.1 → wi' 1 3 = pk (tmP x L d t' n' k a).2.2 → K (some (.int (bI ((tmP x L d t' n' k a).1 = true)))) (w.1, wi', w.2.2)
  | _ => False
def rm_X8_takeTerm : Room := { frames := 2, cells := 0, slots := 0, locals := 42 }
def M_X8_takeTerm : zM := (k_X8_takeTerm, f_X8, [(47, 4, 7, 1, 0, 0, sp_X8_peek), (76, 4, 5, 2, 0, 0, sp_X6_rows), (79, 4, 5, 2, 0, 0, sp_X6_columns), (82, 0, 0, 2, 0, 0, sp_X2_numberAt), (88, 0, 0, 3, 0, 0, sp_X2_with)], ([], [], []), [], [], 2, false, (false, 0, fun _ => 0), (0, 0, []))
theorem ca_X8_takeTerm_0 (l : Launch) : z_cok l RX8 (headSpec (.code yX8_takeTerm cX8_takeTerm 7 (some .boolean) :: zTT) rm_X8_takeTerm).room (false, 0, fun _ => 0) (47, 4, 7, 1, 0, 0, sp_X8_peek) := z_ca4 (c_X8_peek l) mb_X8_peek ⟨_, rfl, rfl⟩ wt_361 wt_363 wt_3 (by decide)
theorem ca_X8_takeTerm_1 (l : Launch) : z_cok l RX8 (headSpec (.code yX8_takeTerm cX8_takeTerm 7 (some .boolean) :: zTT) rm_X8_takeTerm).room (false, 0, fun _ => 0) (76, 4, 5, 2, 0, 0, sp_X6_rows) := z_ca4 (c_X6_rows l) mb_X6_rows ⟨_, rfl, rfl⟩ wt_377 wt_378 wt_379 (by decide)
theorem ca_X8_takeTerm_2 (l : Launch) : z_cok l RX8 (headSpec (.code yX8_takeTerm cX8_takeTerm 7 (some .boolean) :: zTT) rm_X8_takeTerm).room (false, 0, fun _ => 0) (79, 4, 5, 2, 0, 0, sp_X6_columns) := z_ca4 (c_X6_columns l) mb_X6_columns ⟨_, rfl, rfl⟩ wt_381 wt_382 wt_383 (by decide)
theorem ca_X8_takeTerm_3 (l : Launch) : z_cok l RX8 (headSpec (.code yX8_takeTerm cX8_takeTerm 7 (some .boolean) :: zTT) rm_X8_takeTerm).room (false, 0, fun _ => 0) (82, 0, 0, 2, 0, 0, sp_X2_numberAt) := z_ca0 (c_X2_numberAt l) mb_X2_numberAt wt_389 wt_390 (by decide)
theorem ca_X8_takeTerm_4 (l : Launch) : z_cok l RX8 (headSpec (.code yX8_takeTerm cX8_takeTerm 7 (some .boolean) :: zTT) rm_X8_takeTerm).room (false, 0, fun _ => 0) (88, 0, 0, 3, 0, 0, sp_X2_with) := z_ca0 (c_X2_with l) mb_X2_with wt_392 wt_297 (by decide)
theorem O_X8_takeTerm (l : Launch) : z_OK l RX8 cX8_takeTerm (headSpec (.code yX8_takeTerm cX8_takeTerm 7 (some .boolean) :: zTT) rm_X8_takeTerm).room M_X8_takeTerm := ⟨ok_X8_takeTerm, fo_X8, List.forall_mem_cons.mpr ⟨ca_X8_takeTerm_0 l, List.forall_mem_cons.mpr ⟨ca_X8_takeTerm_1 l, List.forall_mem_cons.mpr ⟨ca_X8_takeTerm_2 l, List.forall_mem_cons.mpr ⟨ca_X8_takeTerm_3 l, List.forall_mem_cons.mpr ⟨ca_X8_takeTerm_4 l, fun _ h => absurd h List.not_mem_nil⟩⟩⟩⟩⟩, fun _ h => absurd h List.not_mem_nil, fun _ h => absurd h List.not_mem_nil, fun _ h => absurd h List.not_mem_nil, fun _ h => absurd h List.not_mem_nil, rfl, rfl, fun _ h => absurd h List.not_mem_nil⟩
theorem c_X8_takeTerm (l : Launch) : z_CS l yX8_takeTerm cX8_takeTerm 7 (some .boolean) rm_X8_takeTerm sp_X8_takeTerm := by
  refine z_meth (by decide) (Or.inr (Or.inr (Or.inl ⟨rfl, rfl⟩))) (fun h => by cases h) rfl (O_X8_takeTerm l) ?_
  intro av w K h
  match av, h with
  | [.ref o, .ref o2, .int t, .int n], h =>
    obtain ⟨rfl, ho, ⟨r, hG⟩, L, x, k, a, d, q, c, A, t', n', hT, hS, hf, ha, rfl, ht, rfl, hn, h⟩ := h
    obtain ⟨G, wi, wl⟩ := w
    subst hG
    try dsimp only at h hT hS hf
    have dr := cs_d hS _ ht
    have dc := cs_d hS _ (nx_lt t')
    have fin : ∀ (b : Bool) (m : Nat) (a' : Nat → Nat) (wi' : Nat → Nat → Int32), tmP x L d t' n' k a = (b, m, a') → F1 wi wi' → TX wi' L x m → wi' 1 3 = pk a' → K (some (.int (bI (b = true)))) (GC ++ r, wi', wl) := fun b m a' wi' e h1 h2 h3 => by
      have := h wi' h1
      rw [e] at this
      exact this h2 h3
    unfold tmP at fin
    rcases ho with rfl | rfl
    · refine ⟨Nat.le_of_ble_eq_true rfl, fun Jm hs => hs 400 0 _ _ _ _ _ ?_⟩
      conv => whnf
      repeat ((first | refine ⟨zG_of _, ?_⟩ | refine ⟨trivial, ?_⟩ | refine ⟨rfl, ?_⟩ | refine ⟨fun hc => absurd hc (by decide), fun _ => ?_⟩ | refine ⟨fun _ => ?_, fun hc => absurd (by decide) hc⟩ | refine ⟨fun _ => ?_, fun hc => absurd hc (by decide)⟩ | refine ⟨fun hc => absurd (by decide) hc, fun _ => ?_⟩); conv => whnf)
      try dsimp only
      refine ⟨L, x, k, hT, ?_⟩
      conv => whnf
      repeat ((first | refine ⟨zG_of _, ?_⟩ | refine ⟨trivial, ?_⟩ | refine ⟨rfl, ?_⟩ | refine ⟨fun hc => absurd hc (by decide), fun _ => ?_⟩ | refine ⟨fun _ => ?_, fun hc => absurd (by decide) hc⟩ | refine ⟨fun _ => ?_, fun hc => absurd hc (by decide)⟩ | refine ⟨fun hc => absurd (by decide) hc, fun _ => ?_⟩); conv => whnf)
      try dsimp only
      rw [nI_add, see_eq hT (by omega)]
      refine ⟨fun h0 => ?_, fun h0 => ?_⟩
      · rw [if_pos h0] at fin
        obtain ⟨wi1, e1, hT1, hF1, hf1⟩ := tx_adv hT (see_in hT (by omega) h0)
        conv => whnf
        repeat ((first | refine ⟨zG_of _, ?_⟩ | refine ⟨trivial, ?_⟩ | refine ⟨rfl, ?_⟩ | refine ⟨fun hc => absurd hc (by decide), fun _ => ?_⟩ | refine ⟨fun _ => ?_, fun hc => absurd (by decide) hc⟩ | refine ⟨fun _ => ?_, fun hc => absurd hc (by decide)⟩ | refine ⟨fun hc => absurd (by decide) hc, fun _ => ?_⟩); conv => whnf)
        try dsimp only
        rw [e1]
        refine ⟨L, x, k + 1, hT1, ?_⟩
        conv => whnf
        repeat ((first | refine ⟨zG_of _, ?_⟩ | refine ⟨trivial, ?_⟩ | refine ⟨rfl, ?_⟩ | refine ⟨fun hc => absurd hc (by decide), fun _ => ?_⟩ | refine ⟨fun _ => ?_, fun hc => absurd (by decide) hc⟩ | refine ⟨fun _ => ?_, fun hc => absurd hc (by decide)⟩ | refine ⟨fun hc => absurd (by decide) hc, fun _ => ?_⟩); conv => whnf)
        try dsimp only
        rw [dig_lt hT1 (by decide)]
        refine ⟨fun h2 => ?_, fun h2 => ?_⟩
        · rw [if_neg (fun z => h2 ⟨see_in hT1 (c := see x L (k + 1)) (by omega) rfl, z.1⟩)] at fin
          exact ⟨Or.inl rfl, fin false _ a wi1 rfl hF1 hT1 (hf1.trans hf)⟩
        · have h2 := Classical.not_not.mp h2
          have hS1 : CS wi1 6 d q c A := cs_fr hS (hF1 _ (by decide)) (hF1 _ (by decide))
          have er := rows_S hS1 ht
          rw [dig_N h2.1 h2.2]
          conv => whnf
          repeat ((first | refine ⟨zG_of _, ?_⟩ | refine ⟨trivial, ?_⟩ | refine ⟨rfl, ?_⟩ | refine ⟨fun hc => absurd hc (by decide), fun _ => ?_⟩ | refine ⟨fun _ => ?_, fun hc => absurd (by decide) hc⟩ | refine ⟨fun _ => ?_, fun hc => absurd hc (by decide)⟩ | refine ⟨fun hc => absurd (by decide) hc, fun _ => ?_⟩); conv => whnf)
          try dsimp only
          rw [er, ltN (by have := (hT1.2.2.2.2 _ h2.1).2; unfold see; rw [if_pos h2.1]; omega) (by omega)]
          refine ⟨fun h3 => ?_, fun h3 => ?_⟩
          · rw [if_pos ⟨h2.2, by omega⟩] at fin
            obtain ⟨wi2, e2, hT2, hF2, hf2⟩ := tx_adv hT1 h2.1
            conv => whnf
            repeat ((first | refine ⟨zG_of _, ?_⟩ | refine ⟨trivial, ?_⟩ | refine ⟨rfl, ?_⟩ | refine ⟨fun hc => absurd hc (by decide), fun _ => ?_⟩ | refine ⟨fun _ => ?_, fun hc => absurd (by decide) hc⟩ | refine ⟨fun _ => ?_, fun hc => absurd hc (by decide)⟩ | refine ⟨fun hc => absurd (by decide) hc, fun _ => ?_⟩); conv => whnf)
            try dsimp only
            rw [e2]
            have hT2 : TX wi2 L x (k + 2) := hT2
            refine ⟨L, x, k + 2, hT2, ?_⟩
            conv => whnf
            repeat ((first | refine ⟨zG_of _, ?_⟩ | refine ⟨trivial, ?_⟩ | refine ⟨rfl, ?_⟩ | refine ⟨fun hc => absurd hc (by decide), fun _ => ?_⟩ | refine ⟨fun _ => ?_, fun hc => absurd (by decide) hc⟩ | refine ⟨fun _ => ?_, fun hc => absurd hc (by decide)⟩ | refine ⟨fun hc => absurd (by decide) hc, fun _ => ?_⟩); conv => whnf)
            try dsimp only
            rw [dig_lt hT2 (by decide)]
            refine ⟨fun h4 => ?_, fun h4 => ?_⟩
            · rw [if_neg (fun z => h4 ⟨see_in hT2 (c := see x L (k + 2)) (by omega) rfl, z.1⟩)] at fin
              exact ⟨Or.inl rfl, fin false _ a wi2 rfl (F1_trans hF1 hF2) hT2 (hf2.trans (hf1.trans hf))⟩
            · have h4 := Classical.not_not.mp h4
              have hS2 : CS wi2 6 d q c A := cs_fr hS1 (hF2 _ (by decide)) (hF2 _ (by decide))
              have ec : rowsF wi2 6 (behF (nI t')) = nI (d (nx t')) := col_S hS2 ht
              rw [dig_N h4.1 h4.2]
              conv => whnf
              repeat ((first | refine ⟨zG_of _, ?_⟩ | refine ⟨trivial, ?_⟩ | refine ⟨rfl, ?_⟩ | refine ⟨fun hc => absurd hc (by decide), fun _ => ?_⟩ | refine ⟨fun _ => ?_, fun hc => absurd (by decide) hc⟩ | refine ⟨fun _ => ?_, fun hc => absurd hc (by decide)⟩ | refine ⟨fun hc => absurd (by decide) hc, fun _ => ?_⟩); conv => whnf)
              try dsimp only
              rw [ec, ltN (by have := (hT2.2.2.2.2 _ h4.1).2; unfold see; rw [if_pos h4.1]; omega) (by omega)]
              refine ⟨fun h5 => ?_, fun h5 => ?_⟩
              · skip
                rw [if_pos ⟨h4.2, by omega⟩] at fin
                have i9 := idx9 (r := see x L (k + 1) - 49) (c := see x L (k + 2) - 49) dr.2 dc.2 h3 h5
                have hf2' : wi2 1 3 = pk a := hf2.trans (hf1.trans hf)
                generalize hm : (see x L (k + 1) - 49) * d (nx t') + (see x L (k + 2) - 49) = m at *
                have em : nI (see x L (k + 1) - 49) * nI (d (nx t')) + nI (see x L (k + 2) - 49) = nI m := by
                  rw [pk_mul, nI_add, ← hm]
                have am := ha m i9
                conv => whnf
                repeat ((first | refine ⟨zG_of _, ?_⟩ | refine ⟨trivial, ?_⟩ | refine ⟨rfl, ?_⟩ | refine ⟨fun hc => absurd hc (by decide), fun _ => ?_⟩ | refine ⟨fun _ => ?_, fun hc => absurd (by decide) hc⟩ | refine ⟨fun _ => ?_, fun hc => absurd hc (by decide)⟩ | refine ⟨fun hc => absurd (by decide) hc, fun _ => ?_⟩); conv => whnf)
                try dsimp only
                rw [ec, em, hf2', fnum_pk ha i9, eq0N (by omega)]
                refine ⟨fun h6 => ?_, fun h6 => ?_⟩
                · rw [if_pos h6] at fin
                  obtain ⟨wi3, e3, hT3, hF3, hf3⟩ := tx_adv hT2 h4.1
                  conv => whnf
                  repeat ((first | refine ⟨zG_of _, ?_⟩ | refine ⟨trivial, ?_⟩ | refine ⟨rfl, ?_⟩ | refine ⟨fun hc => absurd hc (by decide), fun _ => ?_⟩ | refine ⟨fun _ => ?_, fun hc => absurd (by decide) hc⟩ | refine ⟨fun _ => ?_, fun hc => absurd hc (by decide)⟩ | refine ⟨fun hc => absurd (by decide) hc, fun _ => ?_⟩); conv => whnf)
                  try dsimp only
                  rw [e3, hf3, hf2', fwith_pk ha i9 hn]
                  exact ⟨Or.inr rfl, fin true _ _ _ rfl (F1_trans (F1_trans hF1 hF2) (F1_trans hF3 F1_up)) (tx_form hT3 _) z_up_eq⟩
                · rw [if_neg h6] at fin
                  exact ⟨Or.inl rfl, fin false _ a wi2 rfl (F1_trans hF1 hF2) hT2 hf2'⟩
              · skip
                rw [if_neg (fun z => h5 (by omega))] at fin
                exact ⟨Or.inl rfl, fin false _ a wi2 rfl (F1_trans hF1 hF2) hT2 (hf2.trans (hf1.trans hf))⟩
          · rw [if_neg (fun z => h3 (by omega))] at fin
            exact ⟨Or.inl rfl, fin false _ a wi1 rfl hF1 hT1 (hf1.trans hf)⟩
      · rw [if_neg h0] at fin
        exact ⟨Or.inl rfl, fin false k a wi rfl (F1_refl _) hT hf⟩
    · refine ⟨Nat.le_of_ble_eq_true rfl, fun Jm hs => hs 400 0 _ _ _ _ _ ?_⟩
      conv => whnf
      repeat ((first | refine ⟨zG_of _, ?_⟩ | refine ⟨trivial, ?_⟩ | refine ⟨rfl, ?_⟩ | refine ⟨fun hc => absurd hc (by decide), fun _ => ?_⟩ | refine ⟨fun _ => ?_, fun hc => absurd (by decide) hc⟩ | refine ⟨fun _ => ?_, fun hc => absurd hc (by decide)⟩ | refine ⟨fun hc => absurd (by decide) hc, fun _ => ?_⟩); conv => whnf)
      try dsimp only
      refine ⟨L, x, k, hT, ?_⟩
      conv => whnf
      repeat ((first | refine ⟨zG_of _, ?_⟩ | refine ⟨trivial, ?_⟩ | refine ⟨rfl, ?_⟩ | refine ⟨fun hc => absurd hc (by decide), fun _ => ?_⟩ | refine ⟨fun _ => ?_, fun hc => absurd (by decide) hc⟩ | refine ⟨fun _ => ?_, fun hc => absurd hc (by decide)⟩ | refine ⟨fun hc => absurd (by decide) hc, fun _ => ?_⟩); conv => whnf)
      try dsimp only
      rw [nI_add, see_eq hT (by omega)]
      refine ⟨fun h0 => ?_, fun h0 => ?_⟩
      · rw [if_pos h0] at fin
        obtain ⟨wi1, e1, hT1, hF1, hf1⟩ := tx_adv hT (see_in hT (by omega) h0)
        conv => whnf
        repeat ((first | refine ⟨zG_of _, ?_⟩ | refine ⟨trivial, ?_⟩ | refine ⟨rfl, ?_⟩ | refine ⟨fun hc => absurd hc (by decide), fun _ => ?_⟩ | refine ⟨fun _ => ?_, fun hc => absurd (by decide) hc⟩ | refine ⟨fun _ => ?_, fun hc => absurd hc (by decide)⟩ | refine ⟨fun hc => absurd (by decide) hc, fun _ => ?_⟩); conv => whnf)
        try dsimp only
        rw [e1]
        refine ⟨L, x, k + 1, hT1, ?_⟩
        conv => whnf
        repeat ((first | refine ⟨zG_of _, ?_⟩ | refine ⟨trivial, ?_⟩ | refine ⟨rfl, ?_⟩ | refine ⟨fun hc => absurd hc (by decide), fun _ => ?_⟩ | refine ⟨fun _ => ?_, fun hc => absurd (by decide) hc⟩ | refine ⟨fun _ => ?_, fun hc => absurd hc (by decide)⟩ | refine ⟨fun hc => absurd (by decide) hc, fun _ => ?_⟩); conv => whnf)
        try dsimp only
        rw [dig_lt hT1 (by decide)]
        refine ⟨fun h2 => ?_, fun h2 => ?_⟩
        · rw [if_neg (fun z => h2 ⟨see_in hT1 (c := see x L (k + 1)) (by omega) rfl, z.1⟩)] at fin
          exact ⟨Or.inl rfl, fin false _ a wi1 rfl hF1 hT1 (hf1.trans hf)⟩
        · have h2 := Classical.not_not.mp h2
          have hS1 : CS wi1 12 d q c A := cs_fr hS (hF1 _ (by decide)) (hF1 _ (by decide))
          have er := rows_S hS1 ht
          rw [dig_N h2.1 h2.2]
          conv => whnf
          repeat ((first | refine ⟨zG_of _, ?_⟩ | refine ⟨trivial, ?_⟩ | refine ⟨rfl, ?_⟩ | refine ⟨fun hc => absurd hc (by decide), fun _ => ?_⟩ | refine ⟨fun _ => ?_, fun hc => absurd (by decide) hc⟩ | refine ⟨fun _ => ?_, fun hc => absurd hc (by decide)⟩ | refine ⟨fun hc => absurd (by decide) hc, fun _ => ?_⟩); conv => whnf)
          try dsimp only
          rw [er, ltN (by have := (hT1.2.2.2.2 _ h2.1).2; unfold see; rw [if_pos h2.1]; omega) (by omega)]
          refine ⟨fun h3 => ?_, fun h3 => ?_⟩
          · rw [if_pos ⟨h2.2, by omega⟩] at fin
            obtain ⟨wi2, e2, hT2, hF2, hf2⟩ := tx_adv hT1 h2.1
            conv => whnf
            repeat ((first | refine ⟨zG_of _, ?_⟩ | refine ⟨trivial, ?_⟩ | refine ⟨rfl, ?_⟩ | refine ⟨fun hc => absurd hc (by decide), fun _ => ?_⟩ | refine ⟨fun _ => ?_, fun hc => absurd (by decide) hc⟩ | refine ⟨fun _ => ?_, fun hc => absurd hc (by decide)⟩ | refine ⟨fun hc => absurd (by decide) hc, fun _ => ?_⟩); conv => whnf)
            try dsimp only
            rw [e2]
            have hT2 : TX wi2 L x (k + 2) := hT2
            refine ⟨L, x, k + 2, hT2, ?_⟩
            conv => whnf
            repeat ((first | refine ⟨zG_of _, ?_⟩ | refine ⟨trivial, ?_⟩ | refine ⟨rfl, ?_⟩ | refine ⟨fun hc => absurd hc (by decide), fun _ => ?_⟩ | refine ⟨fun _ => ?_, fun hc => absurd (by decide) hc⟩ | refine ⟨fun _ => ?_, fun hc => absurd hc (by decide)⟩ | refine ⟨fun hc => absurd (by decide) hc, fun _ => ?_⟩); conv => whnf)
            try dsimp only
            rw [dig_lt hT2 (by decide)]
            refine ⟨fun h4 => ?_, fun h4 => ?_⟩
            · rw [if_neg (fun z => h4 ⟨see_in hT2 (c := see x L (k + 2)) (by omega) rfl, z.1⟩)] at fin
              exact ⟨Or.inl rfl, fin false _ a wi2 rfl (F1_trans hF1 hF2) hT2 (hf2.trans (hf1.trans hf))⟩
            · have h4 := Classical.not_not.mp h4
              have hS2 : CS wi2 12 d q c A := cs_fr hS1 (hF2 _ (by decide)) (hF2 _ (by decide))
              have ec : rowsF wi2 12 (behF (nI t')) = nI (d (nx t')) := col_S hS2 ht
              rw [dig_N h4.1 h4.2]
              conv => whnf
              repeat ((first | refine ⟨zG_of _, ?_⟩ | refine ⟨trivial, ?_⟩ | refine ⟨rfl, ?_⟩ | refine ⟨fun hc => absurd hc (by decide), fun _ => ?_⟩ | refine ⟨fun _ => ?_, fun hc => absurd (by decide) hc⟩ | refine ⟨fun _ => ?_, fun hc => absurd hc (by decide)⟩ | refine ⟨fun hc => absurd (by decide) hc, fun _ => ?_⟩); conv => whnf)
              try dsimp only
              rw [ec, ltN (by have := (hT2.2.2.2.2 _ h4.1).2; unfold see; rw [if_pos h4.1]; omega) (by omega)]
              refine ⟨fun h5 => ?_, fun h5 => ?_⟩
              · skip
                rw [if_pos ⟨h4.2, by omega⟩] at fin
                have i9 := idx9 (r := see x L (k + 1) - 49) (c := see x L (k + 2) - 49) dr.2 dc.2 h3 h5
                have hf2' : wi2 1 3 = pk a := hf2.trans (hf1.trans hf)
                generalize hm : (see x L (k + 1) - 49) * d (nx t') + (see x L (k + 2) - 49) = m at *
                have em : nI (see x L (k + 1) - 49) * nI (d (nx t')) + nI (see x L (k + 2) - 49) = nI m := by
                  rw [pk_mul, nI_add, ← hm]
                have am := ha m i9
                conv => whnf
                repeat ((first | refine ⟨zG_of _, ?_⟩ | refine ⟨trivial, ?_⟩ | refine ⟨rfl, ?_⟩ | refine ⟨fun hc => absurd hc (by decide), fun _ => ?_⟩ | refine ⟨fun _ => ?_, fun hc => absurd (by decide) hc⟩ | refine ⟨fun _ => ?_, fun hc => absurd hc (by decide)⟩ | refine ⟨fun hc => absurd (by decide) hc, fun _ => ?_⟩); conv => whnf)
                try dsimp only
                rw [ec, em, hf2', fnum_pk ha i9, eq0N (by omega)]
                refine ⟨fun h6 => ?_, fun h6 => ?_⟩
                · rw [if_pos h6] at fin
                  obtain ⟨wi3, e3, hT3, hF3, hf3⟩ := tx_adv hT2 h4.1
                  conv => whnf
                  repeat ((first | refine ⟨zG_of _, ?_⟩ | refine ⟨trivial, ?_⟩ | refine ⟨rfl, ?_⟩ | refine ⟨fun hc => absurd hc (by decide), fun _ => ?_⟩ | refine ⟨fun _ => ?_, fun hc => absurd (by decide) hc⟩ | refine ⟨fun _ => ?_, fun hc => absurd hc (by decide)⟩ | refine ⟨fun hc => absurd (by decide) hc, fun _ => ?_⟩); conv => whnf)
                  try dsimp only
                  rw [e3, hf3, hf2', fwith_pk ha i9 hn]
                  exact ⟨Or.inr rfl, fin true _ _ _ rfl (F1_trans (F1_trans hF1 hF2) (F1_trans hF3 F1_up)) (tx_form hT3 _) z_up_eq⟩
                · rw [if_neg h6] at fin
                  exact ⟨Or.inl rfl, fin false _ a wi2 rfl (F1_trans hF1 hF2) hT2 hf2'⟩
              · skip
                rw [if_neg (fun z => h5 (by omega))] at fin
                exact ⟨Or.inl rfl, fin false _ a wi2 rfl (F1_trans hF1 hF2) hT2 (hf2.trans (hf1.trans hf))⟩
          · rw [if_neg (fun z => h3 (by omega))] at fin
            exact ⟨Or.inl rfl, fin false _ a wi1 rfl hF1 hT1 (hf1.trans hf)⟩
      · rw [if_neg h0] at fin
        exact ⟨Or.inl rfl, fin false k a wi rfl (F1_refl _) hT hf⟩

