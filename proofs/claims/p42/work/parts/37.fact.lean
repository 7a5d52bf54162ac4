/-! four signs; tables multiplied -/
def byN (V j : Nat) : Nat := V / 2 ^ (24 - 8 * j) % 256
def apX (x : Nat → Nat) (L V : Nat) : Nat → Nat := fun k => if L ≤ k ∧ k < L + 4 then byN V (k - L) else x k
def shJ (j : Nat) : Int32 := nI 24 - nI (8 * j)
theorem shJ_neg : ∀ j, j ≤ 4 → (shJ j < nI 0 ↔ j = 4) := by decide
theorem shJ_next : ∀ j, j < 4 → shJ j - nI 8 = shJ (j + 1) := by decide
theorem shJ_at : ∀ j, j < 4 → shJ j = nI (24 - 8 * j) := by decide
def sp_X8_addFour : zSp := fun av w K => match av with
  | [.ref o, .int v] => o = 1 ∧ zG w.1 ∧ ∃ L x V, TL w.2.1 L x ∧ v = nI V ∧ V < 2 ^ 32 ∧ (¬ L + 4 ≤ 400 → K (some (.int (nI 0))) w) ∧ (L + 4 ≤ 400 → ∀ wi' : Nat → Nat → Int32, Fr 1 3 w.2.1 wi' → TL wi' (L + 4) (apX x L V) → K (some (.int (nI 1))) (w.1, wi', w.2.2))
  | _ => False
def rm_X8_addFour : Room := { frames := 1, cells := 0, slots := 0, locals := 22 }
def M_X8_addFour : zM := (k_X8_addFour, f_X8, [(24, 4, 2, 3, 0, 0, sp_X3_put)], ([], [], []), [], [(17, [true, true, true])], 2, false, (false, 0, fun _ => 0), (0, 0, []))
theorem ca_X8_addFour_0 (l : Launch) : z_cok l RX8 (headSpec (.code yX8_addFour cX8_addFour 3 (some .boolean) :: zTT) rm_X8_addFour).room (false, 0, fun _ => 0) (24, 4, 2, 3, 0, 0, sp_X3_put) := z_ca4 (c_X3_put l) mb_X3_put ⟨_, rfl, rfl⟩ wt_481 wt_293 wt_294 (by decide)
theorem O_X8_addFour (l : Launch) : z_OK l RX8 cX8_addFour (headSpec (.code yX8_addFour cX8_addFour 3 (some .boolean) :: zTT) rm_X8_addFour).room M_X8_addFour := ⟨ok_X8_addFour, fo_X8, List.forall_mem_cons.mpr ⟨ca_X8_addFour_0 l, fun _ h => absurd h List.not_mem_nil⟩, fun _ h => absurd h List.not_mem_nil, fun _ h => absurd h List.not_mem_nil, fun _ h => absurd h List.not_mem_nil, fun _ h => absurd h List.not_mem_nil, rfl, rfl, fun _ h => absurd h List.not_mem_nil⟩
theorem c_X8_addFour (l : Launch) : z_CS l yX8_addFour cX8_addFour 3 (some .boolean) rm_X8_addFour sp_X8_addFour := by
  refine z_meth (by decide) (Or.inr (Or.inr (Or.inl ⟨rfl, rfl⟩))) (fun h => by cases h) rfl (O_X8_addFour l) ?_
  intro av w K h
  match av, h with
  | [.ref o, .int v], h =>
    obtain ⟨rfl, ⟨r, hG⟩, L, x, V, hT, rfl, hV, h0, h1⟩ := h
    obtain ⟨G, wi, wl⟩ := w
    subst hG
    try dsimp only at h0 h1 hT
    have hL := hT.2.1
    refine ⟨Nat.le_of_ble_eq_true rfl, fun Jm hs => ?_⟩
    refine hs 400 0 _ _ _ _ _ ?_
    conv => whnf
    repeat ((first | refine ⟨zG_of _, ?_⟩ | refine ⟨trivial, ?_⟩ | refine ⟨rfl, ?_⟩ | refine ⟨fun hc => absurd hc (by decide), fun _ => ?_⟩ | refine ⟨fun _ => ?_, fun hc => absurd (by decide) hc⟩ | refine ⟨fun _ => ?_, fun hc => absurd hc (by decide)⟩ | refine ⟨fun hc => absurd (by decide) hc, fun _ => ?_⟩); conv => whnf)
    try dsimp only
    rw [hT.1, nI_add, ltN (by omega) (by omega)]
    refine ⟨fun hc => ?_, fun hc => ⟨Or.inl rfl, h0 (by omega)⟩⟩
    have h1 := h1 (by omega)
    have loop := up_ind (P := fun j => ∀ wi' : Nat → Nat → Int32, Fr 1 3 wi wi' → wi' 1 1 = nI (L + j) → (∀ k, k < L + j → wi' 3 k = nI (apX x L V k)) → Jm 17 [some (.ref 1), some (.int (nI V)), some (.int (shJ j))] [] (GC ++ r, wi', wl) 0 0) 4 (fun j hj ih => by
      intro wi' hF hl hx
      refine hs 400 17 _ _ _ _ _ ?_
      conv => whnf
      repeat ((first | refine ⟨zG_of _, ?_⟩ | refine ⟨trivial, ?_⟩ | refine ⟨rfl, ?_⟩ | refine ⟨fun hc => absurd hc (by decide), fun _ => ?_⟩ | refine ⟨fun _ => ?_, fun hc => absurd (by decide) hc⟩ | refine ⟨fun _ => ?_, fun hc => absurd hc (by decide)⟩ | refine ⟨fun hc => absurd (by decide) hc, fun _ => ?_⟩); conv => whnf)
      try dsimp only
      rw [shJ_neg j hj]
      refine ⟨fun hc2 => ?_, fun hc2 => ?_⟩
      · subst hc2
        refine ⟨Or.inr rfl, h1 wi' hF ⟨hl, by omega, fun k hk => ⟨hx k hk, ?_⟩⟩⟩
        unfold apX
        split
        · exact Nat.mod_lt _ (by decide)
        · exact (hT.2.2 k (by omega)).2
      · have ihn := ih (by omega)
        have e1 : z_shr (nI V) (shJ j) &&& nI 255 = nI (byN V j) := by
          rw [shJ_at j (by omega), z_shrN hV (by omega), fa_and]
          congr 1
          exact Nat.and_two_pow_sub_one_eq_mod _ 8
        have e2 : putF wi' 3 400 (wi' 1 1) (nI (byN V j)) = z_up wi' 3 (L + j) (nI (byN V j)) := by
          rw [hl, putF_in (by omega) (by decide)]
        conv => whnf
        repeat ((first | refine ⟨zG_of _, ?_⟩ | refine ⟨trivial, ?_⟩ | refine ⟨rfl, ?_⟩ | refine ⟨fun hc => absurd hc (by decide), fun _ => ?_⟩ | refine ⟨fun _ => ?_, fun hc => absurd (by decide) hc⟩ | refine ⟨fun _ => ?_, fun hc => absurd hc (by decide)⟩ | refine ⟨fun hc => absurd (by decide) hc, fun _ => ?_⟩); conv => whnf)
        try dsimp only
        rw [e1, e2, z_up_ne (by decide), hl, nI_add, shJ_next j (by omega)]
        refine ihn _ (fun y h1 h2 => by rw [z_up_ne h1, z_up_ne h2, hF y h1 h2]) z_up_eq (fun k hk => ?_)
        rw [z_up_ne (by decide)]
        by_cases e : k = L + j
        · subst e
          rw [z_up_eq]
          unfold apX
          rw [if_pos ⟨by omega, by omega⟩, show L + j - L = j by omega]
        · rw [z_up_nei e]
          exact hx k (by omega))
    conv => whnf
    repeat ((first | refine ⟨zG_of _, ?_⟩ | refine ⟨trivial, ?_⟩ | refine ⟨rfl, ?_⟩ | refine ⟨fun hc => absurd hc (by decide), fun _ => ?_⟩ | refine ⟨fun _ => ?_, fun hc => absurd (by decide) hc⟩ | refine ⟨fun _ => ?_, fun hc => absurd hc (by decide)⟩ | refine ⟨fun hc => absurd (by decide) hc, fun _ => ?_⟩); conv => whnf)
    try dsimp only
    refine loop 0 (Nat.zero_le _) wi (Fr_refl _ _ _) hT.1 (fun k hk => ?_)
    unfold apX
    rw [if_neg (fun z => by omega)]
    exact (hT.2.2 k (by omega)).1
/-- numbers of two tables, in the class's cells -/
def FS (wi : Nat → Nat → Int32) (q n : Nat) (N : Nat → Nat) : Prop := ∀ k, k < n → wi 17 k = nI (N k) ∧ N k < q
def weN (a N : Nat → Nat) (s n : Nat) : Nat := fb_sm (fun p => a p * N (s + p)) n
theorem weN_le {a N : Nat → Nat} {s n : Nat} (ha : ∀ p, p < n → a p < 3) (hN : ∀ p, p < n → N (s + p) < 3) : weN a N s n ≤ n * 4 := fb_sm_bound (fun p hp => by
  have h1 := ha p hp
  have h2 := hN p hp
  exact Nat.mul_le_mul (show a p ≤ 2 by omega) (show N (s + p) ≤ 2 by omega))
def sp_X1_weigh : zSp := fun av w K => match av with
  | [.ref o, .int x, .int s, .int n] => o = 15 ∧ zG w.1 ∧ ∃ (a N : Nat → Nat) (s' n' m : Nat), FS w.2.1 3 m N ∧ m ≤ 18 ∧ x = pk a ∧ (∀ p, p < 9 → a p < 3) ∧ s = nI s' ∧ n = nI n' ∧ n' ≤ 9 ∧ s' + n' ≤ m ∧ K (some (.int (nI (weN a N s' n')))) w
  | _ => False
def rm_X1_weigh : Room := { frames := 1, cells := 0, slots := 0, locals := 21 }
def M_X1_weigh : zM := (k_X1_weigh, f_X1, [(30, 0, 0, 2, 0, 0, sp_X2_numberAt), (49, 4, 2, 2, 0, 0, sp_X3_at)], ([], [], []), [], [(6, [true, true, true, true, true, true])], 1, false, (false, 0, fun _ => 0), (0, 0, []))
theorem ca_X1_weigh_0 (l : Launch) : z_cok l RX1 (headSpec (.code yX1_weigh cX1_weigh 6 (some .int) :: zTT) rm_X1_weigh).room (false, 0, fun _ => 0) (30, 0, 0, 2, 0, 0, sp_X2_numberAt) := z_ca0 (c_X2_numberAt l) mb_X2_numberAt wt_487 wt_390 (by decide)
theorem ca_X1_weigh_1 (l : Launch) : z_cok l RX1 (headSpec (.code yX1_weigh cX1_weigh 6 (some .int) :: zTT) rm_X1_weigh).room (false, 0, fun _ => 0) (49, 4, 2, 2, 0, 0, sp_X3_at) := z_ca4 (c_X3_at l) mb_X3_at ⟨_, rfl, rfl⟩ wt_493 wt_366 wt_367 (by decide)
theorem O_X1_weigh (l : Launch) : z_OK l RX1 cX1_weigh (headSpec (.code yX1_weigh cX1_weigh 6 (some .int) :: zTT) rm_X1_weigh).room M_X1_weigh := ⟨ok_X1_weigh, fo_X1, List.forall_mem_cons.mpr ⟨ca_X1_weigh_0 l, List.forall_mem_cons.mpr ⟨ca_X1_weigh_1 l, fun _ h => absurd h List.not_mem_nil⟩⟩, fun _ h => absurd h List.not_mem_nil, fun _ h => absurd h List.not_mem_nil, fun _ h => absurd h List.not_mem_nil, fun _ h => absurd h List.not_mem_nil, rfl, rfl, fun _ h => absurd h List.not_mem_nil⟩
theorem c_X1_weigh (l : Launch) : z_CS l yX1_weigh cX1_weigh 6 (some .int) rm_X1_weigh sp_X1_weigh := by
  refine z_meth (by decide) (Or.inr (Or.inl ⟨rfl, rfl⟩)) (fun h => by cases h) rfl (O_X1_weigh l) ?_
  intro av w K h
  match av, h with
  | [.ref o, .int x, .int s, .int n], h =>
    obtain ⟨rfl, ⟨r, hG⟩, a, N, s', n', m, hN, hm, rfl, ha, rfl, rfl, hn, hsn, h⟩ := h
    obtain ⟨G, wi, wl⟩ := w
    subst hG
    try dsimp only at h hN
    refine ⟨Nat.le_of_ble_eq_true rfl, fun Jm hs => ?_⟩
    have loop := up_ind (P := fun p => Jm 6 [some (.ref 15), some (.int (pk a)), some (.int (nI s')), some (.int (nI n')), some (.int (nI (weN a N s' p))), some (.int (nI p))] [] (GC ++ r, wi, wl) 0 0) n' (fun p hp ih => by
      refine hs 400 6 _ _ _ _ _ ?_
      conv => whnf
      repeat ((first | refine ⟨zG_of _, ?_⟩ | refine ⟨trivial, ?_⟩ | refine ⟨rfl, ?_⟩ | refine ⟨fun hc => absurd hc (by decide), fun _ => ?_⟩ | refine ⟨fun _ => ?_, fun hc => absurd (by decide) hc⟩ | refine ⟨fun _ => ?_, fun hc => absurd hc (by decide)⟩ | refine ⟨fun hc => absurd (by decide) hc, fun _ => ?_⟩); conv => whnf)
      try dsimp only
      rw [ltN (by omega) (by omega)]
      refine ⟨fun hc => ?_, fun hc => ?_⟩
      · obtain rfl : p = n' := by omega
        exact ⟨trivial, h⟩
      · have ihn := ih hc
        have e : nI (weN a N s' (p + 1)) = nI (weN a N s' p) + fnum (pk a) (nI p) * atF (wi 17) 18 (nI s' + nI p) := by
          rw [fnum_pk ha (by omega), nI_add, atF_in (by omega) (by decide), (hN _ (by omega)).1, pk_mul, nI_add]
          rfl
        rw [e] at ihn
        conv => whnf
        repeat ((first | refine ⟨zG_of _, ?_⟩ | refine ⟨trivial, ?_⟩ | refine ⟨rfl, ?_⟩ | refine ⟨fun hc => absurd hc (by decide), fun _ => ?_⟩ | refine ⟨fun _ => ?_, fun hc => absurd (by decide) hc⟩ | refine ⟨fun _ => ?_, fun hc => absurd hc (by decide)⟩ | refine ⟨fun hc => absurd (by decide) hc, fun _ => ?_⟩); conv => whnf)
        try dsimp only
        rw [nI_add (a := p) (b := 1)]
        exact ihn)
    exact hs 400 0 _ _ _ _ _ (loop 0 (Nat.zero_le _))
def cmN (d : Nat → Nat) (q : Nat) (A : Nat → Nat → Nat) (N : Nat → Nat) (z c : Nat) : Nat := fb_sm (fun i => weN (A (3 * i)) N 0 (pl d 0) * weN (A (3 * i + 1)) N (pl d 0) (pl d 1) % q * A (3 * i + 2) z) c
def sp_X1_comesAt : zSp := fun av w K => match av with
  | [.ref o, .ref o2, .int z] => o = 15 ∧ o2 = 6 ∧ zG w.1 ∧ ∃ d q c A N z', CS w.2.1 6 d q c A ∧ FS w.2.1 3 (pl d 0 + pl d 1) N ∧ z = nI z' ∧ z' < 9 ∧ K (some (.int (nI (cmN d q A N z' c % q)))) w
  | _ => False
def rm_X1_comesAt : Room := { frames := 3, cells := 0, slots := 0, locals := 63 }
def M_X1_comesAt : zM := (k_X1_comesAt, f_X1, [(26, 4, 5, 3, 0, 0, sp_X6_formAt), (30, 0, 0, 2, 0, 0, sp_X2_numberAt), (35, 4, 5, 2, 0, 0, sp_X6_places), (39, 4, 1, 4, 0, 0, sp_X1_weigh), (46, 0, 0, 2, 0, 0, sp_X2_mod)], ([], [], []), [], [(5, [true, true, true, true, true, false, false, false])], 1, false, (false, 0, fun _ => 0), (0, 0, []))
theorem ca_X1_comesAt_0 (l : Launch) : z_cok l RX1 (headSpec (.code yX1_comesAt cX1_comesAt 8 (some .int) :: zTT) rm_X1_comesAt).room (false, 0, fun _ => 0) (26, 4, 5, 3, 0, 0, sp_X6_formAt) := z_ca4 (c_X6_formAt l) mb_X6_formAt ⟨_, rfl, rfl⟩ wt_486 wt_408 wt_409 (by decide)
theorem ca_X1_comesAt_1 (l : Launch) : z_cok l RX1 (headSpec (.code yX1_comesAt cX1_comesAt 8 (some .int) :: zTT) rm_X1_comesAt).room (false, 0, fun _ => 0) (30, 0, 0, 2, 0, 0, sp_X2_numberAt) := z_ca0 (c_X2_numberAt l) mb_X2_numberAt wt_487 wt_390 (by decide)
theorem ca_X1_comesAt_2 (l : Launch) : z_cok l RX1 (headSpec (.code yX1_comesAt cX1_comesAt 8 (some .int) :: zTT) rm_X1_comesAt).room (false, 0, fun _ => 0) (35, 4, 5, 2, 0, 0, sp_X6_places) := z_ca4 (c_X6_places l) mb_X6_places ⟨_, rfl, rfl⟩ wt_488 wt_434 wt_435 (by decide)
theorem ca_X1_comesAt_3 (l : Launch) : z_cok l RX1 (headSpec (.code yX1_comesAt cX1_comesAt 8 (some .int) :: zTT) rm_X1_comesAt).room (false, 0, fun _ => 0) (39, 4, 1, 4, 0, 0, sp_X1_weigh) := z_ca4 (c_X1_weigh l) mb_X1_weigh ⟨_, rfl, rfl⟩ wt_489 wt_491 wt_9 (by decide)
theorem ca_X1_comesAt_4 (l : Launch) : z_cok l RX1 (headSpec (.code yX1_comesAt cX1_comesAt 8 (some .int) :: zTT) rm_X1_comesAt).room (false, 0, fun _ => 0) (46, 0, 0, 2, 0, 0, sp_X2_mod) := z_ca0 (c_X2_mod l) mb_X2_mod wt_494 wt_444 (by decide)
theorem O_X1_comesAt (l : Launch) : z_OK l RX1 cX1_comesAt (headSpec (.code yX1_comesAt cX1_comesAt 8 (some .int) :: zTT) rm_X1_comesAt).room M_X1_comesAt := ⟨ok_X1_comesAt, fo_X1, List.forall_mem_cons.mpr ⟨ca_X1_comesAt_0 l, List.forall_mem_cons.mpr ⟨ca_X1_comesAt_1 l, List.forall_mem_cons.mpr ⟨ca_X1_comesAt_2 l, List.forall_mem_cons.mpr ⟨ca_X1_comesAt_3 l, List.forall_mem_cons.mpr ⟨ca_X1_comesAt_4 l, fun _ h => absurd h List.not_mem_nil⟩⟩⟩⟩⟩, fun _ h => absurd h List.not_mem_nil, fun _ h => absurd h List.not_mem_nil, fun _ h => absurd h List.not_mem_nil, fun _ h => absurd h List.not_mem_nil, rfl, rfl, fun _ h => absurd h List.not_mem_nil⟩
theorem c_X1_comesAt (l : Launch) : z_CS l yX1_comesAt cX1_comesAt 8 (some .int) rm_X1_comesAt sp_X1_comesAt := by
  refine z_meth (by decide) (Or.inr (Or.inl ⟨rfl, rfl⟩)) (fun h => by cases h) rfl (O_X1_comesAt l) ?_
  intro av w K h
  match av, h with
  | [.ref o, .ref o2, .int z], h =>
    obtain ⟨rfl, rfl, ⟨r, hG⟩, d, q, c, A, N, z', hS, hN, rfl, hz, h⟩ := h
    obtain ⟨G, wi, wl⟩ := w
    subst hG
    try dsimp only at h hS hN
    have h40 := cs_40 hS
    have q23 := cs_q23 hS
    have p0 := pl_le (cs_d hS) (t := 0) (by decide)
    have p1 := pl_le (cs_d hS) (t := 1) (by decide)
    have e0 : plF wi 6 (nI 0) = nI (pl d 0) := pl_S hS (by decide)
    have e1 : plF wi 6 (nI 1) = nI (pl d 1) := pl_S hS (by decide)
    refine ⟨Nat.le_of_ble_eq_true rfl, fun Jm hs => ?_⟩
    have loop := up_ind (P := fun i => Jm 5 [some (.ref 15), some (.ref 6), some (.int (nI z')), some (.int (nI (cmN d q A N z' i))), some (.int (nI i)), none, none, none] [] (GC ++ r, wi, wl) 0 0) c (fun i hi ih => by
      refine hs 400 5 _ _ _ _ _ ?_
      conv => whnf
      repeat ((first | refine ⟨zG_of _, ?_⟩ | refine ⟨trivial, ?_⟩ | refine ⟨rfl, ?_⟩ | refine ⟨fun hc => absurd hc (by decide), fun _ => ?_⟩ | refine ⟨fun _ => ?_, fun hc => absurd (by decide) hc⟩ | refine ⟨fun _ => ?_, fun hc => absurd hc (by decide)⟩ | refine ⟨fun hc => absurd (by decide) hc, fun _ => ?_⟩); conv => whnf)
      try dsimp only
      rw [cs_c hS, ltN (by omega) (by omega)]
      refine ⟨fun hc => ?_, fun hc => ?_⟩
      · obtain rfl : i = c := by omega
        have hl : cmN d q A N z' i ≤ i * 4 := fb_sm_bound (fun k hk => by
          have h1 := cs_A3 hS (3 * k + 2) (by omega) z' hz
          have h2 : weN (A (3 * k)) N 0 (pl d 0) * weN (A (3 * k + 1)) N (pl d 0) (pl d 1) % q < q := Nat.mod_lt _ (by omega)
          exact Nat.mul_le_mul (show _ ≤ 2 by omega) (show A (3 * k + 2) z' ≤ 2 by omega))
        conv => whnf
        repeat ((first | refine ⟨zG_of _, ?_⟩ | refine ⟨trivial, ?_⟩ | refine ⟨rfl, ?_⟩ | refine ⟨fun hc => absurd hc (by decide), fun _ => ?_⟩ | refine ⟨fun _ => ?_, fun hc => absurd (by decide) hc⟩ | refine ⟨fun _ => ?_, fun hc => absurd hc (by decide)⟩ | refine ⟨fun hc => absurd (by decide) hc, fun _ => ?_⟩); conv => whnf)
        try dsimp only
        rw [cs_q hS, fmod_N q23 (by omega)]
        exact h
      · have ihn := ih hc
        have ea : fnum (fmF wi 6 (nI i) (nI 2)) (nI z') = nI (A (3 * i + 2) z') := fn_S hS hc (by decide) hz
        have a2 := cs_A3 hS (3 * i + 2) (by omega) z' hz
        have g : cmN d q A N z' (i + 1) = cmN d q A N z' i + weN (A (3 * i)) N 0 (pl d 0) * weN (A (3 * i + 1)) N (pl d 0) (pl d 1) % q * A (3 * i + 2) z' := rfl
        have w0 := weN_le (a := A (3 * i)) (N := N) (s := 0) (n := pl d 0) (fun p hp => cs_A3 hS _ (by omega) p (by omega)) (fun p hp => (hN _ (by omega)).2)
        have w1 := weN_le (a := A (3 * i + 1)) (N := N) (s := pl d 0) (n := pl d 1) (fun p hp => cs_A3 hS _ (by omega) p (by omega)) (fun p hp => (hN _ (by omega)).2)
        have w2 : weN (A (3 * i)) N 0 (pl d 0) * weN (A (3 * i + 1)) N (pl d 0) (pl d 1) ≤ 36 * 36 := Nat.mul_le_mul (by omega) (by omega)
        conv => whnf
        repeat ((first | refine ⟨zG_of _, ?_⟩ | refine ⟨trivial, ?_⟩ | refine ⟨rfl, ?_⟩ | refine ⟨fun hc => absurd hc (by decide), fun _ => ?_⟩ | refine ⟨fun _ => ?_, fun hc => absurd (by decide) hc⟩ | refine ⟨fun _ => ?_, fun hc => absurd hc (by decide)⟩ | refine ⟨fun hc => absurd (by decide) hc, fun _ => ?_⟩); conv => whnf)
        try dsimp only
        refine ⟨fun hq => ?_, fun hq => ?_⟩
        · have hq := ea.symm.trans hq
          rw [eq0N (by omega)] at hq
          rw [g, hq, Nat.mul_zero, Nat.add_zero] at ihn
          conv => whnf
          repeat ((first | refine ⟨zG_of _, ?_⟩ | refine ⟨trivial, ?_⟩ | refine ⟨rfl, ?_⟩ | refine ⟨fun hc => absurd hc (by decide), fun _ => ?_⟩ | refine ⟨fun _ => ?_, fun hc => absurd (by decide) hc⟩ | refine ⟨fun _ => ?_, fun hc => absurd hc (by decide)⟩ | refine ⟨fun hc => absurd (by decide) hc, fun _ => ?_⟩); conv => whnf)
          try dsimp only
          rw [nI_add]
          exact ihn
        · conv => whnf
          repeat ((first | refine ⟨zG_of _, ?_⟩ | refine ⟨trivial, ?_⟩ | refine ⟨rfl, ?_⟩ | refine ⟨fun hc => absurd hc (by decide), fun _ => ?_⟩ | refine ⟨fun _ => ?_, fun hc => absurd (by decide) hc⟩ | refine ⟨fun _ => ?_, fun hc => absurd hc (by decide)⟩ | refine ⟨fun hc => absurd (by decide) hc, fun _ => ?_⟩); conv => whnf)
          try dsimp only
          refine ⟨A (3 * i), N, 0, pl d 0, pl d 0 + pl d 1, hN, by omega, fm_S hS hc (t := 0) (by decide), cs_A3 hS _ (by omega), rfl, e0, by omega, by omega, ?_⟩
          conv => whnf
          repeat ((first | refine ⟨zG_of _, ?_⟩ | refine ⟨trivial, ?_⟩ | refine ⟨rfl, ?_⟩ | refine ⟨fun hc => absurd hc (by decide), fun _ => ?_⟩ | refine ⟨fun _ => ?_, fun hc => absurd (by decide) hc⟩ | refine ⟨fun _ => ?_, fun hc => absurd hc (by decide)⟩ | refine ⟨fun hc => absurd (by decide) hc, fun _ => ?_⟩); conv => whnf)
          try dsimp only
          refine ⟨A (3 * i + 1), N, pl d 0, pl d 1, pl d 0 + pl d 1, hN, by omega, fm_S hS hc (t := 1) (by decide), cs_A3 hS _ (by omega), e0, e1, by omega, by omega, ?_⟩
          have ee : nI (cmN d q A N z' i) + fmod (nI (weN (A (3 * i)) N 0 (pl d 0)) * nI (weN (A (3 * i + 1)) N (pl d 0) (pl d 1))) (wi 6 4) * fnum (fmF wi 6 (nI i) (nI 2)) (nI z') = nI (cmN d q A N z' (i + 1)) := by
            rw [pk_mul, cs_q hS, fmod_N q23 (by omega), ea, pk_mul, nI_add, g]
          rw [← ee] at ihn
          conv => whnf
          repeat ((first | refine ⟨zG_of _, ?_⟩ | refine ⟨trivial, ?_⟩ | refine ⟨rfl, ?_⟩ | refine ⟨fun hc => absurd hc (by decide), fun _ => ?_⟩ | refine ⟨fun _ => ?_, fun hc => absurd (by decide) hc⟩ | refine ⟨fun _ => ?_, fun hc => absurd hc (by decide)⟩ | refine ⟨fun hc => absurd (by decide) hc, fun _ => ?_⟩); conv => whnf)
          try dsimp only
          rw [nI_add (a := i) (b := 1)]
          exact ihn)
    exact hs 400 0 _ _ _ _ _ (loop 0 (Nat.zero_le _))
def duN (d : Nat → Nat) (N : Nat → Nat) (z j : Nat) : Nat := fb_sm (fun j => N (z % d 0 * d 1 + j) * N (pl d 0 + j * d 2 + z / d 0)) j
def sp_X1_dueAt : zSp := fun av w K => match av with
  | [.ref o, .ref o2, .int z] => o = 15 ∧ o2 = 6 ∧ zG w.1 ∧ ∃ d q c A N z', CS w.2.1 6 d q c A ∧ FS w.2.1 3 (pl d 0 + pl d 1) N ∧ z = nI z' ∧ z' < pl d 2 ∧ K (some (.int (nI (duN d N z' (d 1) % q)))) w
  | _ => False
def rm_X1_dueAt : Room := { frames := 3, cells := 0, slots := 0, locals := 65 }
def M_X1_dueAt : zM := (k_X1_dueAt, f_X1, [(52, 4, 5, 3, 0, 0, sp_X6_columnOf), (55, 4, 5, 3, 0, 0, sp_X6_rowOf), (49, 4, 2, 2, 0, 0, sp_X3_at), (35, 4, 5, 2, 0, 0, sp_X6_places), (46, 0, 0, 2, 0, 0, sp_X2_mod)], ([], [], []), [], [(21, [true, true, true, true, true, true, true])], 1, false, (false, 0, fun _ => 0), (0, 0, []))
theorem ca_X1_dueAt_0 (l : Launch) : z_cok l RX1 (headSpec (.code yX1_dueAt cX1_dueAt 7 (some .int) :: zTT) rm_X1_dueAt).room (false, 0, fun _ => 0) (52, 4, 5, 3, 0, 0, sp_X6_columnOf) := z_ca4 (c_X6_columnOf l) mb_X6_columnOf ⟨_, rfl, rfl⟩ wt_499 wt_454 wt_455 (by decide)
theorem ca_X1_dueAt_1 (l : Launch) : z_cok l RX1 (headSpec (.code yX1_dueAt cX1_dueAt 7 (some .int) :: zTT) rm_X1_dueAt).room (false, 0, fun _ => 0) (55, 4, 5, 3, 0, 0, sp_X6_rowOf) := z_ca4 (c_X6_rowOf l) mb_X6_rowOf ⟨_, rfl, rfl⟩ wt_500 wt_458 wt_459 (by decide)
theorem ca_X1_dueAt_2 (l : Launch) : z_cok l RX1 (headSpec (.code yX1_dueAt cX1_dueAt 7 (some .int) :: zTT) rm_X1_dueAt).room (false, 0, fun _ => 0) (49, 4, 2, 2, 0, 0, sp_X3_at) := z_ca4 (c_X3_at l) mb_X3_at ⟨_, rfl, rfl⟩ wt_493 wt_366 wt_367 (by decide)
theorem ca_X1_dueAt_3 (l : Launch) : z_cok l RX1 (headSpec (.code yX1_dueAt cX1_dueAt 7 (some .int) :: zTT) rm_X1_dueAt).room (false, 0, fun _ => 0) (35, 4, 5, 2, 0, 0, sp_X6_places) := z_ca4 (c_X6_places l) mb_X6_places ⟨_, rfl, rfl⟩ wt_488 wt_434 wt_435 (by decide)
theorem ca_X1_dueAt_4 (l : Launch) : z_cok l RX1 (headSpec (.code yX1_dueAt cX1_dueAt 7 (some .int) :: zTT) rm_X1_dueAt).room (false, 0, fun _ => 0) (46, 0, 0, 2, 0, 0, sp_X2_mod) := z_ca0 (c_X2_mod l) mb_X2_mod wt_494 wt_444 (by decide)
theorem O_X1_dueAt (l : Launch) : z_OK l RX1 cX1_dueAt (headSpec (.code yX1_dueAt cX1_dueAt 7 (some .int) :: zTT) rm_X1_dueAt).room M_X1_dueAt := ⟨ok_X1_dueAt, fo_X1, List.forall_mem_cons.mpr ⟨ca_X1_dueAt_0 l, List.forall_mem_cons.mpr ⟨ca_X1_dueAt_1 l, List.forall_mem_cons.mpr ⟨ca_X1_dueAt_2 l, List.forall_mem_cons.mpr ⟨ca_X1_dueAt_3 l, List.forall_mem_cons.mpr ⟨ca_X1_dueAt_4 l, fun _ h => absurd h List.not_mem_nil⟩⟩⟩⟩⟩, fun _ h => absurd h List.not_mem_nil, fun _ h => absurd h List.not_mem_nil, fun _ h => absurd h List.not_mem_nil, fun _ h => absurd h List.not_mem_nil, rfl, rfl, fun _ h => absurd h List.not_mem_nil⟩
theorem c_X1_dueAt (l : Launch) : z_CS l yX1_dueAt cX1_dueAt 7 (some .int) rm_X1_dueAt sp_X1_dueAt := by
  refine z_meth (by decide) (Or.inr (Or.inl ⟨rfl, rfl⟩)) (fun h => by cases h) rfl (O_X1_dueAt l) ?_
  intro av w K h
  match av, h with
  | [.ref o, .ref o2, .int z], h =>
    obtain ⟨rfl, rfl, ⟨r, hG⟩, d, q, c, A, N, z', hS, hN, rfl, hz, h⟩ := h
    obtain ⟨G, wi, wl⟩ := w
    subst hG
    try dsimp only at h hS hN
    have q23 := cs_q23 hS
    have p0 := pl_le (cs_d hS) (t := 0) (by decide)
    have p1 := pl_le (cs_d hS) (t := 1) (by decide)
    have p2 := pl_le (cs_d hS) (t := 2) (by decide)
    have d0 := cs_d hS 0 (by decide)
    have d1 := cs_d hS 1 (by decide)
    have d2 := cs_d hS 2 (by decide)
    have e0 : plF wi 6 (nI 0) = nI (pl d 0) := pl_S hS (by decide)
    have ec : colOfF wi 6 (nI 2) (nI z') = nI (z' % d 0) := colO_S hS (t := 2) (by decide) (by omega)
    have er : rowOfF wi 6 (nI 2) (nI z') = nI (z' / d 0) := row_S hS (t := 2) (by decide) (by omega)
    have hrow : z' % d 0 < d 0 := Nat.mod_lt _ (by omega)
    have hcol : z' / d 0 < d 2 := (Nat.div_lt_iff_lt_mul (by omega)).mpr hz
    have i1 : ∀ j, j < d 1 → z' % d 0 * d 1 + j < pl d 0 := fun j hj => by
      have : (z' % d 0 + 1) * d 1 ≤ d 0 * d 1 := Nat.mul_le_mul_right _ hrow
      rw [Nat.add_mul, Nat.one_mul] at this
      show _ < d 0 * d 1
      omega
    have i2 : ∀ j, j < d 1 → j * d 2 + z' / d 0 < pl d 1 := fun j hj => by
      have : (j + 1) * d 2 ≤ d 1 * d 2 := Nat.mul_le_mul_right _ hj
      rw [Nat.add_mul, Nat.one_mul] at this
      show _ < d 1 * d 2
      omega
    have hl : duN d N z' (d 1) ≤ d 1 * 4 := fb_sm_bound (fun j hj => by
      have h1 := (hN (z' % d 0 * d 1 + j) (by have := i1 j hj; omega)).2
      have h2 := (hN (pl d 0 + j * d 2 + z' / d 0) (by have := i2 j hj; omega)).2
      exact Nat.mul_le_mul (show _ ≤ 2 by omega) (show _ ≤ 2 by omega))
    refine ⟨Nat.le_of_ble_eq_true rfl, fun Jm hs => ?_⟩
    have loop := up_ind (P := fun j => Jm 21 [some (.ref 15), some (.ref 6), some (.int (nI z')), some (.int (nI (z' % d 0))), some (.int (nI (z' / d 0))), some (.int (nI (duN d N z' j))), some (.int (nI j))] [] (GC ++ r, wi, wl) 0 0) (d 1) (fun j hj ih => by
      refine hs 400 21 _ _ _ _ _ ?_
      conv => whnf
      repeat ((first | refine ⟨zG_of _, ?_⟩ | refine ⟨trivial, ?_⟩ | refine ⟨rfl, ?_⟩ | refine ⟨fun hc => absurd hc (by decide), fun _ => ?_⟩ | refine ⟨fun _ => ?_, fun hc => absurd (by decide) hc⟩ | refine ⟨fun _ => ?_, fun hc => absurd hc (by decide)⟩ | refine ⟨fun hc => absurd (by decide) hc, fun _ => ?_⟩); conv => whnf)
      try dsimp only
      rw [cs_2 hS, ltN (by omega) (by omega)]
      refine ⟨fun hc => ?_, fun hc => ?_⟩
      · obtain hjn : j = d 1 := by omega
        rw [hjn]
        conv => whnf
        repeat ((first | refine ⟨zG_of _, ?_⟩ | refine ⟨trivial, ?_⟩ | refine ⟨rfl, ?_⟩ | refine ⟨fun hc => absurd hc (by decide), fun _ => ?_⟩ | refine ⟨fun _ => ?_, fun hc => absurd (by decide) hc⟩ | refine ⟨fun _ => ?_, fun hc => absurd hc (by decide)⟩ | refine ⟨fun hc => absurd (by decide) hc, fun _ => ?_⟩); conv => whnf)
        try dsimp only
        rw [cs_q hS, fmod_N q23 (by omega)]
        exact h
      · have ihn := ih hc
        have j1 := i1 j hc
        have j2 := i2 j hc
        have ee : nI (duN d N z' j) + atF (wi 17) 18 (nI (z' % d 0) * wi 6 2 + nI j) * atF (wi 17) 18 (plF wi 6 (nI 0) + nI j * wi 6 3 + nI (z' / d 0)) = nI (duN d N z' (j + 1)) := by
          rw [cs_2 hS, cs_3 hS, e0, pk_mul, nI_add, pk_mul, nI_add, nI_add, atF_in (by omega) (by decide), atF_in (by omega) (by decide), (hN _ (by omega)).1, (hN _ (by omega)).1, pk_mul, nI_add]
          rfl
        rw [← ee] at ihn
        conv => whnf
        repeat ((first | refine ⟨zG_of _, ?_⟩ | refine ⟨trivial, ?_⟩ | refine ⟨rfl, ?_⟩ | refine ⟨fun hc => absurd hc (by decide), fun _ => ?_⟩ | refine ⟨fun _ => ?_, fun hc => absurd (by decide) hc⟩ | refine ⟨fun _ => ?_, fun hc => absurd hc (by decide)⟩ | refine ⟨fun hc => absurd (by decide) hc, fun _ => ?_⟩); conv => whnf)
        try dsimp only
        rw [nI_add (a := j) (b := 1)]
        exact ihn)
    refine hs 400 0 _ _ _ _ _ ?_
    conv => whnf
    repeat ((first | refine ⟨zG_of _, ?_⟩ | refine ⟨trivial, ?_⟩ | refine ⟨rfl, ?_⟩ | refine ⟨fun hc => absurd hc (by decide), fun _ => ?_⟩ | refine ⟨fun _ => ?_, fun hc => absurd (by decide) hc⟩ | refine ⟨fun _ => ?_, fun hc => absurd hc (by decide)⟩ | refine ⟨fun hc => absurd (by decide) hc, fun _ => ?_⟩); conv => whnf)
    try dsimp only
    rw [ec, er]
    exact loop 0 (Nat.zero_le _)

