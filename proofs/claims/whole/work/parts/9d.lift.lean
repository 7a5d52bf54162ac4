/-! the reference: bits of equations -/
def LW (wl : Nat → Nat → Int64) (s : Nat) (v : zV) : Prop := ∀ k, k < 18 → wl 60 (s + k) = lN (wd v k)
theorem wd_un {e k : Nat} : wd (fun x => x == e) k = if k = e / 64 then 2 ^ (e % 64) else 0 := by
  refine Nat.eq_of_testBit_eq (fun i => ?_)
  unfold wd
  rw [bs_bit]
  by_cases g : k = e / 64
  · rw [if_pos g, Nat.testBit_two_pow]
    by_cases h : i = e % 64
    · have : i < 64 := by omega
      rw [decide_eq_true this, Bool.true_and, decide_eq_true h.symm]
      simp
      omega
    · rw [show decide (e % 64 = i) = false from decide_eq_false (fun z => h z.symm)]
      simp
      intro _
      omega
  · rw [if_neg g, Nat.zero_testBit]
    simp
    intro _
    omega
theorem wd_vfl (v : zV) (e k : Nat) : wd (vfl true v e) k = wd v k ^^^ (if k = e / 64 then 2 ^ (e % 64) else 0) := by
  rw [← wd_un, ← wd_xor]
  rfl
theorem vfl_f (v : zV) (e : Nat) : vfl false v e = v := by
  funext x
  unfold vfl
  simp
theorem vfl_of {b : Bool} (h : ¬ b = true) (v : zV) (e : Nat) : vfl b v e = v := by
  rw [show b = false by simpa using h, vfl_f]
theorem sar_bit {n m : Nat} (hm : m < 64) : z_lsar (lN n) (nI m) &&& lN 1 = lN (if n.testBit m = true then 1 else 0) := by
  apply wb_inj
  show ((lN n >>> ((nI m).toInt64 &&& 63)).toBitVec &&& (lN 1).toBitVec) = _
  rw [wb_c m hm]
  have e : (lN n >>> lN m).toBitVec = (BitVec.ofNat 64 n).sshiftRight m := by
    show (BitVec.ofNat 64 n).sshiftRight' ((BitVec.ofNat 64 m).smod 64) = _
    rw [wb_sm m hm]
    unfold BitVec.sshiftRight'
    rw [BitVec.toNat_ofNat, Nat.mod_eq_of_lt (by omega)]
  rw [e, wb_tb, wb_tb]
  apply BitVec.eq_of_getLsbD_eq
  intro i hi
  rw [BitVec.getLsbD_and, BitVec.getLsbD_sshiftRight, BitVec.getLsbD_ofNat, BitVec.getLsbD_ofNat, BitVec.getLsbD_ofNat]
  by_cases i0 : i = 0
  · subst i0
    rw [if_pos (by omega)]
    by_cases b : n.testBit m = true
    · rw [if_pos b]
      simp [b, hm]
    · rw [if_neg b]
      simp [b]
  · have b1 : (1 : Nat).testBit i = false := by
      rw [show (1 : Nat) = 2 ^ 0 from rfl, Nat.testBit_two_pow]
      exact decide_eq_false (by omega)
    have b2 : (if n.testBit m = true then 1 else 0 : Nat).testBit i = false := by
      split
      · exact b1
      · exact Nat.zero_testBit i
    rw [b1, b2]
    simp
def sp_X12_turnsBit : zSp := fun av w K => match av with
  | [.ref o, .int s, .int x] => o = 45 ∧ zH w.1 ∧ ∃ f e v, LW w.2.2 f v ∧ s = nI f ∧ f + 18 ≤ 13122 ∧ x = nI e ∧ e < 1152 ∧ ∀ wl' : Nat → Nat → Int64, (∀ y, y ≠ 60 → wl' y = w.2.2 y) → (∀ j, (j < f ∨ f + 18 ≤ j) → wl' 60 j = w.2.2 60 j) → LW wl' f (vfl true v e) → K none (w.1, w.2.1, wl')
  | _ => False
def rm_X12_turnsBit : Room := { frames := 0, cells := 0, slots := 0, locals := 0 }
def M_X12_turnsBit : zM := (k_X12_turnsBit, f_X12, [], ([], [], []), [], [], 0, false, (false, 0, fun _ => 0), (0, 0))
theorem O_X12_turnsBit (l : Launch) : z_OK l RX12 cX12_turnsBit (headSpec (.code yX12_turnsBit cX12_turnsBit 3 none :: zTT) rm_X12_turnsBit).room M_X12_turnsBit := ⟨ok_X12_turnsBit, fo_X12, fun _ h => absurd h List.not_mem_nil, fun _ h => absurd h List.not_mem_nil, fun _ h => absurd h List.not_mem_nil, fun _ h => absurd h List.not_mem_nil, fun _ h => absurd h List.not_mem_nil, rfl, rfl⟩
theorem c_X12_turnsBit (l : Launch) : z_CS l yX12_turnsBit cX12_turnsBit 3 none rm_X12_turnsBit sp_X12_turnsBit := by
  refine z_meth (by decide) (Or.inl ⟨rfl, rfl⟩) (fun h => by cases h) rfl (O_X12_turnsBit l) ?_
  intro av w K h
  match av, h with
  | [.ref o, .int s, .int x], h =>
    obtain ⟨rfl, ⟨r, hG⟩, f, e, v, hV, rfl, hf, rfl, he, h⟩ := h
    obtain ⟨G, wi, wl⟩ := w
    subst hG
    try dsimp only at h hV
    have m64 : e % 64 < 64 := Nat.mod_lt _ (by decide)
    have d64 : e / 64 < 18 := by omega
    refine ⟨Nat.le_of_ble_eq_true rfl, fun Jm hs => hs 400 0 _ _ _ _ _ ?_⟩
    conv => whnf
    repeat ((first | refine ⟨zH_of _, ?_⟩ | refine ⟨trivial, ?_⟩ | refine ⟨rfl, ?_⟩ | refine ⟨fun hc => absurd hc (by decide), fun _ => ?_⟩ | refine ⟨fun _ => ?_, fun hc => absurd (by decide) hc⟩ | refine ⟨fun _ => ?_, fun hc => absurd hc (by decide)⟩ | refine ⟨fun hc => absurd (by decide) hc, fun _ => ?_⟩); conv => whnf)
    try dsimp only
    refine ⟨by decide, ?_⟩
    rw [pk_div (by omega) (by omega) (by omega)]
    conv => whnf
    repeat ((first | refine ⟨zH_of _, ?_⟩ | refine ⟨trivial, ?_⟩ | refine ⟨rfl, ?_⟩ | refine ⟨fun hc => absurd hc (by decide), fun _ => ?_⟩ | refine ⟨fun _ => ?_, fun hc => absurd (by decide) hc⟩ | refine ⟨fun _ => ?_, fun hc => absurd hc (by decide)⟩ | refine ⟨fun hc => absurd (by decide) hc, fun _ => ?_⟩); conv => whnf)
    try dsimp only
    rw [nI_add]
    refine ⟨vp_in_nI (show f + e / 64 < 13122 by omega) (by decide), ?_⟩
    rw [nI_clamp (n := f + e / 64) (by omega)]
    conv => whnf
    repeat ((first | refine ⟨zH_of _, ?_⟩ | refine ⟨trivial, ?_⟩ | refine ⟨rfl, ?_⟩ | refine ⟨fun hc => absurd hc (by decide), fun _ => ?_⟩ | refine ⟨fun _ => ?_, fun hc => absurd (by decide) hc⟩ | refine ⟨fun _ => ?_, fun hc => absurd hc (by decide)⟩ | refine ⟨fun hc => absurd (by decide) hc, fun _ => ?_⟩); conv => whnf)
    try dsimp only
    refine ⟨by decide, ?_⟩
    rw [z_remN (by omega) (by omega) (by omega)]
    conv => whnf
    repeat ((first | refine ⟨zH_of _, ?_⟩ | refine ⟨trivial, ?_⟩ | refine ⟨rfl, ?_⟩ | refine ⟨fun hc => absurd hc (by decide), fun _ => ?_⟩ | refine ⟨fun _ => ?_, fun hc => absurd (by decide) hc⟩ | refine ⟨fun _ => ?_, fun hc => absurd hc (by decide)⟩ | refine ⟨fun hc => absurd (by decide) hc, fun _ => ?_⟩); conv => whnf)
    try dsimp only
    refine ⟨vp_in_nI (show f + e / 64 < 13122 by omega) (by decide), ?_⟩
    rw [nI_clamp (n := f + e / 64) (by omega), hV _ d64, show z_lshl (lN 1) (nI (e % 64)) = lN (2 ^ (e % 64)) from bit_N m64, fb_xorL]
    refine h _ (fun y hy => z_up_ne hy) (fun j hj => z_up_nei (by omega)) (fun k hk => ?_)
    rw [wd_vfl]
    by_cases g : k = e / 64
    · rw [if_pos g, g, z_up_eq]
    · rw [if_neg g, z_up_nei (by omega), Nat.xor_zero]
      exact hV k hk
def sp_X12_isBit : zSp := fun av w K => match av with
  | [.ref o, .int s, .int x] => o = 45 ∧ zH w.1 ∧ ∃ f e v, LW w.2.2 f v ∧ s = nI f ∧ f + 18 ≤ 13122 ∧ x = nI e ∧ e < 1152 ∧ K (some (.int (bI (v e = true)))) w
  | _ => False
def rm_X12_isBit : Room := { frames := 0, cells := 0, slots := 0, locals := 0 }
def M_X12_isBit : zM := (k_X12_isBit, f_X12, [], ([], [], []), [], [], 2, false, (false, 0, fun _ => 0), (0, 0))
theorem O_X12_isBit (l : Launch) : z_OK l RX12 cX12_isBit (headSpec (.code yX12_isBit cX12_isBit 3 (some .boolean) :: zTT) rm_X12_isBit).room M_X12_isBit := ⟨ok_X12_isBit, fo_X12, fun _ h => absurd h List.not_mem_nil, fun _ h => absurd h List.not_mem_nil, fun _ h => absurd h List.not_mem_nil, fun _ h => absurd h List.not_mem_nil, fun _ h => absurd h List.not_mem_nil, rfl, rfl⟩
theorem c_X12_isBit (l : Launch) : z_CS l yX12_isBit cX12_isBit 3 (some .boolean) rm_X12_isBit sp_X12_isBit := by
  refine z_meth (by decide) (Or.inr (Or.inr (Or.inl ⟨rfl, rfl⟩))) (fun h => by cases h) rfl (O_X12_isBit l) ?_
  intro av w K h
  match av, h with
  | [.ref o, .int s, .int x], h =>
    obtain ⟨rfl, ⟨r, hG⟩, f, e, v, hV, rfl, hf, rfl, he, h⟩ := h
    obtain ⟨G, wi, wl⟩ := w
    subst hG
    try dsimp only at h hV
    have m64 : e % 64 < 64 := Nat.mod_lt _ (by decide)
    have d64 : e / 64 < 18 := by omega
    have en : lg_cmp (lN (if v e = true then 1 else 0)) (lN 1) = nI 0 ↔ v e = true := by
      rw [show (nI 0 : Int32) = 0 from rfl, lg_cmp_eq]
      cases v e <;> decide
    refine ⟨Nat.le_of_ble_eq_true rfl, fun Jm hs => hs 400 0 _ _ _ _ _ ?_⟩
    conv => whnf
    repeat ((first | refine ⟨zH_of _, ?_⟩ | refine ⟨trivial, ?_⟩ | refine ⟨rfl, ?_⟩ | refine ⟨fun hc => absurd hc (by decide), fun _ => ?_⟩ | refine ⟨fun _ => ?_, fun hc => absurd (by decide) hc⟩ | refine ⟨fun _ => ?_, fun hc => absurd hc (by decide)⟩ | refine ⟨fun hc => absurd (by decide) hc, fun _ => ?_⟩); conv => whnf)
    try dsimp only
    refine ⟨by decide, ?_⟩
    rw [pk_div (by omega) (by omega) (by omega)]
    conv => whnf
    repeat ((first | refine ⟨zH_of _, ?_⟩ | refine ⟨trivial, ?_⟩ | refine ⟨rfl, ?_⟩ | refine ⟨fun hc => absurd hc (by decide), fun _ => ?_⟩ | refine ⟨fun _ => ?_, fun hc => absurd (by decide) hc⟩ | refine ⟨fun _ => ?_, fun hc => absurd hc (by decide)⟩ | refine ⟨fun hc => absurd (by decide) hc, fun _ => ?_⟩); conv => whnf)
    try dsimp only
    rw [nI_add]
    refine ⟨vp_in_nI (show f + e / 64 < 13122 by omega) (by decide), ?_⟩
    rw [nI_clamp (n := f + e / 64) (by omega), hV _ d64]
    conv => whnf
    repeat ((first | refine ⟨zH_of _, ?_⟩ | refine ⟨trivial, ?_⟩ | refine ⟨rfl, ?_⟩ | refine ⟨fun hc => absurd hc (by decide), fun _ => ?_⟩ | refine ⟨fun _ => ?_, fun hc => absurd (by decide) hc⟩ | refine ⟨fun _ => ?_, fun hc => absurd hc (by decide)⟩ | refine ⟨fun hc => absurd (by decide) hc, fun _ => ?_⟩); conv => whnf)
    try dsimp only
    refine ⟨by decide, ?_⟩
    rw [z_remN (by omega) (by omega) (by omega)]
    conv => whnf
    repeat ((first | refine ⟨zH_of _, ?_⟩ | refine ⟨trivial, ?_⟩ | refine ⟨rfl, ?_⟩ | refine ⟨fun hc => absurd hc (by decide), fun _ => ?_⟩ | refine ⟨fun _ => ?_, fun hc => absurd (by decide) hc⟩ | refine ⟨fun _ => ?_, fun hc => absurd hc (by decide)⟩ | refine ⟨fun hc => absurd (by decide) hc, fun _ => ?_⟩); conv => whnf)
    try dsimp only
    rw [sar_bit m64, wd_bit, en]
    refine ⟨fun hn => ?_, fun hy => ?_⟩
    · rw [bI_f hn] at h
      conv => whnf
      repeat ((first | refine ⟨zH_of _, ?_⟩ | refine ⟨trivial, ?_⟩ | refine ⟨rfl, ?_⟩ | refine ⟨fun hc => absurd hc (by decide), fun _ => ?_⟩ | refine ⟨fun _ => ?_, fun hc => absurd (by decide) hc⟩ | refine ⟨fun _ => ?_, fun hc => absurd hc (by decide)⟩ | refine ⟨fun hc => absurd (by decide) hc, fun _ => ?_⟩); conv => whnf)
      try dsimp only
      exact ⟨Or.inl rfl, h⟩
    · rw [bI_t hy] at h
      conv => whnf
      repeat ((first | refine ⟨zH_of _, ?_⟩ | refine ⟨trivial, ?_⟩ | refine ⟨rfl, ?_⟩ | refine ⟨fun hc => absurd hc (by decide), fun _ => ?_⟩ | refine ⟨fun _ => ?_, fun hc => absurd (by decide) hc⟩ | refine ⟨fun _ => ?_, fun hc => absurd hc (by decide)⟩ | refine ⟨fun hc => absurd (by decide) hc, fun _ => ?_⟩); conv => whnf)
      try dsimp only
      exact ⟨Or.inr rfl, h⟩
def sp_X12_unknowns : zSp := fun av w K => match av with
  | [.ref o] => o = 45 ∧ zH w.1 ∧ ∃ d q c A, MS w.2.1 d q c A ∧ K (some (.int (nI (ukN d c)))) w
  | _ => False
def rm_X12_unknowns : Room := { frames := 2, cells := 0, slots := 0, locals := 42 }
def M_X12_unknowns : zM := (k_X12_unknowns, f_X12, [(96, 4, 10, 2, 0, 0, sp_X12_placesOf)], ([], [], []), [], [], 1, false, (false, 0, fun _ => 0), (0, 0))
theorem ca_X12_unknowns_0 (l : Launch) : z_cok l RX12 (headSpec (.code yX12_unknowns cX12_unknowns 1 (some .int) :: zTT) rm_X12_unknowns).room (96, 4, 10, 2, 0, 0, sp_X12_placesOf) := z_ca4 (c_X12_placesOf l) mb_X12_placesOf ⟨_, rfl, rfl⟩ wt_1349 wt_1351 wt_45 (by decide)
theorem O_X12_unknowns (l : Launch) : z_OK l RX12 cX12_unknowns (headSpec (.code yX12_unknowns cX12_unknowns 1 (some .int) :: zTT) rm_X12_unknowns).room M_X12_unknowns := ⟨ok_X12_unknowns, fo_X12, List.forall_mem_cons.mpr ⟨ca_X12_unknowns_0 l, fun _ h => absurd h List.not_mem_nil⟩, fun _ h => absurd h List.not_mem_nil, fun _ h => absurd h List.not_mem_nil, fun _ h => absurd h List.not_mem_nil, fun _ h => absurd h List.not_mem_nil, rfl, rfl⟩
theorem c_X12_unknowns (l : Launch) : z_CS l yX12_unknowns cX12_unknowns 1 (some .int) rm_X12_unknowns sp_X12_unknowns := by
  refine z_meth (by decide) (Or.inr (Or.inl ⟨rfl, rfl⟩)) (fun h => by cases h) rfl (O_X12_unknowns l) ?_
  intro av w K h
  match av, h with
  | [.ref o], h =>
    obtain ⟨rfl, ⟨r, hG⟩, d, q, c, A, hS, h⟩ := h
    obtain ⟨G, wi, wl⟩ := w
    subst hG
    try dsimp only at h hS
    refine ⟨Nat.le_of_ble_eq_true rfl, fun Jm hs => hs 400 0 _ _ _ _ _ ?_⟩
    conv => whnf
    repeat ((first | refine ⟨zH_of _, ?_⟩ | refine ⟨trivial, ?_⟩ | refine ⟨rfl, ?_⟩ | refine ⟨fun hc => absurd hc (by decide), fun _ => ?_⟩ | refine ⟨fun _ => ?_, fun hc => absurd (by decide) hc⟩ | refine ⟨fun _ => ?_, fun hc => absurd hc (by decide)⟩ | refine ⟨fun hc => absurd (by decide) hc, fun _ => ?_⟩); conv => whnf)
    try dsimp only
    refine ⟨0, rfl, by decide, ?_⟩
    rw [mpl hS (by decide)]
    conv => whnf
    repeat ((first | refine ⟨zH_of _, ?_⟩ | refine ⟨trivial, ?_⟩ | refine ⟨rfl, ?_⟩ | refine ⟨fun hc => absurd hc (by decide), fun _ => ?_⟩ | refine ⟨fun _ => ?_, fun hc => absurd (by decide) hc⟩ | refine ⟨fun _ => ?_, fun hc => absurd hc (by decide)⟩ | refine ⟨fun hc => absurd (by decide) hc, fun _ => ?_⟩); conv => whnf)
    try dsimp only
    refine ⟨1, rfl, by decide, ?_⟩
    rw [mpl hS (by decide)]
    conv => whnf
    repeat ((first | refine ⟨zH_of _, ?_⟩ | refine ⟨trivial, ?_⟩ | refine ⟨rfl, ?_⟩ | refine ⟨fun hc => absurd hc (by decide), fun _ => ?_⟩ | refine ⟨fun _ => ?_, fun hc => absurd (by decide) hc⟩ | refine ⟨fun _ => ?_, fun hc => absurd hc (by decide)⟩ | refine ⟨fun hc => absurd (by decide) hc, fun _ => ?_⟩); conv => whnf)
    try dsimp only
    refine ⟨2, rfl, by decide, ?_⟩
    rw [mpl hS (by decide)]
    conv => whnf
    repeat ((first | refine ⟨zH_of _, ?_⟩ | refine ⟨trivial, ?_⟩ | refine ⟨rfl, ?_⟩ | refine ⟨fun hc => absurd hc (by decide), fun _ => ?_⟩ | refine ⟨fun _ => ?_, fun hc => absurd (by decide) hc⟩ | refine ⟨fun _ => ?_, fun hc => absurd hc (by decide)⟩ | refine ⟨fun hc => absurd (by decide) hc, fun _ => ?_⟩); conv => whnf)
    try dsimp only
    rw [ms_c hS, nI_add, nI_add, pk_mul]
    exact h
def sp_X12_unknownOf : zSp := fun av w K => match av with
  | [.ref o, .int i, .int t, .int p] => o = 45 ∧ zH w.1 ∧ ∃ d q c A i' t' p', MS w.2.1 d q c A ∧ i = nI i' ∧ t = nI t' ∧ t' < 3 ∧ p = nI p' ∧ K (some (.int (nI (uk d i' t' p')))) w
  | _ => False
def rm_X12_unknownOf : Room := { frames := 2, cells := 0, slots := 0, locals := 42 }
def M_X12_unknownOf : zM := (k_X12_unknownOf, f_X12, [(96, 4, 10, 2, 0, 0, sp_X12_placesOf)], ([], [], []), [], [(34, [true, true, true, true, true])], 1, false, (false, 0, fun _ => 0), (0, 0))
theorem ca_X12_unknownOf_0 (l : Launch) : z_cok l RX12 (headSpec (.code yX12_unknownOf cX12_unknownOf 5 (some .int) :: zTT) rm_X12_unknownOf).room (96, 4, 10, 2, 0, 0, sp_X12_placesOf) := z_ca4 (c_X12_placesOf l) mb_X12_placesOf ⟨_, rfl, rfl⟩ wt_1349 wt_1351 wt_45 (by decide)
theorem O_X12_unknownOf (l : Launch) : z_OK l RX12 cX12_unknownOf (headSpec (.code yX12_unknownOf cX12_unknownOf 5 (some .int) :: zTT) rm_X12_unknownOf).room M_X12_unknownOf := ⟨ok_X12_unknownOf, fo_X12, List.forall_mem_cons.mpr ⟨ca_X12_unknownOf_0 l, fun _ h => absurd h List.not_mem_nil⟩, fun _ h => absurd h List.not_mem_nil, fun _ h => absurd h List.not_mem_nil, fun _ h => absurd h List.not_mem_nil, fun _ h => absurd h List.not_mem_nil, rfl, rfl⟩
theorem c_X12_unknownOf (l : Launch) : z_CS l yX12_unknownOf cX12_unknownOf 5 (some .int) rm_X12_unknownOf sp_X12_unknownOf := by
  refine z_meth (by decide) (Or.inr (Or.inl ⟨rfl, rfl⟩)) (fun h => by cases h) rfl (O_X12_unknownOf l) ?_
  intro av w K h
  match av, h with
  | [.ref o, .int i, .int t, .int p], h =>
    obtain ⟨rfl, ⟨r, hG⟩, d, q, c, A, i', t', p', hS, rfl, rfl, ht, rfl, h⟩ := h
    obtain ⟨G, wi, wl⟩ := w
    subst hG
    try dsimp only at h hS
    refine ⟨Nat.le_of_ble_eq_true rfl, fun Jm hs => ?_⟩
    have t34 : Jm 34 [some (.ref 45), some (.int (nI i')), some (.int (nI t')), some (.int (nI p')), some (.int (nI (bf d t')))] [] (GC ++ (GM ++ r), wi, wl) 0 0 := by
      refine hs 400 34 _ _ _ _ _ ?_
      conv => whnf
      repeat ((first | refine ⟨zH_of _, ?_⟩ | refine ⟨trivial, ?_⟩ | refine ⟨rfl, ?_⟩ | refine ⟨fun hc => absurd hc (by decide), fun _ => ?_⟩ | refine ⟨fun _ => ?_, fun hc => absurd (by decide) hc⟩ | refine ⟨fun _ => ?_, fun hc => absurd hc (by decide)⟩ | refine ⟨fun hc => absurd (by decide) hc, fun _ => ?_⟩); conv => whnf)
      try dsimp only
      refine ⟨0, rfl, by decide, ?_⟩
      rw [mpl hS (by decide)]
      conv => whnf
      repeat ((first | refine ⟨zH_of _, ?_⟩ | refine ⟨trivial, ?_⟩ | refine ⟨rfl, ?_⟩ | refine ⟨fun hc => absurd hc (by decide), fun _ => ?_⟩ | refine ⟨fun _ => ?_, fun hc => absurd (by decide) hc⟩ | refine ⟨fun _ => ?_, fun hc => absurd hc (by decide)⟩ | refine ⟨fun hc => absurd (by decide) hc, fun _ => ?_⟩); conv => whnf)
      try dsimp only
      refine ⟨1, rfl, by decide, ?_⟩
      rw [mpl hS (by decide)]
      conv => whnf
      repeat ((first | refine ⟨zH_of _, ?_⟩ | refine ⟨trivial, ?_⟩ | refine ⟨rfl, ?_⟩ | refine ⟨fun hc => absurd hc (by decide), fun _ => ?_⟩ | refine ⟨fun _ => ?_, fun hc => absurd (by decide) hc⟩ | refine ⟨fun _ => ?_, fun hc => absurd hc (by decide)⟩ | refine ⟨fun hc => absurd (by decide) hc, fun _ => ?_⟩); conv => whnf)
      try dsimp only
      refine ⟨2, rfl, by decide, ?_⟩
      rw [mpl hS (by decide)]
      conv => whnf
      repeat ((first | refine ⟨zH_of _, ?_⟩ | refine ⟨trivial, ?_⟩ | refine ⟨rfl, ?_⟩ | refine ⟨fun hc => absurd hc (by decide), fun _ => ?_⟩ | refine ⟨fun _ => ?_, fun hc => absurd (by decide) hc⟩ | refine ⟨fun _ => ?_, fun hc => absurd hc (by decide)⟩ | refine ⟨fun hc => absurd (by decide) hc, fun _ => ?_⟩); conv => whnf)
      try dsimp only
      rw [nI_add, nI_add, pk_mul, nI_add, nI_add]
      exact h
    refine hs 400 0 _ _ _ _ _ ?_
    rcases lt3 ht with rfl | rfl | rfl
    · conv => whnf
      repeat ((first | refine ⟨zH_of _, ?_⟩ | refine ⟨trivial, ?_⟩ | refine ⟨rfl, ?_⟩ | refine ⟨fun hc => absurd hc (by decide), fun _ => ?_⟩ | refine ⟨fun _ => ?_, fun hc => absurd (by decide) hc⟩ | refine ⟨fun _ => ?_, fun hc => absurd hc (by decide)⟩ | refine ⟨fun hc => absurd (by decide) hc, fun _ => ?_⟩); conv => whnf)
      try dsimp only
      exact t34
    · conv => whnf
      repeat ((first | refine ⟨zH_of _, ?_⟩ | refine ⟨trivial, ?_⟩ | refine ⟨rfl, ?_⟩ | refine ⟨fun hc => absurd hc (by decide), fun _ => ?_⟩ | refine ⟨fun _ => ?_, fun hc => absurd (by decide) hc⟩ | refine ⟨fun _ => ?_, fun hc => absurd hc (by decide)⟩ | refine ⟨fun hc => absurd (by decide) hc, fun _ => ?_⟩); conv => whnf)
      try dsimp only
      refine ⟨0, rfl, by decide, ?_⟩
      rw [mpl hS (by decide)]
      conv => whnf
      repeat ((first | refine ⟨zH_of _, ?_⟩ | refine ⟨trivial, ?_⟩ | refine ⟨rfl, ?_⟩ | refine ⟨fun hc => absurd hc (by decide), fun _ => ?_⟩ | refine ⟨fun _ => ?_, fun hc => absurd (by decide) hc⟩ | refine ⟨fun _ => ?_, fun hc => absurd hc (by decide)⟩ | refine ⟨fun hc => absurd (by decide) hc, fun _ => ?_⟩); conv => whnf)
      try dsimp only
      exact t34
    · conv => whnf
      repeat ((first | refine ⟨zH_of _, ?_⟩ | refine ⟨trivial, ?_⟩ | refine ⟨rfl, ?_⟩ | refine ⟨fun hc => absurd hc (by decide), fun _ => ?_⟩ | refine ⟨fun _ => ?_, fun hc => absurd (by decide) hc⟩ | refine ⟨fun _ => ?_, fun hc => absurd hc (by decide)⟩ | refine ⟨fun hc => absurd (by decide) hc, fun _ => ?_⟩); conv => whnf)
      try dsimp only
      refine ⟨0, rfl, by decide, ?_⟩
      rw [mpl hS (by decide)]
      conv => whnf
      repeat ((first | refine ⟨zH_of _, ?_⟩ | refine ⟨trivial, ?_⟩ | refine ⟨rfl, ?_⟩ | refine ⟨fun hc => absurd hc (by decide), fun _ => ?_⟩ | refine ⟨fun _ => ?_, fun hc => absurd (by decide) hc⟩ | refine ⟨fun _ => ?_, fun hc => absurd hc (by decide)⟩ | refine ⟨fun hc => absurd (by decide) hc, fun _ => ?_⟩); conv => whnf)
      try dsimp only
      refine ⟨1, rfl, by decide, ?_⟩
      rw [mpl hS (by decide)]
      conv => whnf
      repeat ((first | refine ⟨zH_of _, ?_⟩ | refine ⟨trivial, ?_⟩ | refine ⟨rfl, ?_⟩ | refine ⟨fun hc => absurd hc (by decide), fun _ => ?_⟩ | refine ⟨fun _ => ?_, fun hc => absurd (by decide) hc⟩ | refine ⟨fun _ => ?_, fun hc => absurd hc (by decide)⟩ | refine ⟨fun hc => absurd (by decide) hc, fun _ => ?_⟩); conv => whnf)
      try dsimp only
      rw [nI_add]
      exact t34

