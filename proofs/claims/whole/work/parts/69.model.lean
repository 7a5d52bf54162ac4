/-! the reference: the text read -/
def XR (wi : Nat → Nat → Int32) (L : Nat) (x : Nat → Nat) (k : Nat) : Prop := wi 45 12 = nI L ∧ wi 45 13 = nI k ∧ L ≤ 400 ∧ k ≤ L ∧ ∀ j, j < L → (wi 50 j &&& nI 255) = nI (x j) ∧ x j < 256
section
variable {wi wi' : Nat → Nat → Int32} {L : Nat} {x : Nat → Nat} {k : Nat}
theorem xr_fr (h : XR wi L x k) (h12 : wi' 45 12 = wi 45 12) (h13 : wi' 45 13 = wi 45 13) (h50 : wi' 50 = wi 50) : XR wi' L x k := by
  unfold XR at *
  rw [h12, h13, h50]
  exact h
theorem xr_up (h : XR wi L x k) {i : Nat} {v : Int32} (h1 : i ≠ 12) (h2 : i ≠ 13) : XR (z_up wi 45 i v) L x k := xr_fr h (z_up_nei (fun z => h1 z.symm)) (z_up_nei (fun z => h2 z.symm)) (z_up_ne (by decide))
theorem xr_adv (h : XR wi L x k) (hk : k < L) : XR (z_up wi 45 13 (nI (k + 1))) L x (k + 1) := by
  refine ⟨?_, z_up_eq, h.2.2.1, hk, fun j hj => ?_⟩
  · rw [z_up_nei (by decide)]; exact h.1
  · rw [z_up_ne (by decide)]; exact h.2.2.2.2 j hj
theorem xr_in {c : Nat} (hc : c < 256) (e : see x L k = c) : k < L := by
  unfold see at e
  by_cases q : k < L
  · exact q
  · rw [if_neg q] at e; omega
theorem xr_eq (h : XR wi L x k) {c : Nat} (hc : c < 256) : seeI x L k = nI c ↔ see x L k = c := by
  unfold seeI see
  by_cases q : k < L
  · have := (h.2.2.2.2 k q).2
    rw [if_pos q, if_pos q, nI_eq (by omega) (by omega)]
  · rw [if_neg q, if_neg q]
    constructor
    · intro e
      have e2 : mI 1 < nI 0 := by decide
      rw [e] at e2
      exact absurd e2 (nI_nlt (Nat.zero_le _) (by omega))
    · intro e; omega
theorem neg_48 : (mI 1 - nI 48).toInt = -49 := by decide
theorem xr_dig (h : XR wi L x k) {lo hi : Nat} (h1 : lo < 10) (h2 : hi < 10) : rgB lo hi (seeI x L k - nI 48) = true ↔ 48 + lo ≤ see x L k ∧ see x L k ≤ 48 + hi := by
  unfold rgB seeI see
  rw [decide_eq_true_iff, Int32.lt_iff_toInt_lt, Int32.lt_iff_toInt_lt, nI_toInt (by omega), nI_toInt (by omega)]
  by_cases q : k < L
  · have := (h.2.2.2.2 k q).2
    rw [if_pos q, if_pos q, pk_sub_toInt (by omega) (by omega)]
    omega
  · rw [if_neg q, if_neg q, neg_48]
    omega
theorem xr_val (h : 48 ≤ see x L k) (hk : k < L) : seeI x L k - nI 48 = nI (see x L k - 48) := by
  unfold seeI see at *
  rw [if_pos hk] at h ⊢
  rw [if_pos hk, pk_sub h]
end
def sp_X12_sees : zSp := fun av w K => match av with
  | [.ref o] => o = 45 ∧ zH w.1 ∧ ∃ L x k, XR w.2.1 L x k ∧ K (some (.int (seeI x L k))) w
  | _ => False
def rm_X12_sees : Room := { frames := 0, cells := 0, slots := 0, locals := 0 }
def M_X12_sees : zM := (k_X12_sees, f_X12, [], ([], [], []), [], [], 1, false, (false, 0, fun _ => 0), (0, 0))
theorem O_X12_sees (l : Launch) : z_OK l RX12 cX12_sees (headSpec (.code yX12_sees cX12_sees 1 (some .int) :: zTT) rm_X12_sees).room M_X12_sees := ⟨ok_X12_sees, fo_X12, fun _ h => absurd h List.not_mem_nil, fun _ h => absurd h List.not_mem_nil, fun _ h => absurd h List.not_mem_nil, fun _ h => absurd h List.not_mem_nil, fun _ h => absurd h List.not_mem_nil, rfl, rfl⟩
theorem c_X12_sees (l : Launch) : z_CS l yX12_sees cX12_sees 1 (some .int) rm_X12_sees sp_X12_sees := by
  refine z_meth (by decide) (Or.inr (Or.inl ⟨rfl, rfl⟩)) (fun h => by cases h) rfl (O_X12_sees l) ?_
  intro av w K h
  match av, h with
  | [.ref o], h =>
    obtain ⟨rfl, ⟨r, hG⟩, L, x, k, hX, h⟩ := h
    obtain ⟨G, wi, wl⟩ := w
    subst hG
    try dsimp only at h hX
    have hL := hX.2.2.1
    have hk := hX.2.2.2.1
    refine ⟨Nat.le_of_ble_eq_true rfl, fun Jm hs => hs 400 0 _ _ _ _ _ ?_⟩
    unfold seeI at h
    conv => whnf
    repeat ((first | refine ⟨zH_of _, ?_⟩ | refine ⟨trivial, ?_⟩ | refine ⟨rfl, ?_⟩ | refine ⟨fun hc => absurd hc (by decide), fun _ => ?_⟩ | refine ⟨fun _ => ?_, fun hc => absurd (by decide) hc⟩ | refine ⟨fun _ => ?_, fun hc => absurd hc (by decide)⟩ | refine ⟨fun hc => absurd (by decide) hc, fun _ => ?_⟩); conv => whnf)
    try dsimp only
    rw [hX.1, hX.2.1, ltN (by omega) (by omega)]
    refine ⟨fun hc => ?_, fun hc => ?_⟩
    · rw [if_neg hc] at h
      exact ⟨trivial, h⟩
    · rw [if_pos hc] at h
      conv => whnf
      repeat ((first | refine ⟨zH_of _, ?_⟩ | refine ⟨trivial, ?_⟩ | refine ⟨rfl, ?_⟩ | refine ⟨fun hc => absurd hc (by decide), fun _ => ?_⟩ | refine ⟨fun _ => ?_, fun hc => absurd (by decide) hc⟩ | refine ⟨fun _ => ?_, fun hc => absurd hc (by decide)⟩ | refine ⟨fun hc => absurd (by decide) hc, fun _ => ?_⟩); conv => whnf)
      try dsimp only
      rw [hX.2.1]
      refine ⟨vp_in_nI (show k < 400 by omega) (by decide), ?_⟩
      conv => whnf
      repeat ((first | refine ⟨zH_of _, ?_⟩ | refine ⟨trivial, ?_⟩ | refine ⟨rfl, ?_⟩ | refine ⟨fun hc => absurd hc (by decide), fun _ => ?_⟩ | refine ⟨fun _ => ?_, fun hc => absurd (by decide) hc⟩ | refine ⟨fun _ => ?_, fun hc => absurd hc (by decide)⟩ | refine ⟨fun hc => absurd (by decide) hc, fun _ => ?_⟩); conv => whnf)
      try dsimp only
      rw [nI_clamp (by omega), (hX.2.2.2.2 k hc).1]
      exact h
def sp_X12_fault : zSp := fun av w K => match av with
  | [.ref o, .int v] => o = 45 ∧ zH w.1 ∧ (w.2.1 45 14 = mI 1 → K none (w.1, z_up w.2.1 45 14 v, w.2.2)) ∧ (w.2.1 45 14 ≠ mI 1 → K none w)
  | _ => False
def rm_X12_fault : Room := { frames := 0, cells := 0, slots := 0, locals := 0 }
def M_X12_fault : zM := (k_X12_fault, f_X12, [], ([], [], []), [], [], 0, false, (false, 0, fun _ => 0), (0, 0))
theorem O_X12_fault (l : Launch) : z_OK l RX12 cX12_fault (headSpec (.code yX12_fault cX12_fault 2 none :: zTT) rm_X12_fault).room M_X12_fault := ⟨ok_X12_fault, fo_X12, fun _ h => absurd h List.not_mem_nil, fun _ h => absurd h List.not_mem_nil, fun _ h => absurd h List.not_mem_nil, fun _ h => absurd h List.not_mem_nil, fun _ h => absurd h List.not_mem_nil, rfl, rfl⟩
theorem c_X12_fault (l : Launch) : z_CS l yX12_fault cX12_fault 2 none rm_X12_fault sp_X12_fault := by
  refine z_meth (by decide) (Or.inl ⟨rfl, rfl⟩) (fun h => by cases h) rfl (O_X12_fault l) ?_
  intro av w K h
  match av, h with
  | [.ref o, .int v], h =>
    obtain ⟨rfl, ⟨r, hG⟩, h1, h2⟩ := h
    obtain ⟨G, wi, wl⟩ := w
    subst hG
    try dsimp only at h1 h2
    refine ⟨Nat.le_of_ble_eq_true rfl, fun Jm hs => hs 400 0 _ _ _ _ _ ?_⟩
    conv => whnf
    repeat ((first | refine ⟨zH_of _, ?_⟩ | refine ⟨trivial, ?_⟩ | refine ⟨rfl, ?_⟩ | refine ⟨fun hc => absurd hc (by decide), fun _ => ?_⟩ | refine ⟨fun _ => ?_, fun hc => absurd (by decide) hc⟩ | refine ⟨fun _ => ?_, fun hc => absurd hc (by decide)⟩ | refine ⟨fun hc => absurd (by decide) hc, fun _ => ?_⟩); conv => whnf)
    try dsimp only
    exact ⟨fun hc => h2 hc, fun hc => h1 hc⟩
def sp_X12_passes : zSp := fun av w K => match av with
  | [.ref o, .int c] => o = 45 ∧ zH w.1 ∧ ∃ L x k c', XR w.2.1 L x k ∧ c = nI c' ∧ c' < 256 ∧ ((w.2.1 45 14 ≠ mI 1 ∨ see x L k ≠ c') → K (some (.int (nI 0))) w) ∧ (w.2.1 45 14 = mI 1 → see x L k = c' → K (some (.int (nI 1))) (w.1, z_up w.2.1 45 13 (nI (k + 1)), w.2.2))
  | _ => False
def rm_X12_passes : Room := { frames := 1, cells := 0, slots := 0, locals := 20 }
def M_X12_passes : zM := (k_X12_passes, f_X12, [(122, 4, 10, 1, 0, 0, sp_X12_sees)], ([], [], []), [], [], 2, false, (false, 0, fun _ => 0), (0, 0))
theorem ca_X12_passes_0 (l : Launch) : z_cok l RX12 (headSpec (.code yX12_passes cX12_passes 2 (some .boolean) :: zTT) rm_X12_passes).room (122, 4, 10, 1, 0, 0, sp_X12_sees) := z_ca4 (c_X12_sees l) mb_X12_sees ⟨_, rfl, rfl⟩ wt_1282 wt_1284 wt_33 (by decide)
theorem O_X12_passes (l : Launch) : z_OK l RX12 cX12_passes (headSpec (.code yX12_passes cX12_passes 2 (some .boolean) :: zTT) rm_X12_passes).room M_X12_passes := ⟨ok_X12_passes, fo_X12, List.forall_mem_cons.mpr ⟨ca_X12_passes_0 l, fun _ h => absurd h List.not_mem_nil⟩, fun _ h => absurd h List.not_mem_nil, fun _ h => absurd h List.not_mem_nil, fun _ h => absurd h List.not_mem_nil, fun _ h => absurd h List.not_mem_nil, rfl, rfl⟩
theorem c_X12_passes (l : Launch) : z_CS l yX12_passes cX12_passes 2 (some .boolean) rm_X12_passes sp_X12_passes := by
  refine z_meth (by decide) (Or.inr (Or.inr (Or.inl ⟨rfl, rfl⟩))) (fun h => by cases h) rfl (O_X12_passes l) ?_
  intro av w K h
  match av, h with
  | [.ref o, .int c], h =>
    obtain ⟨rfl, ⟨r, hG⟩, L, x, k, c', hX, rfl, hc, h0, h1⟩ := h
    obtain ⟨G, wi, wl⟩ := w
    subst hG
    try dsimp only at h0 h1 hX
    refine ⟨Nat.le_of_ble_eq_true rfl, fun Jm hs => hs 400 0 _ _ _ _ _ ?_⟩
    conv => whnf
    repeat ((first | refine ⟨zH_of _, ?_⟩ | refine ⟨trivial, ?_⟩ | refine ⟨rfl, ?_⟩ | refine ⟨fun hc => absurd hc (by decide), fun _ => ?_⟩ | refine ⟨fun _ => ?_, fun hc => absurd (by decide) hc⟩ | refine ⟨fun _ => ?_, fun hc => absurd hc (by decide)⟩ | refine ⟨fun hc => absurd (by decide) hc, fun _ => ?_⟩); conv => whnf)
    try dsimp only
    refine ⟨fun hw => ?_, fun hw => ?_⟩
    · exact ⟨Or.inl rfl, h0 (Or.inl hw)⟩
    · conv => whnf
      repeat ((first | refine ⟨zH_of _, ?_⟩ | refine ⟨trivial, ?_⟩ | refine ⟨rfl, ?_⟩ | refine ⟨fun hc => absurd hc (by decide), fun _ => ?_⟩ | refine ⟨fun _ => ?_, fun hc => absurd (by decide) hc⟩ | refine ⟨fun _ => ?_, fun hc => absurd hc (by decide)⟩ | refine ⟨fun hc => absurd (by decide) hc, fun _ => ?_⟩); conv => whnf)
      try dsimp only
      refine ⟨L, x, k, hX, ?_⟩
      conv => whnf
      repeat ((first | refine ⟨zH_of _, ?_⟩ | refine ⟨trivial, ?_⟩ | refine ⟨rfl, ?_⟩ | refine ⟨fun hc => absurd hc (by decide), fun _ => ?_⟩ | refine ⟨fun _ => ?_, fun hc => absurd (by decide) hc⟩ | refine ⟨fun _ => ?_, fun hc => absurd hc (by decide)⟩ | refine ⟨fun hc => absurd (by decide) hc, fun _ => ?_⟩); conv => whnf)
      try dsimp only
      rw [xr_eq hX hc]
      refine ⟨fun he => ?_, fun he => ?_⟩
      · conv => whnf
        repeat ((first | refine ⟨zH_of _, ?_⟩ | refine ⟨trivial, ?_⟩ | refine ⟨rfl, ?_⟩ | refine ⟨fun hc => absurd hc (by decide), fun _ => ?_⟩ | refine ⟨fun _ => ?_, fun hc => absurd (by decide) hc⟩ | refine ⟨fun _ => ?_, fun hc => absurd hc (by decide)⟩ | refine ⟨fun hc => absurd (by decide) hc, fun _ => ?_⟩); conv => whnf)
        try dsimp only
        rw [hX.2.1, nI_add]
        exact ⟨Or.inr rfl, h1 hw he⟩
      · exact ⟨Or.inl rfl, h0 (Or.inr he)⟩
def sp_X12_expect : zSp := fun av w K => match av with
  | [.ref o, .int c] => o = 45 ∧ zH w.1 ∧ ∃ L x k c', XR w.2.1 L x k ∧ c = nI c' ∧ c' < 256 ∧ (w.2.1 45 14 ≠ mI 1 → K none w) ∧ (w.2.1 45 14 = mI 1 → see x L k ≠ c' → K none (w.1, z_up w.2.1 45 14 (nI k), w.2.2)) ∧ (w.2.1 45 14 = mI 1 → see x L k = c' → K none (w.1, z_up w.2.1 45 13 (nI (k + 1)), w.2.2))
  | _ => False
def rm_X12_expect : Room := { frames := 2, cells := 0, slots := 0, locals := 41 }
def M_X12_expect : zM := (k_X12_expect, f_X12, [(126, 4, 10, 2, 0, 0, sp_X12_passes), (130, 4, 10, 2, 0, 0, sp_X12_fault)], ([], [], []), [], [], 0, false, (false, 0, fun _ => 0), (0, 0))
theorem ca_X12_expect_0 (l : Launch) : z_cok l RX12 (headSpec (.code yX12_expect cX12_expect 2 none :: zTT) rm_X12_expect).room (126, 4, 10, 2, 0, 0, sp_X12_passes) := z_ca4 (c_X12_passes l) mb_X12_passes ⟨_, rfl, rfl⟩ wt_1278 wt_1280 wt_32 (by decide)
theorem ca_X12_expect_1 (l : Launch) : z_cok l RX12 (headSpec (.code yX12_expect cX12_expect 2 none :: zTT) rm_X12_expect).room (130, 4, 10, 2, 0, 0, sp_X12_fault) := z_ca4 (c_X12_fault l) mb_X12_fault ⟨_, rfl, rfl⟩ wt_1286 wt_1288 wt_34 (by decide)
theorem O_X12_expect (l : Launch) : z_OK l RX12 cX12_expect (headSpec (.code yX12_expect cX12_expect 2 none :: zTT) rm_X12_expect).room M_X12_expect := ⟨ok_X12_expect, fo_X12, List.forall_mem_cons.mpr ⟨ca_X12_expect_0 l, List.forall_mem_cons.mpr ⟨ca_X12_expect_1 l, fun _ h => absurd h List.not_mem_nil⟩⟩, fun _ h => absurd h List.not_mem_nil, fun _ h => absurd h List.not_mem_nil, fun _ h => absurd h List.not_mem_nil, fun _ h => absurd h List.not_mem_nil, rfl, rfl⟩
theorem c_X12_expect (l : Launch) : z_CS l yX12_expect cX12_expect 2 none rm_X12_expect sp_X12_expect := by
  refine z_meth (by decide) (Or.inl ⟨rfl, rfl⟩) (fun h => by cases h) rfl (O_X12_expect l) ?_
  intro av w K h
  match av, h with
  | [.ref o, .int c], h =>
    obtain ⟨rfl, ⟨r, hG⟩, L, x, k, c', hX, rfl, hc, h0, h1, h2⟩ := h
    obtain ⟨G, wi, wl⟩ := w
    subst hG
    try dsimp only at h0 h1 h2 hX
    refine ⟨Nat.le_of_ble_eq_true rfl, fun Jm hs => hs 400 0 _ _ _ _ _ ?_⟩
    conv => whnf
    repeat ((first | refine ⟨zH_of _, ?_⟩ | refine ⟨trivial, ?_⟩ | refine ⟨rfl, ?_⟩ | refine ⟨fun hc => absurd hc (by decide), fun _ => ?_⟩ | refine ⟨fun _ => ?_, fun hc => absurd (by decide) hc⟩ | refine ⟨fun _ => ?_, fun hc => absurd hc (by decide)⟩ | refine ⟨fun hc => absurd (by decide) hc, fun _ => ?_⟩); conv => whnf)
    try dsimp only
    refine ⟨L, x, k, c', hX, rfl, hc, fun hw => ?_, fun hw he => ?_⟩
    · conv => whnf
      repeat ((first | refine ⟨zH_of _, ?_⟩ | refine ⟨trivial, ?_⟩ | refine ⟨rfl, ?_⟩ | refine ⟨fun hc => absurd hc (by decide), fun _ => ?_⟩ | refine ⟨fun _ => ?_, fun hc => absurd (by decide) hc⟩ | refine ⟨fun _ => ?_, fun hc => absurd hc (by decide)⟩ | refine ⟨fun hc => absurd (by decide) hc, fun _ => ?_⟩); conv => whnf)
      try dsimp only
      rw [hX.2.1]
      refine ⟨fun hw2 => ?_, fun hw2 => ?_⟩
      · conv => whnf
        repeat ((first | refine ⟨zH_of _, ?_⟩ | refine ⟨trivial, ?_⟩ | refine ⟨rfl, ?_⟩ | refine ⟨fun hc => absurd hc (by decide), fun _ => ?_⟩ | refine ⟨fun _ => ?_, fun hc => absurd (by decide) hc⟩ | refine ⟨fun _ => ?_, fun hc => absurd hc (by decide)⟩ | refine ⟨fun hc => absurd (by decide) hc, fun _ => ?_⟩); conv => whnf)
        try dsimp only
        rcases hw with hw | hw
        · exact absurd hw2 hw
        · exact h1 hw2 hw
      · conv => whnf
        repeat ((first | refine ⟨zH_of _, ?_⟩ | refine ⟨trivial, ?_⟩ | refine ⟨rfl, ?_⟩ | refine ⟨fun hc => absurd hc (by decide), fun _ => ?_⟩ | refine ⟨fun _ => ?_, fun hc => absurd (by decide) hc⟩ | refine ⟨fun _ => ?_, fun hc => absurd hc (by decide)⟩ | refine ⟨fun hc => absurd (by decide) hc, fun _ => ?_⟩); conv => whnf)
        try dsimp only
        exact h0 hw2
    · conv => whnf
      repeat ((first | refine ⟨zH_of _, ?_⟩ | refine ⟨trivial, ?_⟩ | refine ⟨rfl, ?_⟩ | refine ⟨fun hc => absurd hc (by decide), fun _ => ?_⟩ | refine ⟨fun _ => ?_, fun hc => absurd (by decide) hc⟩ | refine ⟨fun _ => ?_, fun hc => absurd hc (by decide)⟩ | refine ⟨fun hc => absurd (by decide) hc, fun _ => ?_⟩); conv => whnf)
      try dsimp only
      exact h2 hw he
def sp_X12_ends : zSp := fun av w K => match av with
  | [.ref o] => o = 45 ∧ zH w.1 ∧ ∃ L x k, XR w.2.1 L x k ∧ w.2.1 45 14 = mI 1 ∧ (k < L → K none (w.1, z_up w.2.1 45 14 (nI k), w.2.2)) ∧ (¬ k < L → K none w)
  | _ => False
def rm_X12_ends : Room := { frames := 1, cells := 0, slots := 0, locals := 21 }
def M_X12_ends : zM := (k_X12_ends, f_X12, [(130, 4, 10, 2, 0, 0, sp_X12_fault)], ([], [], []), [], [], 0, false, (false, 0, fun _ => 0), (0, 0))
theorem ca_X12_ends_0 (l : Launch) : z_cok l RX12 (headSpec (.code yX12_ends cX12_ends 1 none :: zTT) rm_X12_ends).room (130, 4, 10, 2, 0, 0, sp_X12_fault) := z_ca4 (c_X12_fault l) mb_X12_fault ⟨_, rfl, rfl⟩ wt_1286 wt_1288 wt_34 (by decide)
theorem O_X12_ends (l : Launch) : z_OK l RX12 cX12_ends (headSpec (.code yX12_ends cX12_ends 1 none :: zTT) rm_X12_ends).room M_X12_ends := ⟨ok_X12_ends, fo_X12, List.forall_mem_cons.mpr ⟨ca_X12_ends_0 l, fun _ h => absurd h List.not_mem_nil⟩, fun _ h => absurd h List.not_mem_nil, fun _ h => absurd h List.not_mem_nil, fun _ h => absurd h List.not_mem_nil, fun _ h => absurd h List.not_mem_nil, rfl, rfl⟩
theorem c_X12_ends (l : Launch) : z_CS l yX12_ends cX12_ends 1 none rm_X12_ends sp_X12_ends := by
  refine z_meth (by decide) (Or.inl ⟨rfl, rfl⟩) (fun h => by cases h) rfl (O_X12_ends l) ?_
  intro av w K h
  match av, h with
  | [.ref o], h =>
    obtain ⟨rfl, ⟨r, hG⟩, L, x, k, hX, hw, h0, h1⟩ := h
    obtain ⟨G, wi, wl⟩ := w
    subst hG
    try dsimp only at h0 h1 hX hw
    have hL := hX.2.2.1
    have hk := hX.2.2.2.1
    refine ⟨Nat.le_of_ble_eq_true rfl, fun Jm hs => hs 400 0 _ _ _ _ _ ?_⟩
    conv => whnf
    repeat ((first | refine ⟨zH_of _, ?_⟩ | refine ⟨trivial, ?_⟩ | refine ⟨rfl, ?_⟩ | refine ⟨fun hc => absurd hc (by decide), fun _ => ?_⟩ | refine ⟨fun _ => ?_, fun hc => absurd (by decide) hc⟩ | refine ⟨fun _ => ?_, fun hc => absurd hc (by decide)⟩ | refine ⟨fun hc => absurd (by decide) hc, fun _ => ?_⟩); conv => whnf)
    try dsimp only
    rw [hX.1, hX.2.1, ltN (by omega) (by omega)]
    refine ⟨fun hc => ?_, fun hc => ?_⟩
    · exact h1 hc
    · conv => whnf
      repeat ((first | refine ⟨zH_of _, ?_⟩ | refine ⟨trivial, ?_⟩ | refine ⟨rfl, ?_⟩ | refine ⟨fun hc => absurd hc (by decide), fun _ => ?_⟩ | refine ⟨fun _ => ?_, fun hc => absurd (by decide) hc⟩ | refine ⟨fun _ => ?_, fun hc => absurd hc (by decide)⟩ | refine ⟨fun hc => absurd (by decide) hc, fun _ => ?_⟩); conv => whnf)
      try dsimp only
      rw [hX.2.1]
      refine ⟨fun _ => ?_, fun z => absurd hw z⟩
      conv => whnf
      repeat ((first | refine ⟨zH_of _, ?_⟩ | refine ⟨trivial, ?_⟩ | refine ⟨rfl, ?_⟩ | refine ⟨fun hc => absurd hc (by decide), fun _ => ?_⟩ | refine ⟨fun _ => ?_, fun hc => absurd (by decide) hc⟩ | refine ⟨fun _ => ?_, fun hc => absurd hc (by decide)⟩ | refine ⟨fun hc => absurd (by decide) hc, fun _ => ?_⟩); conv => whnf)
      try dsimp only
      exact h0 hc
def sp_X12_readSide : zSp := fun av w K => match av with
  | [.ref o, .int s] => o = 45 ∧ zH w.1 ∧ ∃ L x k D, XR w.2.1 L x k ∧ s = nI D ∧ D < 10 ∧ (w.2.1 45 14 ≠ mI 1 → K (some (.int (seeI x L k - nI 48))) w) ∧ (w.2.1 45 14 = mI 1 → ¬ (49 ≤ see x L k ∧ see x L k < 49 + D) → ∀ v, K (some (.int v)) (w.1, z_up w.2.1 45 14 (nI k), w.2.2)) ∧ (w.2.1 45 14 = mI 1 → 49 ≤ see x L k ∧ see x L k < 49 + D → K (some (.int (nI (see x L k - 48)))) (w.1, z_up w.2.1 45 13 (nI (k + 1)), w.2.2))
  | _ => False
def rm_X12_readSide : Room := { frames := 1, cells := 0, slots := 0, locals := 25 }
def M_X12_readSide : zM := (k_X12_readSide, f_X12, [(122, 4, 10, 1, 0, 0, sp_X12_sees), (80, 0, 0, 3, 0, 0, sp_X12_in), (130, 4, 10, 2, 0, 0, sp_X12_fault)], ([], [], []), [], [], 1, false, (false, 0, fun _ => 0), (0, 0))
theorem ca_X12_readSide_0 (l : Launch) : z_cok l RX12 (headSpec (.code yX12_readSide cX12_readSide 3 (some .int) :: zTT) rm_X12_readSide).room (122, 4, 10, 1, 0, 0, sp_X12_sees) := z_ca4 (c_X12_sees l) mb_X12_sees ⟨_, rfl, rfl⟩ wt_1282 wt_1284 wt_33 (by decide)
theorem ca_X12_readSide_1 (l : Launch) : z_cok l RX12 (headSpec (.code yX12_readSide cX12_readSide 3 (some .int) :: zTT) rm_X12_readSide).room (80, 0, 0, 3, 0, 0, sp_X12_in) := z_ca0 (c_X12_in l) mb_X12_in wt_1253 wt_1254 (by decide)
theorem ca_X12_readSide_2 (l : Launch) : z_cok l RX12 (headSpec (.code yX12_readSide cX12_readSide 3 (some .int) :: zTT) rm_X12_readSide).room (130, 4, 10, 2, 0, 0, sp_X12_fault) := z_ca4 (c_X12_fault l) mb_X12_fault ⟨_, rfl, rfl⟩ wt_1286 wt_1288 wt_34 (by decide)
theorem O_X12_readSide (l : Launch) : z_OK l RX12 cX12_readSide (headSpec (.code yX12_readSide cX12_readSide 3 (some .int) :: zTT) rm_X12_readSide).room M_X12_readSide := ⟨ok_X12_readSide, fo_X12, List.forall_mem_cons.mpr ⟨ca_X12_readSide_0 l, List.forall_mem_cons.mpr ⟨ca_X12_readSide_1 l, List.forall_mem_cons.mpr ⟨ca_X12_readSide_2 l, fun _ h => absurd h List.not_mem_nil⟩⟩⟩, fun _ h => absurd h List.not_mem_nil, fun _ h => absurd h List.not_mem_nil, fun _ h => absurd h List.not_mem_nil, fun _ h => absurd h List.not_mem_nil, rfl, rfl⟩
theorem c_X12_readSide (l : Launch) : z_CS l yX12_readSide cX12_readSide 3 (some .int) rm_X12_readSide sp_X12_readSide := by
  refine z_meth (by decide) (Or.inr (Or.inl ⟨rfl, rfl⟩)) (fun h => by cases h) rfl (O_X12_readSide l) ?_
  intro av w K h
  match av, h with
  | [.ref o, .int s], h =>
    obtain ⟨rfl, ⟨r, hG⟩, L, x, k, D, hX, rfl, hD, h0, h1, h2⟩ := h
    obtain ⟨G, wi, wl⟩ := w
    subst hG
    try dsimp only at h0 h1 h2 hX
    have hL := hX.2.2.1
    have hk := hX.2.2.2.1
    refine ⟨Nat.le_of_ble_eq_true rfl, fun Jm hs => hs 400 0 _ _ _ _ _ ?_⟩
    conv => whnf
    repeat ((first | refine ⟨zH_of _, ?_⟩ | refine ⟨trivial, ?_⟩ | refine ⟨rfl, ?_⟩ | refine ⟨fun hc => absurd hc (by decide), fun _ => ?_⟩ | refine ⟨fun _ => ?_, fun hc => absurd (by decide) hc⟩ | refine ⟨fun _ => ?_, fun hc => absurd hc (by decide)⟩ | refine ⟨fun hc => absurd (by decide) hc, fun _ => ?_⟩); conv => whnf)
    try dsimp only
    refine ⟨L, x, k, hX, ?_⟩
    conv => whnf
    repeat ((first | refine ⟨zH_of _, ?_⟩ | refine ⟨trivial, ?_⟩ | refine ⟨rfl, ?_⟩ | refine ⟨fun hc => absurd hc (by decide), fun _ => ?_⟩ | refine ⟨fun _ => ?_, fun hc => absurd (by decide) hc⟩ | refine ⟨fun _ => ?_, fun hc => absurd hc (by decide)⟩ | refine ⟨fun hc => absurd (by decide) hc, fun _ => ?_⟩); conv => whnf)
    try dsimp only
    rw [nI_l (by omega), in_rg (by decide) (by omega), bI_0, Classical.not_not, xr_dig hX (by decide) hD]
    refine ⟨fun hc => ?_, fun hc => ?_⟩
    · have hc : 49 ≤ see x L k ∧ see x L k < 49 + D := by omega
      have hkL : k < L := xr_in (c := see x L k) (by omega) rfl
      have h2 := fun z => h2 z hc
      rw [← xr_val (by omega) hkL] at h2
      conv => whnf
      repeat ((first | refine ⟨zH_of _, ?_⟩ | refine ⟨trivial, ?_⟩ | refine ⟨rfl, ?_⟩ | refine ⟨fun hc => absurd hc (by decide), fun _ => ?_⟩ | refine ⟨fun _ => ?_, fun hc => absurd (by decide) hc⟩ | refine ⟨fun _ => ?_, fun hc => absurd hc (by decide)⟩ | refine ⟨fun hc => absurd (by decide) hc, fun _ => ?_⟩); conv => whnf)
      try dsimp only
      refine ⟨fun hw => ?_, fun hw => ?_⟩
      · conv => whnf
        repeat ((first | refine ⟨zH_of _, ?_⟩ | refine ⟨trivial, ?_⟩ | refine ⟨rfl, ?_⟩ | refine ⟨fun hc => absurd hc (by decide), fun _ => ?_⟩ | refine ⟨fun _ => ?_, fun hc => absurd (by decide) hc⟩ | refine ⟨fun _ => ?_, fun hc => absurd hc (by decide)⟩ | refine ⟨fun hc => absurd (by decide) hc, fun _ => ?_⟩); conv => whnf)
        try dsimp only
        exact h0 hw
      · conv => whnf
        repeat ((first | refine ⟨zH_of _, ?_⟩ | refine ⟨trivial, ?_⟩ | refine ⟨rfl, ?_⟩ | refine ⟨fun hc => absurd hc (by decide), fun _ => ?_⟩ | refine ⟨fun _ => ?_, fun hc => absurd (by decide) hc⟩ | refine ⟨fun _ => ?_, fun hc => absurd hc (by decide)⟩ | refine ⟨fun hc => absurd (by decide) hc, fun _ => ?_⟩); conv => whnf)
        try dsimp only
        rw [hX.2.1, nI_add]
        exact h2 hw
    · have hc : ¬ (49 ≤ see x L k ∧ see x L k < 49 + D) := by omega
      conv => whnf
      repeat ((first | refine ⟨zH_of _, ?_⟩ | refine ⟨trivial, ?_⟩ | refine ⟨rfl, ?_⟩ | refine ⟨fun hc => absurd hc (by decide), fun _ => ?_⟩ | refine ⟨fun _ => ?_, fun hc => absurd (by decide) hc⟩ | refine ⟨fun _ => ?_, fun hc => absurd hc (by decide)⟩ | refine ⟨fun hc => absurd (by decide) hc, fun _ => ?_⟩); conv => whnf)
      try dsimp only
      rw [hX.2.1]
      refine ⟨fun hw => ?_, fun hw => ?_⟩
      · conv => whnf
        repeat ((first | refine ⟨zH_of _, ?_⟩ | refine ⟨trivial, ?_⟩ | refine ⟨rfl, ?_⟩ | refine ⟨fun hc => absurd hc (by decide), fun _ => ?_⟩ | refine ⟨fun _ => ?_, fun hc => absurd (by decide) hc⟩ | refine ⟨fun _ => ?_, fun hc => absurd hc (by decide)⟩ | refine ⟨fun hc => absurd (by decide) hc, fun _ => ?_⟩); conv => whnf)
        try dsimp only
        refine ⟨fun z => ?_, fun z => ?_⟩
        · conv => whnf
          repeat ((first | refine ⟨zH_of _, ?_⟩ | refine ⟨trivial, ?_⟩ | refine ⟨rfl, ?_⟩ | refine ⟨fun hc => absurd hc (by decide), fun _ => ?_⟩ | refine ⟨fun _ => ?_, fun hc => absurd (by decide) hc⟩ | refine ⟨fun _ => ?_, fun hc => absurd hc (by decide)⟩ | refine ⟨fun hc => absurd (by decide) hc, fun _ => ?_⟩); conv => whnf)
          try dsimp only
          exact h1 hw hc _
        · exfalso
          rw [z_up_eq] at z
          have z := congrArg Int32.toInt z
          rw [nI_toInt (by omega)] at z
          have : (mI 1).toInt = -1 := by decide
          omega
      · conv => whnf
        repeat ((first | refine ⟨zH_of _, ?_⟩ | refine ⟨trivial, ?_⟩ | refine ⟨rfl, ?_⟩ | refine ⟨fun hc => absurd hc (by decide), fun _ => ?_⟩ | refine ⟨fun _ => ?_, fun hc => absurd (by decide) hc⟩ | refine ⟨fun _ => ?_, fun hc => absurd hc (by decide)⟩ | refine ⟨fun hc => absurd (by decide) hc, fun _ => ?_⟩); conv => whnf)
        try dsimp only
        refine ⟨fun _ => ?_, fun z => absurd z hw⟩
        conv => whnf
        repeat ((first | refine ⟨zH_of _, ?_⟩ | refine ⟨trivial, ?_⟩ | refine ⟨rfl, ?_⟩ | refine ⟨fun hc => absurd hc (by decide), fun _ => ?_⟩ | refine ⟨fun _ => ?_, fun hc => absurd (by decide) hc⟩ | refine ⟨fun _ => ?_, fun hc => absurd hc (by decide)⟩ | refine ⟨fun hc => absurd (by decide) hc, fun _ => ?_⟩); conv => whnf)
        try dsimp only
        exact h0 hw

