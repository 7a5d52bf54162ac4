/-! a String's length, its letters, its bytes; a String added -/
theorem StrV_cases {w : zW} {s : Value} {n : Nat} {f : Nat → Nat} (h : StrV w s n f) : (∃ u, s = .ref u ∧ ST w u n f) ∨ (s = .retAddr 1 ∧ n = 1 ∧ f = fun _ => 42) ∨ (s = .retAddr 3 ∧ n = 1 ∧ f = fun _ => 49) ∨ (s = .retAddr 5 ∧ n = 2 ∧ f = fun k => if k = 0 then 44 else 49) := by
  unfold StrV at h
  split at h
  · exact Or.inl ⟨_, rfl, h⟩
  · exact Or.inr (Or.inl ⟨rfl, h⟩)
  · exact Or.inr (Or.inr (Or.inl ⟨rfl, h⟩))
  · exact Or.inr (Or.inr (Or.inr ⟨rfl, h⟩))
  · exact h.elim
def sp_J0_length_8abf5 : zSp := fun av w K => match av with
  | [s] => ∃ (n : Nat) (f : Nat → Nat), StrV w s n f ∧ K (some (.int (nI n))) w
  | _ => False
def rm_J0_length_8abf5 : Room := { frames := 1, cells := 0, slots := 0, locals := 20 }
def M_J0_length_8abf5 : zM := (k_J0_length_8abf5, f_J0, [(335, 4, 10, 1, 0, 0, sp_J0_coder_7d493)], ([], [], []), [], [], 1, false, (false, 0, fun _ => 0), (0, 0, []))
theorem ca_J0_length_8abf5_0 (l : Launch) : z_cok l RJ0 (headSpec (.code yJ0_length_8abf5 cJ0_length_8abf5 1 (some .int) :: zTT) rm_J0_length_8abf5).room (false, 0, fun _ => 0) (335, 4, 10, 1, 0, 0, sp_J0_coder_7d493) := z_ca4 (c_J0_coder_7d493 l) mb_J0_coder_7d493 ⟨_, rfl, rfl⟩ wt_960 wt_961 wt_962 (by decide)
theorem O_J0_length_8abf5 (l : Launch) : z_OK l RJ0 cJ0_length_8abf5 (headSpec (.code yJ0_length_8abf5 cJ0_length_8abf5 1 (some .int) :: zTT) rm_J0_length_8abf5).room M_J0_length_8abf5 := ⟨ok_J0_length_8abf5, fo_J0, List.forall_mem_cons.mpr ⟨ca_J0_length_8abf5_0 l, fun _ h => absurd h List.not_mem_nil⟩, fun _ h => absurd h List.not_mem_nil, fun _ h => absurd h List.not_mem_nil, fun _ h => absurd h List.not_mem_nil, fun _ h => absurd h List.not_mem_nil, rfl, rfl, fun _ h => absurd h List.not_mem_nil⟩
theorem c_J0_length_8abf5 (l : Launch) : z_CS l yJ0_length_8abf5 cJ0_length_8abf5 1 (some .int) rm_J0_length_8abf5 sp_J0_length_8abf5 := by
  refine z_methF (by decide +kernel) (Or.inr (Or.inl ⟨rfl, rfl⟩)) (fun h => by cases h) rfl (O_J0_length_8abf5 l) ?_
  intro av w K h
  match av, h with
  | [s], h =>
    obtain ⟨n, f, hs0, h⟩ := h
    obtain ⟨G, wi, wl⟩ := w
    rcases StrV_cases hs0 with ⟨u, rfl, v, hU, hc, hV, -⟩ | ⟨rfl, rfl, rfl⟩ | ⟨rfl, rfl, rfl⟩ | ⟨rfl, rfl, rfl⟩
    · dsimp only at hU hc hV
      refine ⟨Nat.le_of_ble_eq_true rfl, fun Jm hs => hs 400 0 _ _ _ _ _ ?_⟩
      conv => whnf
      repeat ((first | rw [hU] | rw [hV] | rw [rcv4 hU] | refine ⟨trivial, ?_⟩ | refine ⟨rfl, ?_⟩ | refine ⟨fun hc => absurd hc (by decide), fun _ => ?_⟩ | refine ⟨fun _ => ?_, fun hc => absurd (by decide) hc⟩ | refine ⟨fun _ => ?_, fun hc => absurd hc (by decide)⟩ | refine ⟨fun hc => absurd (by decide) hc, fun _ => ?_⟩ | refine ⟨Or.inr rfl, ?_⟩ | refine ⟨Or.inl rfl, ?_⟩ | refine ⟨fun hq => absurd (by assumption) hq, fun _ => ?_⟩ | refine ⟨fun _ => ?_, fun hq => absurd (by assumption) hq⟩ | refine ⟨fun hq => absurd hq (by assumption), fun _ => ?_⟩ | refine ⟨fun _ => ?_, fun hq => absurd hq (by assumption)⟩); conv => whnf)
      try dsimp only
      rw [hc]
      refine ⟨(by decide : vp_nar .byte (nI 0) = nI 0), ?_⟩
      conv => whnf
      repeat ((first | rw [hU] | rw [hV] | rw [hc] | refine ⟨trivial, ?_⟩ | refine ⟨rfl, ?_⟩ | refine ⟨fun hc => absurd hc (by decide), fun _ => ?_⟩ | refine ⟨fun _ => ?_, fun hc => absurd (by decide) hc⟩ | refine ⟨fun _ => ?_, fun hc => absurd hc (by decide)⟩ | refine ⟨fun hc => absurd (by decide) hc, fun _ => ?_⟩ | refine ⟨Or.inr rfl, ?_⟩ | refine ⟨Or.inl rfl, ?_⟩ | refine ⟨fun hq => absurd (by assumption) hq, fun _ => ?_⟩ | refine ⟨fun _ => ?_, fun hq => absurd (by assumption) hq⟩ | refine ⟨fun hq => absurd hq (by assumption), fun _ => ?_⟩ | refine ⟨fun _ => ?_, fun hq => absurd hq (by assumption)⟩); conv => whnf)
      try dsimp only
      rw [sar0]
      exact h
    · refine ⟨Nat.le_of_ble_eq_true rfl, fun Jm hs => hs 400 0 _ _ _ _ _ ?_⟩
      conv => whnf
      repeat ((first | refine ⟨trivial, ?_⟩ | refine ⟨rfl, ?_⟩ | refine ⟨fun hc => absurd hc (by decide), fun _ => ?_⟩ | refine ⟨fun _ => ?_, fun hc => absurd (by decide) hc⟩ | refine ⟨fun _ => ?_, fun hc => absurd hc (by decide)⟩ | refine ⟨fun hc => absurd (by decide) hc, fun _ => ?_⟩ | refine ⟨Or.inr rfl, ?_⟩ | refine ⟨Or.inl rfl, ?_⟩ | refine ⟨fun hq => absurd (by assumption) hq, fun _ => ?_⟩ | refine ⟨fun _ => ?_, fun hq => absurd (by assumption) hq⟩ | refine ⟨fun hq => absurd hq (by assumption), fun _ => ?_⟩ | refine ⟨fun _ => ?_, fun hq => absurd hq (by assumption)⟩); conv => whnf)
      try dsimp only
      exact h
    · refine ⟨Nat.le_of_ble_eq_true rfl, fun Jm hs => hs 400 0 _ _ _ _ _ ?_⟩
      conv => whnf
      repeat ((first | refine ⟨trivial, ?_⟩ | refine ⟨rfl, ?_⟩ | refine ⟨fun hc => absurd hc (by decide), fun _ => ?_⟩ | refine ⟨fun _ => ?_, fun hc => absurd (by decide) hc⟩ | refine ⟨fun _ => ?_, fun hc => absurd hc (by decide)⟩ | refine ⟨fun hc => absurd (by decide) hc, fun _ => ?_⟩ | refine ⟨Or.inr rfl, ?_⟩ | refine ⟨Or.inl rfl, ?_⟩ | refine ⟨fun hq => absurd (by assumption) hq, fun _ => ?_⟩ | refine ⟨fun _ => ?_, fun hq => absurd (by assumption) hq⟩ | refine ⟨fun hq => absurd hq (by assumption), fun _ => ?_⟩ | refine ⟨fun _ => ?_, fun hq => absurd hq (by assumption)⟩); conv => whnf)
      try dsimp only
      exact h
    · refine ⟨Nat.le_of_ble_eq_true rfl, fun Jm hs => hs 400 0 _ _ _ _ _ ?_⟩
      conv => whnf
      repeat ((first | refine ⟨trivial, ?_⟩ | refine ⟨rfl, ?_⟩ | refine ⟨fun hc => absurd hc (by decide), fun _ => ?_⟩ | refine ⟨fun _ => ?_, fun hc => absurd (by decide) hc⟩ | refine ⟨fun _ => ?_, fun hc => absurd hc (by decide)⟩ | refine ⟨fun hc => absurd (by decide) hc, fun _ => ?_⟩ | refine ⟨Or.inr rfl, ?_⟩ | refine ⟨Or.inl rfl, ?_⟩ | refine ⟨fun hq => absurd (by assumption) hq, fun _ => ?_⟩ | refine ⟨fun _ => ?_, fun hq => absurd (by assumption) hq⟩ | refine ⟨fun hq => absurd hq (by assumption), fun _ => ?_⟩ | refine ⟨fun _ => ?_, fun hq => absurd hq (by assumption)⟩); conv => whnf)
      try dsimp only
      exact h
def sp_J3_checkIndex_8e157 : zSp := fun av w K => match av with
  | [.int i, .int n, s] => (s = .null ∨ s = .retAddr 8) ∧ ∃ a c : Nat, i = nI a ∧ n = nI c ∧ a < c ∧ c < 2 ^ 31 ∧ K (some (.int (nI a))) w
  | _ => False
def rm_J3_checkIndex_8e157 : Room := { frames := 0, cells := 0, slots := 0, locals := 0 }
def M_J3_checkIndex_8e157 : zM := (k_J3_checkIndex_8e157, [], [], ([], [], []), [], [], 1, false, (false, 0, fun _ => 0), (0, 0, []))
theorem O_J3_checkIndex_8e157 (l : Launch) : z_OK l RJ3 cJ3_checkIndex_8e157 (headSpec (.code yJ3_checkIndex_8e157 cJ3_checkIndex_8e157 3 (some .int) :: zTT) rm_J3_checkIndex_8e157).room M_J3_checkIndex_8e157 := ⟨ok_J3_checkIndex_8e157, fun _ h => absurd h List.not_mem_nil, fun _ h => absurd h List.not_mem_nil, fun _ h => absurd h List.not_mem_nil, fun _ h => absurd h List.not_mem_nil, fun _ h => absurd h List.not_mem_nil, fun _ h => absurd h List.not_mem_nil, rfl, rfl, fun _ h => absurd h List.not_mem_nil⟩
theorem c_J3_checkIndex_8e157 (l : Launch) : z_CS l yJ3_checkIndex_8e157 cJ3_checkIndex_8e157 3 (some .int) rm_J3_checkIndex_8e157 sp_J3_checkIndex_8e157 := by
  refine z_methF (by decide +kernel) (Or.inr (Or.inl ⟨rfl, rfl⟩)) (fun h => by cases h) rfl (O_J3_checkIndex_8e157 l) ?_
  intro av w K h
  match av, h with
  | [.int i, .int n, s], h =>
    obtain ⟨hs0, a, c, rfl, rfl, hac, hc, h⟩ := h
    have g1 : ¬ nI a < nI 0 := nI_nlt (Nat.zero_le _) (by omega)
    have g2 : nI a < nI c := nI_lt hac hc
    rcases hs0 with rfl | rfl
    · refine ⟨Nat.le_of_ble_eq_true rfl, fun Jm hs => hs 400 0 _ _ _ _ _ ?_⟩
      conv => whnf
      repeat ((first | refine ⟨trivial, ?_⟩ | refine ⟨rfl, ?_⟩ | refine ⟨fun hc => absurd hc (by decide), fun _ => ?_⟩ | refine ⟨fun _ => ?_, fun hc => absurd (by decide) hc⟩ | refine ⟨fun _ => ?_, fun hc => absurd hc (by decide)⟩ | refine ⟨fun hc => absurd (by decide) hc, fun _ => ?_⟩ | refine ⟨Or.inr rfl, ?_⟩ | refine ⟨Or.inl rfl, ?_⟩ | refine ⟨fun hq => absurd (by assumption) hq, fun _ => ?_⟩ | refine ⟨fun _ => ?_, fun hq => absurd (by assumption) hq⟩ | refine ⟨fun hq => absurd hq (by assumption), fun _ => ?_⟩ | refine ⟨fun _ => ?_, fun hq => absurd hq (by assumption)⟩); conv => whnf)
      try dsimp only
      exact h
    · refine ⟨Nat.le_of_ble_eq_true rfl, fun Jm hs => hs 400 0 _ _ _ _ _ ?_⟩
      conv => whnf
      repeat ((first | refine ⟨trivial, ?_⟩ | refine ⟨rfl, ?_⟩ | refine ⟨fun hc => absurd hc (by decide), fun _ => ?_⟩ | refine ⟨fun _ => ?_, fun hc => absurd (by decide) hc⟩ | refine ⟨fun _ => ?_, fun hc => absurd hc (by decide)⟩ | refine ⟨fun hc => absurd (by decide) hc, fun _ => ?_⟩ | refine ⟨Or.inr rfl, ?_⟩ | refine ⟨Or.inl rfl, ?_⟩ | refine ⟨fun hq => absurd (by assumption) hq, fun _ => ?_⟩ | refine ⟨fun _ => ?_, fun hq => absurd (by assumption) hq⟩ | refine ⟨fun hq => absurd hq (by assumption), fun _ => ?_⟩ | refine ⟨fun _ => ?_, fun hq => absurd hq (by assumption)⟩); conv => whnf)
      try dsimp only
      exact h
def sp_J0_checkIndex_df160 : zSp := fun av w K => match av with
  | [.int i, .int n] => ∃ a c : Nat, i = nI a ∧ n = nI c ∧ a < c ∧ c < 2 ^ 31 ∧ K none w
  | _ => False
def rm_J0_checkIndex_df160 : Room := { frames := 1, cells := 0, slots := 0, locals := 22 }
def M_J0_checkIndex_df160 : zM := (k_J0_checkIndex_df160, f_J0, [(1059, 0, 0, 3, 0, 0, sp_J3_checkIndex_8e157)], ([], [], []), [], [], 0, false, (false, 0, fun _ => 0), (0, 0, [(1053, .long 0)]))
theorem ca_J0_checkIndex_df160_0 (l : Launch) : z_cok l RJ0 (headSpec (.code yJ0_checkIndex_df160 cJ0_checkIndex_df160 2 none :: zTT) rm_J0_checkIndex_df160).room (false, 0, fun _ => 0) (1059, 0, 0, 3, 0, 0, sp_J3_checkIndex_8e157) := z_ca0 (c_J3_checkIndex_8e157 l) mb_J3_checkIndex_8e157 wt_982 wt_983 (by decide)
theorem O_J0_checkIndex_df160 (l : Launch) : z_OK l RJ0 cJ0_checkIndex_df160 (headSpec (.code yJ0_checkIndex_df160 cJ0_checkIndex_df160 2 none :: zTT) rm_J0_checkIndex_df160).room M_J0_checkIndex_df160 := ⟨ok_J0_checkIndex_df160, fo_J0, List.forall_mem_cons.mpr ⟨ca_J0_checkIndex_df160_0 l, fun _ h => absurd h List.not_mem_nil⟩, fun _ h => absurd h List.not_mem_nil, fun _ h => absurd h List.not_mem_nil, fun _ h => absurd h List.not_mem_nil, fun _ h => absurd h List.not_mem_nil, rfl, rfl, List.forall_mem_cons.mpr ⟨(zTT_in (by decide +kernel) rfl), fun _ h => absurd h List.not_mem_nil⟩⟩
theorem c_J0_checkIndex_df160 (l : Launch) : z_CS l yJ0_checkIndex_df160 cJ0_checkIndex_df160 2 none rm_J0_checkIndex_df160 sp_J0_checkIndex_df160 := by
  refine z_methF (by decide +kernel) (Or.inl ⟨rfl, rfl⟩) (fun h => by cases h) rfl (O_J0_checkIndex_df160 l) ?_
  intro av w K h
  match av, h with
  | [.int i, .int n], h =>
    obtain ⟨a, c, rfl, rfl, hac, hc, h⟩ := h
    refine ⟨Nat.le_of_ble_eq_true rfl, fun Jm hs => hs 400 0 _ _ _ _ _ ?_⟩
    conv => whnf
    refine ⟨?_, ?_⟩
    · conv => whnf
      repeat ((first | refine ⟨zG_of _, ?_⟩ | refine ⟨trivial, ?_⟩ | refine ⟨rfl, ?_⟩ | refine ⟨fun hc => absurd hc (by decide), fun _ => ?_⟩ | refine ⟨fun _ => ?_, fun hc => absurd (by decide) hc⟩ | refine ⟨fun _ => ?_, fun hc => absurd hc (by decide)⟩ | refine ⟨fun hc => absurd (by decide) hc, fun _ => ?_⟩); conv => whnf)
      try dsimp only
      refine ⟨Or.inl rfl, a, c, rfl, rfl, hac, hc, ?_⟩
      conv => whnf
      repeat ((first | refine ⟨zG_of _, ?_⟩ | refine ⟨trivial, ?_⟩ | refine ⟨rfl, ?_⟩ | refine ⟨fun hc => absurd hc (by decide), fun _ => ?_⟩ | refine ⟨fun _ => ?_, fun hc => absurd (by decide) hc⟩ | refine ⟨fun _ => ?_, fun hc => absurd hc (by decide)⟩ | refine ⟨fun hc => absurd (by decide) hc, fun _ => ?_⟩); conv => whnf)
      try dsimp only
      exact h
    · conv => whnf
      repeat ((first | refine ⟨zG_of _, ?_⟩ | refine ⟨trivial, ?_⟩ | refine ⟨rfl, ?_⟩ | refine ⟨fun hc => absurd hc (by decide), fun _ => ?_⟩ | refine ⟨fun _ => ?_, fun hc => absurd (by decide) hc⟩ | refine ⟨fun _ => ?_, fun hc => absurd hc (by decide)⟩ | refine ⟨fun hc => absurd (by decide) hc, fun _ => ?_⟩); conv => whnf)
      try dsimp only
      refine ⟨Or.inr rfl, a, c, rfl, rfl, hac, hc, ?_⟩
      conv => whnf
      repeat ((first | refine ⟨zG_of _, ?_⟩ | refine ⟨trivial, ?_⟩ | refine ⟨rfl, ?_⟩ | refine ⟨fun hc => absurd hc (by decide), fun _ => ?_⟩ | refine ⟨fun _ => ?_, fun hc => absurd (by decide) hc⟩ | refine ⟨fun _ => ?_, fun hc => absurd hc (by decide)⟩ | refine ⟨fun hc => absurd (by decide) hc, fun _ => ?_⟩); conv => whnf)
      try dsimp only
      exact h
def sp_J1_charAt_3b067 : zSp := fun av w K => match av with
  | [.ref v, .int i] => ∃ (N n k : Nat) (f : Nat → Nat), BA w v N n f ∧ i = nI k ∧ k < n ∧ N ≤ 300 ∧ K (some (.int (nI (f k)))) w
  | _ => False
def rm_J1_charAt_3b067 : Room := { frames := 2, cells := 0, slots := 0, locals := 43 }
def M_J1_charAt_3b067 : zM := (k_J1_charAt_3b067, [], [(9, 0, 0, 2, 0, 0, sp_J0_checkIndex_df160)], ([], [], []), [], [], 6, false, (false, 0, fun _ => 0), (0, 0, []))
theorem ca_J1_charAt_3b067_0 (l : Launch) : z_cok l RJ1 (headSpec (.code yJ1_charAt_3b067 cJ1_charAt_3b067 2 (some .char) :: zTT) rm_J1_charAt_3b067).room (false, 0, fun _ => 0) (9, 0, 0, 2, 0, 0, sp_J0_checkIndex_df160) := z_ca0 (c_J0_checkIndex_df160 l) mb_J0_checkIndex_df160 wt_977 wt_978 (by decide)
theorem O_J1_charAt_3b067 (l : Launch) : z_OK l RJ1 cJ1_charAt_3b067 (headSpec (.code yJ1_charAt_3b067 cJ1_charAt_3b067 2 (some .char) :: zTT) rm_J1_charAt_3b067).room M_J1_charAt_3b067 := ⟨ok_J1_charAt_3b067, fun _ h => absurd h List.not_mem_nil, List.forall_mem_cons.mpr ⟨ca_J1_charAt_3b067_0 l, fun _ h => absurd h List.not_mem_nil⟩, fun _ h => absurd h List.not_mem_nil, fun _ h => absurd h List.not_mem_nil, fun _ h => absurd h List.not_mem_nil, fun _ h => absurd h List.not_mem_nil, rfl, rfl, fun _ h => absurd h List.not_mem_nil⟩
theorem c_J1_charAt_3b067 (l : Launch) : z_CS l yJ1_charAt_3b067 cJ1_charAt_3b067 2 (some .char) rm_J1_charAt_3b067 sp_J1_charAt_3b067 := by
  refine z_methF (by decide +kernel) (Or.inr (Or.inr (Or.inr (Or.inr (Or.inr (Or.inr (⟨rfl, rfl⟩))))))) (fun h => by cases h) rfl (O_J1_charAt_3b067 l) ?_
  intro av w K h
  match av, h with
  | [.ref (v : Nat), .int i], h =>
    obtain ⟨N, n, k, f, ⟨hV, hn, hf, -⟩, rfl, hk, hN, h⟩ := h
    obtain ⟨G, wi, wl⟩ := w
    dsimp only at hV hf
    refine ⟨Nat.le_of_ble_eq_true rfl, fun Jm hs => hs 400 0 _ _ _ _ _ ?_⟩
    conv => whnf
    repeat ((first | rw [hV] | refine ⟨trivial, ?_⟩ | refine ⟨rfl, ?_⟩ | refine ⟨fun hc => absurd hc (by decide), fun _ => ?_⟩ | refine ⟨fun _ => ?_, fun hc => absurd (by decide) hc⟩ | refine ⟨fun _ => ?_, fun hc => absurd hc (by decide)⟩ | refine ⟨fun hc => absurd (by decide) hc, fun _ => ?_⟩ | refine ⟨Or.inr rfl, ?_⟩ | refine ⟨Or.inl rfl, ?_⟩ | refine ⟨fun hq => absurd (by assumption) hq, fun _ => ?_⟩ | refine ⟨fun _ => ?_, fun hq => absurd (by assumption) hq⟩ | refine ⟨fun hq => absurd hq (by assumption), fun _ => ?_⟩ | refine ⟨fun _ => ?_, fun hq => absurd hq (by assumption)⟩); conv => whnf)
    try dsimp only
    refine ⟨k, N, rfl, rfl, by omega, by omega, ?_⟩
    conv => whnf
    repeat ((first | rw [hV] | refine ⟨trivial, ?_⟩ | refine ⟨rfl, ?_⟩ | refine ⟨fun hc => absurd hc (by decide), fun _ => ?_⟩ | refine ⟨fun _ => ?_, fun hc => absurd (by decide) hc⟩ | refine ⟨fun _ => ?_, fun hc => absurd hc (by decide)⟩ | refine ⟨fun hc => absurd (by decide) hc, fun _ => ?_⟩ | refine ⟨Or.inr rfl, ?_⟩ | refine ⟨Or.inl rfl, ?_⟩ | refine ⟨fun hq => absurd (by assumption) hq, fun _ => ?_⟩ | refine ⟨fun _ => ?_, fun hq => absurd (by assumption) hq⟩ | refine ⟨fun hq => absurd hq (by assumption), fun _ => ?_⟩ | refine ⟨fun _ => ?_, fun hq => absurd hq (by assumption)⟩); conv => whnf)
    try dsimp only
    refine ⟨vp_in_nI (by omega) (by omega), ?_⟩
    conv => whnf
    repeat ((first | rw [hV] | refine ⟨trivial, ?_⟩ | refine ⟨rfl, ?_⟩ | refine ⟨fun hc => absurd hc (by decide), fun _ => ?_⟩ | refine ⟨fun _ => ?_, fun hc => absurd (by decide) hc⟩ | refine ⟨fun _ => ?_, fun hc => absurd hc (by decide)⟩ | refine ⟨fun hc => absurd (by decide) hc, fun _ => ?_⟩ | refine ⟨Or.inr rfl, ?_⟩ | refine ⟨Or.inl rfl, ?_⟩ | refine ⟨fun hq => absurd (by assumption) hq, fun _ => ?_⟩ | refine ⟨fun _ => ?_, fun hq => absurd (by assumption) hq⟩ | refine ⟨fun hq => absurd hq (by assumption), fun _ => ?_⟩ | refine ⟨fun _ => ?_, fun hq => absurd hq (by assumption)⟩); conv => whnf)
    try dsimp only
    rw [nI_clamp (by omega), (hf k hk).1, (fits_lt (hf k hk).2).2.2.2.1]
    exact ⟨(fits_lt (hf k hk).2).2.2.2.2, h⟩
def sp_J0_charAt_5068e : zSp := fun av w K => match av with
  | [.ref u, .int i] => ∃ (n k : Nat) (f : Nat → Nat), ST w u n f ∧ i = nI k ∧ k < n ∧ n ≤ 300 ∧ K (some (.int (nI (f k)))) w
  | _ => False
def rm_J0_charAt_5068e : Room := { frames := 3, cells := 0, slots := 0, locals := 64 }
def M_J0_charAt_5068e : zM := (k_J0_charAt_5068e, f_J0, [(492, 4, 10, 1, 0, 0, sp_J0_isLatin1_aae02), (495, 0, 0, 2, 0, 0, sp_J1_charAt_3b067)], ([], [], []), [], [], 6, false, (false, 0, fun _ => 0), (0, 0, []))
theorem ca_J0_charAt_5068e_0 (l : Launch) : z_cok l RJ0 (headSpec (.code yJ0_charAt_5068e cJ0_charAt_5068e 2 (some .char) :: zTT) rm_J0_charAt_5068e).room (false, 0, fun _ => 0) (492, 4, 10, 1, 0, 0, sp_J0_isLatin1_aae02) := z_ca4 (c_J0_isLatin1_aae02 l) mb_J0_isLatin1_aae02 ⟨_, rfl, rfl⟩ wt_970 wt_971 wt_972 (by decide)
theorem ca_J0_charAt_5068e_1 (l : Launch) : z_cok l RJ0 (headSpec (.code yJ0_charAt_5068e cJ0_charAt_5068e 2 (some .char) :: zTT) rm_J0_charAt_5068e).room (false, 0, fun _ => 0) (495, 0, 0, 2, 0, 0, sp_J1_charAt_3b067) := z_ca0 (c_J1_charAt_3b067 l) mb_J1_charAt_3b067 wt_974 wt_975 (by decide)
theorem O_J0_charAt_5068e (l : Launch) : z_OK l RJ0 cJ0_charAt_5068e (headSpec (.code yJ0_charAt_5068e cJ0_charAt_5068e 2 (some .char) :: zTT) rm_J0_charAt_5068e).room M_J0_charAt_5068e := ⟨ok_J0_charAt_5068e, fo_J0, List.forall_mem_cons.mpr ⟨ca_J0_charAt_5068e_0 l, List.forall_mem_cons.mpr ⟨ca_J0_charAt_5068e_1 l, fun _ h => absurd h List.not_mem_nil⟩⟩, fun _ h => absurd h List.not_mem_nil, fun _ h => absurd h List.not_mem_nil, fun _ h => absurd h List.not_mem_nil, fun _ h => absurd h List.not_mem_nil, rfl, rfl, fun _ h => absurd h List.not_mem_nil⟩
theorem c_J0_charAt_5068e (l : Launch) : z_CS l yJ0_charAt_5068e cJ0_charAt_5068e 2 (some .char) rm_J0_charAt_5068e sp_J0_charAt_5068e := by
  refine z_methF (by decide +kernel) (Or.inr (Or.inr (Or.inr (Or.inr (Or.inr (Or.inr (⟨rfl, rfl⟩))))))) (fun h => by cases h) rfl (O_J0_charAt_5068e l) ?_
  intro av w K h
  match av, h with
  | [.ref (u : Nat), .int i], h =>
    obtain ⟨n, k, f, ⟨v, hU, hc, hB⟩, rfl, hk, hn, h⟩ := h
    have hB0 := hB
    obtain ⟨hV, -, hf, -⟩ := hB
    obtain ⟨G, wi, wl⟩ := w
    dsimp only at hU hc hV hf
    refine ⟨Nat.le_of_ble_eq_true rfl, fun Jm hs => hs 400 0 _ _ _ _ _ ?_⟩
    conv => whnf
    repeat ((first | rw [hU] | rw [rcv4 hU] | refine ⟨trivial, ?_⟩ | refine ⟨rfl, ?_⟩ | refine ⟨fun hc => absurd hc (by decide), fun _ => ?_⟩ | refine ⟨fun _ => ?_, fun hc => absurd (by decide) hc⟩ | refine ⟨fun _ => ?_, fun hc => absurd hc (by decide)⟩ | refine ⟨fun hc => absurd (by decide) hc, fun _ => ?_⟩ | refine ⟨Or.inr rfl, ?_⟩ | refine ⟨Or.inl rfl, ?_⟩ | refine ⟨fun hq => absurd (by assumption) hq, fun _ => ?_⟩ | refine ⟨fun _ => ?_, fun hq => absurd (by assumption) hq⟩ | refine ⟨fun hq => absurd hq (by assumption), fun _ => ?_⟩ | refine ⟨fun _ => ?_, fun hq => absurd hq (by assumption)⟩); conv => whnf)
    try dsimp only
    refine ⟨n, n, k, f, hB0, rfl, hk, hn, ?_⟩
    conv => whnf
    repeat ((first | rw [hU] | refine ⟨trivial, ?_⟩ | refine ⟨rfl, ?_⟩ | refine ⟨fun hc => absurd hc (by decide), fun _ => ?_⟩ | refine ⟨fun _ => ?_, fun hc => absurd (by decide) hc⟩ | refine ⟨fun _ => ?_, fun hc => absurd hc (by decide)⟩ | refine ⟨fun hc => absurd (by decide) hc, fun _ => ?_⟩ | refine ⟨Or.inr rfl, ?_⟩ | refine ⟨Or.inl rfl, ?_⟩ | refine ⟨fun hq => absurd (by assumption) hq, fun _ => ?_⟩ | refine ⟨fun _ => ?_, fun hq => absurd (by assumption) hq⟩ | refine ⟨fun hq => absurd hq (by assumption), fun _ => ?_⟩ | refine ⟨fun _ => ?_, fun hq => absurd hq (by assumption)⟩); conv => whnf)
    try dsimp only
    exact ⟨(fits_lt (hf k hk).2).2.2.2.2, h⟩
/-- n letters of f are written from place k on -/
def Wrt (wi wi' : Nat → Nat → Int32) (d k n : Nat) (f : Nat → Nat) : Prop := (∀ x, x ≠ d → wi' x = wi x) ∧ ∀ j, wi' d j = if k ≤ j ∧ j < k + n then nI (f (j - k)) else wi d j
def sp_J0_getBytes_840e7 : zSp := fun av w K => match av with
  | [s, .ref d, .int at', .int c] => ∃ (n k N : Nat) (f : Nat → Nat), StrV w s n f ∧ z_nth w.1 d = some (.inr (2, N)) ∧ at' = nI k ∧ c = nI 0 ∧ k + n ≤ N ∧ N ≤ 300 ∧ ∀ wi', Wrt w.2.1 wi' d k n f → K none (w.1, wi', w.2.2)
  | _ => False
theorem wrt_cpy {wi : Nat → Nat → Int32} {d k n : Nat} {f : Nat → Nat} {g : Nat → Int32} (hg : ∀ j, j < n → g j = nI (f j)) : Wrt wi (z_row wi d (va_cpy g (wi d) 0 k n)) d k n f := by
  refine ⟨fun x hx => z_row_ne hx, fun j => ?_⟩
  unfold z_row va_cpy
  rw [if_pos rfl]
  by_cases q : k ≤ j ∧ j < k + n
  · rw [if_pos q, if_pos q, Nat.zero_add, hg _ (by omega)]
  · rw [if_neg q, if_neg q]
def rm_J0_getBytes_840e7 : Room := { frames := 1, cells := 0, slots := 0, locals := 26 }
def M_J0_getBytes_840e7 : zM := (k_J0_getBytes_840e7, f_J0, [(335, 4, 10, 1, 0, 0, sp_J0_coder_7d493), (212, 7, 0, 5, 0, 0, sp_none)], ([], [], []), [], [], 0, false, (false, 0, fun _ => 0), (0, 0, []))
theorem ca_J0_getBytes_840e7_0 (l : Launch) : z_cok l RJ0 (headSpec (.code yJ0_getBytes_840e7 cJ0_getBytes_840e7 4 none :: zTT) rm_J0_getBytes_840e7).room (false, 0, fun _ => 0) (335, 4, 10, 1, 0, 0, sp_J0_coder_7d493) := z_ca4 (c_J0_coder_7d493 l) mb_J0_coder_7d493 ⟨_, rfl, rfl⟩ wt_960 wt_961 wt_962 (by decide)
theorem ca_J0_getBytes_840e7_1 (l : Launch) : z_cok l RJ0 (headSpec (.code yJ0_getBytes_840e7 cJ0_getBytes_840e7 4 none :: zTT) rm_J0_getBytes_840e7).room (false, 0, fun _ => 0) (212, 7, 0, 5, 0, 0, sp_none) := z_ca7 (zTT_in (by decide +kernel) rfl) (by decide)
theorem O_J0_getBytes_840e7 (l : Launch) : z_OK l RJ0 cJ0_getBytes_840e7 (headSpec (.code yJ0_getBytes_840e7 cJ0_getBytes_840e7 4 none :: zTT) rm_J0_getBytes_840e7).room M_J0_getBytes_840e7 := ⟨ok_J0_getBytes_840e7, fo_J0, List.forall_mem_cons.mpr ⟨ca_J0_getBytes_840e7_0 l, List.forall_mem_cons.mpr ⟨ca_J0_getBytes_840e7_1 l, fun _ h => absurd h List.not_mem_nil⟩⟩, fun _ h => absurd h List.not_mem_nil, fun _ h => absurd h List.not_mem_nil, fun _ h => absurd h List.not_mem_nil, fun _ h => absurd h List.not_mem_nil, rfl, rfl, fun _ h => absurd h List.not_mem_nil⟩
theorem c_J0_getBytes_840e7 (l : Launch) : z_CS l yJ0_getBytes_840e7 cJ0_getBytes_840e7 4 none rm_J0_getBytes_840e7 sp_J0_getBytes_840e7 := by
  refine z_methF (by decide +kernel) (Or.inl ⟨rfl, rfl⟩) (fun h => by cases h) rfl (O_J0_getBytes_840e7 l) ?_
  intro av w K h
  match av, h with
  | [s, .ref (d : Nat), .int at', .int c], h =>
    obtain ⟨n, k, N, f, hs0, hD, rfl, rfl, hkn, hN, h⟩ := h
    obtain ⟨G, wi, wl⟩ := w
    dsimp only at hD h
    rcases StrV_cases hs0 with ⟨u, rfl, v, hU, hc, hV, -, hf, hF⟩ | ⟨rfl, rfl, rfl⟩ | ⟨rfl, rfl, rfl⟩ | ⟨rfl, rfl, rfl⟩
    · dsimp only at hU hc hV hf hF
      refine ⟨Nat.le_of_ble_eq_true rfl, fun Jm hs => hs 400 0 _ _ _ _ _ ?_⟩
      conv => whnf
      repeat ((first | rw [hU] | rw [hV] | rw [hD] | rw [rcv4 hU] | refine ⟨trivial, ?_⟩ | refine ⟨rfl, ?_⟩ | refine ⟨fun hc => absurd hc (by decide), fun _ => ?_⟩ | refine ⟨fun _ => ?_, fun hc => absurd (by decide) hc⟩ | refine ⟨fun _ => ?_, fun hc => absurd hc (by decide)⟩ | refine ⟨fun hc => absurd (by decide) hc, fun _ => ?_⟩ | refine ⟨Or.inr rfl, ?_⟩ | refine ⟨Or.inl rfl, ?_⟩ | refine ⟨fun hq => absurd (by assumption) hq, fun _ => ?_⟩ | refine ⟨fun _ => ?_, fun hq => absurd (by assumption) hq⟩ | refine ⟨fun hq => absurd hq (by assumption), fun _ => ?_⟩ | refine ⟨fun _ => ?_, fun hq => absurd hq (by assumption)⟩); conv => whnf)
      try dsimp only
      rw [hc]
      refine ⟨(by decide : vp_nar .byte (nI 0) = nI 0), ?_⟩
      conv => whnf
      repeat ((first | rw [hU] | rw [hV] | rw [hD] | refine ⟨trivial, ?_⟩ | refine ⟨rfl, ?_⟩ | refine ⟨fun hc => absurd hc (by decide), fun _ => ?_⟩ | refine ⟨fun _ => ?_, fun hc => absurd (by decide) hc⟩ | refine ⟨fun _ => ?_, fun hc => absurd hc (by decide)⟩ | refine ⟨fun hc => absurd (by decide) hc, fun _ => ?_⟩ | refine ⟨Or.inr rfl, ?_⟩ | refine ⟨Or.inl rfl, ?_⟩ | refine ⟨fun hq => absurd (by assumption) hq, fun _ => ?_⟩ | refine ⟨fun _ => ?_, fun hq => absurd (by assumption) hq⟩ | refine ⟨fun hq => absurd hq (by assumption), fun _ => ?_⟩ | refine ⟨fun _ => ?_, fun hq => absurd hq (by assumption)⟩); conv => whnf)
      try dsimp only
      rw [shl0, nI_clamp (show n < 2 ^ 31 by omega), nI_clamp (show k < 2 ^ 31 by omega), nI_clamp (show 0 < 2 ^ 31 by decide)]
      refine ⟨⟨nI_pos (by decide), nI_pos (by omega), nI_pos (by omega), by omega, hkn, fun i hi => ?_⟩, ?_⟩
      · rw [Nat.zero_add]
        exact hF i hi
      · conv => whnf
        repeat ((first | rw [hU] | rw [hV] | rw [hD] | refine ⟨trivial, ?_⟩ | refine ⟨rfl, ?_⟩ | refine ⟨fun hc => absurd hc (by decide), fun _ => ?_⟩ | refine ⟨fun _ => ?_, fun hc => absurd (by decide) hc⟩ | refine ⟨fun _ => ?_, fun hc => absurd hc (by decide)⟩ | refine ⟨fun hc => absurd (by decide) hc, fun _ => ?_⟩ | refine ⟨Or.inr rfl, ?_⟩ | refine ⟨Or.inl rfl, ?_⟩ | refine ⟨fun hq => absurd (by assumption) hq, fun _ => ?_⟩ | refine ⟨fun _ => ?_, fun hq => absurd (by assumption) hq⟩ | refine ⟨fun hq => absurd hq (by assumption), fun _ => ?_⟩ | refine ⟨fun _ => ?_, fun hq => absurd hq (by assumption)⟩); conv => whnf)
        try dsimp only
        exact h _ (wrt_cpy fun j hj => (hf j hj).1)
    · refine ⟨Nat.le_of_ble_eq_true rfl, fun Jm hs => hs 400 0 _ _ _ _ _ ?_⟩
      conv => whnf
      repeat ((first | rw [hD] | refine ⟨trivial, ?_⟩ | refine ⟨rfl, ?_⟩ | refine ⟨fun hc => absurd hc (by decide), fun _ => ?_⟩ | refine ⟨fun _ => ?_, fun hc => absurd (by decide) hc⟩ | refine ⟨fun _ => ?_, fun hc => absurd hc (by decide)⟩ | refine ⟨fun hc => absurd (by decide) hc, fun _ => ?_⟩ | refine ⟨Or.inr rfl, ?_⟩ | refine ⟨Or.inl rfl, ?_⟩ | refine ⟨fun hq => absurd (by assumption) hq, fun _ => ?_⟩ | refine ⟨fun _ => ?_, fun hq => absurd (by assumption) hq⟩ | refine ⟨fun hq => absurd hq (by assumption), fun _ => ?_⟩ | refine ⟨fun _ => ?_, fun hq => absurd hq (by assumption)⟩); conv => whnf)
      try dsimp only
      rw [shl0, nI_clamp (show k < 2 ^ 31 by omega), nI_clamp (show 0 < 2 ^ 31 by decide), show (nI (z_cl (z_cv1 1)).length).toNatClampNeg = 1 by decide]
      refine ⟨⟨nI_pos (by decide), nI_pos (by omega), by decide, by decide, hkn⟩, ?_⟩
      conv => whnf
      repeat ((first | rw [hD] | refine ⟨trivial, ?_⟩ | refine ⟨rfl, ?_⟩ | refine ⟨fun hc => absurd hc (by decide), fun _ => ?_⟩ | refine ⟨fun _ => ?_, fun hc => absurd (by decide) hc⟩ | refine ⟨fun _ => ?_, fun hc => absurd hc (by decide)⟩ | refine ⟨fun hc => absurd (by decide) hc, fun _ => ?_⟩ | refine ⟨Or.inr rfl, ?_⟩ | refine ⟨Or.inl rfl, ?_⟩ | refine ⟨fun hq => absurd (by assumption) hq, fun _ => ?_⟩ | refine ⟨fun _ => ?_, fun hq => absurd (by assumption) hq⟩ | refine ⟨fun hq => absurd hq (by assumption), fun _ => ?_⟩ | refine ⟨fun _ => ?_, fun hq => absurd hq (by assumption)⟩); conv => whnf)
      try dsimp only
      exact h _ (wrt_cpy fun j hj => by match j, hj with
        | 0, _ => decide)
    · refine ⟨Nat.le_of_ble_eq_true rfl, fun Jm hs => hs 400 0 _ _ _ _ _ ?_⟩
      conv => whnf
      repeat ((first | rw [hD] | refine ⟨trivial, ?_⟩ | refine ⟨rfl, ?_⟩ | refine ⟨fun hc => absurd hc (by decide), fun _ => ?_⟩ | refine ⟨fun _ => ?_, fun hc => absurd (by decide) hc⟩ | refine ⟨fun _ => ?_, fun hc => absurd hc (by decide)⟩ | refine ⟨fun hc => absurd (by decide) hc, fun _ => ?_⟩ | refine ⟨Or.inr rfl, ?_⟩ | refine ⟨Or.inl rfl, ?_⟩ | refine ⟨fun hq => absurd (by assumption) hq, fun _ => ?_⟩ | refine ⟨fun _ => ?_, fun hq => absurd (by assumption) hq⟩ | refine ⟨fun hq => absurd hq (by assumption), fun _ => ?_⟩ | refine ⟨fun _ => ?_, fun hq => absurd hq (by assumption)⟩); conv => whnf)
      try dsimp only
      rw [shl0, nI_clamp (show k < 2 ^ 31 by omega), nI_clamp (show 0 < 2 ^ 31 by decide), show (nI (z_cl (z_cv1 3)).length).toNatClampNeg = 1 by decide]
      refine ⟨⟨nI_pos (by decide), nI_pos (by omega), by decide, by decide, hkn⟩, ?_⟩
      conv => whnf
      repeat ((first | rw [hD] | refine ⟨trivial, ?_⟩ | refine ⟨rfl, ?_⟩ | refine ⟨fun hc => absurd hc (by decide), fun _ => ?_⟩ | refine ⟨fun _ => ?_, fun hc => absurd (by decide) hc⟩ | refine ⟨fun _ => ?_, fun hc => absurd hc (by decide)⟩ | refine ⟨fun hc => absurd (by decide) hc, fun _ => ?_⟩ | refine ⟨Or.inr rfl, ?_⟩ | refine ⟨Or.inl rfl, ?_⟩ | refine ⟨fun hq => absurd (by assumption) hq, fun _ => ?_⟩ | refine ⟨fun _ => ?_, fun hq => absurd (by assumption) hq⟩ | refine ⟨fun hq => absurd hq (by assumption), fun _ => ?_⟩ | refine ⟨fun _ => ?_, fun hq => absurd hq (by assumption)⟩); conv => whnf)
      try dsimp only
      exact h _ (wrt_cpy fun j hj => by match j, hj with
        | 0, _ => decide)
    · refine ⟨Nat.le_of_ble_eq_true rfl, fun Jm hs => hs 400 0 _ _ _ _ _ ?_⟩
      conv => whnf
      repeat ((first | rw [hD] | refine ⟨trivial, ?_⟩ | refine ⟨rfl, ?_⟩ | refine ⟨fun hc => absurd hc (by decide), fun _ => ?_⟩ | refine ⟨fun _ => ?_, fun hc => absurd (by decide) hc⟩ | refine ⟨fun _ => ?_, fun hc => absurd hc (by decide)⟩ | refine ⟨fun hc => absurd (by decide) hc, fun _ => ?_⟩ | refine ⟨Or.inr rfl, ?_⟩ | refine ⟨Or.inl rfl, ?_⟩ | refine ⟨fun hq => absurd (by assumption) hq, fun _ => ?_⟩ | refine ⟨fun _ => ?_, fun hq => absurd (by assumption) hq⟩ | refine ⟨fun hq => absurd hq (by assumption), fun _ => ?_⟩ | refine ⟨fun _ => ?_, fun hq => absurd hq (by assumption)⟩); conv => whnf)
      try dsimp only
      rw [shl0, nI_clamp (show k < 2 ^ 31 by omega), nI_clamp (show 0 < 2 ^ 31 by decide), show (nI (z_cl (z_cv1 5)).length).toNatClampNeg = 2 by decide]
      refine ⟨⟨nI_pos (by decide), nI_pos (by omega), by decide, by decide, hkn⟩, ?_⟩
      conv => whnf
      repeat ((first | rw [hD] | refine ⟨trivial, ?_⟩ | refine ⟨rfl, ?_⟩ | refine ⟨fun hc => absurd hc (by decide), fun _ => ?_⟩ | refine ⟨fun _ => ?_, fun hc => absurd (by decide) hc⟩ | refine ⟨fun _ => ?_, fun hc => absurd hc (by decide)⟩ | refine ⟨fun hc => absurd (by decide) hc, fun _ => ?_⟩ | refine ⟨Or.inr rfl, ?_⟩ | refine ⟨Or.inl rfl, ?_⟩ | refine ⟨fun hq => absurd (by assumption) hq, fun _ => ?_⟩ | refine ⟨fun _ => ?_, fun hq => absurd (by assumption) hq⟩ | refine ⟨fun hq => absurd hq (by assumption), fun _ => ?_⟩ | refine ⟨fun _ => ?_, fun hq => absurd hq (by assumption)⟩); conv => whnf)
      try dsimp only
      exact h _ (wrt_cpy fun j hj => by match j, hj with
        | 0, _ => decide
        | 1, _ => decide)

