/-! a String added to a StringBuilder -/
theorem strV_lt {w : zW} {s : Value} {n : Nat} {f : Nat → Nat} (h : StrV w s n f) : ∀ k, k < n → f k < 128 := by
  intro k hk
  rcases StrV_cases h with ⟨u, rfl, v, -, -, -, -, hf, -⟩ | ⟨rfl, rfl, rfl⟩ | ⟨rfl, rfl, rfl⟩ | ⟨rfl, rfl, rfl⟩
  · exact (hf k hk).2
  · exact (by decide : 42 < 128)
  · exact (by decide : 49 < 128)
  · dsimp only
    split <;> decide
theorem strV_ref {w : zW} {s : Value} {n : Nat} {f : Nat → Nat} (h : StrV w s n f) : (∃ u : Nat, s = .ref u ∧ u < w.1.length) ∨ ∃ c, s = .retAddr c := by
  rcases StrV_cases h with ⟨u, rfl, v, hU, -⟩ | ⟨rfl, -⟩ | ⟨rfl, -⟩ | ⟨rfl, -⟩
  · exact Or.inl ⟨u, rfl, nth_lt hU⟩
  · exact Or.inr ⟨_, rfl⟩
  · exact Or.inr ⟨_, rfl⟩
  · exact Or.inr ⟨_, rfl⟩
theorem st_ext {P : Nat → Prop} {w w' : zW} {u v n : Nat} {f : Nat → Nat} (h : STv w u v n f) (e : Ext P w w') (hu : P u) (hv : P v) : STv w' u v n f := by
  obtain ⟨h1, h2, h3, h4, h5, h6⟩ := h
  refine ⟨(e.2.1 u hu).1.trans h1, by rw [(e.2.1 u hu).2.1]; exact h2, (e.2.1 v hv).1.trans h3, h4, fun k hk => ?_, fun k hk => ?_⟩
  · rw [(e.2.1 v hv).2.1]
    exact h5 k hk
  · rw [(e.2.1 v hv).2.1]
    exact h6 k hk
def sp_J5_inflateIfNeededFor_a7421 : zSp := fun av w K => match av with
  | [.ref o, s] => ∃ (v n : Nat) (f : Nat → Nat), z_nth w.1 o = some (.inl (11, [some (some v), none, none, none])) ∧ w.2.1 o 1 = nI 0 ∧ StrV w s n f ∧ K none w
  | _ => False
def rm_J5_inflateIfNeededFor_a7421 : Room := { frames := 1, cells := 0, slots := 0, locals := 20 }
def M_J5_inflateIfNeededFor_a7421 : zM := (k_J5_inflateIfNeededFor_a7421, f_J5, [(40, 4, 10, 1, 0, 0, sp_J0_coder_7d493)], ([], [], []), [], [], 0, false, (false, 0, fun _ => 0), (0, 0, [(18, .int (nI 1))]))
theorem ca_J5_inflateIfNeededFor_a7421_0 (l : Launch) : z_cok l RJ5 (headSpec (.code yJ5_inflateIfNeededFor_a7421 cJ5_inflateIfNeededFor_a7421 2 none :: zTT) rm_J5_inflateIfNeededFor_a7421).room (false, 0, fun _ => 0) (40, 4, 10, 1, 0, 0, sp_J0_coder_7d493) := z_ca4 (c_J0_coder_7d493 l) mb_J0_coder_7d493 ⟨_, rfl, rfl⟩ wt_1228 wt_961 wt_962 (by decide)
theorem O_J5_inflateIfNeededFor_a7421 (l : Launch) : z_OK l RJ5 cJ5_inflateIfNeededFor_a7421 (headSpec (.code yJ5_inflateIfNeededFor_a7421 cJ5_inflateIfNeededFor_a7421 2 none :: zTT) rm_J5_inflateIfNeededFor_a7421).room M_J5_inflateIfNeededFor_a7421 := ⟨ok_J5_inflateIfNeededFor_a7421, fo_J5, List.forall_mem_cons.mpr ⟨ca_J5_inflateIfNeededFor_a7421_0 l, fun _ h => absurd h List.not_mem_nil⟩, fun _ h => absurd h List.not_mem_nil, fun _ h => absurd h List.not_mem_nil, fun _ h => absurd h List.not_mem_nil, fun _ h => absurd h List.not_mem_nil, rfl, rfl, List.forall_mem_cons.mpr ⟨⟨by decide, (zTT_in (by decide +kernel) rfl)⟩, fun _ h => absurd h List.not_mem_nil⟩⟩
theorem c_J5_inflateIfNeededFor_a7421 (l : Launch) : z_CS l yJ5_inflateIfNeededFor_a7421 cJ5_inflateIfNeededFor_a7421 2 none rm_J5_inflateIfNeededFor_a7421 sp_J5_inflateIfNeededFor_a7421 := by
  refine z_methF (by decide +kernel) (Or.inl ⟨rfl, rfl⟩) (fun h => by cases h) rfl (O_J5_inflateIfNeededFor_a7421 l) ?_
  intro av w K h
  match av, h with
  | [.ref (o : Nat), s], h =>
    obtain ⟨v, n, f, hO, h1, hs0, h⟩ := h
    obtain ⟨G, wi, wl⟩ := w
    dsimp only at hO h1
    rcases StrV_cases hs0 with ⟨u, rfl, v, hU, hc, -⟩ | ⟨rfl, -⟩ | ⟨rfl, -⟩ | ⟨rfl, -⟩
    · dsimp only at hU hc
      refine ⟨Nat.le_of_ble_eq_true rfl, fun Jm hs => hs 400 0 _ _ _ _ _ ?_⟩
      conv => whnf
      repeat ((first | rw [hO] | rw [hU] | rw [rcv4 hU] | refine ⟨trivial, ?_⟩ | refine ⟨rfl, ?_⟩ | refine ⟨fun hc => absurd hc (by decide), fun _ => ?_⟩ | refine ⟨fun _ => ?_, fun hc => absurd (by decide) hc⟩ | refine ⟨fun _ => ?_, fun hc => absurd hc (by decide)⟩ | refine ⟨fun hc => absurd (by decide) hc, fun _ => ?_⟩ | refine ⟨Or.inr rfl, ?_⟩ | refine ⟨Or.inl rfl, ?_⟩ | refine ⟨fun hq => absurd (by assumption) hq, fun _ => ?_⟩ | refine ⟨fun _ => ?_, fun hq => absurd (by assumption) hq⟩ | refine ⟨fun hq => absurd hq (by assumption), fun _ => ?_⟩ | refine ⟨fun _ => ?_, fun hq => absurd hq (by assumption)⟩); conv => whnf)
      try dsimp only
      rw [hc, h1]
      refine ⟨(by decide : vp_nar .byte (nI 0) = nI 0), ?_⟩
      conv => whnf
      repeat ((first | rw [hO] | rw [hU] | refine ⟨trivial, ?_⟩ | refine ⟨rfl, ?_⟩ | refine ⟨fun hc => absurd hc (by decide), fun _ => ?_⟩ | refine ⟨fun _ => ?_, fun hc => absurd (by decide) hc⟩ | refine ⟨fun _ => ?_, fun hc => absurd hc (by decide)⟩ | refine ⟨fun hc => absurd (by decide) hc, fun _ => ?_⟩ | refine ⟨Or.inr rfl, ?_⟩ | refine ⟨Or.inl rfl, ?_⟩ | refine ⟨fun hq => absurd (by assumption) hq, fun _ => ?_⟩ | refine ⟨fun _ => ?_, fun hq => absurd (by assumption) hq⟩ | refine ⟨fun hq => absurd hq (by assumption), fun _ => ?_⟩ | refine ⟨fun _ => ?_, fun hq => absurd hq (by assumption)⟩); conv => whnf)
      try dsimp only
      exact h
    · refine ⟨Nat.le_of_ble_eq_true rfl, fun Jm hs => hs 400 0 _ _ _ _ _ ?_⟩
      conv => whnf
      repeat ((first | rw [hO] | refine ⟨trivial, ?_⟩ | refine ⟨rfl, ?_⟩ | refine ⟨fun hc => absurd hc (by decide), fun _ => ?_⟩ | refine ⟨fun _ => ?_, fun hc => absurd (by decide) hc⟩ | refine ⟨fun _ => ?_, fun hc => absurd hc (by decide)⟩ | refine ⟨fun hc => absurd (by decide) hc, fun _ => ?_⟩ | refine ⟨Or.inr rfl, ?_⟩ | refine ⟨Or.inl rfl, ?_⟩ | refine ⟨fun hq => absurd (by assumption) hq, fun _ => ?_⟩ | refine ⟨fun _ => ?_, fun hq => absurd (by assumption) hq⟩ | refine ⟨fun hq => absurd hq (by assumption), fun _ => ?_⟩ | refine ⟨fun _ => ?_, fun hq => absurd hq (by assumption)⟩); conv => whnf)
      try dsimp only
      exact h
    · refine ⟨Nat.le_of_ble_eq_true rfl, fun Jm hs => hs 400 0 _ _ _ _ _ ?_⟩
      conv => whnf
      repeat ((first | rw [hO] | refine ⟨trivial, ?_⟩ | refine ⟨rfl, ?_⟩ | refine ⟨fun hc => absurd hc (by decide), fun _ => ?_⟩ | refine ⟨fun _ => ?_, fun hc => absurd (by decide) hc⟩ | refine ⟨fun _ => ?_, fun hc => absurd hc (by decide)⟩ | refine ⟨fun hc => absurd (by decide) hc, fun _ => ?_⟩ | refine ⟨Or.inr rfl, ?_⟩ | refine ⟨Or.inl rfl, ?_⟩ | refine ⟨fun hq => absurd (by assumption) hq, fun _ => ?_⟩ | refine ⟨fun _ => ?_, fun hq => absurd (by assumption) hq⟩ | refine ⟨fun hq => absurd hq (by assumption), fun _ => ?_⟩ | refine ⟨fun _ => ?_, fun hq => absurd hq (by assumption)⟩); conv => whnf)
      try dsimp only
      exact h
    · refine ⟨Nat.le_of_ble_eq_true rfl, fun Jm hs => hs 400 0 _ _ _ _ _ ?_⟩
      conv => whnf
      repeat ((first | rw [hO] | refine ⟨trivial, ?_⟩ | refine ⟨rfl, ?_⟩ | refine ⟨fun hc => absurd hc (by decide), fun _ => ?_⟩ | refine ⟨fun _ => ?_, fun hc => absurd (by decide) hc⟩ | refine ⟨fun _ => ?_, fun hc => absurd hc (by decide)⟩ | refine ⟨fun hc => absurd (by decide) hc, fun _ => ?_⟩ | refine ⟨Or.inr rfl, ?_⟩ | refine ⟨Or.inl rfl, ?_⟩ | refine ⟨fun hq => absurd (by assumption) hq, fun _ => ?_⟩ | refine ⟨fun _ => ?_, fun hq => absurd (by assumption) hq⟩ | refine ⟨fun hq => absurd hq (by assumption), fun _ => ?_⟩ | refine ⟨fun _ => ?_, fun hq => absurd hq (by assumption)⟩); conv => whnf)
      try dsimp only
      exact h
def sp_J5_putStringAt_47b60 : zSp := fun av w K => match av with
  | [.ref o, .int a, s] => ∃ (v N k n : Nat) (f : Nat → Nat), z_nth w.1 o = some (.inl (11, [some (some v), none, none, none])) ∧ w.2.1 o 1 = nI 0 ∧ z_nth w.1 v = some (.inr (2, N)) ∧ a = nI k ∧ k + n ≤ N ∧ N ≤ 300 ∧ StrV w s n f ∧ ∀ wi', Wrt w.2.1 wi' v k n f → K none (w.1, wi', w.2.2)
  | _ => False
def rm_J5_putStringAt_47b60 : Room := { frames := 2, cells := 0, slots := 0, locals := 49 }
def M_J5_putStringAt_47b60 : zM := (k_J5_putStringAt_47b60, f_J5, [(397, 10, 11, 2, 0, 0, sp_J5_inflateIfNeededFor_a7421), (399, 4, 10, 4, 0, 0, sp_J0_getBytes_840e7)], ([], [], []), [], [], 0, false, (false, 0, fun _ => 0), (0, 0, []))
theorem ca_J5_putStringAt_47b60_0 (l : Launch) : z_cok l RJ5 (headSpec (.code yJ5_putStringAt_47b60 cJ5_putStringAt_47b60 3 none :: zTT) rm_J5_putStringAt_47b60).room (false, 0, fun _ => 0) (397, 10, 11, 2, 0, 0, sp_J5_inflateIfNeededFor_a7421) := z_ca10 (c_J5_inflateIfNeededFor_a7421 l) mb_J5_inflateIfNeededFor_a7421 ⟨_, rfl, zTT_x (by simp [zXP])⟩ wt_1252 (zTT_in (by decide +kernel) rfl) wt_1254 (by decide)
theorem ca_J5_putStringAt_47b60_1 (l : Launch) : z_cok l RJ5 (headSpec (.code yJ5_putStringAt_47b60 cJ5_putStringAt_47b60 3 none :: zTT) rm_J5_putStringAt_47b60).room (false, 0, fun _ => 0) (399, 4, 10, 4, 0, 0, sp_J0_getBytes_840e7) := z_ca4 (c_J0_getBytes_840e7 l) mb_J0_getBytes_840e7 ⟨_, rfl, rfl⟩ wt_1256 wt_1257 wt_1258 (by decide)
theorem O_J5_putStringAt_47b60 (l : Launch) : z_OK l RJ5 cJ5_putStringAt_47b60 (headSpec (.code yJ5_putStringAt_47b60 cJ5_putStringAt_47b60 3 none :: zTT) rm_J5_putStringAt_47b60).room M_J5_putStringAt_47b60 := ⟨ok_J5_putStringAt_47b60, fo_J5, List.forall_mem_cons.mpr ⟨ca_J5_putStringAt_47b60_0 l, List.forall_mem_cons.mpr ⟨ca_J5_putStringAt_47b60_1 l, fun _ h => absurd h List.not_mem_nil⟩⟩, fun _ h => absurd h List.not_mem_nil, fun _ h => absurd h List.not_mem_nil, fun _ h => absurd h List.not_mem_nil, fun _ h => absurd h List.not_mem_nil, rfl, rfl, fun _ h => absurd h List.not_mem_nil⟩
theorem c_J5_putStringAt_47b60 (l : Launch) : z_CS l yJ5_putStringAt_47b60 cJ5_putStringAt_47b60 3 none rm_J5_putStringAt_47b60 sp_J5_putStringAt_47b60 := by
  refine z_methF (by decide +kernel) (Or.inl ⟨rfl, rfl⟩) (fun h => by cases h) rfl (O_J5_putStringAt_47b60 l) ?_
  intro av w K h
  match av, h with
  | [.ref (o : Nat), .int a, s], h =>
    obtain ⟨v, N, k, n, f, hO, h1, hV, rfl, hkn, hN, hs0, h⟩ := h
    obtain ⟨G, wi, wl⟩ := w
    dsimp only at hO h1 hV h
    rcases StrV_cases hs0 with ⟨u, rfl, q, hU, -⟩ | ⟨rfl, -⟩ | ⟨rfl, -⟩ | ⟨rfl, -⟩
    · dsimp only at hU
      refine ⟨Nat.le_of_ble_eq_true rfl, fun Jm hs => hs 400 0 _ _ _ _ _ ?_⟩
      conv => whnf
      repeat ((first | rw [rcv10 hO] | refine ⟨trivial, ?_⟩ | refine ⟨rfl, ?_⟩ | refine ⟨fun hc => absurd hc (by decide), fun _ => ?_⟩ | refine ⟨fun _ => ?_, fun hc => absurd (by decide) hc⟩ | refine ⟨fun _ => ?_, fun hc => absurd hc (by decide)⟩ | refine ⟨fun hc => absurd (by decide) hc, fun _ => ?_⟩ | refine ⟨Or.inr rfl, ?_⟩ | refine ⟨Or.inl rfl, ?_⟩ | refine ⟨fun hq => absurd (by assumption) hq, fun _ => ?_⟩ | refine ⟨fun _ => ?_, fun hq => absurd (by assumption) hq⟩ | refine ⟨fun hq => absurd hq (by assumption), fun _ => ?_⟩ | refine ⟨fun _ => ?_, fun hq => absurd hq (by assumption)⟩); conv => whnf)
      try dsimp only
      refine ⟨v, n, f, (by first | exact hO | rfl), h1, hs0, ?_⟩
      conv => whnf
      repeat ((first | rw [hO] | rw [rcv4 hU] | refine ⟨trivial, ?_⟩ | refine ⟨rfl, ?_⟩ | refine ⟨fun hc => absurd hc (by decide), fun _ => ?_⟩ | refine ⟨fun _ => ?_, fun hc => absurd (by decide) hc⟩ | refine ⟨fun _ => ?_, fun hc => absurd hc (by decide)⟩ | refine ⟨fun hc => absurd (by decide) hc, fun _ => ?_⟩ | refine ⟨Or.inr rfl, ?_⟩ | refine ⟨Or.inl rfl, ?_⟩ | refine ⟨fun hq => absurd (by assumption) hq, fun _ => ?_⟩ | refine ⟨fun _ => ?_, fun hq => absurd (by assumption) hq⟩ | refine ⟨fun hq => absurd hq (by assumption), fun _ => ?_⟩ | refine ⟨fun _ => ?_, fun hq => absurd hq (by assumption)⟩); conv => whnf)
      try dsimp only
      refine ⟨n, k, N, f, hs0, hV, rfl, h1, hkn, hN, fun wi' q => ?_⟩
      conv => whnf
      repeat ((first | refine ⟨zG_of _, ?_⟩ | refine ⟨trivial, ?_⟩ | refine ⟨rfl, ?_⟩ | refine ⟨fun hc => absurd hc (by decide), fun _ => ?_⟩ | refine ⟨fun _ => ?_, fun hc => absurd (by decide) hc⟩ | refine ⟨fun _ => ?_, fun hc => absurd hc (by decide)⟩ | refine ⟨fun hc => absurd (by decide) hc, fun _ => ?_⟩); conv => whnf)
      try dsimp only
      exact h wi' q
    · refine ⟨Nat.le_of_ble_eq_true rfl, fun Jm hs => hs 400 0 _ _ _ _ _ ?_⟩
      conv => whnf
      repeat ((first | rw [rcv10 hO] | refine ⟨trivial, ?_⟩ | refine ⟨rfl, ?_⟩ | refine ⟨fun hc => absurd hc (by decide), fun _ => ?_⟩ | refine ⟨fun _ => ?_, fun hc => absurd (by decide) hc⟩ | refine ⟨fun _ => ?_, fun hc => absurd hc (by decide)⟩ | refine ⟨fun hc => absurd (by decide) hc, fun _ => ?_⟩ | refine ⟨Or.inr rfl, ?_⟩ | refine ⟨Or.inl rfl, ?_⟩ | refine ⟨fun hq => absurd (by assumption) hq, fun _ => ?_⟩ | refine ⟨fun _ => ?_, fun hq => absurd (by assumption) hq⟩ | refine ⟨fun hq => absurd hq (by assumption), fun _ => ?_⟩ | refine ⟨fun _ => ?_, fun hq => absurd hq (by assumption)⟩); conv => whnf)
      try dsimp only
      refine ⟨v, n, f, (by first | exact hO | rfl), h1, hs0, ?_⟩
      conv => whnf
      repeat ((first | rw [hO] | refine ⟨trivial, ?_⟩ | refine ⟨rfl, ?_⟩ | refine ⟨fun hc => absurd hc (by decide), fun _ => ?_⟩ | refine ⟨fun _ => ?_, fun hc => absurd (by decide) hc⟩ | refine ⟨fun _ => ?_, fun hc => absurd hc (by decide)⟩ | refine ⟨fun hc => absurd (by decide) hc, fun _ => ?_⟩ | refine ⟨Or.inr rfl, ?_⟩ | refine ⟨Or.inl rfl, ?_⟩ | refine ⟨fun hq => absurd (by assumption) hq, fun _ => ?_⟩ | refine ⟨fun _ => ?_, fun hq => absurd (by assumption) hq⟩ | refine ⟨fun hq => absurd hq (by assumption), fun _ => ?_⟩ | refine ⟨fun _ => ?_, fun hq => absurd hq (by assumption)⟩); conv => whnf)
      try dsimp only
      refine ⟨n, k, N, f, hs0, hV, rfl, h1, hkn, hN, fun wi' q => ?_⟩
      conv => whnf
      repeat ((first | refine ⟨zG_of _, ?_⟩ | refine ⟨trivial, ?_⟩ | refine ⟨rfl, ?_⟩ | refine ⟨fun hc => absurd hc (by decide), fun _ => ?_⟩ | refine ⟨fun _ => ?_, fun hc => absurd (by decide) hc⟩ | refine ⟨fun _ => ?_, fun hc => absurd hc (by decide)⟩ | refine ⟨fun hc => absurd (by decide) hc, fun _ => ?_⟩); conv => whnf)
      try dsimp only
      exact h wi' q
    · refine ⟨Nat.le_of_ble_eq_true rfl, fun Jm hs => hs 400 0 _ _ _ _ _ ?_⟩
      conv => whnf
      repeat ((first | rw [rcv10 hO] | refine ⟨trivial, ?_⟩ | refine ⟨rfl, ?_⟩ | refine ⟨fun hc => absurd hc (by decide), fun _ => ?_⟩ | refine ⟨fun _ => ?_, fun hc => absurd (by decide) hc⟩ | refine ⟨fun _ => ?_, fun hc => absurd hc (by decide)⟩ | refine ⟨fun hc => absurd (by decide) hc, fun _ => ?_⟩ | refine ⟨Or.inr rfl, ?_⟩ | refine ⟨Or.inl rfl, ?_⟩ | refine ⟨fun hq => absurd (by assumption) hq, fun _ => ?_⟩ | refine ⟨fun _ => ?_, fun hq => absurd (by assumption) hq⟩ | refine ⟨fun hq => absurd hq (by assumption), fun _ => ?_⟩ | refine ⟨fun _ => ?_, fun hq => absurd hq (by assumption)⟩); conv => whnf)
      try dsimp only
      refine ⟨v, n, f, (by first | exact hO | rfl), h1, hs0, ?_⟩
      conv => whnf
      repeat ((first | rw [hO] | refine ⟨trivial, ?_⟩ | refine ⟨rfl, ?_⟩ | refine ⟨fun hc => absurd hc (by decide), fun _ => ?_⟩ | refine ⟨fun _ => ?_, fun hc => absurd (by decide) hc⟩ | refine ⟨fun _ => ?_, fun hc => absurd hc (by decide)⟩ | refine ⟨fun hc => absurd (by decide) hc, fun _ => ?_⟩ | refine ⟨Or.inr rfl, ?_⟩ | refine ⟨Or.inl rfl, ?_⟩ | refine ⟨fun hq => absurd (by assumption) hq, fun _ => ?_⟩ | refine ⟨fun _ => ?_, fun hq => absurd (by assumption) hq⟩ | refine ⟨fun hq => absurd hq (by assumption), fun _ => ?_⟩ | refine ⟨fun _ => ?_, fun hq => absurd hq (by assumption)⟩); conv => whnf)
      try dsimp only
      refine ⟨n, k, N, f, hs0, hV, rfl, h1, hkn, hN, fun wi' q => ?_⟩
      conv => whnf
      repeat ((first | refine ⟨zG_of _, ?_⟩ | refine ⟨trivial, ?_⟩ | refine ⟨rfl, ?_⟩ | refine ⟨fun hc => absurd hc (by decide), fun _ => ?_⟩ | refine ⟨fun _ => ?_, fun hc => absurd (by decide) hc⟩ | refine ⟨fun _ => ?_, fun hc => absurd hc (by decide)⟩ | refine ⟨fun hc => absurd (by decide) hc, fun _ => ?_⟩); conv => whnf)
      try dsimp only
      exact h wi' q
    · refine ⟨Nat.le_of_ble_eq_true rfl, fun Jm hs => hs 400 0 _ _ _ _ _ ?_⟩
      conv => whnf
      repeat ((first | rw [rcv10 hO] | refine ⟨trivial, ?_⟩ | refine ⟨rfl, ?_⟩ | refine ⟨fun hc => absurd hc (by decide), fun _ => ?_⟩ | refine ⟨fun _ => ?_, fun hc => absurd (by decide) hc⟩ | refine ⟨fun _ => ?_, fun hc => absurd hc (by decide)⟩ | refine ⟨fun hc => absurd (by decide) hc, fun _ => ?_⟩ | refine ⟨Or.inr rfl, ?_⟩ | refine ⟨Or.inl rfl, ?_⟩ | refine ⟨fun hq => absurd (by assumption) hq, fun _ => ?_⟩ | refine ⟨fun _ => ?_, fun hq => absurd (by assumption) hq⟩ | refine ⟨fun hq => absurd hq (by assumption), fun _ => ?_⟩ | refine ⟨fun _ => ?_, fun hq => absurd hq (by assumption)⟩); conv => whnf)
      try dsimp only
      refine ⟨v, n, f, (by first | exact hO | rfl), h1, hs0, ?_⟩
      conv => whnf
      repeat ((first | rw [hO] | refine ⟨trivial, ?_⟩ | refine ⟨rfl, ?_⟩ | refine ⟨fun hc => absurd hc (by decide), fun _ => ?_⟩ | refine ⟨fun _ => ?_, fun hc => absurd (by decide) hc⟩ | refine ⟨fun _ => ?_, fun hc => absurd hc (by decide)⟩ | refine ⟨fun hc => absurd (by decide) hc, fun _ => ?_⟩ | refine ⟨Or.inr rfl, ?_⟩ | refine ⟨Or.inl rfl, ?_⟩ | refine ⟨fun hq => absurd (by assumption) hq, fun _ => ?_⟩ | refine ⟨fun _ => ?_, fun hq => absurd (by assumption) hq⟩ | refine ⟨fun hq => absurd hq (by assumption), fun _ => ?_⟩ | refine ⟨fun _ => ?_, fun hq => absurd hq (by assumption)⟩); conv => whnf)
      try dsimp only
      refine ⟨n, k, N, f, hs0, hV, rfl, h1, hkn, hN, fun wi' q => ?_⟩
      conv => whnf
      repeat ((first | refine ⟨zG_of _, ?_⟩ | refine ⟨trivial, ?_⟩ | refine ⟨rfl, ?_⟩ | refine ⟨fun hc => absurd hc (by decide), fun _ => ?_⟩ | refine ⟨fun _ => ?_, fun hc => absurd (by decide) hc⟩ | refine ⟨fun _ => ?_, fun hc => absurd hc (by decide)⟩ | refine ⟨fun hc => absurd (by decide) hc, fun _ => ?_⟩); conv => whnf)
      try dsimp only
      exact h wi' q
def catF (g : Nat → Nat) (m : Nat) (f : Nat → Nat) : Nat → Nat := fun k => if k < m then g k else f (k - m)
/-- a String's letters written at the end, the length so much more -/
theorem sbs_cat {P : Nat → Prop} {G : List zSh} {wi wi1 wi' : Nat → Nat → Int32} {wl : Nat → Nat → Int64} {o v N m n : Nat} {g f : Nat → Nat} (h : SBv P (G, wi, wl) o v N m g) (hn : m + n ≤ N) (hf2 : ∀ k, k < n → f k < 128) (h1 : Wrt wi wi1 v m n f) (hw : ∀ x k, wi' x k = if x = o ∧ k = 3 then nI (m + n) else wi1 x k) : Ext P (G, wi, wl) (G, wi', wl) ∧ SBv P (G, wi', wl) o v N (m + n) (catF g m f) := by
  obtain ⟨hbo, hbv, hO, c1, c3, hN, hV, hn2, hf, hF⟩ := h
  dsimp only at hO c1 c3 hV hf hF
  have hov : o ≠ v := fun q => by rw [q, hV] at hO; cases hO
  have hv : ∀ k, wi' v k = if m ≤ k ∧ k < m + n then nI (f (k - m)) else wi v k := fun k => by rw [hw, if_neg (fun q => hov q.1.symm), h1.2]
  refine ⟨⟨Nat.le_refl _, fun x hx => ⟨rfl, ?_, rfl⟩, fun h => h⟩, hbo, hbv, hO, ?_, ?_, hN, hV, hn, fun k hk => ?_, fun k hk => ?_⟩
  · dsimp only
    funext k
    have hxo : ¬ (x = o ∧ k = 3) := fun q => hbo (q.1 ▸ hx)
    have hxv : x ≠ v := fun q => hbv (q ▸ hx)
    rw [hw, if_neg hxo, h1.1 x hxv]
  · dsimp only
    rw [hw, if_neg (by omega), h1.1 o hov]
    exact c1
  · dsimp only
    rw [hw, if_pos ⟨rfl, rfl⟩]
  · dsimp only
    rw [hv]
    unfold catF
    by_cases q : k < m
    · rw [if_neg (by omega), if_pos q]
      exact hf k q
    · rw [if_pos ⟨by omega, hk⟩, if_neg q]
      exact ⟨rfl, hf2 _ (by omega)⟩
  · dsimp only
    rw [hv]
    by_cases q : m ≤ k ∧ k < m + n
    · rw [if_pos q]
      exact (fits_lt (hf2 _ (by omega))).1
    · rw [if_neg q]
      exact hF k hk
def sp_J5_append_cf1ce : zSp := fun av w K => match av with
  | [.ref o, s] => ∃ (P : Nat → Prop) (m n : Nat) (g f : Nat → Nat), SB P w o 0 m g ∧ Bel P w ∧ WF w ∧ (∀ w', Ext P w w' → StrV w' s n f) ∧ m + n ≤ 150 ∧ ∀ w', Ext P w w' → SB P w' o 0 (m + n) (catF g m f) → K (some (.ref o)) w'
  | _ => False
def rm_J5_append_cf1ce : Room := { frames := 4, cells := 1, slots := 300, locals := 91 }
def M_J5_append_cf1ce : zM := (k_J5_append_cf1ce, f_J5, [(32, 4, 10, 1, 0, 0, sp_J0_length_8abf5), (100, 10, 11, 2, 1, 300, sp_J5_ensureCapacityInternal_d00df), (208, 10, 11, 3, 0, 0, sp_J5_putStringAt_47b60)], ([], [], []), [], [], 4, false, (false, 0, fun _ => 0), (1, 300, []))
theorem ca_J5_append_cf1ce_0 (l : Launch) : z_cok l RJ5 (headSpec (.code yJ5_append_cf1ce cJ5_append_cf1ce 3 (some (.object "java/lang/AbstractStringBuilder")) :: zTT) rm_J5_append_cf1ce).room (false, 0, fun _ => 0) (32, 4, 10, 1, 0, 0, sp_J0_length_8abf5) := z_ca4 (c_J0_length_8abf5 l) mb_J0_length_8abf5 ⟨_, rfl, rfl⟩ wt_1226 wt_957 wt_958 (by decide)
theorem ca_J5_append_cf1ce_1 (l : Launch) : z_cok l RJ5 (headSpec (.code yJ5_append_cf1ce cJ5_append_cf1ce 3 (some (.object "java/lang/AbstractStringBuilder")) :: zTT) rm_J5_append_cf1ce).room (false, 0, fun _ => 0) (100, 10, 11, 2, 1, 300, sp_J5_ensureCapacityInternal_d00df) := z_ca10 (c_J5_ensureCapacityInternal_d00df l) mb_J5_ensureCapacityInternal_d00df ⟨_, rfl, zTT_x (by simp [zXP])⟩ wt_1068 (zTT_in (by decide +kernel) rfl) wt_1070 (by decide)
theorem ca_J5_append_cf1ce_2 (l : Launch) : z_cok l RJ5 (headSpec (.code yJ5_append_cf1ce cJ5_append_cf1ce 3 (some (.object "java/lang/AbstractStringBuilder")) :: zTT) rm_J5_append_cf1ce).room (false, 0, fun _ => 0) (208, 10, 11, 3, 0, 0, sp_J5_putStringAt_47b60) := z_ca10 (c_J5_putStringAt_47b60 l) mb_J5_putStringAt_47b60 ⟨_, rfl, zTT_x (by simp [zXP])⟩ wt_1248 (zTT_in (by decide +kernel) rfl) wt_1250 (by decide)
theorem O_J5_append_cf1ce (l : Launch) : z_OK l RJ5 cJ5_append_cf1ce (headSpec (.code yJ5_append_cf1ce cJ5_append_cf1ce 3 (some (.object "java/lang/AbstractStringBuilder")) :: zTT) rm_J5_append_cf1ce).room M_J5_append_cf1ce := ⟨ok_J5_append_cf1ce, fo_J5, List.forall_mem_cons.mpr ⟨ca_J5_append_cf1ce_0 l, List.forall_mem_cons.mpr ⟨ca_J5_append_cf1ce_1 l, List.forall_mem_cons.mpr ⟨ca_J5_append_cf1ce_2 l, fun _ h => absurd h List.not_mem_nil⟩⟩⟩, fun _ h => absurd h List.not_mem_nil, fun _ h => absurd h List.not_mem_nil, fun _ h => absurd h List.not_mem_nil, fun _ h => absurd h List.not_mem_nil, rfl, rfl, fun _ h => absurd h List.not_mem_nil⟩
theorem c_J5_append_cf1ce (l : Launch) : z_CS l yJ5_append_cf1ce cJ5_append_cf1ce 3 (some (.object "java/lang/AbstractStringBuilder")) rm_J5_append_cf1ce sp_J5_append_cf1ce := by
  refine z_methF (by decide +kernel) (Or.inr (Or.inr (Or.inr (Or.inr (Or.inl ⟨rfl, _, rfl, Or.inl ⟨_, rfl⟩⟩))))) (fun h => by cases h) rfl (O_J5_append_cf1ce l) ?_
  intro av w K h
  match av, h with
  | [.ref (o : Nat), s], h =>
    obtain ⟨P, m, n, g, f, hS, hb, hW, hs0, hn, h⟩ := h
    have hS0 := hS
    obtain ⟨v0, N0, -, hbo, hbv, hO, h1, h3, -⟩ := hS
    have hs1 := hs0 w Ext.rf
    obtain ⟨G, wi, wl⟩ := w
    dsimp only at hO h1 h3
    have ho : o < G.length := nth_lt hO
    rcases strV_ref hs1 with ⟨u, rfl, hu⟩ | ⟨cst, rfl⟩
    · have hr1 : z_rcv 4 10 [.ref u] (G, wi, wl) = true := by
        rcases StrV_cases hs1 with ⟨u2, q, v2, hU, -⟩ | ⟨q, -⟩ | ⟨q, -⟩ | ⟨q, -⟩ <;> cases q <;> first | rfl | exact rcv4 hU []
      refine ⟨Nat.le_of_ble_eq_true rfl, fun Jm hs => hs 400 0 _ _ _ _ _ ?_⟩
      conv => whnf
      repeat ((first | rw [hr1] | refine ⟨trivial, ?_⟩ | refine ⟨rfl, ?_⟩ | refine ⟨fun hc => absurd hc (by decide), fun _ => ?_⟩ | refine ⟨fun _ => ?_, fun hc => absurd (by decide) hc⟩ | refine ⟨fun _ => ?_, fun hc => absurd hc (by decide)⟩ | refine ⟨fun hc => absurd (by decide) hc, fun _ => ?_⟩ | refine ⟨Or.inr rfl, ?_⟩ | refine ⟨Or.inl rfl, ?_⟩ | refine ⟨fun hq => absurd (by assumption) hq, fun _ => ?_⟩ | refine ⟨fun _ => ?_, fun hq => absurd (by assumption) hq⟩ | refine ⟨fun hq => absurd hq (by assumption), fun _ => ?_⟩ | refine ⟨fun _ => ?_, fun hq => absurd hq (by assumption)⟩); conv => whnf)
      try dsimp only
      refine ⟨n, f, hs1, ?_⟩
      conv => whnf
      repeat ((first | rw [hO] | rw [rcv10 hO] | refine ⟨trivial, ?_⟩ | refine ⟨rfl, ?_⟩ | refine ⟨fun hc => absurd hc (by decide), fun _ => ?_⟩ | refine ⟨fun _ => ?_, fun hc => absurd (by decide) hc⟩ | refine ⟨fun _ => ?_, fun hc => absurd hc (by decide)⟩ | refine ⟨fun hc => absurd (by decide) hc, fun _ => ?_⟩ | refine ⟨Or.inr rfl, ?_⟩ | refine ⟨Or.inl rfl, ?_⟩ | refine ⟨fun hq => absurd (by assumption) hq, fun _ => ?_⟩ | refine ⟨fun _ => ?_, fun hq => absurd (by assumption) hq⟩ | refine ⟨fun hq => absurd hq (by assumption), fun _ => ?_⟩ | refine ⟨fun _ => ?_, fun hq => absurd hq (by assumption)⟩); conv => whnf)
      try dsimp only
      refine ⟨⟨Nat.le_of_ble_eq_true rfl, Nat.le_of_ble_eq_true rfl⟩, by simp [z_wfl, z_wfs, z_rlt, z_arl, Nat.blt_eq, ho, show u < G.length from hu], ?_⟩
      refine ⟨P, m + n, m, g, hS0, hb, hW, by rw [h3, nI_add], hn, fun w1 e1 s1 => ?_⟩
      obtain ⟨v, N, hN, s1⟩ := s1
      have s0 := s1
      obtain ⟨-, -, hO1, c1, c3, hN3, hV1, -⟩ := s1
      have hs2 := hs0 w1 e1
      obtain ⟨G1, wi1, wl1⟩ := w1
      dsimp only at hO1 c1 c3 hV1
      conv => whnf
      repeat ((first | rw [hO1] | rw [rcv10 hO1] | refine ⟨trivial, ?_⟩ | refine ⟨rfl, ?_⟩ | refine ⟨fun hc => absurd hc (by decide), fun _ => ?_⟩ | refine ⟨fun _ => ?_, fun hc => absurd (by decide) hc⟩ | refine ⟨fun _ => ?_, fun hc => absurd hc (by decide)⟩ | refine ⟨fun hc => absurd (by decide) hc, fun _ => ?_⟩ | refine ⟨Or.inr rfl, ?_⟩ | refine ⟨Or.inl rfl, ?_⟩ | refine ⟨fun hq => absurd (by assumption) hq, fun _ => ?_⟩ | refine ⟨fun _ => ?_, fun hq => absurd (by assumption) hq⟩ | refine ⟨fun hq => absurd hq (by assumption), fun _ => ?_⟩ | refine ⟨fun _ => ?_, fun hq => absurd hq (by assumption)⟩); conv => whnf)
      try dsimp only
      refine ⟨v, N, m, n, f, (by first | exact hO1 | rfl), c1, hV1, c3, hN, hN3, hs2, fun wi2 q => ?_⟩
      have hov : o ≠ v := fun q => by rw [q, hV1] at hO1; cases hO1
      conv => whnf
      repeat ((first | rw [hO1] | refine ⟨trivial, ?_⟩ | refine ⟨rfl, ?_⟩ | refine ⟨fun hc => absurd hc (by decide), fun _ => ?_⟩ | refine ⟨fun _ => ?_, fun hc => absurd (by decide) hc⟩ | refine ⟨fun _ => ?_, fun hc => absurd hc (by decide)⟩ | refine ⟨fun hc => absurd (by decide) hc, fun _ => ?_⟩ | refine ⟨Or.inr rfl, ?_⟩ | refine ⟨Or.inl rfl, ?_⟩ | refine ⟨fun hq => absurd (by assumption) hq, fun _ => ?_⟩ | refine ⟨fun _ => ?_, fun hq => absurd (by assumption) hq⟩ | refine ⟨fun hq => absurd hq (by assumption), fun _ => ?_⟩ | refine ⟨fun _ => ?_, fun hq => absurd hq (by assumption)⟩); conv => whnf)
      try dsimp only
      have key := sbs_cat (wi' := z_up wi2 o 3 (wi2 o 3 + nI n)) s0 hN (strV_lt hs2) q (fun x k => by
        rw [q.1 o hov, c3, nI_add]
        unfold z_up
        rfl)
      exact h _ (e1.tr key.1) ⟨v, N, Nat.zero_le _, key.2⟩
    · have hr1 : z_rcv 4 10 [.retAddr cst] (G, wi, wl) = true := by
        rcases StrV_cases hs1 with ⟨u2, q, v2, hU, -⟩ | ⟨q, -⟩ | ⟨q, -⟩ | ⟨q, -⟩ <;> cases q <;> first | rfl | exact rcv4 hU []
      refine ⟨Nat.le_of_ble_eq_true rfl, fun Jm hs => hs 400 0 _ _ _ _ _ ?_⟩
      conv => whnf
      repeat ((first | rw [hr1] | refine ⟨trivial, ?_⟩ | refine ⟨rfl, ?_⟩ | refine ⟨fun hc => absurd hc (by decide), fun _ => ?_⟩ | refine ⟨fun _ => ?_, fun hc => absurd (by decide) hc⟩ | refine ⟨fun _ => ?_, fun hc => absurd hc (by decide)⟩ | refine ⟨fun hc => absurd (by decide) hc, fun _ => ?_⟩ | refine ⟨Or.inr rfl, ?_⟩ | refine ⟨Or.inl rfl, ?_⟩ | refine ⟨fun hq => absurd (by assumption) hq, fun _ => ?_⟩ | refine ⟨fun _ => ?_, fun hq => absurd (by assumption) hq⟩ | refine ⟨fun hq => absurd hq (by assumption), fun _ => ?_⟩ | refine ⟨fun _ => ?_, fun hq => absurd hq (by assumption)⟩); conv => whnf)
      try dsimp only
      refine ⟨n, f, hs1, ?_⟩
      conv => whnf
      repeat ((first | rw [hO] | rw [rcv10 hO] | refine ⟨trivial, ?_⟩ | refine ⟨rfl, ?_⟩ | refine ⟨fun hc => absurd hc (by decide), fun _ => ?_⟩ | refine ⟨fun _ => ?_, fun hc => absurd (by decide) hc⟩ | refine ⟨fun _ => ?_, fun hc => absurd hc (by decide)⟩ | refine ⟨fun hc => absurd (by decide) hc, fun _ => ?_⟩ | refine ⟨Or.inr rfl, ?_⟩ | refine ⟨Or.inl rfl, ?_⟩ | refine ⟨fun hq => absurd (by assumption) hq, fun _ => ?_⟩ | refine ⟨fun _ => ?_, fun hq => absurd (by assumption) hq⟩ | refine ⟨fun hq => absurd hq (by assumption), fun _ => ?_⟩ | refine ⟨fun _ => ?_, fun hq => absurd hq (by assumption)⟩); conv => whnf)
      try dsimp only
      refine ⟨⟨Nat.le_of_ble_eq_true rfl, Nat.le_of_ble_eq_true rfl⟩, by simp [z_wfl, z_wfs, z_rlt, z_arl, Nat.blt_eq, ho], ?_⟩
      refine ⟨P, m + n, m, g, hS0, hb, hW, by rw [h3, nI_add], hn, fun w1 e1 s1 => ?_⟩
      obtain ⟨v, N, hN, s1⟩ := s1
      have s0 := s1
      obtain ⟨-, -, hO1, c1, c3, hN3, hV1, -⟩ := s1
      have hs2 := hs0 w1 e1
      obtain ⟨G1, wi1, wl1⟩ := w1
      dsimp only at hO1 c1 c3 hV1
      conv => whnf
      repeat ((first | rw [hO1] | rw [rcv10 hO1] | refine ⟨trivial, ?_⟩ | refine ⟨rfl, ?_⟩ | refine ⟨fun hc => absurd hc (by decide), fun _ => ?_⟩ | refine ⟨fun _ => ?_, fun hc => absurd (by decide) hc⟩ | refine ⟨fun _ => ?_, fun hc => absurd hc (by decide)⟩ | refine ⟨fun hc => absurd (by decide) hc, fun _ => ?_⟩ | refine ⟨Or.inr rfl, ?_⟩ | refine ⟨Or.inl rfl, ?_⟩ | refine ⟨fun hq => absurd (by assumption) hq, fun _ => ?_⟩ | refine ⟨fun _ => ?_, fun hq => absurd (by assumption) hq⟩ | refine ⟨fun hq => absurd hq (by assumption), fun _ => ?_⟩ | refine ⟨fun _ => ?_, fun hq => absurd hq (by assumption)⟩); conv => whnf)
      try dsimp only
      refine ⟨v, N, m, n, f, (by first | exact hO1 | rfl), c1, hV1, c3, hN, hN3, hs2, fun wi2 q => ?_⟩
      have hov : o ≠ v := fun q => by rw [q, hV1] at hO1; cases hO1
      conv => whnf
      repeat ((first | rw [hO1] | refine ⟨trivial, ?_⟩ | refine ⟨rfl, ?_⟩ | refine ⟨fun hc => absurd hc (by decide), fun _ => ?_⟩ | refine ⟨fun _ => ?_, fun hc => absurd (by decide) hc⟩ | refine ⟨fun _ => ?_, fun hc => absurd hc (by decide)⟩ | refine ⟨fun hc => absurd (by decide) hc, fun _ => ?_⟩ | refine ⟨Or.inr rfl, ?_⟩ | refine ⟨Or.inl rfl, ?_⟩ | refine ⟨fun hq => absurd (by assumption) hq, fun _ => ?_⟩ | refine ⟨fun _ => ?_, fun hq => absurd (by assumption) hq⟩ | refine ⟨fun hq => absurd hq (by assumption), fun _ => ?_⟩ | refine ⟨fun _ => ?_, fun hq => absurd hq (by assumption)⟩); conv => whnf)
      try dsimp only
      have key := sbs_cat (wi' := z_up wi2 o 3 (wi2 o 3 + nI n)) s0 hN (strV_lt hs2) q (fun x k => by
        rw [q.1 o hov, c3, nI_add]
        unfold z_up
        rfl)
      exact h _ (e1.tr key.1) ⟨v, N, Nat.zero_le _, key.2⟩
def sp_J4_append_15ec4 : zSp := sp_J5_append_cf1ce
def rm_J4_append_15ec4 : Room := { frames := 5, cells := 1, slots := 300, locals := 113 }
def M_J4_append_15ec4 : zM := (k_J4_append_15ec4, f_J4, [(29, 11, 11, 2, 1, 300, sp_J5_append_cf1ce)], ([], [], []), [], [], 4, false, (false, 0, fun _ => 0), (1, 300, []))
theorem ca_J4_append_15ec4_0 (l : Launch) : z_cok l RJ4 (headSpec (.code yJ4_append_15ec4 cJ4_append_15ec4 2 (some (.object "java/lang/StringBuilder")) :: zTT) rm_J4_append_15ec4).room (false, 0, fun _ => 0) (29, 11, 11, 2, 1, 300, sp_J5_append_cf1ce) := z_ca11 (c_J5_append_cf1ce l) mb_J5_append_cf1ce ⟨_, rfl⟩ (by decide) wt_1239 (zTT_in (by decide +kernel) rfl) (zTT_in (by decide +kernel) rfl) wt_1230 (by decide)
theorem O_J4_append_15ec4 (l : Launch) : z_OK l RJ4 cJ4_append_15ec4 (headSpec (.code yJ4_append_15ec4 cJ4_append_15ec4 2 (some (.object "java/lang/StringBuilder")) :: zTT) rm_J4_append_15ec4).room M_J4_append_15ec4 := ⟨ok_J4_append_15ec4, fo_J4, List.forall_mem_cons.mpr ⟨ca_J4_append_15ec4_0 l, fun _ h => absurd h List.not_mem_nil⟩, fun _ h => absurd h List.not_mem_nil, fun _ h => absurd h List.not_mem_nil, fun _ h => absurd h List.not_mem_nil, fun _ h => absurd h List.not_mem_nil, rfl, rfl, fun _ h => absurd h List.not_mem_nil⟩
theorem c_J4_append_15ec4 (l : Launch) : z_CS l yJ4_append_15ec4 cJ4_append_15ec4 2 (some (.object "java/lang/StringBuilder")) rm_J4_append_15ec4 sp_J4_append_15ec4 := by
  refine z_methF (by decide +kernel) (Or.inr (Or.inr (Or.inr (Or.inr (Or.inl ⟨rfl, _, rfl, Or.inl ⟨_, rfl⟩⟩))))) (fun h => by cases h) rfl (O_J4_append_15ec4 l) ?_
  intro av w K h
  match av, h with
  | [.ref (o : Nat), s], h =>
    have h2 := h
    obtain ⟨P, m, n, g, f, ⟨v, N, -, -, -, hO, -⟩, -, -, hs0, -⟩ := h2
    have hs1 := hs0 w Ext.rf
    obtain ⟨G, wi, wl⟩ := w
    dsimp only at hO
    have ho : o < G.length := nth_lt hO
    obtain ⟨P, m, n, g, f, hS, hb, hW, hs2, hn, h⟩ := h
    rcases strV_ref hs1 with ⟨u, rfl, hu⟩ | ⟨cst, rfl⟩
    · refine ⟨Nat.le_of_ble_eq_true rfl, fun Jm hs => hs 400 0 _ _ _ _ _ ?_⟩
      conv => whnf
      repeat ((first | rw [rcv11 hO] | refine ⟨trivial, ?_⟩ | refine ⟨rfl, ?_⟩ | refine ⟨fun hc => absurd hc (by decide), fun _ => ?_⟩ | refine ⟨fun _ => ?_, fun hc => absurd (by decide) hc⟩ | refine ⟨fun _ => ?_, fun hc => absurd hc (by decide)⟩ | refine ⟨fun hc => absurd (by decide) hc, fun _ => ?_⟩ | refine ⟨Or.inr rfl, ?_⟩ | refine ⟨Or.inl rfl, ?_⟩ | refine ⟨fun hq => absurd (by assumption) hq, fun _ => ?_⟩ | refine ⟨fun _ => ?_, fun hq => absurd (by assumption) hq⟩ | refine ⟨fun hq => absurd hq (by assumption), fun _ => ?_⟩ | refine ⟨fun _ => ?_, fun hq => absurd hq (by assumption)⟩); conv => whnf)
      try dsimp only
      refine ⟨⟨Nat.le_of_ble_eq_true rfl, Nat.le_of_ble_eq_true rfl⟩, by simp [z_wfl, z_wfs, z_rlt, z_arl, Nat.blt_eq, ho, show u < G.length from hu], ?_⟩
      refine ⟨P, m, n, g, f, hS, hb, hW, hs2, hn, fun w1 e1 s1 => ?_⟩
      conv => whnf
      repeat ((first | refine ⟨zG_of _, ?_⟩ | refine ⟨trivial, ?_⟩ | refine ⟨rfl, ?_⟩ | refine ⟨fun hc => absurd hc (by decide), fun _ => ?_⟩ | refine ⟨fun _ => ?_, fun hc => absurd (by decide) hc⟩ | refine ⟨fun _ => ?_, fun hc => absurd hc (by decide)⟩ | refine ⟨fun hc => absurd (by decide) hc, fun _ => ?_⟩); conv => whnf)
      try dsimp only
      exact h w1 e1 s1
    · refine ⟨Nat.le_of_ble_eq_true rfl, fun Jm hs => hs 400 0 _ _ _ _ _ ?_⟩
      conv => whnf
      repeat ((first | rw [rcv11 hO] | refine ⟨trivial, ?_⟩ | refine ⟨rfl, ?_⟩ | refine ⟨fun hc => absurd hc (by decide), fun _ => ?_⟩ | refine ⟨fun _ => ?_, fun hc => absurd (by decide) hc⟩ | refine ⟨fun _ => ?_, fun hc => absurd hc (by decide)⟩ | refine ⟨fun hc => absurd (by decide) hc, fun _ => ?_⟩ | refine ⟨Or.inr rfl, ?_⟩ | refine ⟨Or.inl rfl, ?_⟩ | refine ⟨fun hq => absurd (by assumption) hq, fun _ => ?_⟩ | refine ⟨fun _ => ?_, fun hq => absurd (by assumption) hq⟩ | refine ⟨fun hq => absurd hq (by assumption), fun _ => ?_⟩ | refine ⟨fun _ => ?_, fun hq => absurd hq (by assumption)⟩); conv => whnf)
      try dsimp only
      refine ⟨⟨Nat.le_of_ble_eq_true rfl, Nat.le_of_ble_eq_true rfl⟩, by simp [z_wfl, z_wfs, z_rlt, z_arl, Nat.blt_eq, ho], ?_⟩
      refine ⟨P, m, n, g, f, hS, hb, hW, hs2, hn, fun w1 e1 s1 => ?_⟩
      conv => whnf
      repeat ((first | refine ⟨zG_of _, ?_⟩ | refine ⟨trivial, ?_⟩ | refine ⟨rfl, ?_⟩ | refine ⟨fun hc => absurd hc (by decide), fun _ => ?_⟩ | refine ⟨fun _ => ?_, fun hc => absurd (by decide) hc⟩ | refine ⟨fun _ => ?_, fun hc => absurd hc (by decide)⟩ | refine ⟨fun hc => absurd (by decide) hc, fun _ => ?_⟩); conv => whnf)
      try dsimp only
      exact h w1 e1 s1
def sp_J4_append_cf1ce : zSp := sp_J5_append_cf1ce
def rm_J4_append_cf1ce : Room := { frames := 6, cells := 1, slots := 300, locals := 134 }
def M_J4_append_cf1ce : zM := (k_J4_append_cf1ce, f_J4, [(23, 4, 11, 2, 1, 300, sp_J4_append_15ec4)], ([], [], []), [], [], 4, false, (false, 0, fun _ => 0), (1, 300, []))
theorem ca_J4_append_cf1ce_0 (l : Launch) : z_cok l RJ4 (headSpec (.code yJ4_append_cf1ce cJ4_append_cf1ce 2 (some (.object "java/lang/AbstractStringBuilder")) :: zTT) rm_J4_append_cf1ce).room (false, 0, fun _ => 0) (23, 4, 11, 2, 1, 300, sp_J4_append_15ec4) := z_ca4 (c_J4_append_15ec4 l) mb_J4_append_15ec4 ⟨_, rfl, rfl⟩ wt_1235 wt_1236 wt_1237 (by decide)
theorem O_J4_append_cf1ce (l : Launch) : z_OK l RJ4 cJ4_append_cf1ce (headSpec (.code yJ4_append_cf1ce cJ4_append_cf1ce 2 (some (.object "java/lang/AbstractStringBuilder")) :: zTT) rm_J4_append_cf1ce).room M_J4_append_cf1ce := ⟨ok_J4_append_cf1ce, fo_J4, List.forall_mem_cons.mpr ⟨ca_J4_append_cf1ce_0 l, fun _ h => absurd h List.not_mem_nil⟩, fun _ h => absurd h List.not_mem_nil, fun _ h => absurd h List.not_mem_nil, fun _ h => absurd h List.not_mem_nil, fun _ h => absurd h List.not_mem_nil, rfl, rfl, fun _ h => absurd h List.not_mem_nil⟩
theorem c_J4_append_cf1ce (l : Launch) : z_CS l yJ4_append_cf1ce cJ4_append_cf1ce 2 (some (.object "java/lang/AbstractStringBuilder")) rm_J4_append_cf1ce sp_J4_append_cf1ce := by
  refine z_methF (by decide +kernel) (Or.inr (Or.inr (Or.inr (Or.inr (Or.inl ⟨rfl, _, rfl, Or.inl ⟨_, rfl⟩⟩))))) (fun h => by cases h) rfl (O_J4_append_cf1ce l) ?_
  intro av w K h
  match av, h with
  | [.ref (o : Nat), s], h =>
    have h2 := h
    obtain ⟨P, m, n, g, f, ⟨v, N, -, -, -, hO, -⟩, -, -, hs0, -⟩ := h2
    have hs1 := hs0 w Ext.rf
    obtain ⟨G, wi, wl⟩ := w
    dsimp only at hO
    have ho : o < G.length := nth_lt hO
    obtain ⟨P, m, n, g, f, hS, hb, hW, hs2, hn, h⟩ := h
    rcases strV_ref hs1 with ⟨u, rfl, hu⟩ | ⟨cst, rfl⟩
    · refine ⟨Nat.le_of_ble_eq_true rfl, fun Jm hs => hs 400 0 _ _ _ _ _ ?_⟩
      conv => whnf
      repeat ((first | rw [rcv4 hO] | refine ⟨trivial, ?_⟩ | refine ⟨rfl, ?_⟩ | refine ⟨fun hc => absurd hc (by decide), fun _ => ?_⟩ | refine ⟨fun _ => ?_, fun hc => absurd (by decide) hc⟩ | refine ⟨fun _ => ?_, fun hc => absurd hc (by decide)⟩ | refine ⟨fun hc => absurd (by decide) hc, fun _ => ?_⟩ | refine ⟨Or.inr rfl, ?_⟩ | refine ⟨Or.inl rfl, ?_⟩ | refine ⟨fun hq => absurd (by assumption) hq, fun _ => ?_⟩ | refine ⟨fun _ => ?_, fun hq => absurd (by assumption) hq⟩ | refine ⟨fun hq => absurd hq (by assumption), fun _ => ?_⟩ | refine ⟨fun _ => ?_, fun hq => absurd hq (by assumption)⟩); conv => whnf)
      try dsimp only
      refine ⟨⟨Nat.le_of_ble_eq_true rfl, Nat.le_of_ble_eq_true rfl⟩, by simp [z_wfl, z_wfs, z_rlt, z_arl, Nat.blt_eq, ho, show u < G.length from hu], ?_⟩
      refine ⟨P, m, n, g, f, hS, hb, hW, hs2, hn, fun w1 e1 s1 => ?_⟩
      conv => whnf
      repeat ((first | refine ⟨zG_of _, ?_⟩ | refine ⟨trivial, ?_⟩ | refine ⟨rfl, ?_⟩ | refine ⟨fun hc => absurd hc (by decide), fun _ => ?_⟩ | refine ⟨fun _ => ?_, fun hc => absurd (by decide) hc⟩ | refine ⟨fun _ => ?_, fun hc => absurd hc (by decide)⟩ | refine ⟨fun hc => absurd (by decide) hc, fun _ => ?_⟩); conv => whnf)
      try dsimp only
      exact h w1 e1 s1
    · refine ⟨Nat.le_of_ble_eq_true rfl, fun Jm hs => hs 400 0 _ _ _ _ _ ?_⟩
      conv => whnf
      repeat ((first | rw [rcv4 hO] | refine ⟨trivial, ?_⟩ | refine ⟨rfl, ?_⟩ | refine ⟨fun hc => absurd hc (by decide), fun _ => ?_⟩ | refine ⟨fun _ => ?_, fun hc => absurd (by decide) hc⟩ | refine ⟨fun _ => ?_, fun hc => absurd hc (by decide)⟩ | refine ⟨fun hc => absurd (by decide) hc, fun _ => ?_⟩ | refine ⟨Or.inr rfl, ?_⟩ | refine ⟨Or.inl rfl, ?_⟩ | refine ⟨fun hq => absurd (by assumption) hq, fun _ => ?_⟩ | refine ⟨fun _ => ?_, fun hq => absurd (by assumption) hq⟩ | refine ⟨fun hq => absurd hq (by assumption), fun _ => ?_⟩ | refine ⟨fun _ => ?_, fun hq => absurd hq (by assumption)⟩); conv => whnf)
      try dsimp only
      refine ⟨⟨Nat.le_of_ble_eq_true rfl, Nat.le_of_ble_eq_true rfl⟩, by simp [z_wfl, z_wfs, z_rlt, z_arl, Nat.blt_eq, ho], ?_⟩
      refine ⟨P, m, n, g, f, hS, hb, hW, hs2, hn, fun w1 e1 s1 => ?_⟩
      conv => whnf
      repeat ((first | refine ⟨zG_of _, ?_⟩ | refine ⟨trivial, ?_⟩ | refine ⟨rfl, ?_⟩ | refine ⟨fun hc => absurd hc (by decide), fun _ => ?_⟩ | refine ⟨fun _ => ?_, fun hc => absurd (by decide) hc⟩ | refine ⟨fun _ => ?_, fun hc => absurd hc (by decide)⟩ | refine ⟨fun hc => absurd (by decide) hc, fun _ => ?_⟩); conv => whnf)
      try dsimp only
      exact h w1 e1 s1

