/-! a StringBuilder out of a String; a String out of a StringBuilder -/
theorem nk_J0 : ∀ k, k < 4 → (([some none, none, none, none] : List (Option (Option Nat)))[k]? = some none ∧ (tyJ0 k = .int ∨ tyJ0 k = .boolean ∨ tyJ0 k = .byte)) ∨ (([some none, none, none, none] : List (Option (Option Nat)))[k]? = some (some none) ∧ ((∃ n, tyJ0 k = .object n) ∨ ∃ t, tyJ0 k = .array t))
  | 0, _ => Or.inr ⟨rfl, Or.inr ⟨_, rfl⟩⟩
  | 1, _ => Or.inl ⟨rfl, Or.inr (Or.inr rfl)⟩
  | 2, _ => Or.inl ⟨rfl, Or.inl rfl⟩
  | 3, _ => Or.inl ⟨rfl, Or.inr (Or.inl rfl)⟩
  | n + 4, h => absurd h (by omega)
theorem nk_J4 : ∀ k, k < 4 → (([some none, none, none, none] : List (Option (Option Nat)))[k]? = some none ∧ (tyJ4 k = .int ∨ tyJ4 k = .boolean ∨ tyJ4 k = .byte)) ∨ (([some none, none, none, none] : List (Option (Option Nat)))[k]? = some (some none) ∧ ((∃ n, tyJ4 k = .object n) ∨ ∃ t, tyJ4 k = .array t))
  | 0, _ => Or.inr ⟨rfl, Or.inr ⟨_, rfl⟩⟩
  | 1, _ => Or.inl ⟨rfl, Or.inr (Or.inr rfl)⟩
  | 2, _ => Or.inl ⟨rfl, Or.inr (Or.inl rfl)⟩
  | 3, _ => Or.inl ⟨rfl, Or.inl rfl⟩
  | n + 4, h => absurd h (by omega)
def sp_J5_init_a7421 : zSp := fun av w K => match av with
  | [.ref o, s] => ∃ (P : Nat → Prop) (f : Nat → Nat), s = .retAddr 3 ∧ (∀ w', StrV w' s 1 f) ∧ z_nth w.1 o = some (.inl (11, [some none, none, none, none])) ∧ ¬ P o ∧ Bel P w ∧ WF w ∧ w.2.1 o 3 = nI 0 ∧ ∀ w' g, Ext P w w' → SB P w' o 0 1 g → (∀ k, k < 1 → g k = f k) → K none w'
  | _ => False
def rm_J5_init_a7421 : Room := { frames := 7, cells := 2, slots := 317, locals := 155 }
def M_J5_init_a7421 : zM := (k_J5_init_a7421, f_J5, [(3, 6, 0, 1, 0, 0, sp_none), (32, 4, 10, 1, 0, 0, sp_J0_length_8abf5), (40, 4, 10, 1, 0, 0, sp_J0_coder_7d493), (43, 13, 11, 2, 1, 300, sp_J4_append_cf1ce)], ([(38, 2147483631), (39, 2147483647)], [], []), [], [], 0, true, (false, 0, fun _ => 0), (2, 317, []))
theorem ca_J5_init_a7421_0 (l : Launch) : z_cok l RJ5 (headSpec (.code yJ5_init_a7421 cJ5_init_a7421 5 none :: zTT) rm_J5_init_a7421).room (false, 0, fun _ => 0) (3, 6, 0, 1, 0, 0, sp_none) := z_ca6 wt_1031 wt_61 wt_62 (by decide)
theorem ca_J5_init_a7421_1 (l : Launch) : z_cok l RJ5 (headSpec (.code yJ5_init_a7421 cJ5_init_a7421 5 none :: zTT) rm_J5_init_a7421).room (false, 0, fun _ => 0) (32, 4, 10, 1, 0, 0, sp_J0_length_8abf5) := z_ca4 (c_J0_length_8abf5 l) mb_J0_length_8abf5 ⟨_, rfl, rfl⟩ wt_1226 wt_957 wt_958 (by decide)
theorem ca_J5_init_a7421_2 (l : Launch) : z_cok l RJ5 (headSpec (.code yJ5_init_a7421 cJ5_init_a7421 5 none :: zTT) rm_J5_init_a7421).room (false, 0, fun _ => 0) (40, 4, 10, 1, 0, 0, sp_J0_coder_7d493) := z_ca4 (c_J0_coder_7d493 l) mb_J0_coder_7d493 ⟨_, rfl, rfl⟩ wt_1228 wt_961 wt_962 (by decide)
theorem ca_J5_init_a7421_3 (l : Launch) : z_cok l RJ5 (headSpec (.code yJ5_init_a7421 cJ5_init_a7421 5 none :: zTT) rm_J5_init_a7421).room (false, 0, fun _ => 0) (43, 13, 11, 2, 1, 300, sp_J4_append_cf1ce) := z_ca13 (c_J4_append_cf1ce l) mb_J4_append_cf1ce rfl (zTT_in (by decide +kernel) rfl) wt_1229 (zTT_in (by decide +kernel) rfl) wt_1230 wt_1233 mb_J5_append_cf1ce (by decide)
theorem O_J5_init_a7421 (l : Launch) : z_OK l RJ5 cJ5_init_a7421 (headSpec (.code yJ5_init_a7421 cJ5_init_a7421 5 none :: zTT) rm_J5_init_a7421).room M_J5_init_a7421 := ⟨ok_J5_init_a7421, fo_J5, List.forall_mem_cons.mpr ⟨ca_J5_init_a7421_0 l, List.forall_mem_cons.mpr ⟨ca_J5_init_a7421_1 l, List.forall_mem_cons.mpr ⟨ca_J5_init_a7421_2 l, List.forall_mem_cons.mpr ⟨ca_J5_init_a7421_3 l, fun _ h => absurd h List.not_mem_nil⟩⟩⟩⟩, List.forall_mem_cons.mpr ⟨wt_1227, List.forall_mem_cons.mpr ⟨wt_1086, fun _ h => absurd h List.not_mem_nil⟩⟩, fun _ h => absurd h List.not_mem_nil, fun _ h => absurd h List.not_mem_nil, fun _ h => absurd h List.not_mem_nil, rfl, rfl, fun _ h => absurd h List.not_mem_nil⟩
theorem c_J5_init_a7421 (l : Launch) : z_CS l yJ5_init_a7421 cJ5_init_a7421 5 none rm_J5_init_a7421 sp_J5_init_a7421 := by
  refine z_methF (by decide +kernel) (Or.inl ⟨rfl, rfl⟩) (fun _ => rfl) rfl (O_J5_init_a7421 l) ?_
  intro av w K h
  match av, h with
  | [.ref (o : Nat), s], h =>
    obtain ⟨P, f, rfl, hs0, hO, hbo, hb, hW, h3, h⟩ := h
    obtain ⟨G, wi, wl⟩ := w
    dsimp only at hO h3
    unfold WF at hW
    dsimp only at hW
    have hb : ∀ x, P x → x < G.length := hb
    have ho : o < G.length := nth_lt hO
    refine ⟨Nat.le_of_ble_eq_true rfl, fun Jm hs => hs 400 0 _ _ _ _ _ ?_⟩
    conv => whnf
    repeat ((first | rw [hO] | refine ⟨trivial, ?_⟩ | refine ⟨rfl, ?_⟩ | refine ⟨fun hc => absurd hc (by decide), fun _ => ?_⟩ | refine ⟨fun _ => ?_, fun hc => absurd (by decide) hc⟩ | refine ⟨fun _ => ?_, fun hc => absurd hc (by decide)⟩ | refine ⟨fun hc => absurd (by decide) hc, fun _ => ?_⟩ | refine ⟨Or.inr rfl, ?_⟩ | refine ⟨Or.inl rfl, ?_⟩ | refine ⟨fun hq => absurd (by assumption) hq, fun _ => ?_⟩ | refine ⟨fun _ => ?_, fun hq => absurd (by assumption) hq⟩ | refine ⟨fun hq => absurd hq (by assumption), fun _ => ?_⟩ | refine ⟨fun _ => ?_, fun hq => absurd hq (by assumption)⟩); conv => whnf)
    try dsimp only
    refine ⟨1, f, hs0 _, ?_⟩
    conv => whnf
    repeat ((first | rw [hO] | refine ⟨trivial, ?_⟩ | refine ⟨rfl, ?_⟩ | refine ⟨fun hc => absurd hc (by decide), fun _ => ?_⟩ | refine ⟨fun _ => ?_, fun hc => absurd (by decide) hc⟩ | refine ⟨fun _ => ?_, fun hc => absurd hc (by decide)⟩ | refine ⟨fun hc => absurd (by decide) hc, fun _ => ?_⟩ | refine ⟨Or.inr rfl, ?_⟩ | refine ⟨Or.inl rfl, ?_⟩ | refine ⟨fun hq => absurd (by assumption) hq, fun _ => ?_⟩ | refine ⟨fun _ => ?_, fun hq => absurd (by assumption) hq⟩ | refine ⟨fun hq => absurd hq (by assumption), fun _ => ?_⟩ | refine ⟨fun _ => ?_, fun hq => absurd hq (by assumption)⟩); conv => whnf)
    try dsimp only
    refine ⟨⟨by decide, by decide⟩, ?_⟩
    conv => whnf
    repeat ((first | rw [hO] | refine ⟨trivial, ?_⟩ | refine ⟨rfl, ?_⟩ | refine ⟨fun hc => absurd hc (by decide), fun _ => ?_⟩ | refine ⟨fun _ => ?_, fun hc => absurd (by decide) hc⟩ | refine ⟨fun _ => ?_, fun hc => absurd hc (by decide)⟩ | refine ⟨fun hc => absurd (by decide) hc, fun _ => ?_⟩ | refine ⟨Or.inr rfl, ?_⟩ | refine ⟨Or.inl rfl, ?_⟩ | refine ⟨fun hq => absurd (by assumption) hq, fun _ => ?_⟩ | refine ⟨fun _ => ?_, fun hq => absurd (by assumption) hq⟩ | refine ⟨fun hq => absurd hq (by assumption), fun _ => ?_⟩ | refine ⟨fun _ => ?_, fun hq => absurd hq (by assumption)⟩); conv => whnf)
    try dsimp only
    refine ⟨17, by decide, by omega, ⟨Nat.le_of_ble_eq_true rfl, Nat.le_of_ble_eq_true rfl⟩, by simp [z_wfl, z_wfs, z_rlt, z_arl, Nat.blt_eq, ho, hW], ?_⟩
    rw [z_psh_eq, Nat.zero_add, Nat.zero_add]
    have hO1 : z_nth (G ++ [(.inr (2, 17) : zSh)]) o = some (.inl (11, [some none, none, none, none])) := by rw [nth_app ho]; exact hO
    have hL1 : z_nth (G ++ [(.inr (2, 17) : zSh)]) G.length = some (.inr (2, 17)) := nth_new rfl
    conv => whnf
    repeat ((first | rw [hO1] | refine ⟨trivial, ?_⟩ | refine ⟨rfl, ?_⟩ | refine ⟨fun hc => absurd hc (by decide), fun _ => ?_⟩ | refine ⟨fun _ => ?_, fun hc => absurd (by decide) hc⟩ | refine ⟨fun _ => ?_, fun hc => absurd hc (by decide)⟩ | refine ⟨fun hc => absurd (by decide) hc, fun _ => ?_⟩ | refine ⟨Or.inr rfl, ?_⟩ | refine ⟨Or.inl rfl, ?_⟩ | refine ⟨fun hq => absurd (by assumption) hq, fun _ => ?_⟩ | refine ⟨fun _ => ?_, fun hq => absurd (by assumption) hq⟩ | refine ⟨fun hq => absurd hq (by assumption), fun _ => ?_⟩ | refine ⟨fun _ => ?_, fun hq => absurd hq (by assumption)⟩); conv => whnf)
    try dsimp only
    rw [z_gset_eq _ _ _ _ hO1]
    have ho2 : o < (G ++ [(.inr (2, 17) : zSh)]).length := by rw [List.length_append]; omega
    have hO2 : z_nth ((G ++ [(.inr (2, 17) : zSh)]).set o (.inl (11, [some none, none, none, none].set 0 (some (some G.length))))) o = some (.inl (11, [some (some G.length), none, none, none])) := nth_set ho2
    have hO3 : z_nth ((G ++ [(.inr (2, 17) : zSh)]).set o (.inl (11, [some (some G.length), none, none, none]))) o = some (.inl (11, [some (some G.length), none, none, none])) := hO2
    have hg : ∀ x, x < G.length → x ≠ o → z_nth ((G ++ [(Sum.inr (2, 17) : zSh)]).set o (Sum.inl (11, [some none, none, none, none].set 0 (some (some G.length))) : zSh)) x = z_nth G x := fun x hx hxo => by rw [nth_setn hxo, nth_app hx]
    have hW2 := wfg_set (j := 0) (r := G.length) (wfg_app (s := .inr (2, 17)) hW (by rfl)) hO1 (by rw [List.length_append]; exact Nat.lt_succ_self _)
    have hlen : G.length ≤ ((G ++ [(Sum.inr (2, 17) : zSh)]).set o (Sum.inl (11, [some none, none, none, none].set 0 (some (some G.length))) : zSh)).length := by rw [List.length_set, List.length_append]; omega
    conv => whnf
    repeat ((first | rw [rcv13 hO2] | refine ⟨trivial, ?_⟩ | refine ⟨rfl, ?_⟩ | refine ⟨fun hc => absurd hc (by decide), fun _ => ?_⟩ | refine ⟨fun _ => ?_, fun hc => absurd (by decide) hc⟩ | refine ⟨fun _ => ?_, fun hc => absurd hc (by decide)⟩ | refine ⟨fun hc => absurd (by decide) hc, fun _ => ?_⟩ | refine ⟨Or.inr rfl, ?_⟩ | refine ⟨Or.inl rfl, ?_⟩ | refine ⟨fun hq => absurd (by assumption) hq, fun _ => ?_⟩ | refine ⟨fun _ => ?_, fun hq => absurd (by assumption) hq⟩ | refine ⟨fun hq => absurd hq (by assumption), fun _ => ?_⟩ | refine ⟨fun _ => ?_, fun hq => absurd hq (by assumption)⟩); conv => whnf)
    try dsimp only
    refine ⟨⟨Nat.le_of_ble_eq_true rfl, Nat.le_of_ble_eq_true rfl⟩, by simp [z_wfl, z_wfs, z_rlt, z_arl, Nat.blt_eq, Nat.lt_succ_of_lt ho], ?_⟩
    have e1 : Ext P (G, wi, wl) ((G ++ [(Sum.inr (2, 17) : zSh)]).set o (Sum.inl (11, [some none, none, none, none].set 0 (some (some G.length))) : zSh), z_row (z_up wi o 1 (nI 0)) G.length (fun _ => 0), wl) := ⟨hlen, fun x hx => ⟨hg x (hb x hx) (fun q => hbo (q ▸ hx)), by
      have hxo : x ≠ o := fun q => hbo (q ▸ hx)
      dsimp only
      rw [z_row_ne (Nat.ne_of_lt (hb x hx)), z_up_ne hxo], rfl⟩, fun _ => hW2⟩
    refine ⟨P, 0, 1, fun _ => 0, f, ⟨G.length, 17, Nat.zero_le _, hbo, fun q => Nat.lt_irrefl _ (hb _ q), hO2, ?_, ?_, by omega, ?_, Nat.zero_le _, fun k hk => absurd hk (Nat.not_lt_zero k), fun k hk => ?_⟩, fun x hx => Nat.lt_of_lt_of_le (hb x hx) hlen, hW2, fun w' _ => hs0 w', by decide, fun w2 e2 s2 => ?_⟩
    · dsimp only
      rw [z_row_ne (Nat.ne_of_lt ho)]
      simp [z_up]
    · dsimp only
      rw [z_row_ne (Nat.ne_of_lt ho)]
      simp only [z_up]
      rw [if_neg (by omega)]
      exact h3
    · dsimp only
      rw [nth_setn (by omega)]
      exact hL1
    · dsimp only
      simp only [z_row]
      rw [if_pos trivial]
      rfl
    · conv => whnf
      repeat ((first | refine ⟨zG_of _, ?_⟩ | refine ⟨trivial, ?_⟩ | refine ⟨rfl, ?_⟩ | refine ⟨fun hc => absurd hc (by decide), fun _ => ?_⟩ | refine ⟨fun _ => ?_, fun hc => absurd (by decide) hc⟩ | refine ⟨fun _ => ?_, fun hc => absurd hc (by decide)⟩ | refine ⟨fun hc => absurd (by decide) hc, fun _ => ?_⟩); conv => whnf)
      try dsimp only
      refine h w2 _ (e1.tr e2) s2 (fun k hk => ?_)
      unfold catF
      rw [if_neg (Nat.not_lt_zero _), Nat.sub_zero]
def sp_J4_init_a7421 : zSp := sp_J5_init_a7421
def rm_J4_init_a7421 : Room := { frames := 8, cells := 2, slots := 317, locals := 179 }
def M_J4_init_a7421 : zM := (k_J4_init_a7421, f_J4, [(7, 1, 0, 2, 2, 317, sp_J5_init_a7421)], ([], [], []), [], [], 0, true, (false, 0, fun _ => 0), (2, 317, []))
theorem ca_J4_init_a7421_0 (l : Launch) : z_cok l RJ4 (headSpec (.code yJ4_init_a7421 cJ4_init_a7421 2 none :: zTT) rm_J4_init_a7421).room (false, 0, fun _ => 0) (7, 1, 0, 2, 2, 317, sp_J5_init_a7421) := z_ca1 (c_J5_init_a7421 l) mb_J5_init_a7421 wt_1223 wt_1224 rfl (by decide)
theorem O_J4_init_a7421 (l : Launch) : z_OK l RJ4 cJ4_init_a7421 (headSpec (.code yJ4_init_a7421 cJ4_init_a7421 2 none :: zTT) rm_J4_init_a7421).room M_J4_init_a7421 := ⟨ok_J4_init_a7421, fo_J4, List.forall_mem_cons.mpr ⟨ca_J4_init_a7421_0 l, fun _ h => absurd h List.not_mem_nil⟩, fun _ h => absurd h List.not_mem_nil, fun _ h => absurd h List.not_mem_nil, fun _ h => absurd h List.not_mem_nil, fun _ h => absurd h List.not_mem_nil, rfl, rfl, fun _ h => absurd h List.not_mem_nil⟩
theorem c_J4_init_a7421 (l : Launch) : z_CS l yJ4_init_a7421 cJ4_init_a7421 2 none rm_J4_init_a7421 sp_J4_init_a7421 := by
  refine z_methF (by decide +kernel) (Or.inl ⟨rfl, rfl⟩) (fun _ => rfl) rfl (O_J4_init_a7421 l) ?_
  intro av w K h
  match av, h with
  | [.ref (o : Nat), s], h =>
    obtain ⟨P, f, rfl, hs0, hO, hr⟩ := h
    have ho : o < w.1.length := nth_lt hO
    refine ⟨Nat.le_of_ble_eq_true rfl, fun Jm hs => hs 400 0 _ _ _ _ _ ?_⟩
    obtain ⟨hbo, hb, hW, h3, h⟩ := hr
    conv => whnf
    repeat ((first | refine ⟨zG_of _, ?_⟩ | refine ⟨trivial, ?_⟩ | refine ⟨rfl, ?_⟩ | refine ⟨fun hc => absurd hc (by decide), fun _ => ?_⟩ | refine ⟨fun _ => ?_, fun hc => absurd (by decide) hc⟩ | refine ⟨fun _ => ?_, fun hc => absurd hc (by decide)⟩ | refine ⟨fun hc => absurd (by decide) hc, fun _ => ?_⟩); conv => whnf)
    try dsimp only
    refine ⟨⟨Nat.le_of_ble_eq_true rfl, Nat.le_of_ble_eq_true rfl⟩, by simp [z_wfl, z_wfs, z_rlt, z_arl, Nat.blt_eq, ho], ?_⟩
    refine ⟨P, f, rfl, hs0, hO, hbo, hb, hW, h3, fun w' g e s q => ?_⟩
    conv => whnf
    repeat ((first | refine ⟨zG_of _, ?_⟩ | refine ⟨trivial, ?_⟩ | refine ⟨rfl, ?_⟩ | refine ⟨fun hc => absurd hc (by decide), fun _ => ?_⟩ | refine ⟨fun _ => ?_, fun hc => absurd (by decide) hc⟩ | refine ⟨fun _ => ?_, fun hc => absurd hc (by decide)⟩ | refine ⟨fun hc => absurd (by decide) hc, fun _ => ?_⟩); conv => whnf)
    try dsimp only
    exact h w' g e s q
def sp_J7_checkLength_df160 : zSp := fun av w K => match av with
  | [.int a, .int c] => ∃ x y : Nat, a = nI x ∧ c = nI y ∧ x ≤ y ∧ y < 2 ^ 31 ∧ K none w
  | _ => False
def rm_J7_checkLength_df160 : Room := { frames := 0, cells := 0, slots := 0, locals := 0 }
def M_J7_checkLength_df160 : zM := (k_J7_checkLength_df160, [], [], ([], [], []), [], [], 0, false, (false, 0, fun _ => 0), (0, 0, []))
theorem O_J7_checkLength_df160 (l : Launch) : z_OK l RJ7 cJ7_checkLength_df160 (headSpec (.code yJ7_checkLength_df160 cJ7_checkLength_df160 2 none :: zTT) rm_J7_checkLength_df160).room M_J7_checkLength_df160 := ⟨ok_J7_checkLength_df160, fun _ h => absurd h List.not_mem_nil, fun _ h => absurd h List.not_mem_nil, fun _ h => absurd h List.not_mem_nil, fun _ h => absurd h List.not_mem_nil, fun _ h => absurd h List.not_mem_nil, fun _ h => absurd h List.not_mem_nil, rfl, rfl, fun _ h => absurd h List.not_mem_nil⟩
theorem c_J7_checkLength_df160 (l : Launch) : z_CS l yJ7_checkLength_df160 cJ7_checkLength_df160 2 none rm_J7_checkLength_df160 sp_J7_checkLength_df160 := by
  refine z_methF (by decide +kernel) (Or.inl ⟨rfl, rfl⟩) (fun h => by cases h) rfl (O_J7_checkLength_df160 l) ?_
  intro av w K h
  match av, h with
  | [.int a, .int c], h =>
    obtain ⟨x, y, rfl, rfl, hxy, hy, h⟩ := h
    have g : ¬ nI y < nI x := nI_nlt hxy hy
    refine ⟨Nat.le_of_ble_eq_true rfl, fun Jm hs => hs 400 0 _ _ _ _ _ ?_⟩
    conv => whnf
    repeat ((first | refine ⟨trivial, ?_⟩ | refine ⟨rfl, ?_⟩ | refine ⟨fun hc => absurd hc (by decide), fun _ => ?_⟩ | refine ⟨fun _ => ?_, fun hc => absurd (by decide) hc⟩ | refine ⟨fun _ => ?_, fun hc => absurd hc (by decide)⟩ | refine ⟨fun hc => absurd (by decide) hc, fun _ => ?_⟩ | refine ⟨Or.inr rfl, ?_⟩ | refine ⟨Or.inl rfl, ?_⟩ | refine ⟨fun hq => absurd (by assumption) hq, fun _ => ?_⟩ | refine ⟨fun _ => ?_, fun hq => absurd (by assumption) hq⟩ | refine ⟨fun hq => absurd hq (by assumption), fun _ => ?_⟩ | refine ⟨fun _ => ?_, fun hq => absurd hq (by assumption)⟩); conv => whnf)
    try dsimp only
    exact h
def sp_J7_copyOfRangeByte_39247 : zSp := fun av w K => match av with
  | [.ref v, .int a, .int c] => ∃ (N n : Nat), z_nth w.1 v = some (.inr (2, N)) ∧ a = nI 0 ∧ c = nI n ∧ n ≤ N ∧ N ≤ 300 ∧ (∀ k, k < N → fits .byte (.int (w.2.1 v k)) = true) ∧ WF w ∧ ∀ wi' : Nat → Nat → Int32, (∀ x, x ≠ w.1.length → wi' x = w.2.1 x) → (∀ k, k < n → wi' w.1.length k = w.2.1 v k) → K (some (.ref w.1.length)) (w.1 ++ [.inr (2, n)], wi', w.2.2)
  | _ => False
def rm_J7_copyOfRangeByte_39247 : Room := { frames := 1, cells := 1, slots := 300, locals := 26 }
def M_J7_copyOfRangeByte_39247 : zM := (k_J7_copyOfRangeByte_39247, [], [(343, 0, 0, 2, 0, 0, sp_J7_checkLength_df160), (304, 0, 0, 2, 0, 0, sp_J9_min_7cf53), (150, 7, 0, 5, 0, 0, sp_none)], ([], [], []), [], [], 4, false, (false, 0, fun _ => 0), (1, 300, []))
theorem ca_J7_copyOfRangeByte_39247_0 (l : Launch) : z_cok l RJ7 (headSpec (.code yJ7_copyOfRangeByte_39247 cJ7_copyOfRangeByte_39247 5 (some (.array .byte)) :: zTT) rm_J7_copyOfRangeByte_39247).room (false, 0, fun _ => 0) (343, 0, 0, 2, 0, 0, sp_J7_checkLength_df160) := z_ca0 (c_J7_checkLength_df160 l) mb_J7_checkLength_df160 wt_1196 wt_1197 (by decide)
theorem ca_J7_copyOfRangeByte_39247_1 (l : Launch) : z_cok l RJ7 (headSpec (.code yJ7_copyOfRangeByte_39247 cJ7_copyOfRangeByte_39247 5 (some (.array .byte)) :: zTT) rm_J7_copyOfRangeByte_39247).room (false, 0, fun _ => 0) (304, 0, 0, 2, 0, 0, sp_J9_min_7cf53) := z_ca0 (c_J9_min_7cf53 l) mb_J9_min_7cf53 wt_1097 wt_1098 (by decide)
theorem ca_J7_copyOfRangeByte_39247_2 (l : Launch) : z_cok l RJ7 (headSpec (.code yJ7_copyOfRangeByte_39247 cJ7_copyOfRangeByte_39247 5 (some (.array .byte)) :: zTT) rm_J7_copyOfRangeByte_39247).room (false, 0, fun _ => 0) (150, 7, 0, 5, 0, 0, sp_none) := z_ca7 (zTT_in (by decide +kernel) rfl) (by decide)
theorem O_J7_copyOfRangeByte_39247 (l : Launch) : z_OK l RJ7 cJ7_copyOfRangeByte_39247 (headSpec (.code yJ7_copyOfRangeByte_39247 cJ7_copyOfRangeByte_39247 5 (some (.array .byte)) :: zTT) rm_J7_copyOfRangeByte_39247).room M_J7_copyOfRangeByte_39247 := ⟨ok_J7_copyOfRangeByte_39247, fun _ h => absurd h List.not_mem_nil, List.forall_mem_cons.mpr ⟨ca_J7_copyOfRangeByte_39247_0 l, List.forall_mem_cons.mpr ⟨ca_J7_copyOfRangeByte_39247_1 l, List.forall_mem_cons.mpr ⟨ca_J7_copyOfRangeByte_39247_2 l, fun _ h => absurd h List.not_mem_nil⟩⟩⟩, fun _ h => absurd h List.not_mem_nil, fun _ h => absurd h List.not_mem_nil, fun _ h => absurd h List.not_mem_nil, fun _ h => absurd h List.not_mem_nil, rfl, rfl, fun _ h => absurd h List.not_mem_nil⟩
theorem c_J7_copyOfRangeByte_39247 (l : Launch) : z_CS l yJ7_copyOfRangeByte_39247 cJ7_copyOfRangeByte_39247 5 (some (.array .byte)) rm_J7_copyOfRangeByte_39247 sp_J7_copyOfRangeByte_39247 := by
  refine z_methF (by decide +kernel) (Or.inr (Or.inr (Or.inr (Or.inr (Or.inl ⟨rfl, _, rfl, Or.inr ⟨_, rfl⟩⟩))))) (fun h => by cases h) rfl (O_J7_copyOfRangeByte_39247 l) ?_
  intro av w K h
  match av, h with
  | [.ref (v : Nat), .int a, .int c], h =>
    obtain ⟨N, n, hV, rfl, rfl, hn, hN, hF, hW, h⟩ := h
    obtain ⟨G, wi, wl⟩ := w
    dsimp only at hV hF h
    unfold WF at hW
    dsimp only at hW
    have hv : v < G.length := nth_lt hV
    refine ⟨Nat.le_of_ble_eq_true rfl, fun Jm hs => hs 400 0 _ _ _ _ _ ?_⟩
    conv => whnf
    repeat ((first | rw [hV] | refine ⟨trivial, ?_⟩ | refine ⟨rfl, ?_⟩ | refine ⟨fun hc => absurd hc (by decide), fun _ => ?_⟩ | refine ⟨fun _ => ?_, fun hc => absurd (by decide) hc⟩ | refine ⟨fun _ => ?_, fun hc => absurd hc (by decide)⟩ | refine ⟨fun hc => absurd (by decide) hc, fun _ => ?_⟩ | refine ⟨Or.inr rfl, ?_⟩ | refine ⟨Or.inl rfl, ?_⟩ | refine ⟨fun hq => absurd (by assumption) hq, fun _ => ?_⟩ | refine ⟨fun _ => ?_, fun hq => absurd (by assumption) hq⟩ | refine ⟨fun hq => absurd hq (by assumption), fun _ => ?_⟩ | refine ⟨fun _ => ?_, fun hq => absurd hq (by assumption)⟩); conv => whnf)
    try dsimp only
    refine ⟨0, n, rfl, rfl, Nat.zero_le _, by omega, ?_⟩
    conv => whnf
    repeat ((first | rw [hV] | refine ⟨trivial, ?_⟩ | refine ⟨rfl, ?_⟩ | refine ⟨fun hc => absurd hc (by decide), fun _ => ?_⟩ | refine ⟨fun _ => ?_, fun hc => absurd (by decide) hc⟩ | refine ⟨fun _ => ?_, fun hc => absurd hc (by decide)⟩ | refine ⟨fun hc => absurd (by decide) hc, fun _ => ?_⟩ | refine ⟨Or.inr rfl, ?_⟩ | refine ⟨Or.inl rfl, ?_⟩ | refine ⟨fun hq => absurd (by assumption) hq, fun _ => ?_⟩ | refine ⟨fun _ => ?_, fun hq => absurd (by assumption) hq⟩ | refine ⟨fun hq => absurd hq (by assumption), fun _ => ?_⟩ | refine ⟨fun _ => ?_, fun hq => absurd hq (by assumption)⟩); conv => whnf)
    try dsimp only
    refine ⟨n, nI_sub (Nat.zero_le _), by omega, ⟨Nat.le_of_ble_eq_true rfl, by show 0 + n ≤ 300; omega⟩, by simp [z_wfl, z_wfs, z_rlt, z_arl, Nat.blt_eq, hv, hW], ?_⟩
    rw [z_psh_eq, Nat.zero_add, Nat.zero_add]
    have hV1 : z_nth (G ++ [(.inr (2, n) : zSh)]) v = some (.inr (2, N)) := by rw [nth_app hv]; exact hV
    have hL1 : z_nth (G ++ [(.inr (2, n) : zSh)]) G.length = some (.inr (2, n)) := nth_new rfl
    conv => whnf
    repeat ((first | rw [hV1] | rw [hL1] | refine ⟨trivial, ?_⟩ | refine ⟨rfl, ?_⟩ | refine ⟨fun hc => absurd hc (by decide), fun _ => ?_⟩ | refine ⟨fun _ => ?_, fun hc => absurd (by decide) hc⟩ | refine ⟨fun _ => ?_, fun hc => absurd hc (by decide)⟩ | refine ⟨fun hc => absurd (by decide) hc, fun _ => ?_⟩ | refine ⟨Or.inr rfl, ?_⟩ | refine ⟨Or.inl rfl, ?_⟩ | refine ⟨fun hq => absurd (by assumption) hq, fun _ => ?_⟩ | refine ⟨fun _ => ?_, fun hq => absurd (by assumption) hq⟩ | refine ⟨fun hq => absurd hq (by assumption), fun _ => ?_⟩ | refine ⟨fun _ => ?_, fun hq => absurd hq (by assumption)⟩); conv => whnf)
    try dsimp only
    refine ⟨N, n, nI_sub (Nat.zero_le _), nI_sub (Nat.zero_le _), by omega, by omega, ?_⟩
    conv => whnf
    repeat ((first | rw [hV1] | rw [hL1] | refine ⟨trivial, ?_⟩ | refine ⟨rfl, ?_⟩ | refine ⟨fun hc => absurd hc (by decide), fun _ => ?_⟩ | refine ⟨fun _ => ?_, fun hc => absurd (by decide) hc⟩ | refine ⟨fun _ => ?_, fun hc => absurd hc (by decide)⟩ | refine ⟨fun hc => absurd (by decide) hc, fun _ => ?_⟩ | refine ⟨Or.inr rfl, ?_⟩ | refine ⟨Or.inl rfl, ?_⟩ | refine ⟨fun hq => absurd (by assumption) hq, fun _ => ?_⟩ | refine ⟨fun _ => ?_, fun hq => absurd (by assumption) hq⟩ | refine ⟨fun hq => absurd hq (by assumption), fun _ => ?_⟩ | refine ⟨fun _ => ?_, fun hq => absurd hq (by assumption)⟩); conv => whnf)
    try dsimp only
    rw [Nat.min_eq_right hn, nI_clamp (show n < 2 ^ 31 by omega), nI_clamp (show 0 < 2 ^ 31 by decide), Nat.zero_add]
    refine ⟨⟨nI_pos (by decide), nI_pos (by decide), nI_pos (by omega), hn, Nat.le_refl _, fun i hi => ?_⟩, ?_⟩
    · rw [Nat.zero_add, z_row_ne (Nat.ne_of_lt hv)]
      exact hF i (by omega)
    · conv => whnf
      repeat ((first | rw [hV1] | rw [hL1] | refine ⟨trivial, ?_⟩ | refine ⟨rfl, ?_⟩ | refine ⟨fun hc => absurd hc (by decide), fun _ => ?_⟩ | refine ⟨fun _ => ?_, fun hc => absurd (by decide) hc⟩ | refine ⟨fun _ => ?_, fun hc => absurd hc (by decide)⟩ | refine ⟨fun hc => absurd (by decide) hc, fun _ => ?_⟩ | refine ⟨Or.inr rfl, ?_⟩ | refine ⟨Or.inl rfl, ?_⟩ | refine ⟨fun hq => absurd (by assumption) hq, fun _ => ?_⟩ | refine ⟨fun _ => ?_, fun hq => absurd (by assumption) hq⟩ | refine ⟨fun hq => absurd hq (by assumption), fun _ => ?_⟩ | refine ⟨fun _ => ?_, fun hq => absurd hq (by assumption)⟩); conv => whnf)
      try dsimp only
      refine h _ (fun x hx => by rw [z_row_ne hx, z_row_ne hx]) (fun k hk => ?_)
      simp [z_row, va_cpy, Nat.ne_of_lt hv, hk]
def sp_J7_copyOfRange_39247 : zSp := sp_J7_copyOfRangeByte_39247
def rm_J7_copyOfRange_39247 : Room := { frames := 2, cells := 1, slots := 300, locals := 50 }
def M_J7_copyOfRange_39247 : zM := (k_J7_copyOfRange_39247, [], [(339, 0, 0, 3, 1, 300, sp_J7_copyOfRangeByte_39247), (310, 9, 0, 1, 0, 0, sp_none)], ([], [], []), [], [], 4, false, (false, 0, fun _ => 0), (1, 300, [(311, .null)]))
theorem ca_J7_copyOfRange_39247_0 (l : Launch) : z_cok l RJ7 (headSpec (.code yJ7_copyOfRange_39247 cJ7_copyOfRange_39247 3 (some (.array .byte)) :: zTT) rm_J7_copyOfRange_39247).room (false, 0, fun _ => 0) (339, 0, 0, 3, 1, 300, sp_J7_copyOfRangeByte_39247) := z_ca0 (c_J7_copyOfRangeByte_39247 l) mb_J7_copyOfRangeByte_39247 wt_1193 wt_1194 (by decide)
theorem ca_J7_copyOfRange_39247_1 (l : Launch) : z_cok l RJ7 (headSpec (.code yJ7_copyOfRange_39247 cJ7_copyOfRange_39247 3 (some (.array .byte)) :: zTT) rm_J7_copyOfRange_39247).room (false, 0, fun _ => 0) (310, 9, 0, 1, 0, 0, sp_none) := z_ca9 (zTT_in (by decide +kernel) rfl) (by decide)
theorem O_J7_copyOfRange_39247 (l : Launch) : z_OK l RJ7 cJ7_copyOfRange_39247 (headSpec (.code yJ7_copyOfRange_39247 cJ7_copyOfRange_39247 3 (some (.array .byte)) :: zTT) rm_J7_copyOfRange_39247).room M_J7_copyOfRange_39247 := ⟨ok_J7_copyOfRange_39247, fun _ h => absurd h List.not_mem_nil, List.forall_mem_cons.mpr ⟨ca_J7_copyOfRange_39247_0 l, List.forall_mem_cons.mpr ⟨ca_J7_copyOfRange_39247_1 l, fun _ h => absurd h List.not_mem_nil⟩⟩, fun _ h => absurd h List.not_mem_nil, fun _ h => absurd h List.not_mem_nil, fun _ h => absurd h List.not_mem_nil, fun _ h => absurd h List.not_mem_nil, rfl, rfl, List.forall_mem_cons.mpr ⟨(zTT_in (by decide +kernel) rfl), fun _ h => absurd h List.not_mem_nil⟩⟩
theorem c_J7_copyOfRange_39247 (l : Launch) : z_CS l yJ7_copyOfRange_39247 cJ7_copyOfRange_39247 3 (some (.array .byte)) rm_J7_copyOfRange_39247 sp_J7_copyOfRange_39247 := by
  refine z_methF (by decide +kernel) (Or.inr (Or.inr (Or.inr (Or.inr (Or.inl ⟨rfl, _, rfl, Or.inr ⟨_, rfl⟩⟩))))) (fun h => by cases h) rfl (O_J7_copyOfRange_39247 l) ?_
  intro av w K h
  match av, h with
  | [.ref (v : Nat), .int a, .int c], h =>
    obtain ⟨N, n, hV, rfl, rfl, hn, hN, hF, hW, h⟩ := h
    obtain ⟨G, wi, wl⟩ := w
    dsimp only at hV hF h
    have hW0 := hW
    unfold WF at hW
    dsimp only at hW
    have hv : v < G.length := nth_lt hV
    refine ⟨Nat.le_of_ble_eq_true rfl, fun Jm hs => hs 400 0 _ _ _ _ _ ?_⟩
    conv => whnf
    repeat ((first | rw [hV] | refine ⟨trivial, ?_⟩ | refine ⟨rfl, ?_⟩ | refine ⟨fun hc => absurd hc (by decide), fun _ => ?_⟩ | refine ⟨fun _ => ?_, fun hc => absurd (by decide) hc⟩ | refine ⟨fun _ => ?_, fun hc => absurd hc (by decide)⟩ | refine ⟨fun hc => absurd (by decide) hc, fun _ => ?_⟩ | refine ⟨Or.inr rfl, ?_⟩ | refine ⟨Or.inl rfl, ?_⟩ | refine ⟨fun hq => absurd (by assumption) hq, fun _ => ?_⟩ | refine ⟨fun _ => ?_, fun hq => absurd (by assumption) hq⟩ | refine ⟨fun hq => absurd hq (by assumption), fun _ => ?_⟩ | refine ⟨fun _ => ?_, fun hq => absurd hq (by assumption)⟩); conv => whnf)
    try dsimp only
    refine ⟨fun hc => ?_, fun hc => ?_⟩
    · have hc := (nI_eq (by omega) (by omega)).mp hc
      subst hc
      conv => whnf
      repeat ((first | rw [hV] | refine ⟨trivial, ?_⟩ | refine ⟨rfl, ?_⟩ | refine ⟨fun hc => absurd hc (by decide), fun _ => ?_⟩ | refine ⟨fun _ => ?_, fun hc => absurd (by decide) hc⟩ | refine ⟨fun _ => ?_, fun hc => absurd hc (by decide)⟩ | refine ⟨fun hc => absurd (by decide) hc, fun _ => ?_⟩ | refine ⟨Or.inr rfl, ?_⟩ | refine ⟨Or.inl rfl, ?_⟩ | refine ⟨fun hq => absurd (by assumption) hq, fun _ => ?_⟩ | refine ⟨fun _ => ?_, fun hq => absurd (by assumption) hq⟩ | refine ⟨fun hq => absurd hq (by assumption), fun _ => ?_⟩ | refine ⟨fun _ => ?_, fun hq => absurd hq (by assumption)⟩); conv => whnf)
      try dsimp only
      refine ⟨⟨Nat.le_of_ble_eq_true rfl, by show 0 + n ≤ 300; omega⟩, by simp [z_wfl, z_wfs, z_rlt, z_arl, Nat.blt_eq, hv, hW], hF, ?_⟩
      rw [z_psh_eq, Nat.zero_add]
      have hL1 : z_nth (G ++ [(.inr (2, n) : zSh)]) G.length = some (.inr (2, n)) := nth_new rfl
      conv => whnf
      repeat ((first | rw [hL1] | refine ⟨trivial, ?_⟩ | refine ⟨rfl, ?_⟩ | refine ⟨fun hc => absurd hc (by decide), fun _ => ?_⟩ | refine ⟨fun _ => ?_, fun hc => absurd (by decide) hc⟩ | refine ⟨fun _ => ?_, fun hc => absurd hc (by decide)⟩ | refine ⟨fun hc => absurd (by decide) hc, fun _ => ?_⟩ | refine ⟨Or.inr rfl, ?_⟩ | refine ⟨Or.inl rfl, ?_⟩ | refine ⟨fun hq => absurd (by assumption) hq, fun _ => ?_⟩ | refine ⟨fun _ => ?_, fun hq => absurd (by assumption) hq⟩ | refine ⟨fun hq => absurd hq (by assumption), fun _ => ?_⟩ | refine ⟨fun _ => ?_, fun hq => absurd hq (by assumption)⟩); conv => whnf)
      try dsimp only
      exact h _ (fun x hx => by rw [z_row_ne hx]) (fun k hk => by simp [z_row])
    · conv => whnf
      repeat ((first | rw [hV] | refine ⟨trivial, ?_⟩ | refine ⟨rfl, ?_⟩ | refine ⟨fun hc => absurd hc (by decide), fun _ => ?_⟩ | refine ⟨fun _ => ?_, fun hc => absurd (by decide) hc⟩ | refine ⟨fun _ => ?_, fun hc => absurd hc (by decide)⟩ | refine ⟨fun hc => absurd (by decide) hc, fun _ => ?_⟩ | refine ⟨Or.inr rfl, ?_⟩ | refine ⟨Or.inl rfl, ?_⟩ | refine ⟨fun hq => absurd (by assumption) hq, fun _ => ?_⟩ | refine ⟨fun _ => ?_, fun hq => absurd (by assumption) hq⟩ | refine ⟨fun hq => absurd hq (by assumption), fun _ => ?_⟩ | refine ⟨fun _ => ?_, fun hq => absurd hq (by assumption)⟩); conv => whnf)
      try dsimp only
      refine ⟨⟨Nat.le_of_ble_eq_true rfl, Nat.le_of_ble_eq_true rfl⟩, by simp [z_wfl, z_wfs, z_rlt, z_arl, Nat.blt_eq, hv], ?_⟩
      refine ⟨N, n, (by first | exact hV | rfl), rfl, rfl, hn, hN, hF, hW0, fun wi' p1 p2 => ?_⟩
      conv => whnf
      repeat ((first | refine ⟨zG_of _, ?_⟩ | refine ⟨trivial, ?_⟩ | refine ⟨rfl, ?_⟩ | refine ⟨fun hc => absurd hc (by decide), fun _ => ?_⟩ | refine ⟨fun _ => ?_, fun hc => absurd (by decide) hc⟩ | refine ⟨fun _ => ?_, fun hc => absurd hc (by decide)⟩ | refine ⟨fun hc => absurd (by decide) hc, fun _ => ?_⟩); conv => whnf)
      try dsimp only
      exact h wi' p1 p2
def sp_J0_init_db425 : zSp := fun av w K => match av with
  | [.ref u, .ref o, .null] => ∃ (v N n : Nat) (f : Nat → Nat), z_nth w.1 u = some (.inl (10, [some none, none, none, none])) ∧ z_nth w.1 o = some (.inl (11, [some (some v), none, none, none])) ∧ w.2.1 o 1 = nI 0 ∧ w.2.1 o 3 = nI n ∧ N ≤ 300 ∧ BA w v N n f ∧ WF w ∧ ∀ w', Ext (fun x => x < w.1.length ∧ x ≠ u) w w' → STv w' u w.1.length n f → K none w'
  | _ => False
def rm_J0_init_db425 : Room := { frames := 3, cells := 1, slots := 300, locals := 72 }
def M_J0_init_db425 : zM := (k_J0_init_db425, f_J0, [(1, 6, 0, 1, 0, 0, sp_none), (552, 10, 11, 1, 0, 0, sp_J5_getValue_6d5f1), (549, 13, 11, 1, 0, 0, sp_J4_length_8abf5), (1047, 10, 11, 1, 0, 0, sp_J5_isLatin1_aae02), (54, 0, 0, 3, 1, 300, sp_J7_copyOfRange_39247)], ([], [], []), [], [], 0, true, (false, 0, fun _ => 0), (1, 300, [(38, .int (nI 1))]))
theorem ca_J0_init_db425_0 (l : Launch) : z_cok l RJ0 (headSpec (.code yJ0_init_db425 cJ0_init_db425 5 none :: zTT) rm_J0_init_db425).room (false, 0, fun _ => 0) (1, 6, 0, 1, 0, 0, sp_none) := z_ca6 wt_1182 wt_61 wt_62 (by decide)
theorem ca_J0_init_db425_1 (l : Launch) : z_cok l RJ0 (headSpec (.code yJ0_init_db425 cJ0_init_db425 5 none :: zTT) rm_J0_init_db425).room (false, 0, fun _ => 0) (552, 10, 11, 1, 0, 0, sp_J5_getValue_6d5f1) := z_ca10 (c_J5_getValue_6d5f1 l) mb_J5_getValue_6d5f1 ⟨_, rfl, (zTT_in (by decide +kernel) rfl)⟩ wt_1183 (zTT_in (by decide +kernel) rfl) wt_1184 (by decide)
theorem ca_J0_init_db425_2 (l : Launch) : z_cok l RJ0 (headSpec (.code yJ0_init_db425 cJ0_init_db425 5 none :: zTT) rm_J0_init_db425).room (false, 0, fun _ => 0) (549, 13, 11, 1, 0, 0, sp_J4_length_8abf5) := z_ca13 (c_J4_length_8abf5 l) mb_J4_length_8abf5 rfl (zTT_in (by decide +kernel) rfl) wt_1188 (zTT_in (by decide +kernel) rfl) wt_1059 wt_1055 mb_J5_length_8abf5 (by decide)
theorem ca_J0_init_db425_3 (l : Launch) : z_cok l RJ0 (headSpec (.code yJ0_init_db425 cJ0_init_db425 5 none :: zTT) rm_J0_init_db425).room (false, 0, fun _ => 0) (1047, 10, 11, 1, 0, 0, sp_J5_isLatin1_aae02) := z_ca10 (c_J5_isLatin1_aae02 l) mb_J5_isLatin1_aae02 ⟨_, rfl, (zTT_in (by decide +kernel) rfl)⟩ wt_1189 (zTT_in (by decide +kernel) rfl) wt_1104 (by decide)
theorem ca_J0_init_db425_4 (l : Launch) : z_cok l RJ0 (headSpec (.code yJ0_init_db425 cJ0_init_db425 5 none :: zTT) rm_J0_init_db425).room (false, 0, fun _ => 0) (54, 0, 0, 3, 1, 300, sp_J7_copyOfRange_39247) := z_ca0 (c_J7_copyOfRange_39247 l) mb_J7_copyOfRange_39247 wt_1190 wt_1191 (by decide)
theorem O_J0_init_db425 (l : Launch) : z_OK l RJ0 cJ0_init_db425 (headSpec (.code yJ0_init_db425 cJ0_init_db425 5 none :: zTT) rm_J0_init_db425).room M_J0_init_db425 := ⟨ok_J0_init_db425, fo_J0, List.forall_mem_cons.mpr ⟨ca_J0_init_db425_0 l, List.forall_mem_cons.mpr ⟨ca_J0_init_db425_1 l, List.forall_mem_cons.mpr ⟨ca_J0_init_db425_2 l, List.forall_mem_cons.mpr ⟨ca_J0_init_db425_3 l, List.forall_mem_cons.mpr ⟨ca_J0_init_db425_4 l, fun _ h => absurd h List.not_mem_nil⟩⟩⟩⟩⟩, fun _ h => absurd h List.not_mem_nil, fun _ h => absurd h List.not_mem_nil, fun _ h => absurd h List.not_mem_nil, fun _ h => absurd h List.not_mem_nil, rfl, rfl, List.forall_mem_cons.mpr ⟨⟨by decide, (zTT_in (by decide +kernel) rfl)⟩, fun _ h => absurd h List.not_mem_nil⟩⟩
theorem c_J0_init_db425 (l : Launch) : z_CS l yJ0_init_db425 cJ0_init_db425 5 none rm_J0_init_db425 sp_J0_init_db425 := by
  refine z_methF (by decide +kernel) (Or.inl ⟨rfl, rfl⟩) (fun _ => rfl) rfl (O_J0_init_db425 l) ?_
  intro av w K h
  match av, h with
  | [.ref (u : Nat), .ref (o : Nat), .null], h =>
    obtain ⟨v, N, n, f, hU, hO, h1, h3, hN, ⟨hV, hn, hf, hF⟩, hW, h⟩ := h
    obtain ⟨G, wi, wl⟩ := w
    dsimp only at hU hO h1 h3 hV hf hF h
    have hu : u < G.length := nth_lt hU
    have ho : o < G.length := nth_lt hO
    have hv : v < G.length := nth_lt hV
    have huo : o ≠ u := fun q => by rw [q, hU] at hO; cases hO
    have huv : v ≠ u := fun q => by rw [q, hU] at hV; cases hV
    refine ⟨Nat.le_of_ble_eq_true rfl, fun Jm hs => hs 400 0 _ _ _ _ _ ?_⟩
    conv => whnf
    repeat ((first | rw [hU] | rw [hO] | rw [rcv10 hO] | rw [rcv13 hO] | rw [rcv11 hO] | refine ⟨trivial, ?_⟩ | refine ⟨rfl, ?_⟩ | refine ⟨fun hc => absurd hc (by decide), fun _ => ?_⟩ | refine ⟨fun _ => ?_, fun hc => absurd (by decide) hc⟩ | refine ⟨fun _ => ?_, fun hc => absurd hc (by decide)⟩ | refine ⟨fun hc => absurd (by decide) hc, fun _ => ?_⟩ | refine ⟨Or.inr rfl, ?_⟩ | refine ⟨Or.inl rfl, ?_⟩ | refine ⟨fun hq => absurd (by assumption) hq, fun _ => ?_⟩ | refine ⟨fun _ => ?_, fun hq => absurd (by assumption) hq⟩ | refine ⟨fun hq => absurd hq (by assumption), fun _ => ?_⟩ | refine ⟨fun _ => ?_, fun hq => absurd hq (by assumption)⟩); conv => whnf)
    try dsimp only
    rw [h3]
    refine ⟨⟨by decide, by decide⟩, ?_⟩
    conv => whnf
    repeat ((first | rw [hU] | rw [hO] | rw [hV] | refine ⟨trivial, ?_⟩ | refine ⟨rfl, ?_⟩ | refine ⟨fun hc => absurd hc (by decide), fun _ => ?_⟩ | refine ⟨fun _ => ?_, fun hc => absurd (by decide) hc⟩ | refine ⟨fun _ => ?_, fun hc => absurd hc (by decide)⟩ | refine ⟨fun hc => absurd (by decide) hc, fun _ => ?_⟩ | refine ⟨Or.inr rfl, ?_⟩ | refine ⟨Or.inl rfl, ?_⟩ | refine ⟨fun hq => absurd (by assumption) hq, fun _ => ?_⟩ | refine ⟨fun _ => ?_, fun hq => absurd (by assumption) hq⟩ | refine ⟨fun hq => absurd hq (by assumption), fun _ => ?_⟩ | refine ⟨fun _ => ?_, fun hq => absurd hq (by assumption)⟩); conv => whnf)
    try dsimp only
    have hW0 : z_wfg G.length G = true := hW
    refine ⟨⟨Nat.le_of_ble_eq_true rfl, Nat.le_of_ble_eq_true rfl⟩, by simp [z_wfl, z_wfs, z_rlt, z_arl, Nat.blt_eq, hu, ho, hv], ?_⟩
    refine ⟨N, n, (by first | exact hV | rfl), rfl, rfl, hn, hN, fun k hk => ?_, hW, fun wi' p1 p2 => ?_⟩
    · dsimp only
      rw [z_up_ne huv]
      exact hF k hk
    · dsimp only at p1 p2
      have hU1 : z_nth (G ++ [(.inr (2, n) : zSh)]) u = some (.inl (10, [some none, none, none, none])) := by rw [nth_app hu]; exact hU
      have hL1 : z_nth (G ++ [(.inr (2, n) : zSh)]) G.length = some (.inr (2, n)) := nth_new rfl
      conv => whnf
      repeat ((first | rw [hU1] | refine ⟨trivial, ?_⟩ | refine ⟨rfl, ?_⟩ | refine ⟨fun hc => absurd hc (by decide), fun _ => ?_⟩ | refine ⟨fun _ => ?_, fun hc => absurd (by decide) hc⟩ | refine ⟨fun _ => ?_, fun hc => absurd hc (by decide)⟩ | refine ⟨fun hc => absurd (by decide) hc, fun _ => ?_⟩ | refine ⟨Or.inr rfl, ?_⟩ | refine ⟨Or.inl rfl, ?_⟩ | refine ⟨fun hq => absurd (by assumption) hq, fun _ => ?_⟩ | refine ⟨fun _ => ?_, fun hq => absurd (by assumption) hq⟩ | refine ⟨fun hq => absurd hq (by assumption), fun _ => ?_⟩ | refine ⟨fun _ => ?_, fun hq => absurd hq (by assumption)⟩); conv => whnf)
      try dsimp only
      rw [z_gset_eq _ _ _ _ hU1]
      have hu2 : u < (G ++ [(.inr (2, n) : zSh)]).length := by rw [List.length_append]; omega
      conv => whnf
      repeat ((first | refine ⟨trivial, ?_⟩ | refine ⟨rfl, ?_⟩ | refine ⟨fun hc => absurd hc (by decide), fun _ => ?_⟩ | refine ⟨fun _ => ?_, fun hc => absurd (by decide) hc⟩ | refine ⟨fun _ => ?_, fun hc => absurd hc (by decide)⟩ | refine ⟨fun hc => absurd (by decide) hc, fun _ => ?_⟩ | refine ⟨Or.inr rfl, ?_⟩ | refine ⟨Or.inl rfl, ?_⟩ | refine ⟨fun hq => absurd (by assumption) hq, fun _ => ?_⟩ | refine ⟨fun _ => ?_, fun hq => absurd (by assumption) hq⟩ | refine ⟨fun hq => absurd hq (by assumption), fun _ => ?_⟩ | refine ⟨fun _ => ?_, fun hq => absurd hq (by assumption)⟩); conv => whnf)
      try dsimp only
      refine h _ ⟨?_, fun x hx => ⟨?_, ?_, rfl⟩, fun _ => ?_⟩ ⟨nth_set hu2, ?_, ?_, Nat.le_refl _, fun k hk => ?_, fun k hk => ?_⟩
      · dsimp only
        rw [List.length_set, List.length_append]
        omega
      · dsimp only
        rw [nth_setn hx.2, nth_app hx.1]
      · dsimp only
        rw [p1 x (Nat.ne_of_lt hx.1), z_up_ne hx.2]
      · exact wfg_set (wfg_app hW0 (by rfl)) hU1 (by rw [List.length_append]; exact Nat.lt_succ_self _)
      · dsimp only
        rw [p1 u (Nat.ne_of_lt hu)]
        simp [z_up]
      · dsimp only
        rw [nth_setn (by omega)]
        exact hL1
      · dsimp only
        rw [p2 k hk, z_up_ne huv]
        exact hf k hk
      · dsimp only
        rw [p2 k hk, z_up_ne huv]
        exact hF k (by omega)
def sp_J0_init_81219 : zSp := fun av w K => match av with
  | [.ref u, .ref o] => sp_J0_init_db425 [.ref u, .ref o, .null] w K
  | _ => False
def rm_J0_init_81219 : Room := { frames := 4, cells := 1, slots := 300, locals := 96 }
def M_J0_init_81219 : zM := (k_J0_init_81219, f_J0, [(489, 1, 0, 3, 1, 300, sp_J0_init_db425)], ([], [], []), [], [], 0, true, (false, 0, fun _ => 0), (1, 300, []))
theorem ca_J0_init_81219_0 (l : Launch) : z_cok l RJ0 (headSpec (.code yJ0_init_81219 cJ0_init_81219 2 none :: zTT) rm_J0_init_81219).room (false, 0, fun _ => 0) (489, 1, 0, 3, 1, 300, sp_J0_init_db425) := z_ca1 (c_J0_init_db425 l) mb_J0_init_db425 wt_1179 wt_1180 rfl (by decide)
theorem O_J0_init_81219 (l : Launch) : z_OK l RJ0 cJ0_init_81219 (headSpec (.code yJ0_init_81219 cJ0_init_81219 2 none :: zTT) rm_J0_init_81219).room M_J0_init_81219 := ⟨ok_J0_init_81219, fo_J0, List.forall_mem_cons.mpr ⟨ca_J0_init_81219_0 l, fun _ h => absurd h List.not_mem_nil⟩, fun _ h => absurd h List.not_mem_nil, fun _ h => absurd h List.not_mem_nil, fun _ h => absurd h List.not_mem_nil, fun _ h => absurd h List.not_mem_nil, rfl, rfl, fun _ h => absurd h List.not_mem_nil⟩
theorem c_J0_init_81219 (l : Launch) : z_CS l yJ0_init_81219 cJ0_init_81219 2 none rm_J0_init_81219 sp_J0_init_81219 := by
  refine z_methF (by decide +kernel) (Or.inl ⟨rfl, rfl⟩) (fun _ => rfl) rfl (O_J0_init_81219 l) ?_
  intro av w K h
  match av, h with
  | [.ref (u : Nat), .ref (o : Nat)], h =>
    obtain ⟨v, N, n, f, hU, hO, h1, h3, hN, hB, hW, h⟩ := h
    have hu : u < w.1.length := nth_lt hU
    have ho : o < w.1.length := nth_lt hO
    refine ⟨Nat.le_of_ble_eq_true rfl, fun Jm hs => hs 400 0 _ _ _ _ _ ?_⟩
    conv => whnf
    repeat ((first | refine ⟨zG_of _, ?_⟩ | refine ⟨trivial, ?_⟩ | refine ⟨rfl, ?_⟩ | refine ⟨fun hc => absurd hc (by decide), fun _ => ?_⟩ | refine ⟨fun _ => ?_, fun hc => absurd (by decide) hc⟩ | refine ⟨fun _ => ?_, fun hc => absurd hc (by decide)⟩ | refine ⟨fun hc => absurd (by decide) hc, fun _ => ?_⟩); conv => whnf)
    try dsimp only
    refine ⟨⟨Nat.le_of_ble_eq_true rfl, Nat.le_of_ble_eq_true rfl⟩, by simp [z_wfl, z_wfs, z_rlt, z_arl, Nat.blt_eq, hu, ho], ?_⟩
    refine ⟨v, N, n, f, hU, hO, h1, h3, hN, hB, hW, fun w' e s => ?_⟩
    conv => whnf
    repeat ((first | refine ⟨zG_of _, ?_⟩ | refine ⟨trivial, ?_⟩ | refine ⟨rfl, ?_⟩ | refine ⟨fun hc => absurd hc (by decide), fun _ => ?_⟩ | refine ⟨fun _ => ?_, fun hc => absurd (by decide) hc⟩ | refine ⟨fun _ => ?_, fun hc => absurd hc (by decide)⟩ | refine ⟨fun hc => absurd (by decide) hc, fun _ => ?_⟩); conv => whnf)
    try dsimp only
    exact h w' e s
def sp_J4_toString_0e30d : zSp := fun av w K => match av with
  | [.ref o] => ∃ (P : Nat → Prop) (n : Nat) (f : Nat → Nat), SB P w o 0 n f ∧ WF w ∧ ∀ w' q, Ext (fun x => x < w.1.length) w w' → w.1.length < q → STv w' w.1.length q n f → K (some (.ref w.1.length)) w'
  | _ => False
def rm_J4_toString_0e30d : Room := { frames := 5, cells := 2, slots := 304, locals := 117 }
def M_J4_toString_0e30d : zM := (k_J4_toString_0e30d, f_J4, [(137, 1, 0, 2, 1, 300, sp_J0_init_81219)], ([], [], [(18, 10, [some none, none, none, none])]), [], [], 4, false, (false, 0, fun _ => 0), (2, 304, []))
theorem ca_J4_toString_0e30d_0 (l : Launch) : z_cok l RJ4 (headSpec (.code yJ4_toString_0e30d cJ4_toString_0e30d 1 (some (.object "java/lang/String")) :: zTT) rm_J4_toString_0e30d).room (false, 0, fun _ => 0) (137, 1, 0, 2, 1, 300, sp_J0_init_81219) := z_ca1 (c_J0_init_81219 l) mb_J0_init_81219 wt_1176 wt_1177 rfl (by decide)
theorem O_J4_toString_0e30d (l : Launch) : z_OK l RJ4 cJ4_toString_0e30d (headSpec (.code yJ4_toString_0e30d cJ4_toString_0e30d 1 (some (.object "java/lang/String")) :: zTT) rm_J4_toString_0e30d).room M_J4_toString_0e30d := ⟨ok_J4_toString_0e30d, fo_J4, List.forall_mem_cons.mpr ⟨ca_J4_toString_0e30d_0 l, fun _ h => absurd h List.not_mem_nil⟩, fun _ h => absurd h List.not_mem_nil, fun _ h => absurd h List.not_mem_nil, List.forall_mem_cons.mpr ⟨⟨RJ0, TJ0, 4, tyJ0, rfl, inJ0, tyJ0_ok, wt_1174, wt_1175, wt_46, rfl, nk_J0⟩, fun _ h => absurd h List.not_mem_nil⟩, fun _ h => absurd h List.not_mem_nil, rfl, rfl, fun _ h => absurd h List.not_mem_nil⟩
theorem c_J4_toString_0e30d (l : Launch) : z_CS l yJ4_toString_0e30d cJ4_toString_0e30d 1 (some (.object "java/lang/String")) rm_J4_toString_0e30d sp_J4_toString_0e30d := by
  refine z_methF (by decide +kernel) (Or.inr (Or.inr (Or.inr (Or.inr (Or.inl ⟨rfl, _, rfl, Or.inl ⟨_, rfl⟩⟩))))) (fun h => by cases h) rfl (O_J4_toString_0e30d l) ?_
  intro av w K h
  match av, h with
  | [.ref (o : Nat)], h =>
    obtain ⟨P, n, f, ⟨v, N, -, -, -, hO, h1, h3, hN, hV, hn, hf, hF⟩, hW, h⟩ := h
    obtain ⟨G, wi, wl⟩ := w
    dsimp only at hO h1 h3 hV hf hF h
    have hW0 : z_wfg G.length G = true := hW
    have ho : o < G.length := nth_lt hO
    have hv : v < G.length := nth_lt hV
    refine ⟨Nat.le_of_ble_eq_true rfl, fun Jm hs => hs 400 0 _ _ _ _ _ ?_⟩
    conv => whnf
    repeat ((first | refine ⟨zG_of _, ?_⟩ | refine ⟨trivial, ?_⟩ | refine ⟨rfl, ?_⟩ | refine ⟨fun hc => absurd hc (by decide), fun _ => ?_⟩ | refine ⟨fun _ => ?_, fun hc => absurd (by decide) hc⟩ | refine ⟨fun _ => ?_, fun hc => absurd hc (by decide)⟩ | refine ⟨fun hc => absurd (by decide) hc, fun _ => ?_⟩); conv => whnf)
    try dsimp only
    refine ⟨⟨Nat.le_of_ble_eq_true rfl, Nat.le_of_ble_eq_true rfl⟩, by simp [z_wfl, z_wfs, z_rlt, z_arl, Nat.blt_eq, ho, hW0], ?_⟩
    rw [z_psh_eq, Nat.zero_add]
    have hL : (G ++ [(.inl (10, [some none, none, none, none]) : zSh)]).length = G.length + 1 := by simp
    conv => whnf
    repeat ((first | refine ⟨zG_of _, ?_⟩ | refine ⟨trivial, ?_⟩ | refine ⟨rfl, ?_⟩ | refine ⟨fun hc => absurd hc (by decide), fun _ => ?_⟩ | refine ⟨fun _ => ?_, fun hc => absurd (by decide) hc⟩ | refine ⟨fun _ => ?_, fun hc => absurd hc (by decide)⟩ | refine ⟨fun hc => absurd (by decide) hc, fun _ => ?_⟩); conv => whnf)
    try dsimp only
    refine ⟨⟨Nat.le_of_ble_eq_true rfl, Nat.le_of_ble_eq_true rfl⟩, by simp [z_wfl, z_wfs, z_rlt, z_arl, Nat.blt_eq, Nat.lt_succ_of_lt ho], ?_⟩
    refine ⟨v, N, n, f, nth_new rfl, ?_, ?_, ?_, hN, ⟨?_, hn, fun k hk => ?_, fun k hk => ?_⟩, wfg_app hW0 (wfg_nullc rfl), fun w2 e2 s2 => ?_⟩
    · dsimp only
      rw [nth_app ho]
      exact hO
    · dsimp only
      rw [z_row_ne (Nat.ne_of_lt ho)]
      exact h1
    · dsimp only
      rw [z_row_ne (Nat.ne_of_lt ho)]
      exact h3
    · dsimp only
      rw [nth_app hv]
      exact hV
    · dsimp only
      rw [z_row_ne (Nat.ne_of_lt hv)]
      exact hf k hk
    · dsimp only
      rw [z_row_ne (Nat.ne_of_lt hv)]
      exact hF k hk
    · conv => whnf
      repeat ((first | refine ⟨zG_of _, ?_⟩ | refine ⟨trivial, ?_⟩ | refine ⟨rfl, ?_⟩ | refine ⟨fun hc => absurd hc (by decide), fun _ => ?_⟩ | refine ⟨fun _ => ?_, fun hc => absurd (by decide) hc⟩ | refine ⟨fun _ => ?_, fun hc => absurd hc (by decide)⟩ | refine ⟨fun hc => absurd (by decide) hc, fun _ => ?_⟩); conv => whnf)
      try dsimp only
      have e1 : Ext (fun x => x < G.length) (G, wi, wl) (G ++ [(.inl (10, [some none, none, none, none]) : zSh)], z_row wi G.length (fun _ => 0), wl) := ⟨by show G.length ≤ (G ++ [(.inl (10, [some none, none, none, none]) : zSh)]).length; rw [hL]; omega, fun x hx => ⟨nth_app hx, z_row_ne (Nat.ne_of_lt hx), rfl⟩, fun _ => wfg_app hW0 (wfg_nullc rfl)⟩
      refine h w2 _ (e1.tr (e2.less fun x hx => ⟨by rw [hL]; exact Nat.lt_succ_of_lt hx, Nat.ne_of_lt hx⟩)) ?_ s2
      dsimp only
      rw [hL]
      omega

