/-! the class, the reference, made -/
theorem z_row_ne {α : Type} {f : Nat → Nat → α} {g : Nat → α} {o x : Nat} (h : x ≠ o) : z_row f o g x = f x := by
  funext j
  unfold z_row
  rw [if_neg h]
def two2 : Nat → Nat := fun _ => 2
def T0 : zT := (two2, 2, (plS two2).1, (plS two2).2, (false, two2, 0, fun _ _ => 0), (0, fun _ => 0), (0, fun _ => 0))
theorem ZT0 : ZT T0 := ⟨plS_z two2, fun h => absurd h (by decide)⟩
def sp_X11_init : zSp := fun av w K => match av with
  | [.ref o] => o = 0 ∧ w.1 = [.inl (9, [some none, some none, some none, some none, some none, some none, some none, some none, some none, some none, none])] ∧ w.2.1 0 10 = nI 0 ∧ ∀ (wi' : Nat → Nat → Int32) (wl' : Nat → Nat → Int64), CT wi' wl' T0 → K none (GC, wi', wl')
  | _ => False
def rm_X11_init : Room := { frames := 6, cells := 44, slots := 11142, locals := 138 }
def M_X11_init : zM := (k_X11_init, f_X11, [(1, 6, 0, 1, 0, 0, sp_none), (9, 3, 0, 1, 2, 401, sp_X8_init), (18, 3, 0, 1, 1, 9, sp_X9_init), (25, 3, 0, 1, 2, 121, sp_X6_init), (38, 3, 0, 1, 2, 19, sp_X1_init), (45, 3, 0, 1, 0, 0, sp_X4_init), (52, 3, 0, 1, 11, 57, sp_X7_init), (59, 3, 0, 1, 6, 30, sp_X0_init), (66, 3, 0, 1, 6, 10220, sp_X5_init), (71, 4, 5, 5, 0, 0, sp_X6_makePlain)], ([], [], [(7, 7, [some none, none, none, none]), (16, 8, [some none, none]), (23, 5, [some none, none, none, none, none, none]), (36, 1, [some none]), (43, 3, [none, none]), (50, 6, [some none, some none, some none]), (57, 0, [some none, some none, some none, none, none, none, none]), (64, 4, [some none, some none, some none, some none, none, none])]), [], [], 0, true, (false, 0, fun _ => 0), (44, 11142))
theorem ca_X11_init_0 (l : Launch) : z_cok l RX11 (headSpec (.code yX11_init cX11_init 1 none :: zTT) rm_X11_init).room (1, 6, 0, 1, 0, 0, sp_none) := z_ca6 wt_121 wt_122 wt_123 (by decide)
theorem ca_X11_init_1 (l : Launch) : z_cok l RX11 (headSpec (.code yX11_init cX11_init 1 none :: zTT) rm_X11_init).room (9, 3, 0, 1, 2, 401, sp_X8_init) := z_ca3 (host := "FewProducts") (c_X8_init l) mb_X8_init (by decide +kernel) wt_127 rfl (by decide)
theorem ca_X11_init_2 (l : Launch) : z_cok l RX11 (headSpec (.code yX11_init cX11_init 1 none :: zTT) rm_X11_init).room (18, 3, 0, 1, 1, 9, sp_X9_init) := z_ca3 (host := "FewProducts") (c_X9_init l) mb_X9_init (by decide +kernel) wt_159 rfl (by decide)
theorem ca_X11_init_3 (l : Launch) : z_cok l RX11 (headSpec (.code yX11_init cX11_init 1 none :: zTT) rm_X11_init).room (25, 3, 0, 1, 2, 121, sp_X6_init) := z_ca3 (host := "FewProducts") (c_X6_init l) mb_X6_init (by decide +kernel) wt_174 rfl (by decide)
theorem ca_X11_init_4 (l : Launch) : z_cok l RX11 (headSpec (.code yX11_init cX11_init 1 none :: zTT) rm_X11_init).room (38, 3, 0, 1, 2, 19, sp_X1_init) := z_ca3 (host := "FewProducts") (c_X1_init l) mb_X1_init (by decide +kernel) wt_222 rfl (by decide)
theorem ca_X11_init_5 (l : Launch) : z_cok l RX11 (headSpec (.code yX11_init cX11_init 1 none :: zTT) rm_X11_init).room (45, 3, 0, 1, 0, 0, sp_X4_init) := z_ca3 (host := "FewProducts") (c_X4_init l) mb_X4_init (by decide +kernel) wt_235 rfl (by decide)
theorem ca_X11_init_6 (l : Launch) : z_cok l RX11 (headSpec (.code yX11_init cX11_init 1 none :: zTT) rm_X11_init).room (52, 3, 0, 1, 11, 57, sp_X7_init) := z_ca3 (host := "FewProducts") (c_X7_init l) mb_X7_init (by decide +kernel) wt_250 rfl (by decide)
theorem ca_X11_init_7 (l : Launch) : z_cok l RX11 (headSpec (.code yX11_init cX11_init 1 none :: zTT) rm_X11_init).room (59, 3, 0, 1, 6, 30, sp_X0_init) := z_ca3 (host := "FewProducts") (c_X0_init l) mb_X0_init (by decide +kernel) wt_256 rfl (by decide)
theorem ca_X11_init_8 (l : Launch) : z_cok l RX11 (headSpec (.code yX11_init cX11_init 1 none :: zTT) rm_X11_init).room (66, 3, 0, 1, 6, 10220, sp_X5_init) := z_ca3 (host := "FewProducts") (c_X5_init l) mb_X5_init (by decide +kernel) wt_304 rfl (by decide)
theorem ca_X11_init_9 (l : Launch) : z_cok l RX11 (headSpec (.code yX11_init cX11_init 1 none :: zTT) rm_X11_init).room (71, 4, 5, 5, 0, 0, sp_X6_makePlain) := z_ca4 (c_X6_makePlain l) mb_X6_makePlain ⟨_, rfl, rfl⟩ wt_329 wt_330 wt_331 (by decide)
theorem O_X11_init (l : Launch) : z_OK l RX11 cX11_init (headSpec (.code yX11_init cX11_init 1 none :: zTT) rm_X11_init).room M_X11_init := ⟨ok_X11_init, fo_X11, List.forall_mem_cons.mpr ⟨ca_X11_init_0 l, List.forall_mem_cons.mpr ⟨ca_X11_init_1 l, List.forall_mem_cons.mpr ⟨ca_X11_init_2 l, List.forall_mem_cons.mpr ⟨ca_X11_init_3 l, List.forall_mem_cons.mpr ⟨ca_X11_init_4 l, List.forall_mem_cons.mpr ⟨ca_X11_init_5 l, List.forall_mem_cons.mpr ⟨ca_X11_init_6 l, List.forall_mem_cons.mpr ⟨ca_X11_init_7 l, List.forall_mem_cons.mpr ⟨ca_X11_init_8 l, List.forall_mem_cons.mpr ⟨ca_X11_init_9 l, fun _ h => absurd h List.not_mem_nil⟩⟩⟩⟩⟩⟩⟩⟩⟩⟩, fun _ h => absurd h List.not_mem_nil, fun _ h => absurd h List.not_mem_nil, List.forall_mem_cons.mpr ⟨⟨RX8, TX8, 4, tyX8, rfl, inX8, tyX8_ok, wt_124, wt_125, wt_97, rfl, nk_X8⟩, List.forall_mem_cons.mpr ⟨⟨RX9, TX9, 2, tyX9, rfl, inX9, tyX9_ok, wt_156, wt_157, wt_99, rfl, nk_X9⟩, List.forall_mem_cons.mpr ⟨⟨RX6, TX6, 6, tyX6, rfl, inX6, tyX6_ok, wt_171, wt_172, wt_100, rfl, nk_X6⟩, List.forall_mem_cons.mpr ⟨⟨RX1, TX1, 1, tyX1, rfl, inX1, tyX1_ok, wt_219, wt_220, wt_101, rfl, nk_X1⟩, List.forall_mem_cons.mpr ⟨⟨RX4, TX4, 2, tyX4, rfl, inX4, tyX4_ok, wt_232, wt_233, wt_102, rfl, nk_X4⟩, List.forall_mem_cons.mpr ⟨⟨RX7, TX7, 3, tyX7, rfl, inX7, tyX7_ok, wt_247, wt_248, wt_103, rfl, nk_X7⟩, List.forall_mem_cons.mpr ⟨⟨RX0, TX0, 7, tyX0, rfl, inX0, tyX0_ok, wt_299, wt_254, wt_104, rfl, nk_X0⟩, List.forall_mem_cons.mpr ⟨⟨RX5, TX5, 6, tyX5, rfl, inX5, tyX5_ok, wt_301, wt_302, wt_105, rfl, nk_X5⟩, fun _ h => absurd h List.not_mem_nil⟩⟩⟩⟩⟩⟩⟩⟩, fun _ h => absurd h List.not_mem_nil, rfl, rfl⟩
theorem c_X11_init (l : Launch) : z_CS l yX11_init cX11_init 1 none rm_X11_init sp_X11_init := by
  refine z_meth (by decide) (Or.inl ⟨rfl, rfl⟩) (fun _ => rfl) rfl (O_X11_init l) ?_
  intro av w K h
  match av, h with
  | [.ref o], h =>
    obtain ⟨rfl, hG, h0, hh⟩ := h
    obtain ⟨G, wi, wl⟩ := w
    dsimp only at hG h0 hh
    subst hG
    refine ⟨Nat.le_of_ble_eq_true rfl, fun Jm hs => ?_⟩
    refine hs 400 0 _ _ _ _ _ ?_
    conv => whnf
    repeat ((first | refine ⟨⟨by decide, by decide⟩, ?_⟩ | refine ⟨_, rfl, by decide, ⟨by decide, by decide⟩, ?_⟩ | refine ⟨trivial, ?_⟩ | refine ⟨rfl, ?_⟩ | refine ⟨fun hc => absurd hc (by decide), fun _ => ?_⟩ | refine ⟨fun _ => ?_, fun hc => absurd (by decide) hc⟩ | refine ⟨fun _ => ?_, fun hc => absurd hc (by decide)⟩ | refine ⟨fun hc => absurd (by decide) hc, fun _ => ?_⟩); conv => whnf)
    try dsimp only
    refine ⟨⟨[], rfl⟩, two2, 2, rfl, rfl, rfl, rfl, Or.inl rfl, fun t _ => ⟨(by decide : 1 ≤ 2), (by decide : 2 ≤ 3)⟩, fun wi' hF hS => ?_⟩
    conv => whnf
    repeat ((first | refine ⟨zG_of _, ?_⟩ | refine ⟨trivial, ?_⟩ | refine ⟨rfl, ?_⟩ | refine ⟨fun hc => absurd hc (by decide), fun _ => ?_⟩ | refine ⟨fun _ => ?_, fun hc => absurd (by decide) hc⟩ | refine ⟨fun _ => ?_, fun hc => absurd hc (by decide)⟩ | refine ⟨fun hc => absurd (by decide) hc, fun _ => ?_⟩); conv => whnf)
    try dsimp only
    refine hh wi' _ ⟨hS, plS_z _, Or.inl ⟨rfl, ?_⟩, ⟨?_, by decide, fun k hk => absurd hk (Nat.not_lt_zero k)⟩, ⟨?_, by decide, fun k hk => absurd hk (Nat.not_lt_zero k)⟩⟩
    · rw [hF 0 (by decide) (by decide)]
      exact h0
    · rw [hF 1 (by decide) (by decide)]
      rfl
    · rw [hF 4 (by decide) (by decide)]
      rfl
def sp_X12_init : zSp := fun av w K => match av with
  | [.ref o] => o = 45 ∧ w.1 = GC ++ [.inl (10, [some none, none, none, some none, none, some none, some none, some none, none, some none, none, none, none, none, none, some none, none, none, none, some none, none, none, some none, some none, none, some none, some none, some none, some none, none, some none, some none, none])] ∧ (∀ i, w.2.1 45 i = nI 0) ∧ ∀ (wi' : Nat → Nat → Int32) (wl' : Nat → Nat → Int64), FrM w.2.1 w.2.2 wi' wl' → MT wi' wl' T0 → K none (GC ++ (GM ++ []), wi', wl')
  | _ => False
def rm_X12_init : Room := { frames := 3, cells := 16, slots := 18924, locals := 68 }
def M_X12_init : zM := (k_X12_init, f_X12, [(1, 6, 0, 1, 0, 0, sp_none), (68, 4, 10, 1, 0, 0, sp_X12_laysPlain)], ([], [], []), [], [], 0, true, (false, 0, fun _ => 0), (16, 18924))
theorem ca_X12_init_0 (l : Launch) : z_cok l RX12 (headSpec (.code yX12_init cX12_init 1 none :: zTT) rm_X12_init).room (1, 6, 0, 1, 0, 0, sp_none) := z_ca6 wt_1123 wt_122 wt_123 (by decide)
theorem ca_X12_init_1 (l : Launch) : z_cok l RX12 (headSpec (.code yX12_init cX12_init 1 none :: zTT) rm_X12_init).room (68, 4, 10, 1, 0, 0, sp_X12_laysPlain) := z_ca4 (c_X12_laysPlain l) mb_X12_laysPlain ⟨_, rfl, rfl⟩ wt_1124 wt_1126 wt_26 (by decide)
theorem O_X12_init (l : Launch) : z_OK l RX12 cX12_init (headSpec (.code yX12_init cX12_init 1 none :: zTT) rm_X12_init).room M_X12_init := ⟨ok_X12_init, fo_X12, List.forall_mem_cons.mpr ⟨ca_X12_init_0 l, List.forall_mem_cons.mpr ⟨ca_X12_init_1 l, fun _ h => absurd h List.not_mem_nil⟩⟩, fun _ h => absurd h List.not_mem_nil, fun _ h => absurd h List.not_mem_nil, fun _ h => absurd h List.not_mem_nil, fun _ h => absurd h List.not_mem_nil, rfl, rfl⟩
theorem c_X12_init (l : Launch) : z_CS l yX12_init cX12_init 1 none rm_X12_init sp_X12_init := by
  refine z_meth (by decide) (Or.inl ⟨rfl, rfl⟩) (fun _ => rfl) rfl (O_X12_init l) ?_
  intro av w K h
  match av, h with
  | [.ref o], h =>
    obtain ⟨rfl, hG, h0, hh⟩ := h
    obtain ⟨G, wi, wl⟩ := w
    dsimp only at hG h0 hh
    subst hG
    refine ⟨Nat.le_of_ble_eq_true rfl, fun Jm hs => ?_⟩
    refine hs 400 0 _ _ _ _ _ ?_
    conv => whnf
    repeat ((first | refine ⟨⟨by decide, by decide⟩, ?_⟩ | refine ⟨_, rfl, by decide, ⟨by decide, by decide⟩, ?_⟩ | refine ⟨trivial, ?_⟩ | refine ⟨rfl, ?_⟩ | refine ⟨fun hc => absurd hc (by decide), fun _ => ?_⟩ | refine ⟨fun _ => ?_, fun hc => absurd (by decide) hc⟩ | refine ⟨fun _ => ?_, fun hc => absurd hc (by decide)⟩ | refine ⟨fun hc => absurd (by decide) hc, fun _ => ?_⟩); conv => whnf)
    try dsimp only
    refine ⟨vp_in_nI (show 0 < 3 by decide) (by decide), ?_⟩
    conv => whnf
    repeat ((first | refine ⟨⟨by decide, by decide⟩, ?_⟩ | refine ⟨_, rfl, by decide, ⟨by decide, by decide⟩, ?_⟩ | refine ⟨trivial, ?_⟩ | refine ⟨rfl, ?_⟩ | refine ⟨fun hc => absurd hc (by decide), fun _ => ?_⟩ | refine ⟨fun _ => ?_, fun hc => absurd (by decide) hc⟩ | refine ⟨fun _ => ?_, fun hc => absurd hc (by decide)⟩ | refine ⟨fun hc => absurd (by decide) hc, fun _ => ?_⟩); conv => whnf)
    try dsimp only
    refine ⟨vp_in_nI (show 1 < 3 by decide) (by decide), ?_⟩
    conv => whnf
    repeat ((first | refine ⟨⟨by decide, by decide⟩, ?_⟩ | refine ⟨_, rfl, by decide, ⟨by decide, by decide⟩, ?_⟩ | refine ⟨trivial, ?_⟩ | refine ⟨rfl, ?_⟩ | refine ⟨fun hc => absurd hc (by decide), fun _ => ?_⟩ | refine ⟨fun _ => ?_, fun hc => absurd (by decide) hc⟩ | refine ⟨fun _ => ?_, fun hc => absurd hc (by decide)⟩ | refine ⟨fun hc => absurd (by decide) hc, fun _ => ?_⟩); conv => whnf)
    try dsimp only
    refine ⟨vp_in_nI (show 2 < 3 by decide) (by decide), ?_⟩
    conv => whnf
    repeat ((first | refine ⟨⟨by decide, by decide⟩, ?_⟩ | refine ⟨_, rfl, by decide, ⟨by decide, by decide⟩, ?_⟩ | refine ⟨trivial, ?_⟩ | refine ⟨rfl, ?_⟩ | refine ⟨fun hc => absurd hc (by decide), fun _ => ?_⟩ | refine ⟨fun _ => ?_, fun hc => absurd (by decide) hc⟩ | refine ⟨fun _ => ?_, fun hc => absurd hc (by decide)⟩ | refine ⟨fun hc => absurd (by decide) hc, fun _ => ?_⟩); conv => whnf)
    try dsimp only
    refine ⟨⟨[], rfl⟩, two2, 2, fun t ht => ?_, rfl, Or.inl rfl, fun t _ => ⟨(by decide : 1 ≤ 2), (by decide : 2 ≤ 3)⟩, fun wi' hF hI hS => ?_⟩
    · rcases lt3 ht with rfl | rfl | rfl <;> rfl
    conv => whnf
    repeat ((first | refine ⟨⟨by decide, by decide⟩, ?_⟩ | refine ⟨_, rfl, by decide, ⟨by decide, by decide⟩, ?_⟩ | refine ⟨trivial, ?_⟩ | refine ⟨rfl, ?_⟩ | refine ⟨fun hc => absurd hc (by decide), fun _ => ?_⟩ | refine ⟨fun _ => ?_, fun hc => absurd (by decide) hc⟩ | refine ⟨fun _ => ?_, fun hc => absurd hc (by decide)⟩ | refine ⟨fun hc => absurd (by decide) hc, fun _ => ?_⟩); conv => whnf)
    try dsimp only
    refine hh wi' _ (fun y hy => ⟨?_, ?_⟩) ⟨hS, Or.inl ⟨rfl, ?_⟩, ⟨?_, by decide, fun k hk => absurd hk (Nat.not_lt_zero k)⟩, ⟨?_, by decide, fun k hk => absurd hk (Nat.not_lt_zero k)⟩⟩
    · rw [hF y (by omega) (by omega)]
      repeat (first | rw [z_up_ne (by omega)] | rw [z_row_ne (by omega)])
    · repeat rw [z_row_ne (by omega)]
    · rw [hI 4 (by decide)]
      rfl
    · rw [hI 8 (by decide)]
      exact h0 8
    · rw [hI 10 (by decide)]
      exact h0 10

