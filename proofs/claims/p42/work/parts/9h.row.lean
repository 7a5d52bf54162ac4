/-! the class, the reference, made -/
theorem z_row_ne {α : Type} {f : Nat → Nat → α} {g : Nat → α} {o x : Nat} (h : x ≠ o) : z_row f o g x = f x := by
  funext j
  unfold z_row
  rw [if_neg h]
def two2 : Nat → Nat := fun _ => 2
def T0 : zT := (two2, 2, (plS two2).1, (plS two2).2, (false, two2, 0, fun _ _ => 0), (0, fun _ => 0), (0, fun _ => 0))
def sp_X11_init : zSp := fun av w K => match av with
  | [.ref o] => o = 0 ∧ w.1 = [.inl (9, [some none, some none, some none, some none, some none, some none, some none, some none, some none, some none, none])] ∧ w.2.1 0 10 = nI 0 ∧ ∀ (wi' : Nat → Nat → Int32) (wl' : Nat → Nat → Int64), CT wi' wl' T0 → K none (GC, wi', wl')
  | _ => False
def rm_X11_init : Room := { frames := 6, cells := 44, slots := 11142, locals := 138 }
def M_X11_init : zM := (k_X11_init, f_X11, [(1, 6, 0, 1, 0, 0, sp_none), (9, 3, 0, 1, 2, 401, sp_X8_init), (18, 3, 0, 1, 1, 9, sp_X9_init), (25, 3, 0, 1, 2, 121, sp_X6_init), (38, 3, 0, 1, 2, 19, sp_X1_init), (45, 3, 0, 1, 0, 0, sp_X4_init), (52, 3, 0, 1, 11, 57, sp_X7_init), (59, 3, 0, 1, 6, 30, sp_X0_init), (66, 3, 0, 1, 6, 10220, sp_X5_init), (71, 4, 5, 5, 0, 0, sp_X6_makePlain)], ([], [], [(7, 7, [some none, none, none, none]), (16, 8, [some none, none]), (23, 5, [some none, none, none, none, none, none]), (36, 1, [some none]), (43, 3, [none, none]), (50, 6, [some none, some none, some none]), (57, 0, [some none, some none, some none, none, none, none, none]), (64, 4, [some none, some none, some none, some none, none, none])]), [], [], 0, true, (false, 0, fun _ => 0), (44, 11142, []))
theorem ca_X11_init_0 (l : Launch) : z_cok l RX11 (headSpec (.code yX11_init cX11_init 1 none :: zTT) rm_X11_init).room (false, 0, fun _ => 0) (1, 6, 0, 1, 0, 0, sp_none) := z_ca6 wt_60 wt_61 wt_62 (by decide)
theorem ca_X11_init_1 (l : Launch) : z_cok l RX11 (headSpec (.code yX11_init cX11_init 1 none :: zTT) rm_X11_init).room (false, 0, fun _ => 0) (9, 3, 0, 1, 2, 401, sp_X8_init) := z_ca3 (host := "FewProducts") (c_X8_init l) mb_X8_init (by decide +kernel) wt_66 rfl (by decide)
theorem ca_X11_init_2 (l : Launch) : z_cok l RX11 (headSpec (.code yX11_init cX11_init 1 none :: zTT) rm_X11_init).room (false, 0, fun _ => 0) (18, 3, 0, 1, 1, 9, sp_X9_init) := z_ca3 (host := "FewProducts") (c_X9_init l) mb_X9_init (by decide +kernel) wt_98 rfl (by decide)
theorem ca_X11_init_3 (l : Launch) : z_cok l RX11 (headSpec (.code yX11_init cX11_init 1 none :: zTT) rm_X11_init).room (false, 0, fun _ => 0) (25, 3, 0, 1, 2, 121, sp_X6_init) := z_ca3 (host := "FewProducts") (c_X6_init l) mb_X6_init (by decide +kernel) wt_113 rfl (by decide)
theorem ca_X11_init_4 (l : Launch) : z_cok l RX11 (headSpec (.code yX11_init cX11_init 1 none :: zTT) rm_X11_init).room (false, 0, fun _ => 0) (38, 3, 0, 1, 2, 19, sp_X1_init) := z_ca3 (host := "FewProducts") (c_X1_init l) mb_X1_init (by decide +kernel) wt_161 rfl (by decide)
theorem ca_X11_init_5 (l : Launch) : z_cok l RX11 (headSpec (.code yX11_init cX11_init 1 none :: zTT) rm_X11_init).room (false, 0, fun _ => 0) (45, 3, 0, 1, 0, 0, sp_X4_init) := z_ca3 (host := "FewProducts") (c_X4_init l) mb_X4_init (by decide +kernel) wt_174 rfl (by decide)
theorem ca_X11_init_6 (l : Launch) : z_cok l RX11 (headSpec (.code yX11_init cX11_init 1 none :: zTT) rm_X11_init).room (false, 0, fun _ => 0) (52, 3, 0, 1, 11, 57, sp_X7_init) := z_ca3 (host := "FewProducts") (c_X7_init l) mb_X7_init (by decide +kernel) wt_189 rfl (by decide)
theorem ca_X11_init_7 (l : Launch) : z_cok l RX11 (headSpec (.code yX11_init cX11_init 1 none :: zTT) rm_X11_init).room (false, 0, fun _ => 0) (59, 3, 0, 1, 6, 30, sp_X0_init) := z_ca3 (host := "FewProducts") (c_X0_init l) mb_X0_init (by decide +kernel) wt_195 rfl (by decide)
theorem ca_X11_init_8 (l : Launch) : z_cok l RX11 (headSpec (.code yX11_init cX11_init 1 none :: zTT) rm_X11_init).room (false, 0, fun _ => 0) (66, 3, 0, 1, 6, 10220, sp_X5_init) := z_ca3 (host := "FewProducts") (c_X5_init l) mb_X5_init (by decide +kernel) wt_243 rfl (by decide)
theorem ca_X11_init_9 (l : Launch) : z_cok l RX11 (headSpec (.code yX11_init cX11_init 1 none :: zTT) rm_X11_init).room (false, 0, fun _ => 0) (71, 4, 5, 5, 0, 0, sp_X6_makePlain) := z_ca4 (c_X6_makePlain l) mb_X6_makePlain ⟨_, rfl, rfl⟩ wt_268 wt_269 wt_270 (by decide)
theorem O_X11_init (l : Launch) : z_OK l RX11 cX11_init (headSpec (.code yX11_init cX11_init 1 none :: zTT) rm_X11_init).room M_X11_init := ⟨ok_X11_init, fo_X11, List.forall_mem_cons.mpr ⟨ca_X11_init_0 l, List.forall_mem_cons.mpr ⟨ca_X11_init_1 l, List.forall_mem_cons.mpr ⟨ca_X11_init_2 l, List.forall_mem_cons.mpr ⟨ca_X11_init_3 l, List.forall_mem_cons.mpr ⟨ca_X11_init_4 l, List.forall_mem_cons.mpr ⟨ca_X11_init_5 l, List.forall_mem_cons.mpr ⟨ca_X11_init_6 l, List.forall_mem_cons.mpr ⟨ca_X11_init_7 l, List.forall_mem_cons.mpr ⟨ca_X11_init_8 l, List.forall_mem_cons.mpr ⟨ca_X11_init_9 l, fun _ h => absurd h List.not_mem_nil⟩⟩⟩⟩⟩⟩⟩⟩⟩⟩, fun _ h => absurd h List.not_mem_nil, fun _ h => absurd h List.not_mem_nil, List.forall_mem_cons.mpr ⟨⟨RX8, TX8, 4, tyX8, rfl, inX8, tyX8_ok, wt_63, wt_64, wt_27, rfl, nk_X8⟩, List.forall_mem_cons.mpr ⟨⟨RX9, TX9, 2, tyX9, rfl, inX9, tyX9_ok, wt_95, wt_96, wt_29, rfl, nk_X9⟩, List.forall_mem_cons.mpr ⟨⟨RX6, TX6, 6, tyX6, rfl, inX6, tyX6_ok, wt_110, wt_111, wt_30, rfl, nk_X6⟩, List.forall_mem_cons.mpr ⟨⟨RX1, TX1, 1, tyX1, rfl, inX1, tyX1_ok, wt_158, wt_159, wt_31, rfl, nk_X1⟩, List.forall_mem_cons.mpr ⟨⟨RX4, TX4, 2, tyX4, rfl, inX4, tyX4_ok, wt_171, wt_172, wt_32, rfl, nk_X4⟩, List.forall_mem_cons.mpr ⟨⟨RX7, TX7, 3, tyX7, rfl, inX7, tyX7_ok, wt_186, wt_187, wt_33, rfl, nk_X7⟩, List.forall_mem_cons.mpr ⟨⟨RX0, TX0, 7, tyX0, rfl, inX0, tyX0_ok, wt_238, wt_193, wt_34, rfl, nk_X0⟩, List.forall_mem_cons.mpr ⟨⟨RX5, TX5, 6, tyX5, rfl, inX5, tyX5_ok, wt_240, wt_241, wt_35, rfl, nk_X5⟩, fun _ h => absurd h List.not_mem_nil⟩⟩⟩⟩⟩⟩⟩⟩, fun _ h => absurd h List.not_mem_nil, rfl, rfl, fun _ h => absurd h List.not_mem_nil⟩
theorem c_X11_init (l : Launch) : z_CS l yX11_init cX11_init 1 none rm_X11_init sp_X11_init := by
  refine z_meth (by decide) (Or.inl ⟨rfl, rfl⟩) (fun _ => rfl) rfl (O_X11_init l) ?_
  intro av w K h
  match av, h with
  | [.ref o], h =>
    obtain ⟨rfl, hG, h0, hh⟩ := h
    obtain ⟨G, wi, wl⟩ := w
    dsimp only at hG h0 hh
    subst hG
    refine ⟨Nat.le_of_ble_eq_true rfl, fun Jm hs => ?_⟩
    refine hs 400 0 _ _ _ _ _ ?_
    conv => whnf
    repeat ((first | refine ⟨⟨by decide, by decide⟩, ?_⟩ | refine ⟨⟨Nat.le_of_ble_eq_true rfl, Nat.le_of_ble_eq_true rfl⟩, ?_⟩ | refine ⟨_, rfl, by decide, ⟨by decide, by decide⟩, ?_⟩ | refine ⟨_, rfl, by decide, ⟨Nat.le_of_ble_eq_true rfl, Nat.le_of_ble_eq_true rfl⟩, ?_⟩ | refine ⟨trivial, ?_⟩ | refine ⟨rfl, ?_⟩ | refine ⟨fun hc => absurd hc (by decide), fun _ => ?_⟩ | refine ⟨fun _ => ?_, fun hc => absurd (by decide) hc⟩ | refine ⟨fun _ => ?_, fun hc => absurd hc (by decide)⟩ | refine ⟨fun hc => absurd (by decide) hc, fun _ => ?_⟩); conv => whnf)
    try dsimp only
    refine ⟨⟨[], rfl⟩, two2, 2, rfl, rfl, rfl, rfl, Or.inl rfl, fun t _ => ⟨(by decide : 1 ≤ 2), (by decide : 2 ≤ 3)⟩, fun wi' hF hS => ?_⟩
    conv => whnf
    repeat ((first | refine ⟨zG_of _, ?_⟩ | refine ⟨trivial, ?_⟩ | refine ⟨rfl, ?_⟩ | refine ⟨fun hc => absurd hc (by decide), fun _ => ?_⟩ | refine ⟨fun _ => ?_, fun hc => absurd (by decide) hc⟩ | refine ⟨fun _ => ?_, fun hc => absurd hc (by decide)⟩ | refine ⟨fun hc => absurd (by decide) hc, fun _ => ?_⟩); conv => whnf)
    try dsimp only
    refine hh wi' _ ⟨hS, plS_z _, Or.inl ⟨rfl, ?_⟩, ⟨?_, by decide, fun k hk => absurd hk (Nat.not_lt_zero k)⟩, ⟨?_, by decide, fun k hk => absurd hk (Nat.not_lt_zero k)⟩⟩
    · rw [hF 0 (by decide) (by decide)]
      exact h0
    · rw [hF 1 (by decide) (by decide)]
      rfl
    · rw [hF 4 (by decide) (by decide)]
      rfl
/-! what is told of a line -/
def sp_X11_row : zSp := fun av w K => match av with
  | [.ref o, .int i] => o = 0 ∧ zG w.1 ∧ ∃ T : zT, CT w.2.1 w.2.2 T ∧ idx T.2.2.2.2.2.2.1 i ∧ K (some (.long (T.2.2.2.2.2.2.2 i.toNatClampNeg))) w
  | _ => False
def rm_X11_row : Room := { frames := 1, cells := 0, slots := 0, locals := 21 }
def M_X11_row : zM := (k_X11_row, f_X11, [(374, 4, 8, 2, 0, 0, sp_X9_at)], ([], [], []), [], [], 3, false, (false, 0, fun _ => 0), (0, 0, []))
theorem ca_X11_row_0 (l : Launch) : z_cok l RX11 (headSpec (.code yX11_row cX11_row 2 (some .long) :: zTT) rm_X11_row).room (false, 0, fun _ => 0) (374, 4, 8, 2, 0, 0, sp_X9_at) := z_ca4 (c_X9_at l) mb_X9_at ⟨_, rfl, rfl⟩ wt_946 wt_947 wt_948 (by decide)
theorem O_X11_row (l : Launch) : z_OK l RX11 cX11_row (headSpec (.code yX11_row cX11_row 2 (some .long) :: zTT) rm_X11_row).room M_X11_row := ⟨ok_X11_row, fo_X11, List.forall_mem_cons.mpr ⟨ca_X11_row_0 l, fun _ h => absurd h List.not_mem_nil⟩, fun _ h => absurd h List.not_mem_nil, fun _ h => absurd h List.not_mem_nil, fun _ h => absurd h List.not_mem_nil, fun _ h => absurd h List.not_mem_nil, rfl, rfl, fun _ h => absurd h List.not_mem_nil⟩
theorem c_X11_row (l : Launch) : z_CS l yX11_row cX11_row 2 (some .long) rm_X11_row sp_X11_row := by
  refine z_meth (by decide) (Or.inr (Or.inr (Or.inr (Or.inl ⟨rfl, rfl⟩)))) (fun h => by cases h) rfl (O_X11_row l) ?_
  intro av w K h
  match av, h with
  | [.ref o, .int i], h =>
    obtain ⟨rfl, ⟨r, hG⟩, ⟨d, q, c, A, kp, tx, n, xs⟩, hC, hi, hY⟩ := h
    obtain ⟨G, wi, wl⟩ := w
    dsimp only at hG
    subst hG
    dsimp only at hC hi hY
    have hT := ct_T hC
    have hn : n ≤ 9 := hT.2.1
    refine ⟨Nat.le_of_ble_eq_true rfl, fun Jm hs => hs 400 0 _ _ _ _ _ ?_⟩
    conv => whnf
    repeat ((first | refine ⟨zG_of _, ?_⟩ | refine ⟨trivial, ?_⟩ | refine ⟨rfl, ?_⟩ | refine ⟨fun hc => absurd hc (by decide), fun _ => ?_⟩ | refine ⟨fun _ => ?_, fun hc => absurd (by decide) hc⟩ | refine ⟨fun _ => ?_, fun hc => absurd hc (by decide)⟩ | refine ⟨fun hc => absurd (by decide) hc, fun _ => ?_⟩); conv => whnf)
    try dsimp only
    refine ⟨fun hc => absurd hc hi.1, fun hc => ?_⟩
    conv => whnf
    repeat ((first | refine ⟨zG_of _, ?_⟩ | refine ⟨trivial, ?_⟩ | refine ⟨rfl, ?_⟩ | refine ⟨fun hc => absurd hc (by decide), fun _ => ?_⟩ | refine ⟨fun _ => ?_, fun hc => absurd (by decide) hc⟩ | refine ⟨fun _ => ?_, fun hc => absurd hc (by decide)⟩ | refine ⟨fun hc => absurd (by decide) hc, fun _ => ?_⟩); conv => whnf)
    try dsimp only
    rw [show wi 4 1 = nI n from hT.1]
    refine ⟨fun hc2 => ?_, fun hc2 => absurd hi.2 hc2⟩
    conv => whnf
    repeat ((first | refine ⟨zG_of _, ?_⟩ | refine ⟨trivial, ?_⟩ | refine ⟨rfl, ?_⟩ | refine ⟨fun hc => absurd hc (by decide), fun _ => ?_⟩ | refine ⟨fun _ => ?_, fun hc => absurd (by decide) hc⟩ | refine ⟨fun _ => ?_, fun hc => absurd hc (by decide)⟩ | refine ⟨fun hc => absurd (by decide) hc, fun _ => ?_⟩); conv => whnf)
    try dsimp only
    obtain ⟨k, hk, rfl⟩ := idx_N ⟨hc, hc2⟩ (by omega)
    rw [nI_clamp (by omega)] at hY
    rw [show tatF (wl 5) (nI k) = xs k from ?_]
    · exact hY
    · unfold tatF
      rw [if_pos ⟨nI_nlt (Nat.zero_le _) (by omega), nI_lt (by omega) (by decide)⟩, nI_clamp (by omega)]
      exact hT.2.2 k hk

