/-! the constructors -/
theorem nk_X0 : ∀ k, k < 7 → (([some none, some none, some none, none, none, none, none] : List (Option (Option Nat)))[k]? = some none ∧ (tyX0 k = .int ∨ tyX0 k = .boolean ∨ tyX0 k = .byte)) ∨ (([some none, some none, some none, none, none, none, none] : List (Option (Option Nat)))[k]? = some (some none) ∧ ((∃ n, tyX0 k = .object n) ∨ ∃ t, tyX0 k = .array t))
  | 0, _ => Or.inr ⟨rfl, Or.inl ⟨_, rfl⟩⟩
  | 1, _ => Or.inr ⟨rfl, Or.inl ⟨_, rfl⟩⟩
  | 2, _ => Or.inr ⟨rfl, Or.inl ⟨_, rfl⟩⟩
  | 3, _ => Or.inl ⟨rfl, Or.inl rfl⟩
  | 4, _ => Or.inl ⟨rfl, Or.inl rfl⟩
  | 5, _ => Or.inl ⟨rfl, Or.inl rfl⟩
  | 6, _ => Or.inl ⟨rfl, Or.inl rfl⟩
  | n + 7, h => absurd h (by omega)
theorem nk_X1 : ∀ k, k < 1 → (([some none] : List (Option (Option Nat)))[k]? = some none ∧ (tyX1 k = .int ∨ tyX1 k = .boolean ∨ tyX1 k = .byte)) ∨ (([some none] : List (Option (Option Nat)))[k]? = some (some none) ∧ ((∃ n, tyX1 k = .object n) ∨ ∃ t, tyX1 k = .array t))
  | 0, _ => Or.inr ⟨rfl, Or.inl ⟨_, rfl⟩⟩
  | n + 1, h => absurd h (by omega)
theorem nk_X3 : ∀ k, k < 1 → (([some none] : List (Option (Option Nat)))[k]? = some none ∧ (tyX3 k = .int ∨ tyX3 k = .boolean ∨ tyX3 k = .byte)) ∨ (([some none] : List (Option (Option Nat)))[k]? = some (some none) ∧ ((∃ n, tyX3 k = .object n) ∨ ∃ t, tyX3 k = .array t))
  | 0, _ => Or.inr ⟨rfl, Or.inr ⟨_, rfl⟩⟩
  | n + 1, h => absurd h (by omega)
theorem nk_X4 : ∀ k, k < 2 → (([none, none] : List (Option (Option Nat)))[k]? = some none ∧ (tyX4 k = .int ∨ tyX4 k = .boolean ∨ tyX4 k = .byte)) ∨ (([none, none] : List (Option (Option Nat)))[k]? = some (some none) ∧ ((∃ n, tyX4 k = .object n) ∨ ∃ t, tyX4 k = .array t))
  | 0, _ => Or.inl ⟨rfl, Or.inl rfl⟩
  | 1, _ => Or.inl ⟨rfl, Or.inl rfl⟩
  | n + 2, h => absurd h (by omega)
theorem nk_X5 : ∀ k, k < 6 → (([some none, some none, some none, some none, none, none] : List (Option (Option Nat)))[k]? = some none ∧ (tyX5 k = .int ∨ tyX5 k = .boolean ∨ tyX5 k = .byte)) ∨ (([some none, some none, some none, some none, none, none] : List (Option (Option Nat)))[k]? = some (some none) ∧ ((∃ n, tyX5 k = .object n) ∨ ∃ t, tyX5 k = .array t))
  | 0, _ => Or.inr ⟨rfl, Or.inr ⟨_, rfl⟩⟩
  | 1, _ => Or.inr ⟨rfl, Or.inl ⟨_, rfl⟩⟩
  | 2, _ => Or.inr ⟨rfl, Or.inr ⟨_, rfl⟩⟩
  | 3, _ => Or.inr ⟨rfl, Or.inl ⟨_, rfl⟩⟩
  | 4, _ => Or.inl ⟨rfl, Or.inl rfl⟩
  | 5, _ => Or.inl ⟨rfl, Or.inl rfl⟩
  | n + 6, h => absurd h (by omega)
theorem nk_X6 : ∀ k, k < 6 → (([some none, none, none, none, none, none] : List (Option (Option Nat)))[k]? = some none ∧ (tyX6 k = .int ∨ tyX6 k = .boolean ∨ tyX6 k = .byte)) ∨ (([some none, none, none, none, none, none] : List (Option (Option Nat)))[k]? = some (some none) ∧ ((∃ n, tyX6 k = .object n) ∨ ∃ t, tyX6 k = .array t))
  | 0, _ => Or.inr ⟨rfl, Or.inl ⟨_, rfl⟩⟩
  | 1, _ => Or.inl ⟨rfl, Or.inl rfl⟩
  | 2, _ => Or.inl ⟨rfl, Or.inl rfl⟩
  | 3, _ => Or.inl ⟨rfl, Or.inl rfl⟩
  | 4, _ => Or.inl ⟨rfl, Or.inl rfl⟩
  | 5, _ => Or.inl ⟨rfl, Or.inl rfl⟩
  | n + 6, h => absurd h (by omega)
theorem nk_X7 : ∀ k, k < 3 → (([some none, some none, some none] : List (Option (Option Nat)))[k]? = some none ∧ (tyX7 k = .int ∨ tyX7 k = .boolean ∨ tyX7 k = .byte)) ∨ (([some none, some none, some none] : List (Option (Option Nat)))[k]? = some (some none) ∧ ((∃ n, tyX7 k = .object n) ∨ ∃ t, tyX7 k = .array t))
  | 0, _ => Or.inr ⟨rfl, Or.inl ⟨_, rfl⟩⟩
  | 1, _ => Or.inr ⟨rfl, Or.inl ⟨_, rfl⟩⟩
  | 2, _ => Or.inr ⟨rfl, Or.inl ⟨_, rfl⟩⟩
  | n + 3, h => absurd h (by omega)
theorem nk_X8 : ∀ k, k < 4 → (([some none, none, none, none] : List (Option (Option Nat)))[k]? = some none ∧ (tyX8 k = .int ∨ tyX8 k = .boolean ∨ tyX8 k = .byte)) ∨ (([some none, none, none, none] : List (Option (Option Nat)))[k]? = some (some none) ∧ ((∃ n, tyX8 k = .object n) ∨ ∃ t, tyX8 k = .array t))
  | 0, _ => Or.inr ⟨rfl, Or.inl ⟨_, rfl⟩⟩
  | 1, _ => Or.inl ⟨rfl, Or.inl rfl⟩
  | 2, _ => Or.inl ⟨rfl, Or.inl rfl⟩
  | 3, _ => Or.inl ⟨rfl, Or.inl rfl⟩
  | n + 4, h => absurd h (by omega)
theorem nk_X9 : ∀ k, k < 2 → (([some none, none] : List (Option (Option Nat)))[k]? = some none ∧ (tyX9 k = .int ∨ tyX9 k = .boolean ∨ tyX9 k = .byte)) ∨ (([some none, none] : List (Option (Option Nat)))[k]? = some (some none) ∧ ((∃ n, tyX9 k = .object n) ∨ ∃ t, tyX9 k = .array t))
  | 0, _ => Or.inr ⟨rfl, Or.inr ⟨_, rfl⟩⟩
  | 1, _ => Or.inl ⟨rfl, Or.inl rfl⟩
  | n + 2, h => absurd h (by omega)
theorem nk_X11 : ∀ k, k < 11 → (([some none, some none, some none, some none, some none, some none, some none, some none, some none, some none, none] : List (Option (Option Nat)))[k]? = some none ∧ (tyX11 k = .int ∨ tyX11 k = .boolean ∨ tyX11 k = .byte)) ∨ (([some none, some none, some none, some none, some none, some none, some none, some none, some none, some none, none] : List (Option (Option Nat)))[k]? = some (some none) ∧ ((∃ n, tyX11 k = .object n) ∨ ∃ t, tyX11 k = .array t))
  | 0, _ => Or.inr ⟨rfl, Or.inl ⟨_, rfl⟩⟩
  | 1, _ => Or.inr ⟨rfl, Or.inl ⟨_, rfl⟩⟩
  | 2, _ => Or.inr ⟨rfl, Or.inl ⟨_, rfl⟩⟩
  | 3, _ => Or.inr ⟨rfl, Or.inl ⟨_, rfl⟩⟩
  | 4, _ => Or.inr ⟨rfl, Or.inl ⟨_, rfl⟩⟩
  | 5, _ => Or.inr ⟨rfl, Or.inl ⟨_, rfl⟩⟩
  | 6, _ => Or.inr ⟨rfl, Or.inl ⟨_, rfl⟩⟩
  | 7, _ => Or.inr ⟨rfl, Or.inl ⟨_, rfl⟩⟩
  | 8, _ => Or.inr ⟨rfl, Or.inl ⟨_, rfl⟩⟩
  | 9, _ => Or.inr ⟨rfl, Or.inl ⟨_, rfl⟩⟩
  | 10, _ => Or.inl ⟨rfl, Or.inr (Or.inl rfl)⟩
  | n + 11, h => absurd h (by omega)
def rm_X3_init_9 : Room := { frames := 1, cells := 1, slots := 9, locals := 20 }
def M_X3_init_9 : zM := (k_X3_init, f_X3, [(1, 6, 0, 1, 0, 0, sp_none)], ([], [], []), [], [], 0, true, (false, 0, fun _ => 0), (1, 9, []))
theorem ca_X3_init_9_0 (l : Launch) : z_cok l RX3 (headSpec (.code yX3_init cX3_init 2 none :: zTT) rm_X3_init_9).room (false, 0, fun _ => 0) (1, 6, 0, 1, 0, 0, sp_none) := z_ca6 wt_74 wt_61 wt_62 (by decide)
theorem O_X3_init_9 (l : Launch) : z_OK l RX3 cX3_init (headSpec (.code yX3_init cX3_init 2 none :: zTT) rm_X3_init_9).room M_X3_init_9 := ⟨ok_X3_init, fo_X3, List.forall_mem_cons.mpr ⟨ca_X3_init_9_0 l, fun _ h => absurd h List.not_mem_nil⟩, fun _ h => absurd h List.not_mem_nil, fun _ h => absurd h List.not_mem_nil, fun _ h => absurd h List.not_mem_nil, fun _ h => absurd h List.not_mem_nil, rfl, rfl, fun _ h => absurd h List.not_mem_nil⟩
def sp_X3_init_9 : zSp := z_au M_X3_init_9 2
theorem c_X3_init_9 (l : Launch) : z_CS l yX3_init cX3_init 2 none rm_X3_init_9 sp_X3_init_9 := by
  refine z_meth (by decide) (Or.inl ⟨rfl, rfl⟩) (fun _ => rfl) rfl (O_X3_init_9 l) ?_
  intro av w K h
  exact z_au_ok rfl h
def rm_X3_init_18 : Room := { frames := 1, cells := 1, slots := 18, locals := 20 }
def M_X3_init_18 : zM := (k_X3_init, f_X3, [(1, 6, 0, 1, 0, 0, sp_none)], ([], [], []), [], [], 0, true, (false, 0, fun _ => 0), (1, 18, []))
theorem ca_X3_init_18_0 (l : Launch) : z_cok l RX3 (headSpec (.code yX3_init cX3_init 2 none :: zTT) rm_X3_init_18).room (false, 0, fun _ => 0) (1, 6, 0, 1, 0, 0, sp_none) := z_ca6 wt_74 wt_61 wt_62 (by decide)
theorem O_X3_init_18 (l : Launch) : z_OK l RX3 cX3_init (headSpec (.code yX3_init cX3_init 2 none :: zTT) rm_X3_init_18).room M_X3_init_18 := ⟨ok_X3_init, fo_X3, List.forall_mem_cons.mpr ⟨ca_X3_init_18_0 l, fun _ h => absurd h List.not_mem_nil⟩, fun _ h => absurd h List.not_mem_nil, fun _ h => absurd h List.not_mem_nil, fun _ h => absurd h List.not_mem_nil, fun _ h => absurd h List.not_mem_nil, rfl, rfl, fun _ h => absurd h List.not_mem_nil⟩
def sp_X3_init_18 : zSp := z_au M_X3_init_18 2
theorem c_X3_init_18 (l : Launch) : z_CS l yX3_init cX3_init 2 none rm_X3_init_18 sp_X3_init_18 := by
  refine z_meth (by decide) (Or.inl ⟨rfl, rfl⟩) (fun _ => rfl) rfl (O_X3_init_18 l) ?_
  intro av w K h
  exact z_au_ok rfl h
def rm_X3_init_729 : Room := { frames := 1, cells := 1, slots := 729, locals := 20 }
def M_X3_init_729 : zM := (k_X3_init, f_X3, [(1, 6, 0, 1, 0, 0, sp_none)], ([], [], []), [], [], 0, true, (false, 0, fun _ => 0), (1, 729, []))
theorem ca_X3_init_729_0 (l : Launch) : z_cok l RX3 (headSpec (.code yX3_init cX3_init 2 none :: zTT) rm_X3_init_729).room (false, 0, fun _ => 0) (1, 6, 0, 1, 0, 0, sp_none) := z_ca6 wt_74 wt_61 wt_62 (by decide)
theorem O_X3_init_729 (l : Launch) : z_OK l RX3 cX3_init (headSpec (.code yX3_init cX3_init 2 none :: zTT) rm_X3_init_729).room M_X3_init_729 := ⟨ok_X3_init, fo_X3, List.forall_mem_cons.mpr ⟨ca_X3_init_729_0 l, fun _ h => absurd h List.not_mem_nil⟩, fun _ h => absurd h List.not_mem_nil, fun _ h => absurd h List.not_mem_nil, fun _ h => absurd h List.not_mem_nil, fun _ h => absurd h List.not_mem_nil, rfl, rfl, fun _ h => absurd h List.not_mem_nil⟩
def sp_X3_init_729 : zSp := z_au M_X3_init_729 2
theorem c_X3_init_729 (l : Launch) : z_CS l yX3_init cX3_init 2 none rm_X3_init_729 sp_X3_init_729 := by
  refine z_meth (by decide) (Or.inl ⟨rfl, rfl⟩) (fun _ => rfl) rfl (O_X3_init_729 l) ?_
  intro av w K h
  exact z_au_ok rfl h
def rm_X3_init_120 : Room := { frames := 1, cells := 1, slots := 120, locals := 20 }
def M_X3_init_120 : zM := (k_X3_init, f_X3, [(1, 6, 0, 1, 0, 0, sp_none)], ([], [], []), [], [], 0, true, (false, 0, fun _ => 0), (1, 120, []))
theorem ca_X3_init_120_0 (l : Launch) : z_cok l RX3 (headSpec (.code yX3_init cX3_init 2 none :: zTT) rm_X3_init_120).room (false, 0, fun _ => 0) (1, 6, 0, 1, 0, 0, sp_none) := z_ca6 wt_74 wt_61 wt_62 (by decide)
theorem O_X3_init_120 (l : Launch) : z_OK l RX3 cX3_init (headSpec (.code yX3_init cX3_init 2 none :: zTT) rm_X3_init_120).room M_X3_init_120 := ⟨ok_X3_init, fo_X3, List.forall_mem_cons.mpr ⟨ca_X3_init_120_0 l, fun _ h => absurd h List.not_mem_nil⟩, fun _ h => absurd h List.not_mem_nil, fun _ h => absurd h List.not_mem_nil, fun _ h => absurd h List.not_mem_nil, fun _ h => absurd h List.not_mem_nil, rfl, rfl, fun _ h => absurd h List.not_mem_nil⟩
def sp_X3_init_120 : zSp := z_au M_X3_init_120 2
theorem c_X3_init_120 (l : Launch) : z_CS l yX3_init cX3_init 2 none rm_X3_init_120 sp_X3_init_120 := by
  refine z_meth (by decide) (Or.inl ⟨rfl, rfl⟩) (fun _ => rfl) rfl (O_X3_init_120 l) ?_
  intro av w K h
  exact z_au_ok rfl h
def rm_X3_init_400 : Room := { frames := 1, cells := 1, slots := 400, locals := 20 }
def M_X3_init_400 : zM := (k_X3_init, f_X3, [(1, 6, 0, 1, 0, 0, sp_none)], ([], [], []), [], [], 0, true, (false, 0, fun _ => 0), (1, 400, []))
theorem ca_X3_init_400_0 (l : Launch) : z_cok l RX3 (headSpec (.code yX3_init cX3_init 2 none :: zTT) rm_X3_init_400).room (false, 0, fun _ => 0) (1, 6, 0, 1, 0, 0, sp_none) := z_ca6 wt_74 wt_61 wt_62 (by decide)
theorem O_X3_init_400 (l : Launch) : z_OK l RX3 cX3_init (headSpec (.code yX3_init cX3_init 2 none :: zTT) rm_X3_init_400).room M_X3_init_400 := ⟨ok_X3_init, fo_X3, List.forall_mem_cons.mpr ⟨ca_X3_init_400_0 l, fun _ h => absurd h List.not_mem_nil⟩, fun _ h => absurd h List.not_mem_nil, fun _ h => absurd h List.not_mem_nil, fun _ h => absurd h List.not_mem_nil, fun _ h => absurd h List.not_mem_nil, rfl, rfl, fun _ h => absurd h List.not_mem_nil⟩
def sp_X3_init_400 : zSp := z_au M_X3_init_400 2
theorem c_X3_init_400 (l : Launch) : z_CS l yX3_init cX3_init 2 none rm_X3_init_400 sp_X3_init_400 := by
  refine z_meth (by decide) (Or.inl ⟨rfl, rfl⟩) (fun _ => rfl) rfl (O_X3_init_400 l) ?_
  intro av w K h
  exact z_au_ok rfl h
def rm_X0_init : Room := { frames := 2, cells := 6, slots := 30, locals := 41 }
def M_X0_init : zM := (k_X0_init, f_X0, [(3, 6, 0, 1, 0, 0, sp_none), (11, 1, 0, 2, 1, 9, sp_X3_init_9)], ([], [], [(9, 2, [some none])]), [], [], 0, true, (false, 0, fun _ => 0), (6, 30, []))
theorem ca_X0_init_0 (l : Launch) : z_cok l RX0 (headSpec (.code yX0_init cX0_init 1 none :: zTT) rm_X0_init).room (false, 0, fun _ => 0) (3, 6, 0, 1, 0, 0, sp_none) := z_ca6 wt_197 wt_61 wt_62 (by decide)
theorem ca_X0_init_1 (l : Launch) : z_cok l RX0 (headSpec (.code yX0_init cX0_init 1 none :: zTT) rm_X0_init).room (false, 0, fun _ => 0) (11, 1, 0, 2, 1, 9, sp_X3_init_9) := z_ca1 (c_X3_init_9 l) mb_X3_init wt_199 wt_72 rfl (by decide)
theorem O_X0_init (l : Launch) : z_OK l RX0 cX0_init (headSpec (.code yX0_init cX0_init 1 none :: zTT) rm_X0_init).room M_X0_init := ⟨ok_X0_init, fo_X0, List.forall_mem_cons.mpr ⟨ca_X0_init_0 l, List.forall_mem_cons.mpr ⟨ca_X0_init_1 l, fun _ h => absurd h List.not_mem_nil⟩⟩, fun _ h => absurd h List.not_mem_nil, fun _ h => absurd h List.not_mem_nil, List.forall_mem_cons.mpr ⟨⟨RX3, TX3, 1, tyX3, rfl, inX3, tyX3_ok, wt_198, wt_70, wt_28, rfl, nk_X3⟩, fun _ h => absurd h List.not_mem_nil⟩, fun _ h => absurd h List.not_mem_nil, rfl, rfl, fun _ h => absurd h List.not_mem_nil⟩
def sp_X0_init : zSp := z_au M_X0_init 1
theorem c_X0_init (l : Launch) : z_CS l yX0_init cX0_init 1 none rm_X0_init sp_X0_init := by
  refine z_meth (by decide) (Or.inl ⟨rfl, rfl⟩) (fun _ => rfl) rfl (O_X0_init l) ?_
  intro av w K h
  exact z_au_ok rfl h
def rm_X1_init : Room := { frames := 2, cells := 2, slots := 19, locals := 41 }
def M_X1_init : zM := (k_X1_init, f_X1, [(3, 6, 0, 1, 0, 0, sp_none), (11, 1, 0, 2, 1, 18, sp_X3_init_18)], ([], [], [(9, 2, [some none])]), [], [], 0, true, (false, 0, fun _ => 0), (2, 19, []))
theorem ca_X1_init_0 (l : Launch) : z_cok l RX1 (headSpec (.code yX1_init cX1_init 1 none :: zTT) rm_X1_init).room (false, 0, fun _ => 0) (3, 6, 0, 1, 0, 0, sp_none) := z_ca6 wt_163 wt_61 wt_62 (by decide)
theorem ca_X1_init_1 (l : Launch) : z_cok l RX1 (headSpec (.code yX1_init cX1_init 1 none :: zTT) rm_X1_init).room (false, 0, fun _ => 0) (11, 1, 0, 2, 1, 18, sp_X3_init_18) := z_ca1 (c_X3_init_18 l) mb_X3_init wt_165 wt_72 rfl (by decide)
theorem O_X1_init (l : Launch) : z_OK l RX1 cX1_init (headSpec (.code yX1_init cX1_init 1 none :: zTT) rm_X1_init).room M_X1_init := ⟨ok_X1_init, fo_X1, List.forall_mem_cons.mpr ⟨ca_X1_init_0 l, List.forall_mem_cons.mpr ⟨ca_X1_init_1 l, fun _ h => absurd h List.not_mem_nil⟩⟩, fun _ h => absurd h List.not_mem_nil, fun _ h => absurd h List.not_mem_nil, List.forall_mem_cons.mpr ⟨⟨RX3, TX3, 1, tyX3, rfl, inX3, tyX3_ok, wt_164, wt_70, wt_28, rfl, nk_X3⟩, fun _ h => absurd h List.not_mem_nil⟩, fun _ h => absurd h List.not_mem_nil, rfl, rfl, fun _ h => absurd h List.not_mem_nil⟩
def sp_X1_init : zSp := z_au M_X1_init 1
theorem c_X1_init (l : Launch) : z_CS l yX1_init cX1_init 1 none rm_X1_init sp_X1_init := by
  refine z_meth (by decide) (Or.inl ⟨rfl, rfl⟩) (fun _ => rfl) rfl (O_X1_init l) ?_
  intro av w K h
  exact z_au_ok rfl h
def rm_X4_init : Room := { frames := 1, cells := 0, slots := 0, locals := 20 }
def M_X4_init : zM := (k_X4_init, f_X4, [(3, 6, 0, 1, 0, 0, sp_none)], ([], [], []), [], [], 0, true, (false, 0, fun _ => 0), (0, 0, []))
theorem ca_X4_init_0 (l : Launch) : z_cok l RX4 (headSpec (.code yX4_init cX4_init 1 none :: zTT) rm_X4_init).room (false, 0, fun _ => 0) (3, 6, 0, 1, 0, 0, sp_none) := z_ca6 wt_176 wt_61 wt_62 (by decide)
theorem O_X4_init (l : Launch) : z_OK l RX4 cX4_init (headSpec (.code yX4_init cX4_init 1 none :: zTT) rm_X4_init).room M_X4_init := ⟨ok_X4_init, fo_X4, List.forall_mem_cons.mpr ⟨ca_X4_init_0 l, fun _ h => absurd h List.not_mem_nil⟩, fun _ h => absurd h List.not_mem_nil, fun _ h => absurd h List.not_mem_nil, fun _ h => absurd h List.not_mem_nil, fun _ h => absurd h List.not_mem_nil, rfl, rfl, fun _ h => absurd h List.not_mem_nil⟩
def sp_X4_init : zSp := z_au M_X4_init 1
theorem c_X4_init (l : Launch) : z_CS l yX4_init cX4_init 1 none rm_X4_init sp_X4_init := by
  refine z_meth (by decide) (Or.inl ⟨rfl, rfl⟩) (fun _ => rfl) rfl (O_X4_init l) ?_
  intro av w K h
  exact z_au_ok rfl h
def rm_X5_init : Room := { frames := 2, cells := 6, slots := 10220, locals := 41 }
def M_X5_init : zM := (k_X5_init, f_X5, [(5, 6, 0, 1, 0, 0, sp_none), (17, 1, 0, 2, 1, 729, sp_X3_init_729)], ([], [], [(15, 2, [some none])]), [], [], 0, true, (false, 0, fun _ => 0), (6, 10220, []))
theorem ca_X5_init_0 (l : Launch) : z_cok l RX5 (headSpec (.code yX5_init cX5_init 1 none :: zTT) rm_X5_init).room (false, 0, fun _ => 0) (5, 6, 0, 1, 0, 0, sp_none) := z_ca6 wt_245 wt_61 wt_62 (by decide)
theorem ca_X5_init_1 (l : Launch) : z_cok l RX5 (headSpec (.code yX5_init cX5_init 1 none :: zTT) rm_X5_init).room (false, 0, fun _ => 0) (17, 1, 0, 2, 1, 729, sp_X3_init_729) := z_ca1 (c_X3_init_729 l) mb_X3_init wt_247 wt_72 rfl (by decide)
theorem O_X5_init (l : Launch) : z_OK l RX5 cX5_init (headSpec (.code yX5_init cX5_init 1 none :: zTT) rm_X5_init).room M_X5_init := ⟨ok_X5_init, fo_X5, List.forall_mem_cons.mpr ⟨ca_X5_init_0 l, List.forall_mem_cons.mpr ⟨ca_X5_init_1 l, fun _ h => absurd h List.not_mem_nil⟩⟩, fun _ h => absurd h List.not_mem_nil, fun _ h => absurd h List.not_mem_nil, List.forall_mem_cons.mpr ⟨⟨RX3, TX3, 1, tyX3, rfl, inX3, tyX3_ok, wt_246, wt_70, wt_28, rfl, nk_X3⟩, fun _ h => absurd h List.not_mem_nil⟩, fun _ h => absurd h List.not_mem_nil, rfl, rfl, fun _ h => absurd h List.not_mem_nil⟩
def sp_X5_init : zSp := z_au M_X5_init 1
theorem c_X5_init (l : Launch) : z_CS l yX5_init cX5_init 1 none rm_X5_init sp_X5_init := by
  refine z_meth (by decide) (Or.inl ⟨rfl, rfl⟩) (fun _ => rfl) rfl (O_X5_init l) ?_
  intro av w K h
  exact z_au_ok rfl h
def rm_X6_init : Room := { frames := 2, cells := 2, slots := 121, locals := 41 }
def M_X6_init : zM := (k_X6_init, f_X6, [(3, 6, 0, 1, 0, 0, sp_none), (11, 1, 0, 2, 1, 120, sp_X3_init_120)], ([], [], [(9, 2, [some none])]), [], [], 0, true, (false, 0, fun _ => 0), (2, 121, []))
theorem ca_X6_init_0 (l : Launch) : z_cok l RX6 (headSpec (.code yX6_init cX6_init 1 none :: zTT) rm_X6_init).room (false, 0, fun _ => 0) (3, 6, 0, 1, 0, 0, sp_none) := z_ca6 wt_115 wt_61 wt_62 (by decide)
theorem ca_X6_init_1 (l : Launch) : z_cok l RX6 (headSpec (.code yX6_init cX6_init 1 none :: zTT) rm_X6_init).room (false, 0, fun _ => 0) (11, 1, 0, 2, 1, 120, sp_X3_init_120) := z_ca1 (c_X3_init_120 l) mb_X3_init wt_117 wt_72 rfl (by decide)
theorem O_X6_init (l : Launch) : z_OK l RX6 cX6_init (headSpec (.code yX6_init cX6_init 1 none :: zTT) rm_X6_init).room M_X6_init := ⟨ok_X6_init, fo_X6, List.forall_mem_cons.mpr ⟨ca_X6_init_0 l, List.forall_mem_cons.mpr ⟨ca_X6_init_1 l, fun _ h => absurd h List.not_mem_nil⟩⟩, fun _ h => absurd h List.not_mem_nil, fun _ h => absurd h List.not_mem_nil, List.forall_mem_cons.mpr ⟨⟨RX3, TX3, 1, tyX3, rfl, inX3, tyX3_ok, wt_116, wt_70, wt_28, rfl, nk_X3⟩, fun _ h => absurd h List.not_mem_nil⟩, fun _ h => absurd h List.not_mem_nil, rfl, rfl, fun _ h => absurd h List.not_mem_nil⟩
def sp_X6_init : zSp := z_au M_X6_init 1
theorem c_X6_init (l : Launch) : z_CS l yX6_init cX6_init 1 none rm_X6_init sp_X6_init := by
  refine z_meth (by decide) (Or.inl ⟨rfl, rfl⟩) (fun _ => rfl) rfl (O_X6_init l) ?_
  intro av w K h
  exact z_au_ok rfl h
def rm_X7_init : Room := { frames := 3, cells := 11, slots := 57, locals := 61 }
def M_X7_init : zM := (k_X7_init, f_X7, [(3, 6, 0, 1, 0, 0, sp_none), (11, 3, 0, 1, 6, 30, sp_X0_init), (20, 1, 0, 2, 1, 9, sp_X3_init_9)], ([], [], [(9, 0, [some none, some none, some none, none, none, none, none]), (18, 2, [some none])]), [], [], 0, true, (false, 0, fun _ => 0), (11, 57, []))
theorem ca_X7_init_0 (l : Launch) : z_cok l RX7 (headSpec (.code yX7_init cX7_init 1 none :: zTT) rm_X7_init).room (false, 0, fun _ => 0) (3, 6, 0, 1, 0, 0, sp_none) := z_ca6 wt_191 wt_61 wt_62 (by decide)
theorem ca_X7_init_1 (l : Launch) : z_cok l RX7 (headSpec (.code yX7_init cX7_init 1 none :: zTT) rm_X7_init).room (false, 0, fun _ => 0) (11, 3, 0, 1, 6, 30, sp_X0_init) := z_ca3 (host := "FewProducts") (c_X0_init l) mb_X0_init (by decide +kernel) wt_195 rfl (by decide)
theorem ca_X7_init_2 (l : Launch) : z_cok l RX7 (headSpec (.code yX7_init cX7_init 1 none :: zTT) rm_X7_init).room (false, 0, fun _ => 0) (20, 1, 0, 2, 1, 9, sp_X3_init_9) := z_ca1 (c_X3_init_9 l) mb_X3_init wt_226 wt_72 rfl (by decide)
theorem O_X7_init (l : Launch) : z_OK l RX7 cX7_init (headSpec (.code yX7_init cX7_init 1 none :: zTT) rm_X7_init).room M_X7_init := ⟨ok_X7_init, fo_X7, List.forall_mem_cons.mpr ⟨ca_X7_init_0 l, List.forall_mem_cons.mpr ⟨ca_X7_init_1 l, List.forall_mem_cons.mpr ⟨ca_X7_init_2 l, fun _ h => absurd h List.not_mem_nil⟩⟩⟩, fun _ h => absurd h List.not_mem_nil, fun _ h => absurd h List.not_mem_nil, List.forall_mem_cons.mpr ⟨⟨RX0, TX0, 7, tyX0, rfl, inX0, tyX0_ok, wt_192, wt_193, wt_34, rfl, nk_X0⟩, List.forall_mem_cons.mpr ⟨⟨RX3, TX3, 1, tyX3, rfl, inX3, tyX3_ok, wt_225, wt_70, wt_28, rfl, nk_X3⟩, fun _ h => absurd h List.not_mem_nil⟩⟩, fun _ h => absurd h List.not_mem_nil, rfl, rfl, fun _ h => absurd h List.not_mem_nil⟩
def sp_X7_init : zSp := z_au M_X7_init 1
theorem c_X7_init (l : Launch) : z_CS l yX7_init cX7_init 1 none rm_X7_init sp_X7_init := by
  refine z_meth (by decide) (Or.inl ⟨rfl, rfl⟩) (fun _ => rfl) rfl (O_X7_init l) ?_
  intro av w K h
  exact z_au_ok rfl h
def rm_X8_init : Room := { frames := 2, cells := 2, slots := 401, locals := 41 }
def M_X8_init : zM := (k_X8_init, f_X8, [(3, 6, 0, 1, 0, 0, sp_none), (11, 1, 0, 2, 1, 400, sp_X3_init_400)], ([], [], [(9, 2, [some none])]), [], [], 0, true, (false, 0, fun _ => 0), (2, 401, []))
theorem ca_X8_init_0 (l : Launch) : z_cok l RX8 (headSpec (.code yX8_init cX8_init 1 none :: zTT) rm_X8_init).room (false, 0, fun _ => 0) (3, 6, 0, 1, 0, 0, sp_none) := z_ca6 wt_68 wt_61 wt_62 (by decide)
theorem ca_X8_init_1 (l : Launch) : z_cok l RX8 (headSpec (.code yX8_init cX8_init 1 none :: zTT) rm_X8_init).room (false, 0, fun _ => 0) (11, 1, 0, 2, 1, 400, sp_X3_init_400) := z_ca1 (c_X3_init_400 l) mb_X3_init wt_71 wt_72 rfl (by decide)
theorem O_X8_init (l : Launch) : z_OK l RX8 cX8_init (headSpec (.code yX8_init cX8_init 1 none :: zTT) rm_X8_init).room M_X8_init := ⟨ok_X8_init, fo_X8, List.forall_mem_cons.mpr ⟨ca_X8_init_0 l, List.forall_mem_cons.mpr ⟨ca_X8_init_1 l, fun _ h => absurd h List.not_mem_nil⟩⟩, fun _ h => absurd h List.not_mem_nil, fun _ h => absurd h List.not_mem_nil, List.forall_mem_cons.mpr ⟨⟨RX3, TX3, 1, tyX3, rfl, inX3, tyX3_ok, wt_69, wt_70, wt_28, rfl, nk_X3⟩, fun _ h => absurd h List.not_mem_nil⟩, fun _ h => absurd h List.not_mem_nil, rfl, rfl, fun _ h => absurd h List.not_mem_nil⟩
def sp_X8_init : zSp := z_au M_X8_init 1
theorem c_X8_init (l : Launch) : z_CS l yX8_init cX8_init 1 none rm_X8_init sp_X8_init := by
  refine z_meth (by decide) (Or.inl ⟨rfl, rfl⟩) (fun _ => rfl) rfl (O_X8_init l) ?_
  intro av w K h
  exact z_au_ok rfl h
def rm_X9_init : Room := { frames := 1, cells := 1, slots := 9, locals := 20 }
def M_X9_init : zM := (k_X9_init, f_X9, [(3, 6, 0, 1, 0, 0, sp_none)], ([], [], []), [], [], 0, true, (false, 0, fun _ => 0), (1, 9, []))
theorem ca_X9_init_0 (l : Launch) : z_cok l RX9 (headSpec (.code yX9_init cX9_init 1 none :: zTT) rm_X9_init).room (false, 0, fun _ => 0) (3, 6, 0, 1, 0, 0, sp_none) := z_ca6 wt_100 wt_61 wt_62 (by decide)
theorem O_X9_init (l : Launch) : z_OK l RX9 cX9_init (headSpec (.code yX9_init cX9_init 1 none :: zTT) rm_X9_init).room M_X9_init := ⟨ok_X9_init, fo_X9, List.forall_mem_cons.mpr ⟨ca_X9_init_0 l, fun _ h => absurd h List.not_mem_nil⟩, fun _ h => absurd h List.not_mem_nil, fun _ h => absurd h List.not_mem_nil, fun _ h => absurd h List.not_mem_nil, fun _ h => absurd h List.not_mem_nil, rfl, rfl, fun _ h => absurd h List.not_mem_nil⟩
def sp_X9_init : zSp := z_au M_X9_init 1
theorem c_X9_init (l : Launch) : z_CS l yX9_init cX9_init 1 none rm_X9_init sp_X9_init := by
  refine z_meth (by decide) (Or.inl ⟨rfl, rfl⟩) (fun _ => rfl) rfl (O_X9_init l) ?_
  intro av w K h
  exact z_au_ok rfl h

