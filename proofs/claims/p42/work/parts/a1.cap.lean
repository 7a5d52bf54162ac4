/-! room in a StringBuilder -/
theorem sar0 (x : Int32) : z_sar x (nI 0) = x := Int32.toInt_inj.mp (by unfold z_sar; rw [show nI 0 &&& 31 = 0 by decide]; simp)
theorem shl0 (x : Int32) : z_shl x (nI 0) = x := Int32.toInt_inj.mp (by unfold z_shl; rw [show nI 0 &&& 31 = 0 by decide]; simp)
theorem rcv10 {G : List zSh} {wi : Nat → Nat → Int32} {wl : Nat → Nat → Int64} {o ci : Nat} {fs : List (Option (Option Nat))} (h : z_nth G o = some (.inl (ci, fs))) (as : List Value) : z_rcv 10 ci (.ref o :: as) (G, wi, wl) = true := by
  show z_hdo ci (.ref o :: as) (G, wi, wl) = true
  unfold z_hdo
  dsimp only
  rw [h]
  exact Nat.beq_refl ci
theorem rcv4 {G : List zSh} {wi : Nat → Nat → Int32} {wl : Nat → Nat → Int64} {o ci : Nat} {fs : List (Option (Option Nat))} (h : z_nth G o = some (.inl (ci, fs))) (as : List Value) : z_rcv 4 ci (.ref o :: as) (G, wi, wl) = true := rcv10 h as
theorem rcv5 {G : List zSh} {wi : Nat → Nat → Int32} {wl : Nat → Nat → Int64} {o ci : Nat} {fs : List (Option (Option Nat))} (h : z_nth G o = some (.inl (ci, fs))) (as : List Value) : z_rcv 5 ci (.ref o :: as) (G, wi, wl) = true := rcv10 h as
theorem rcv11 {G : List zSh} {wi : Nat → Nat → Int32} {wl : Nat → Nat → Int64} {o ci : Nat} {fs : List (Option (Option Nat))} (h : z_nth G o = some (.inl (ci, fs))) (as : List Value) : z_rcv 11 ci (.ref o :: as) (G, wi, wl) = true := rcv10 h as
theorem rcv13 {G : List zSh} {wi : Nat → Nat → Int32} {wl : Nat → Nat → Int64} {o ci : Nat} {fs : List (Option (Option Nat))} (h : z_nth G o = some (.inl (ci, fs))) (as : List Value) : z_rcv 13 ci (.ref o :: as) (G, wi, wl) = true := rcv10 h as
def sp_J5_newCapacity_0f7a4 : zSp := fun av w K => match av with
  | [.ref o, .int a] => ∃ (v N need : Nat), z_nth w.1 o = some (.inl (11, [some (some v), none, none, none])) ∧ z_nth w.1 v = some (.inr (2, N)) ∧ w.2.1 o 1 = nI 0 ∧ a = nI need ∧ N < need ∧ need ≤ 150 ∧ K (some (.int (nI (N + max (need - N) (N + 2))))) w
  | _ => False
def rm_J5_newCapacity_0f7a4 : Room := { frames := 2, cells := 0, slots := 0, locals := 44 }
def M_J5_newCapacity_0f7a4 : zM := (k_J5_newCapacity_0f7a4, f_J5, [(114, 0, 0, 3, 0, 0, sp_J8_newLength_cabcc)], ([(39, 2147483647)], [], []), [], [], 1, false, (false, 0, fun _ => 0), (0, 0, []))
theorem ca_J5_newCapacity_0f7a4_0 (l : Launch) : z_cok l RJ5 (headSpec (.code yJ5_newCapacity_0f7a4 cJ5_newCapacity_0f7a4 6 (some .int) :: zTT) rm_J5_newCapacity_0f7a4).room (false, 0, fun _ => 0) (114, 0, 0, 3, 0, 0, sp_J8_newLength_cabcc) := z_ca0 (c_J8_newLength_cabcc l) mb_J8_newLength_cabcc wt_1076 wt_1077 (by decide)
theorem O_J5_newCapacity_0f7a4 (l : Launch) : z_OK l RJ5 cJ5_newCapacity_0f7a4 (headSpec (.code yJ5_newCapacity_0f7a4 cJ5_newCapacity_0f7a4 6 (some .int) :: zTT) rm_J5_newCapacity_0f7a4).room M_J5_newCapacity_0f7a4 := ⟨ok_J5_newCapacity_0f7a4, fo_J5, List.forall_mem_cons.mpr ⟨ca_J5_newCapacity_0f7a4_0 l, fun _ h => absurd h List.not_mem_nil⟩, List.forall_mem_cons.mpr ⟨wt_1086, fun _ h => absurd h List.not_mem_nil⟩, fun _ h => absurd h List.not_mem_nil, fun _ h => absurd h List.not_mem_nil, fun _ h => absurd h List.not_mem_nil, rfl, rfl, fun _ h => absurd h List.not_mem_nil⟩
theorem c_J5_newCapacity_0f7a4 (l : Launch) : z_CS l yJ5_newCapacity_0f7a4 cJ5_newCapacity_0f7a4 6 (some .int) rm_J5_newCapacity_0f7a4 sp_J5_newCapacity_0f7a4 := by
  refine z_methF (by decide +kernel) (Or.inr (Or.inl ⟨rfl, rfl⟩)) (fun h => by cases h) rfl (O_J5_newCapacity_0f7a4 l) ?_
  intro av w K h
  match av, h with
  | [.ref (o : Nat), .int a], h =>
    obtain ⟨v, N, need, hO, hV, hc, rfl, hN, hn, h⟩ := h
    obtain ⟨G, wi, wl⟩ := w
    dsimp only at hO hV hc h
    refine ⟨Nat.le_of_ble_eq_true rfl, fun Jm hs => hs 400 0 _ _ _ _ _ ?_⟩
    conv => whnf
    repeat ((first | rw [hO] | rw [hV] | rw [hc] | refine ⟨trivial, ?_⟩ | refine ⟨rfl, ?_⟩ | refine ⟨fun hc => absurd hc (by decide), fun _ => ?_⟩ | refine ⟨fun _ => ?_, fun hc => absurd (by decide) hc⟩ | refine ⟨fun _ => ?_, fun hc => absurd hc (by decide)⟩ | refine ⟨fun hc => absurd (by decide) hc, fun _ => ?_⟩ | refine ⟨Or.inr rfl, ?_⟩ | refine ⟨Or.inl rfl, ?_⟩ | refine ⟨fun hq => absurd (by assumption) hq, fun _ => ?_⟩ | refine ⟨fun _ => ?_, fun hq => absurd (by assumption) hq⟩ | refine ⟨fun hq => absurd hq (by assumption), fun _ => ?_⟩ | refine ⟨fun _ => ?_, fun hq => absurd hq (by assumption)⟩); conv => whnf)
    try dsimp only
    refine ⟨N, need - N, N + 2, rfl, ?_, ?_, by omega, by omega, by omega, by omega, ?_⟩
    · rw [hc, shl0]
      exact nI_sub (by omega)
    · rw [hc, shl0, nI_add]
    conv => whnf
    repeat ((first | rw [hO] | rw [hV] | rw [hc] | refine ⟨trivial, ?_⟩ | refine ⟨rfl, ?_⟩ | refine ⟨fun hc => absurd hc (by decide), fun _ => ?_⟩ | refine ⟨fun _ => ?_, fun hc => absurd (by decide) hc⟩ | refine ⟨fun _ => ?_, fun hc => absurd hc (by decide)⟩ | refine ⟨fun hc => absurd (by decide) hc, fun _ => ?_⟩ | refine ⟨Or.inr rfl, ?_⟩ | refine ⟨Or.inl rfl, ?_⟩ | refine ⟨fun hq => absurd (by assumption) hq, fun _ => ?_⟩ | refine ⟨fun _ => ?_, fun hq => absurd (by assumption) hq⟩ | refine ⟨fun hq => absurd hq (by assumption), fun _ => ?_⟩ | refine ⟨fun _ => ?_, fun hq => absurd hq (by assumption)⟩); conv => whnf)
    try dsimp only
    refine ⟨fun _ => ?_, fun hq => ?_⟩
    · conv => whnf
      repeat ((first | rw [hO] | rw [hV] | rw [hc] | refine ⟨trivial, ?_⟩ | refine ⟨rfl, ?_⟩ | refine ⟨fun hc => absurd hc (by decide), fun _ => ?_⟩ | refine ⟨fun _ => ?_, fun hc => absurd (by decide) hc⟩ | refine ⟨fun _ => ?_, fun hc => absurd hc (by decide)⟩ | refine ⟨fun hc => absurd (by decide) hc, fun _ => ?_⟩ | refine ⟨Or.inr rfl, ?_⟩ | refine ⟨Or.inl rfl, ?_⟩ | refine ⟨fun hq => absurd (by assumption) hq, fun _ => ?_⟩ | refine ⟨fun _ => ?_, fun hq => absurd (by assumption) hq⟩ | refine ⟨fun hq => absurd hq (by assumption), fun _ => ?_⟩ | refine ⟨fun _ => ?_, fun hq => absurd hq (by assumption)⟩); conv => whnf)
      try dsimp only
      rw [hc, sar0]
      exact h
    · exfalso
      have hm : max (need - N) (N + 2) ≤ 152 := Nat.max_le.mpr ⟨by omega, by omega⟩
      have h9 := congrArg Int32.toInt hq
      rw [nI_toInt (by omega), show (2147483647 : Int32).toInt = 2147483647 by decide] at h9
      omega
def sp_J7_copyOf_9075b : zSp := fun av w K => match av with
  | [.ref v, .int a] => ∃ (N M : Nat), z_nth w.1 v = some (.inr (2, N)) ∧ a = nI M ∧ N < M ∧ M ≤ 300 ∧ (∀ k, k < N → fits .byte (.int (w.2.1 v k)) = true) ∧ WF w ∧ ∀ wi' : Nat → Nat → Int32, (∀ x, x ≠ w.1.length → wi' x = w.2.1 x) → (∀ k, k < N → wi' w.1.length k = w.2.1 v k) → (∀ k, N ≤ k → wi' w.1.length k = 0) → K (some (.ref w.1.length)) (w.1 ++ [.inr (2, M)], wi', w.2.2)
  | _ => False
def rm_J7_copyOf_9075b : Room := { frames := 1, cells := 1, slots := 300, locals := 26 }
def M_J7_copyOf_9075b : zM := (k_J7_copyOf_9075b, [], [(310, 9, 0, 1, 0, 0, sp_none), (304, 0, 0, 2, 0, 0, sp_J9_min_7cf53), (150, 7, 0, 5, 0, 0, sp_none)], ([], [], []), [], [], 4, false, (false, 0, fun _ => 0), (1, 300, [(311, .null)]))
theorem ca_J7_copyOf_9075b_0 (l : Launch) : z_cok l RJ7 (headSpec (.code yJ7_copyOf_9075b cJ7_copyOf_9075b 3 (some (.array .byte)) :: zTT) rm_J7_copyOf_9075b).room (false, 0, fun _ => 0) (310, 9, 0, 1, 0, 0, sp_none) := z_ca9 (zTT_in (by decide +kernel) rfl) (by decide)
theorem ca_J7_copyOf_9075b_1 (l : Launch) : z_cok l RJ7 (headSpec (.code yJ7_copyOf_9075b cJ7_copyOf_9075b 3 (some (.array .byte)) :: zTT) rm_J7_copyOf_9075b).room (false, 0, fun _ => 0) (304, 0, 0, 2, 0, 0, sp_J9_min_7cf53) := z_ca0 (c_J9_min_7cf53 l) mb_J9_min_7cf53 wt_1097 wt_1098 (by decide)
theorem ca_J7_copyOf_9075b_2 (l : Launch) : z_cok l RJ7 (headSpec (.code yJ7_copyOf_9075b cJ7_copyOf_9075b 3 (some (.array .byte)) :: zTT) rm_J7_copyOf_9075b).room (false, 0, fun _ => 0) (150, 7, 0, 5, 0, 0, sp_none) := z_ca7 (zTT_in (by decide +kernel) rfl) (by decide)
theorem O_J7_copyOf_9075b (l : Launch) : z_OK l RJ7 cJ7_copyOf_9075b (headSpec (.code yJ7_copyOf_9075b cJ7_copyOf_9075b 3 (some (.array .byte)) :: zTT) rm_J7_copyOf_9075b).room M_J7_copyOf_9075b := ⟨ok_J7_copyOf_9075b, fun _ h => absurd h List.not_mem_nil, List.forall_mem_cons.mpr ⟨ca_J7_copyOf_9075b_0 l, List.forall_mem_cons.mpr ⟨ca_J7_copyOf_9075b_1 l, List.forall_mem_cons.mpr ⟨ca_J7_copyOf_9075b_2 l, fun _ h => absurd h List.not_mem_nil⟩⟩⟩, fun _ h => absurd h List.not_mem_nil, fun _ h => absurd h List.not_mem_nil, fun _ h => absurd h List.not_mem_nil, fun _ h => absurd h List.not_mem_nil, rfl, rfl, List.forall_mem_cons.mpr ⟨(zTT_in (by decide +kernel) rfl), fun _ h => absurd h List.not_mem_nil⟩⟩
theorem c_J7_copyOf_9075b (l : Launch) : z_CS l yJ7_copyOf_9075b cJ7_copyOf_9075b 3 (some (.array .byte)) rm_J7_copyOf_9075b sp_J7_copyOf_9075b := by
  refine z_methF (by decide +kernel) (Or.inr (Or.inr (Or.inr (Or.inr (Or.inl ⟨rfl, _, rfl, Or.inr ⟨_, rfl⟩⟩))))) (fun h => by cases h) rfl (O_J7_copyOf_9075b l) ?_
  intro av w K h
  match av, h with
  | [.ref (v : Nat), .int a], h =>
    obtain ⟨N, M, hV, rfl, hN, hM, hF, hW, h⟩ := h
    obtain ⟨G, wi, wl⟩ := w
    dsimp only at hV hF hW h
    unfold WF at hW
    dsimp only at hW
    have hv : v < G.length := nth_lt hV
    refine ⟨Nat.le_of_ble_eq_true rfl, fun Jm hs => hs 400 0 _ _ _ _ _ ?_⟩
    conv => whnf
    repeat ((first | rw [hV] | refine ⟨trivial, ?_⟩ | refine ⟨rfl, ?_⟩ | refine ⟨fun hc => absurd hc (by decide), fun _ => ?_⟩ | refine ⟨fun _ => ?_, fun hc => absurd (by decide) hc⟩ | refine ⟨fun _ => ?_, fun hc => absurd hc (by decide)⟩ | refine ⟨fun hc => absurd (by decide) hc, fun _ => ?_⟩ | refine ⟨Or.inr rfl, ?_⟩ | refine ⟨Or.inl rfl, ?_⟩ | refine ⟨fun hq => absurd (by assumption) hq, fun _ => ?_⟩ | refine ⟨fun _ => ?_, fun hq => absurd (by assumption) hq⟩ | refine ⟨fun hq => absurd hq (by assumption), fun _ => ?_⟩ | refine ⟨fun _ => ?_, fun hq => absurd hq (by assumption)⟩); conv => whnf)
    try dsimp only
    refine ⟨fun _ => ?_, fun hq => absurd ((nI_eq (by omega) (by omega)).mp hq) (by omega)⟩
    conv => whnf
    repeat ((first | rw [hV] | refine ⟨trivial, ?_⟩ | refine ⟨rfl, ?_⟩ | refine ⟨fun hc => absurd hc (by decide), fun _ => ?_⟩ | refine ⟨fun _ => ?_, fun hc => absurd (by decide) hc⟩ | refine ⟨fun _ => ?_, fun hc => absurd hc (by decide)⟩ | refine ⟨fun hc => absurd (by decide) hc, fun _ => ?_⟩ | refine ⟨Or.inr rfl, ?_⟩ | refine ⟨Or.inl rfl, ?_⟩ | refine ⟨fun hq => absurd (by assumption) hq, fun _ => ?_⟩ | refine ⟨fun _ => ?_, fun hq => absurd (by assumption) hq⟩ | refine ⟨fun hq => absurd hq (by assumption), fun _ => ?_⟩ | refine ⟨fun _ => ?_, fun hq => absurd hq (by assumption)⟩); conv => whnf)
    try dsimp only
    refine ⟨M, rfl, by omega, ⟨Nat.le_of_ble_eq_true rfl, by show 0 + M ≤ 300; omega⟩, by simp [z_wfl, z_wfs, z_rlt, z_arl, Nat.blt_eq, hv, hW], ?_⟩
    rw [z_psh_eq, Nat.zero_add, Nat.zero_add]
    have hV1 : z_nth (G ++ [.inr (2, M)]) v = some (.inr (2, N)) := by rw [nth_app hv]; exact hV
    have hL1 : z_nth (G ++ [.inr (2, M)]) G.length = some (.inr (2, M)) := nth_new rfl
    conv => whnf
    repeat ((first | rw [hV1] | rw [hL1] | refine ⟨trivial, ?_⟩ | refine ⟨rfl, ?_⟩ | refine ⟨fun hc => absurd hc (by decide), fun _ => ?_⟩ | refine ⟨fun _ => ?_, fun hc => absurd (by decide) hc⟩ | refine ⟨fun _ => ?_, fun hc => absurd hc (by decide)⟩ | refine ⟨fun hc => absurd (by decide) hc, fun _ => ?_⟩ | refine ⟨Or.inr rfl, ?_⟩ | refine ⟨Or.inl rfl, ?_⟩ | refine ⟨fun hq => absurd (by assumption) hq, fun _ => ?_⟩ | refine ⟨fun _ => ?_, fun hq => absurd (by assumption) hq⟩ | refine ⟨fun hq => absurd hq (by assumption), fun _ => ?_⟩ | refine ⟨fun _ => ?_, fun hq => absurd hq (by assumption)⟩); conv => whnf)
    try dsimp only
    refine ⟨N, M, rfl, rfl, by omega, by omega, ?_⟩
    conv => whnf
    repeat ((first | rw [hV1] | rw [hL1] | refine ⟨trivial, ?_⟩ | refine ⟨rfl, ?_⟩ | refine ⟨fun hc => absurd hc (by decide), fun _ => ?_⟩ | refine ⟨fun _ => ?_, fun hc => absurd (by decide) hc⟩ | refine ⟨fun _ => ?_, fun hc => absurd hc (by decide)⟩ | refine ⟨fun hc => absurd (by decide) hc, fun _ => ?_⟩ | refine ⟨Or.inr rfl, ?_⟩ | refine ⟨Or.inl rfl, ?_⟩ | refine ⟨fun hq => absurd (by assumption) hq, fun _ => ?_⟩ | refine ⟨fun _ => ?_, fun hq => absurd (by assumption) hq⟩ | refine ⟨fun hq => absurd hq (by assumption), fun _ => ?_⟩ | refine ⟨fun _ => ?_, fun hq => absurd hq (by assumption)⟩); conv => whnf)
    try dsimp only
    rw [Nat.min_eq_left (by omega), nI_clamp (show N < 2 ^ 31 by omega), nI_clamp (show 0 < 2 ^ 31 by decide), Nat.zero_add, Nat.zero_add]
    refine ⟨⟨nI_pos (by decide), nI_pos (by decide), nI_pos (by omega), Nat.le_refl _, Nat.le_of_lt hN, fun k hk => ?_⟩, ?_⟩
    · rw [Nat.zero_add, z_row_ne (by omega)]
      exact hF k hk
    · conv => whnf
      repeat ((first | rw [hV1] | rw [hL1] | refine ⟨trivial, ?_⟩ | refine ⟨rfl, ?_⟩ | refine ⟨fun hc => absurd hc (by decide), fun _ => ?_⟩ | refine ⟨fun _ => ?_, fun hc => absurd (by decide) hc⟩ | refine ⟨fun _ => ?_, fun hc => absurd hc (by decide)⟩ | refine ⟨fun hc => absurd (by decide) hc, fun _ => ?_⟩ | refine ⟨Or.inr rfl, ?_⟩ | refine ⟨Or.inl rfl, ?_⟩ | refine ⟨fun hq => absurd (by assumption) hq, fun _ => ?_⟩ | refine ⟨fun _ => ?_, fun hq => absurd (by assumption) hq⟩ | refine ⟨fun hq => absurd hq (by assumption), fun _ => ?_⟩ | refine ⟨fun _ => ?_, fun hq => absurd hq (by assumption)⟩); conv => whnf)
      try dsimp only
      refine h _ (fun x hx => by rw [z_row_ne hx, z_row_ne hx]) (fun k hk => ?_) (fun k hk => ?_)
      · simp [z_row, va_cpy, Nat.ne_of_lt hv, hk]
      · simp [z_row, va_cpy, Nat.not_lt.mpr hk]
def sp_J5_ensureCapacityInternal_d00df : zSp := fun av w K => match av with
  | [.ref o, .int a] => ∃ (P : Nat → Prop) (m n : Nat) (f : Nat → Nat), SB P w o 0 n f ∧ Bel P w ∧ WF w ∧ a = nI m ∧ m ≤ 150 ∧ ∀ w', Ext P w w' → SB P w' o m n f → K none w'
  | _ => False
def rm_J5_ensureCapacityInternal_d00df : Room := { frames := 3, cells := 1, slots := 300, locals := 69 }
def M_J5_ensureCapacityInternal_d00df : zM := (k_J5_ensureCapacityInternal_d00df, f_J5, [(104, 10, 11, 2, 0, 0, sp_J5_newCapacity_0f7a4), (108, 0, 0, 2, 1, 300, sp_J7_copyOf_9075b)], ([], [], []), [], [], 0, false, (false, 0, fun _ => 0), (1, 300, []))
theorem ca_J5_ensureCapacityInternal_d00df_0 (l : Launch) : z_cok l RJ5 (headSpec (.code yJ5_ensureCapacityInternal_d00df cJ5_ensureCapacityInternal_d00df 3 none :: zTT) rm_J5_ensureCapacityInternal_d00df).room (false, 0, fun _ => 0) (104, 10, 11, 2, 0, 0, sp_J5_newCapacity_0f7a4) := z_ca10 (c_J5_newCapacity_0f7a4 l) mb_J5_newCapacity_0f7a4 ⟨_, rfl, zTT_x (by simp [zXP])⟩ wt_1072 (zTT_in (by decide +kernel) rfl) wt_1074 (by decide)
theorem ca_J5_ensureCapacityInternal_d00df_1 (l : Launch) : z_cok l RJ5 (headSpec (.code yJ5_ensureCapacityInternal_d00df cJ5_ensureCapacityInternal_d00df 3 none :: zTT) rm_J5_ensureCapacityInternal_d00df).room (false, 0, fun _ => 0) (108, 0, 0, 2, 1, 300, sp_J7_copyOf_9075b) := z_ca0 (c_J7_copyOf_9075b l) mb_J7_copyOf_9075b wt_1087 wt_1088 (by decide)
theorem O_J5_ensureCapacityInternal_d00df (l : Launch) : z_OK l RJ5 cJ5_ensureCapacityInternal_d00df (headSpec (.code yJ5_ensureCapacityInternal_d00df cJ5_ensureCapacityInternal_d00df 3 none :: zTT) rm_J5_ensureCapacityInternal_d00df).room M_J5_ensureCapacityInternal_d00df := ⟨ok_J5_ensureCapacityInternal_d00df, fo_J5, List.forall_mem_cons.mpr ⟨ca_J5_ensureCapacityInternal_d00df_0 l, List.forall_mem_cons.mpr ⟨ca_J5_ensureCapacityInternal_d00df_1 l, fun _ h => absurd h List.not_mem_nil⟩⟩, fun _ h => absurd h List.not_mem_nil, fun _ h => absurd h List.not_mem_nil, fun _ h => absurd h List.not_mem_nil, fun _ h => absurd h List.not_mem_nil, rfl, rfl, fun _ h => absurd h List.not_mem_nil⟩
theorem c_J5_ensureCapacityInternal_d00df (l : Launch) : z_CS l yJ5_ensureCapacityInternal_d00df cJ5_ensureCapacityInternal_d00df 3 none rm_J5_ensureCapacityInternal_d00df sp_J5_ensureCapacityInternal_d00df := by
  refine z_methF (by decide +kernel) (Or.inl ⟨rfl, rfl⟩) (fun h => by cases h) rfl (O_J5_ensureCapacityInternal_d00df l) ?_
  intro av w K h
  match av, h with
  | [.ref (o : Nat), .int a], h =>
    obtain ⟨P, m, n, f, ⟨v, N, -, hbo, hbv, hO, h1, h3, hN, hV, hn, hf, hF⟩, hb, hW, rfl, hm, h⟩ := h
    obtain ⟨G, wi, wl⟩ := w
    dsimp only at hO h1 h3 hV hn hf hF
    have hb : ∀ x, P x → x < G.length := hb
    have ho : o < G.length := nth_lt hO
    have hv : v < G.length := nth_lt hV
    have hov : o ≠ v := fun q => by rw [q, hV] at hO; cases hO
    refine ⟨Nat.le_of_ble_eq_true rfl, fun Jm hs => hs 400 0 _ _ _ _ _ ?_⟩
    conv => whnf
    repeat ((first | rw [hO] | rw [hV] | rw [h1] | refine ⟨trivial, ?_⟩ | refine ⟨rfl, ?_⟩ | refine ⟨fun hc => absurd hc (by decide), fun _ => ?_⟩ | refine ⟨fun _ => ?_, fun hc => absurd (by decide) hc⟩ | refine ⟨fun _ => ?_, fun hc => absurd hc (by decide)⟩ | refine ⟨fun hc => absurd (by decide) hc, fun _ => ?_⟩ | refine ⟨Or.inr rfl, ?_⟩ | refine ⟨Or.inl rfl, ?_⟩ | refine ⟨fun hq => absurd (by assumption) hq, fun _ => ?_⟩ | refine ⟨fun _ => ?_, fun hq => absurd (by assumption) hq⟩ | refine ⟨fun hq => absurd hq (by assumption), fun _ => ?_⟩ | refine ⟨fun _ => ?_, fun hq => absurd hq (by assumption)⟩); conv => whnf)
    try dsimp only
    rw [h1, sar0]
    have hcmp : nI 0 < nI m - nI N ↔ N < m := by
      by_cases hq : N ≤ m
      · rw [nI_sub hq, ltN (by decide) (by omega)]
        omega
      · rw [Int32.lt_iff_toInt_lt, Int32.toInt_sub, nI_toInt (by decide), nI_toInt (by omega), nI_toInt (by omega)]
        simp only [Int.bmod]
        split <;> omega
    refine ⟨fun hc => ?_, fun hc => ?_⟩
    · conv => whnf
      repeat ((first | rw [hO] | rw [hV] | rw [h1] | refine ⟨trivial, ?_⟩ | refine ⟨rfl, ?_⟩ | refine ⟨fun hc => absurd hc (by decide), fun _ => ?_⟩ | refine ⟨fun _ => ?_, fun hc => absurd (by decide) hc⟩ | refine ⟨fun _ => ?_, fun hc => absurd hc (by decide)⟩ | refine ⟨fun hc => absurd (by decide) hc, fun _ => ?_⟩ | refine ⟨Or.inr rfl, ?_⟩ | refine ⟨Or.inl rfl, ?_⟩ | refine ⟨fun hq => absurd (by assumption) hq, fun _ => ?_⟩ | refine ⟨fun _ => ?_, fun hq => absurd (by assumption) hq⟩ | refine ⟨fun hq => absurd hq (by assumption), fun _ => ?_⟩ | refine ⟨fun _ => ?_, fun hq => absurd hq (by assumption)⟩); conv => whnf)
      try dsimp only
      rw [hcmp] at hc
      exact h _ Ext.rf ⟨v, N, by omega, hbo, hbv, hO, h1, h3, hN, hV, hn, hf, hF⟩
    · conv => whnf
      repeat ((first | rw [hO] | rw [hV] | rw [rcv10 hO] | refine ⟨trivial, ?_⟩ | refine ⟨rfl, ?_⟩ | refine ⟨fun hc => absurd hc (by decide), fun _ => ?_⟩ | refine ⟨fun _ => ?_, fun hc => absurd (by decide) hc⟩ | refine ⟨fun _ => ?_, fun hc => absurd hc (by decide)⟩ | refine ⟨fun hc => absurd (by decide) hc, fun _ => ?_⟩ | refine ⟨Or.inr rfl, ?_⟩ | refine ⟨Or.inl rfl, ?_⟩ | refine ⟨fun hq => absurd (by assumption) hq, fun _ => ?_⟩ | refine ⟨fun _ => ?_, fun hq => absurd (by assumption) hq⟩ | refine ⟨fun hq => absurd hq (by assumption), fun _ => ?_⟩ | refine ⟨fun _ => ?_, fun hq => absurd hq (by assumption)⟩); conv => whnf)
      try dsimp only
      rw [hcmp] at hc
      refine ⟨v, N, m, (by first | exact hO | rfl), (by first | exact hV | rfl), h1, rfl, hc, hm, ?_⟩
      conv => whnf
      repeat ((first | rw [hO] | rw [hV] | rw [h1] | refine ⟨trivial, ?_⟩ | refine ⟨rfl, ?_⟩ | refine ⟨fun hc => absurd hc (by decide), fun _ => ?_⟩ | refine ⟨fun _ => ?_, fun hc => absurd (by decide) hc⟩ | refine ⟨fun _ => ?_, fun hc => absurd hc (by decide)⟩ | refine ⟨fun hc => absurd (by decide) hc, fun _ => ?_⟩ | refine ⟨Or.inr rfl, ?_⟩ | refine ⟨Or.inl rfl, ?_⟩ | refine ⟨fun hq => absurd (by assumption) hq, fun _ => ?_⟩ | refine ⟨fun _ => ?_, fun hq => absurd (by assumption) hq⟩ | refine ⟨fun hq => absurd hq (by assumption), fun _ => ?_⟩ | refine ⟨fun _ => ?_, fun hq => absurd hq (by assumption)⟩); conv => whnf)
      try dsimp only
      refine ⟨⟨Nat.le_of_ble_eq_true rfl, Nat.le_of_ble_eq_true rfl⟩, by simp [z_wfl, z_wfs, z_rlt, z_arl, Nat.blt_eq, ho], ?_⟩
      refine ⟨N, N + max (m - N) (N + 2), hV, by rw [h1, shl0], by omega, by omega, hF, hW, fun wi' p1 p2 p3 => ?_⟩
      have hO1 : z_nth (G ++ [.inr (2, N + max (m - N) (N + 2))]) o = some (.inl (11, [some (some v), none, none, none])) := by rw [nth_app ho]; exact hO
      dsimp only at p1 p2 p3
      conv => whnf
      repeat ((first | rw [hO1] | refine ⟨trivial, ?_⟩ | refine ⟨rfl, ?_⟩ | refine ⟨fun hc => absurd hc (by decide), fun _ => ?_⟩ | refine ⟨fun _ => ?_, fun hc => absurd (by decide) hc⟩ | refine ⟨fun _ => ?_, fun hc => absurd hc (by decide)⟩ | refine ⟨fun hc => absurd (by decide) hc, fun _ => ?_⟩ | refine ⟨Or.inr rfl, ?_⟩ | refine ⟨Or.inl rfl, ?_⟩ | refine ⟨fun hq => absurd (by assumption) hq, fun _ => ?_⟩ | refine ⟨fun _ => ?_, fun hq => absurd (by assumption) hq⟩ | refine ⟨fun hq => absurd hq (by assumption), fun _ => ?_⟩ | refine ⟨fun _ => ?_, fun hq => absurd hq (by assumption)⟩); conv => whnf)
      try dsimp only
      rw [z_gset_eq _ _ _ _ hO1]
      conv => whnf
      repeat ((first | rw [hO1] | refine ⟨trivial, ?_⟩ | refine ⟨rfl, ?_⟩ | refine ⟨fun hc => absurd hc (by decide), fun _ => ?_⟩ | refine ⟨fun _ => ?_, fun hc => absurd (by decide) hc⟩ | refine ⟨fun _ => ?_, fun hc => absurd hc (by decide)⟩ | refine ⟨fun hc => absurd (by decide) hc, fun _ => ?_⟩ | refine ⟨Or.inr rfl, ?_⟩ | refine ⟨Or.inl rfl, ?_⟩ | refine ⟨fun hq => absurd (by assumption) hq, fun _ => ?_⟩ | refine ⟨fun _ => ?_, fun hq => absurd (by assumption) hq⟩ | refine ⟨fun hq => absurd hq (by assumption), fun _ => ?_⟩ | refine ⟨fun _ => ?_, fun hq => absurd hq (by assumption)⟩); conv => whnf)
      try dsimp only
      have hg : ∀ x, x < G.length → x ≠ o → z_nth ((G ++ [(Sum.inr (2, N + max (m - N) (N + 2)) : zSh)]).set o (Sum.inl (11, [some (some v), none, none, none].set 0 (some (some G.length))) : zSh)) x = z_nth G x := fun x hx hxo => by rw [nth_setn hxo, nth_app hx]
      have ho2 : o < (G ++ [(.inr (2, N + max (m - N) (N + 2)) : zSh)]).length := by rw [List.length_append]; omega
      refine h _ ⟨?_, fun x hx => ⟨hg x (hb x hx) (fun q => hbo (q ▸ hx)), p1 x (Nat.ne_of_lt (hb x hx)), rfl⟩, fun _ => ?_⟩ ⟨G.length, N + max (m - N) (N + 2), by omega, hbo, fun q => Nat.lt_irrefl _ (hb _ q), nth_set ho2, ?_, ?_, by omega, ?_, by omega, fun k hk => ?_, fun k hk => ?_⟩
      · dsimp only
        rw [List.length_set, List.length_append]
        omega
      · exact wfg_set (wfg_app hW (by rfl)) hO1 (by rw [List.length_append]; exact Nat.lt_succ_self _)
      · dsimp only
        rw [p1 o (by omega)]
        exact h1
      · dsimp only
        rw [p1 o (by omega)]
        exact h3
      · dsimp only
        rw [nth_setn (by omega)]
        exact nth_new rfl
      · dsimp only
        rw [p2 k (by omega)]
        exact hf k hk
      · dsimp only
        by_cases hkN : k < N
        · rw [p2 k hkN]
          exact hF k hkN
        · rw [p3 k (by omega)]
          rfl

