/-! a digit added -/
def sp_J6_stringSize_0f7a4 : zSp := fun av w K => match av with
  | [.int a] => ∃ d : Nat, a = nI d ∧ d < 10 ∧ K (some (.int (nI 1))) w
  | _ => False
theorem dig_neg {d : Nat} (h : d < 10) : ¬ nI d < nI 0 ∧ mI 10 < -(nI d) ∧ mI 100 < -(nI d) ∧ ¬ -(nI d) < mI 9 ∧ vp_nar .byte (dOnes d) = nI (48 + d) := by
  have : ∀ d : Fin 10, ¬ nI d.1 < nI 0 ∧ mI 10 < -(nI d.1) ∧ mI 100 < -(nI d.1) ∧ ¬ -(nI d.1) < mI 9 ∧ vp_nar .byte (dOnes d.1) = nI (48 + d.1) := by decide +kernel
  exact this ⟨d, h⟩
def rm_J6_stringSize_0f7a4 : Room := { frames := 0, cells := 0, slots := 0, locals := 0 }
def M_J6_stringSize_0f7a4 : zM := (k_J6_stringSize_0f7a4, [], [], ([], [], []), [], [], 1, false, (false, 0, fun _ => 0), (0, 0, []))
theorem O_J6_stringSize_0f7a4 (l : Launch) : z_OK l RJ6 cJ6_stringSize_0f7a4 (headSpec (.code yJ6_stringSize_0f7a4 cJ6_stringSize_0f7a4 4 (some .int) :: zTT) rm_J6_stringSize_0f7a4).room M_J6_stringSize_0f7a4 := ⟨ok_J6_stringSize_0f7a4, fun _ h => absurd h List.not_mem_nil, fun _ h => absurd h List.not_mem_nil, fun _ h => absurd h List.not_mem_nil, fun _ h => absurd h List.not_mem_nil, fun _ h => absurd h List.not_mem_nil, fun _ h => absurd h List.not_mem_nil, rfl, rfl, fun _ h => absurd h List.not_mem_nil⟩
theorem c_J6_stringSize_0f7a4 (l : Launch) : z_CS l yJ6_stringSize_0f7a4 cJ6_stringSize_0f7a4 4 (some .int) rm_J6_stringSize_0f7a4 sp_J6_stringSize_0f7a4 := by
  refine z_methF (by decide +kernel) (Or.inr (Or.inl ⟨rfl, rfl⟩)) (fun h => by cases h) rfl (O_J6_stringSize_0f7a4 l) ?_
  intro av w K h
  match av, h with
  | [.int a], h =>
    obtain ⟨d, rfl, hd, h⟩ := h
    obtain ⟨d1, d2, -⟩ := dig_neg hd
    refine ⟨Nat.le_of_ble_eq_true rfl, fun Jm hs => hs 400 0 _ _ _ _ _ ?_⟩
    conv => whnf
    repeat ((first | refine ⟨trivial, ?_⟩ | refine ⟨rfl, ?_⟩ | refine ⟨fun hc => absurd hc (by decide), fun _ => ?_⟩ | refine ⟨fun _ => ?_, fun hc => absurd (by decide) hc⟩ | refine ⟨fun _ => ?_, fun hc => absurd hc (by decide)⟩ | refine ⟨fun hc => absurd (by decide) hc, fun _ => ?_⟩ | refine ⟨Or.inr rfl, ?_⟩ | refine ⟨Or.inl rfl, ?_⟩ | refine ⟨fun hq => absurd (by assumption) hq, fun _ => ?_⟩ | refine ⟨fun _ => ?_, fun hq => absurd (by assumption) hq⟩ | refine ⟨fun hq => absurd hq (by assumption), fun _ => ?_⟩ | refine ⟨fun _ => ?_, fun hq => absurd hq (by assumption)⟩); conv => whnf)
    try dsimp only
    exact h
def sp_J6_getChars_ba4f3 : zSp := fun av w K => match av with
  | [.int a, .int i, .ref v] => ∃ d n N : Nat, a = nI d ∧ d < 10 ∧ i = nI (n + 1) ∧ z_nth w.1 v = some (.inr (2, N)) ∧ n < N ∧ N ≤ 300 ∧ K (some (.int (nI n))) (w.1, z_up w.2.1 v n (nI (48 + d)), w.2.2)
  | _ => False
def rm_J6_getChars_ba4f3 : Room := { frames := 0, cells := 0, slots := 0, locals := 0 }
def M_J6_getChars_ba4f3 : zM := (k_J6_getChars_ba4f3, [], [], ([], [], []), [], [], 1, false, (false, 0, fun _ => 0), (0, 0, [(83, .retAddr 7)]))
theorem O_J6_getChars_ba4f3 (l : Launch) : z_OK l RJ6 cJ6_getChars_ba4f3 (headSpec (.code yJ6_getChars_ba4f3 cJ6_getChars_ba4f3 7 (some .int) :: zTT) rm_J6_getChars_ba4f3).room M_J6_getChars_ba4f3 := ⟨ok_J6_getChars_ba4f3, fun _ h => absurd h List.not_mem_nil, fun _ h => absurd h List.not_mem_nil, fun _ h => absurd h List.not_mem_nil, fun _ h => absurd h List.not_mem_nil, fun _ h => absurd h List.not_mem_nil, fun _ h => absurd h List.not_mem_nil, rfl, rfl, List.forall_mem_cons.mpr ⟨(zTT_in (by decide +kernel) rfl), fun _ h => absurd h List.not_mem_nil⟩⟩
theorem c_J6_getChars_ba4f3 (l : Launch) : z_CS l yJ6_getChars_ba4f3 cJ6_getChars_ba4f3 7 (some .int) rm_J6_getChars_ba4f3 sp_J6_getChars_ba4f3 := by
  refine z_methF (by decide +kernel) (Or.inr (Or.inl ⟨rfl, rfl⟩)) (fun h => by cases h) rfl (O_J6_getChars_ba4f3 l) ?_
  intro av w K h
  match av, h with
  | [.int a, .int i, .ref (v : Nat)], h =>
    obtain ⟨d, n, N, rfl, hd, rfl, hV, hn, hN, h⟩ := h
    obtain ⟨d1, d2, d3, d4, d5⟩ := dig_neg hd
    obtain ⟨G, wi, wl⟩ := w
    dsimp only at hV h
    refine ⟨Nat.le_of_ble_eq_true rfl, fun Jm hs => hs 400 0 _ _ _ _ _ ?_⟩
    conv => whnf
    repeat ((first | rw [hV] | refine ⟨trivial, ?_⟩ | refine ⟨rfl, ?_⟩ | refine ⟨fun hc => absurd hc (by decide), fun _ => ?_⟩ | refine ⟨fun _ => ?_, fun hc => absurd (by decide) hc⟩ | refine ⟨fun _ => ?_, fun hc => absurd hc (by decide)⟩ | refine ⟨fun hc => absurd (by decide) hc, fun _ => ?_⟩ | refine ⟨Or.inr rfl, ?_⟩ | refine ⟨Or.inl rfl, ?_⟩ | refine ⟨fun hq => absurd (by assumption) hq, fun _ => ?_⟩ | refine ⟨fun _ => ?_, fun hq => absurd (by assumption) hq⟩ | refine ⟨fun hq => absurd hq (by assumption), fun _ => ?_⟩ | refine ⟨fun _ => ?_, fun hq => absurd hq (by assumption)⟩); conv => whnf)
    try dsimp only
    rw [Int32.neg_neg]
    refine ⟨vp_in_nI (by omega) (by decide), ?_⟩
    conv => whnf
    repeat ((first | rw [hV] | refine ⟨trivial, ?_⟩ | refine ⟨rfl, ?_⟩ | refine ⟨fun hc => absurd hc (by decide), fun _ => ?_⟩ | refine ⟨fun _ => ?_, fun hc => absurd (by decide) hc⟩ | refine ⟨fun _ => ?_, fun hc => absurd hc (by decide)⟩ | refine ⟨fun hc => absurd (by decide) hc, fun _ => ?_⟩ | refine ⟨Or.inr rfl, ?_⟩ | refine ⟨Or.inl rfl, ?_⟩ | refine ⟨fun hq => absurd (by assumption) hq, fun _ => ?_⟩ | refine ⟨fun _ => ?_, fun hq => absurd (by assumption) hq⟩ | refine ⟨fun hq => absurd hq (by assumption), fun _ => ?_⟩ | refine ⟨fun _ => ?_, fun hq => absurd hq (by assumption)⟩); conv => whnf)
    try dsimp only
    rw [show nI (n + 1) - nI 1 = nI n from nI_sub (by omega)]
    refine ⟨vp_in_nI hn (by omega), ?_⟩
    conv => whnf
    repeat ((first | rw [hV] | refine ⟨trivial, ?_⟩ | refine ⟨rfl, ?_⟩ | refine ⟨fun hc => absurd hc (by decide), fun _ => ?_⟩ | refine ⟨fun _ => ?_, fun hc => absurd (by decide) hc⟩ | refine ⟨fun _ => ?_, fun hc => absurd hc (by decide)⟩ | refine ⟨fun hc => absurd (by decide) hc, fun _ => ?_⟩ | refine ⟨Or.inr rfl, ?_⟩ | refine ⟨Or.inl rfl, ?_⟩ | refine ⟨fun hq => absurd (by assumption) hq, fun _ => ?_⟩ | refine ⟨fun _ => ?_, fun hq => absurd (by assumption) hq⟩ | refine ⟨fun hq => absurd hq (by assumption), fun _ => ?_⟩ | refine ⟨fun _ => ?_, fun hq => absurd hq (by assumption)⟩); conv => whnf)
    try dsimp only
    rw [nI_clamp (show d < 2 ^ 31 by omega), nI_clamp (show n < 2 ^ 31 by omega), d5]
    exact h
def sp_J5_append_c97b9 : zSp := fun av w K => match av with
  | [.ref o, .int a] => ∃ (P : Nat → Prop) (n d : Nat) (f : Nat → Nat), SB P w o 0 n f ∧ Bel P w ∧ WF w ∧ a = nI d ∧ d < 10 ∧ n + 1 ≤ 150 ∧ ∀ w', Ext P w w' → SB P w' o 0 (n + 1) (upF f n (48 + d)) → K (some (.ref o)) w'
  | _ => False
def rm_J5_append_c97b9 : Room := { frames := 4, cells := 1, slots := 300, locals := 91 }
def M_J5_append_c97b9 : zM := (k_J5_append_c97b9, f_J5, [(245, 0, 0, 1, 0, 0, sp_J6_stringSize_0f7a4), (100, 10, 11, 2, 1, 300, sp_J5_ensureCapacityInternal_d00df), (83, 10, 11, 1, 0, 0, sp_J5_isLatin1_aae02), (248, 0, 0, 3, 0, 0, sp_J6_getChars_ba4f3)], ([], [], []), [], [], 4, false, (false, 0, fun _ => 0), (1, 300, []))
theorem ca_J5_append_c97b9_0 (l : Launch) : z_cok l RJ5 (headSpec (.code yJ5_append_c97b9 cJ5_append_c97b9 4 (some (.object "java/lang/AbstractStringBuilder")) :: zTT) rm_J5_append_c97b9).room (false, 0, fun _ => 0) (245, 0, 0, 1, 0, 0, sp_J6_stringSize_0f7a4) := z_ca0 (c_J6_stringSize_0f7a4 l) mb_J6_stringSize_0f7a4 wt_1143 wt_1144 (by decide)
theorem ca_J5_append_c97b9_1 (l : Launch) : z_cok l RJ5 (headSpec (.code yJ5_append_c97b9 cJ5_append_c97b9 4 (some (.object "java/lang/AbstractStringBuilder")) :: zTT) rm_J5_append_c97b9).room (false, 0, fun _ => 0) (100, 10, 11, 2, 1, 300, sp_J5_ensureCapacityInternal_d00df) := z_ca10 (c_J5_ensureCapacityInternal_d00df l) mb_J5_ensureCapacityInternal_d00df ⟨_, rfl, zTT_x (by simp [zXP])⟩ wt_1068 (zTT_in (by decide +kernel) rfl) wt_1070 (by decide)
theorem ca_J5_append_c97b9_2 (l : Launch) : z_cok l RJ5 (headSpec (.code yJ5_append_c97b9 cJ5_append_c97b9 4 (some (.object "java/lang/AbstractStringBuilder")) :: zTT) rm_J5_append_c97b9).room (false, 0, fun _ => 0) (83, 10, 11, 1, 0, 0, sp_J5_isLatin1_aae02) := z_ca10 (c_J5_isLatin1_aae02 l) mb_J5_isLatin1_aae02 ⟨_, rfl, (zTT_in (by decide +kernel) rfl)⟩ wt_1103 (zTT_in (by decide +kernel) rfl) wt_1104 (by decide)
theorem ca_J5_append_c97b9_3 (l : Launch) : z_cok l RJ5 (headSpec (.code yJ5_append_c97b9 cJ5_append_c97b9 4 (some (.object "java/lang/AbstractStringBuilder")) :: zTT) rm_J5_append_c97b9).room (false, 0, fun _ => 0) (248, 0, 0, 3, 0, 0, sp_J6_getChars_ba4f3) := z_ca0 (c_J6_getChars_ba4f3 l) mb_J6_getChars_ba4f3 wt_1146 wt_1147 (by decide)
theorem O_J5_append_c97b9 (l : Launch) : z_OK l RJ5 cJ5_append_c97b9 (headSpec (.code yJ5_append_c97b9 cJ5_append_c97b9 4 (some (.object "java/lang/AbstractStringBuilder")) :: zTT) rm_J5_append_c97b9).room M_J5_append_c97b9 := ⟨ok_J5_append_c97b9, fo_J5, List.forall_mem_cons.mpr ⟨ca_J5_append_c97b9_0 l, List.forall_mem_cons.mpr ⟨ca_J5_append_c97b9_1 l, List.forall_mem_cons.mpr ⟨ca_J5_append_c97b9_2 l, List.forall_mem_cons.mpr ⟨ca_J5_append_c97b9_3 l, fun _ h => absurd h List.not_mem_nil⟩⟩⟩⟩, fun _ h => absurd h List.not_mem_nil, fun _ h => absurd h List.not_mem_nil, fun _ h => absurd h List.not_mem_nil, fun _ h => absurd h List.not_mem_nil, rfl, rfl, fun _ h => absurd h List.not_mem_nil⟩
theorem c_J5_append_c97b9 (l : Launch) : z_CS l yJ5_append_c97b9 cJ5_append_c97b9 4 (some (.object "java/lang/AbstractStringBuilder")) rm_J5_append_c97b9 sp_J5_append_c97b9 := by
  refine z_methF (by decide +kernel) (Or.inr (Or.inr (Or.inr (Or.inr (Or.inl ⟨rfl, _, rfl, Or.inl ⟨_, rfl⟩⟩))))) (fun h => by cases h) rfl (O_J5_append_c97b9 l) ?_
  intro av w K h
  match av, h with
  | [.ref (o : Nat), .int a], h =>
    obtain ⟨P, n, d, f, hS, hb, hW, rfl, hd, hn, h⟩ := h
    have hS0 := hS
    obtain ⟨v0, N0, -, hbo, hbv, hO, h1, h3, -⟩ := hS
    obtain ⟨G, wi, wl⟩ := w
    dsimp only at hO h1 h3
    have ho : o < G.length := nth_lt hO
    refine ⟨Nat.le_of_ble_eq_true rfl, fun Jm hs => hs 400 0 _ _ _ _ _ ?_⟩
    conv => whnf
    repeat ((first | rw [hO] | rw [rcv10 hO] | refine ⟨trivial, ?_⟩ | refine ⟨rfl, ?_⟩ | refine ⟨fun hc => absurd hc (by decide), fun _ => ?_⟩ | refine ⟨fun _ => ?_, fun hc => absurd (by decide) hc⟩ | refine ⟨fun _ => ?_, fun hc => absurd hc (by decide)⟩ | refine ⟨fun hc => absurd (by decide) hc, fun _ => ?_⟩ | refine ⟨Or.inr rfl, ?_⟩ | refine ⟨Or.inl rfl, ?_⟩ | refine ⟨fun hq => absurd (by assumption) hq, fun _ => ?_⟩ | refine ⟨fun _ => ?_, fun hq => absurd (by assumption) hq⟩ | refine ⟨fun hq => absurd hq (by assumption), fun _ => ?_⟩ | refine ⟨fun _ => ?_, fun hq => absurd hq (by assumption)⟩); conv => whnf)
    try dsimp only
    refine ⟨d, rfl, hd, ?_⟩
    conv => whnf
    repeat ((first | rw [hO] | rw [rcv10 hO] | refine ⟨trivial, ?_⟩ | refine ⟨rfl, ?_⟩ | refine ⟨fun hc => absurd hc (by decide), fun _ => ?_⟩ | refine ⟨fun _ => ?_, fun hc => absurd (by decide) hc⟩ | refine ⟨fun _ => ?_, fun hc => absurd hc (by decide)⟩ | refine ⟨fun hc => absurd (by decide) hc, fun _ => ?_⟩ | refine ⟨Or.inr rfl, ?_⟩ | refine ⟨Or.inl rfl, ?_⟩ | refine ⟨fun hq => absurd (by assumption) hq, fun _ => ?_⟩ | refine ⟨fun _ => ?_, fun hq => absurd (by assumption) hq⟩ | refine ⟨fun hq => absurd hq (by assumption), fun _ => ?_⟩ | refine ⟨fun _ => ?_, fun hq => absurd hq (by assumption)⟩); conv => whnf)
    try dsimp only
    refine ⟨⟨Nat.le_of_ble_eq_true rfl, Nat.le_of_ble_eq_true rfl⟩, by simp [z_wfl, z_wfs, z_rlt, z_arl, Nat.blt_eq, ho], ?_⟩
    refine ⟨P, n + 1, n, f, hS0, hb, hW, by rw [h3, nI_add], hn, fun w1 e1 s1 => ?_⟩
    obtain ⟨v, N, hN, s1⟩ := s1
    have s0 := s1
    obtain ⟨-, -, hO1, c1, c3, hN3, hV1, -⟩ := s1
    obtain ⟨G1, wi1, wl1⟩ := w1
    dsimp only at hO1 c1 c3 hV1
    have hov : o ≠ v := fun q => by rw [q, hV1] at hO1; cases hO1
    conv => whnf
    repeat ((first | rw [hO1] | rw [c1] | rw [rcv10 hO1] | refine ⟨trivial, ?_⟩ | refine ⟨rfl, ?_⟩ | refine ⟨fun hc => absurd hc (by decide), fun _ => ?_⟩ | refine ⟨fun _ => ?_, fun hc => absurd (by decide) hc⟩ | refine ⟨fun _ => ?_, fun hc => absurd hc (by decide)⟩ | refine ⟨fun hc => absurd (by decide) hc, fun _ => ?_⟩ | refine ⟨Or.inr rfl, ?_⟩ | refine ⟨Or.inl rfl, ?_⟩ | refine ⟨fun hq => absurd (by assumption) hq, fun _ => ?_⟩ | refine ⟨fun _ => ?_, fun hq => absurd (by assumption) hq⟩ | refine ⟨fun hq => absurd hq (by assumption), fun _ => ?_⟩ | refine ⟨fun _ => ?_, fun hq => absurd hq (by assumption)⟩); conv => whnf)
    try dsimp only
    refine ⟨d, n, N, rfl, hd, by rw [h3, nI_add], hV1, by omega, hN3, ?_⟩
    conv => whnf
    repeat ((first | rw [hO1] | rw [c1] | rw [rcv10 hO1] | refine ⟨trivial, ?_⟩ | refine ⟨rfl, ?_⟩ | refine ⟨fun hc => absurd hc (by decide), fun _ => ?_⟩ | refine ⟨fun _ => ?_, fun hc => absurd (by decide) hc⟩ | refine ⟨fun _ => ?_, fun hc => absurd hc (by decide)⟩ | refine ⟨fun hc => absurd (by decide) hc, fun _ => ?_⟩ | refine ⟨Or.inr rfl, ?_⟩ | refine ⟨Or.inl rfl, ?_⟩ | refine ⟨fun hq => absurd (by assumption) hq, fun _ => ?_⟩ | refine ⟨fun _ => ?_, fun hq => absurd (by assumption) hq⟩ | refine ⟨fun hq => absurd hq (by assumption), fun _ => ?_⟩ | refine ⟨fun _ => ?_, fun hq => absurd hq (by assumption)⟩); conv => whnf)
    try dsimp only
    have key := sb_put (wi' := z_up (z_up wi1 v n (nI (48 + d))) o 3 (wi o 3 + nI 1)) s0 hN (show 48 + d < 128 by omega) (fun x k => by
      rw [h3, nI_add]
      unfold z_up
      by_cases e : x = v ∧ k = n
      · rw [if_neg (fun q => hov (q.1.symm.trans e.1)), if_pos e, if_pos e]
      · rw [if_neg e, if_neg e])
    exact h _ (e1.tr key.1) ⟨v, N, Nat.zero_le _, key.2⟩
def sp_J4_append_bf812 : zSp := sp_J5_append_c97b9
def rm_J4_append_bf812 : Room := { frames := 5, cells := 1, slots := 300, locals := 114 }
def M_J4_append_bf812 : zM := (k_J4_append_bf812, f_J4, [(53, 11, 11, 2, 1, 300, sp_J5_append_c97b9)], ([], [], []), [], [], 4, false, (false, 0, fun _ => 0), (1, 300, []))
theorem ca_J4_append_bf812_0 (l : Launch) : z_cok l RJ4 (headSpec (.code yJ4_append_bf812 cJ4_append_bf812 2 (some (.object "java/lang/StringBuilder")) :: zTT) rm_J4_append_bf812).room (false, 0, fun _ => 0) (53, 11, 11, 2, 1, 300, sp_J5_append_c97b9) := z_ca11 (c_J5_append_c97b9 l) mb_J5_append_c97b9 ⟨_, rfl⟩ (by decide) wt_1140 (zTT_in (by decide +kernel) rfl) (zTT_in (by decide +kernel) rfl) wt_1141 (by decide)
theorem O_J4_append_bf812 (l : Launch) : z_OK l RJ4 cJ4_append_bf812 (headSpec (.code yJ4_append_bf812 cJ4_append_bf812 2 (some (.object "java/lang/StringBuilder")) :: zTT) rm_J4_append_bf812).room M_J4_append_bf812 := ⟨ok_J4_append_bf812, fo_J4, List.forall_mem_cons.mpr ⟨ca_J4_append_bf812_0 l, fun _ h => absurd h List.not_mem_nil⟩, fun _ h => absurd h List.not_mem_nil, fun _ h => absurd h List.not_mem_nil, fun _ h => absurd h List.not_mem_nil, fun _ h => absurd h List.not_mem_nil, rfl, rfl, fun _ h => absurd h List.not_mem_nil⟩
theorem c_J4_append_bf812 (l : Launch) : z_CS l yJ4_append_bf812 cJ4_append_bf812 2 (some (.object "java/lang/StringBuilder")) rm_J4_append_bf812 sp_J4_append_bf812 := by
  refine z_methF (by decide +kernel) (Or.inr (Or.inr (Or.inr (Or.inr (Or.inl ⟨rfl, _, rfl, Or.inl ⟨_, rfl⟩⟩))))) (fun h => by cases h) rfl (O_J4_append_bf812 l) ?_
  intro av w K h
  match av, h with
  | [.ref (o : Nat), .int a], h =>
    have h2 := h
    obtain ⟨P, n, c, f, ⟨v, N, -, -, -, hO, -⟩, -⟩ := h2
    obtain ⟨G, wi, wl⟩ := w
    dsimp only at hO
    have ho : o < G.length := nth_lt hO
    obtain ⟨P, n, c, f, hS, hb, hW, hc, hc2, hn, h⟩ := h
    refine ⟨Nat.le_of_ble_eq_true rfl, fun Jm hs => hs 400 0 _ _ _ _ _ ?_⟩
    conv => whnf
    repeat ((first | rw [rcv11 hO] | refine ⟨trivial, ?_⟩ | refine ⟨rfl, ?_⟩ | refine ⟨fun hc => absurd hc (by decide), fun _ => ?_⟩ | refine ⟨fun _ => ?_, fun hc => absurd (by decide) hc⟩ | refine ⟨fun _ => ?_, fun hc => absurd hc (by decide)⟩ | refine ⟨fun hc => absurd (by decide) hc, fun _ => ?_⟩ | refine ⟨Or.inr rfl, ?_⟩ | refine ⟨Or.inl rfl, ?_⟩ | refine ⟨fun hq => absurd (by assumption) hq, fun _ => ?_⟩ | refine ⟨fun _ => ?_, fun hq => absurd (by assumption) hq⟩ | refine ⟨fun hq => absurd hq (by assumption), fun _ => ?_⟩ | refine ⟨fun _ => ?_, fun hq => absurd hq (by assumption)⟩); conv => whnf)
    try dsimp only
    refine ⟨⟨Nat.le_of_ble_eq_true rfl, Nat.le_of_ble_eq_true rfl⟩, by simp [z_wfl, z_wfs, z_rlt, z_arl, Nat.blt_eq, ho], ?_⟩
    refine ⟨P, n, c, f, hS, hb, hW, hc, hc2, hn, fun w1 e1 s1 => ?_⟩
    conv => whnf
    repeat ((first | refine ⟨zG_of _, ?_⟩ | refine ⟨trivial, ?_⟩ | refine ⟨rfl, ?_⟩ | refine ⟨fun hc => absurd hc (by decide), fun _ => ?_⟩ | refine ⟨fun _ => ?_, fun hc => absurd (by decide) hc⟩ | refine ⟨fun _ => ?_, fun hc => absurd hc (by decide)⟩ | refine ⟨fun hc => absurd (by decide) hc, fun _ => ?_⟩); conv => whnf)
    try dsimp only
    exact h w1 e1 s1

