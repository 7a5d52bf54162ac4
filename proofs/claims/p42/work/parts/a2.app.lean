/-! a StringBuilder made, a letter added -/
theorem wfg_nullc {n ci : Nat} {fs : List (Option (Option Nat))} (h : fs.all (fun f => match f with
  | some (some _) => false
  | _ => true) = true) : z_wfg n [.inl (ci, fs)] = true := by
  rw [wfg_ok]
  intro c f hm r hr
  simp only [List.mem_singleton] at hm
  cases hm
  have := List.all_eq_true.mp h _ hr
  cases this
def sp_J5_init_d00df : zSp := fun av w K => match av with
  | [.ref o, .int a] => ∃ (P : Nat → Prop) (N : Nat), z_nth w.1 o = some (.inl (11, [some none, none, none, none])) ∧ ¬ P o ∧ Bel P w ∧ WF w ∧ w.2.1 o 3 = nI 0 ∧ a = nI N ∧ N ≤ 17 ∧ ∀ w', Ext P w w' → SB P w' o N 0 (fun _ => 0) → K none w'
  | _ => False
def rm_J5_init_d00df : Room := { frames := 1, cells := 1, slots := 17, locals := 20 }
def M_J5_init_d00df : zM := (k_J5_init_d00df, f_J5, [(3, 6, 0, 1, 0, 0, sp_none)], ([], [], []), [], [], 0, true, (false, 0, fun _ => 0), (1, 17, [(18, .int (nI 1))]))
theorem ca_J5_init_d00df_0 (l : Launch) : z_cok l RJ5 (headSpec (.code yJ5_init_d00df cJ5_init_d00df 2 none :: zTT) rm_J5_init_d00df).room (false, 0, fun _ => 0) (3, 6, 0, 1, 0, 0, sp_none) := z_ca6 wt_1031 wt_61 wt_62 (by decide)
theorem O_J5_init_d00df (l : Launch) : z_OK l RJ5 cJ5_init_d00df (headSpec (.code yJ5_init_d00df cJ5_init_d00df 2 none :: zTT) rm_J5_init_d00df).room M_J5_init_d00df := ⟨ok_J5_init_d00df, fo_J5, List.forall_mem_cons.mpr ⟨ca_J5_init_d00df_0 l, fun _ h => absurd h List.not_mem_nil⟩, fun _ h => absurd h List.not_mem_nil, fun _ h => absurd h List.not_mem_nil, fun _ h => absurd h List.not_mem_nil, fun _ h => absurd h List.not_mem_nil, rfl, rfl, List.forall_mem_cons.mpr ⟨⟨by decide, (zTT_in (by decide +kernel) rfl)⟩, fun _ h => absurd h List.not_mem_nil⟩⟩
theorem c_J5_init_d00df (l : Launch) : z_CS l yJ5_init_d00df cJ5_init_d00df 2 none rm_J5_init_d00df sp_J5_init_d00df := by
  refine z_methF (by decide +kernel) (Or.inl ⟨rfl, rfl⟩) (fun _ => rfl) rfl (O_J5_init_d00df l) ?_
  intro av w K h
  match av, h with
  | [.ref (o : Nat), .int a], h =>
    obtain ⟨P, N, hO, hbo, hb, hW, h3, rfl, hN, h⟩ := h
    obtain ⟨G, wi, wl⟩ := w
    dsimp only at hO h3 h
    have hb : ∀ x, P x → x < G.length := hb
    unfold WF at hW
    dsimp only at hW
    have ho : o < G.length := nth_lt hO
    refine ⟨Nat.le_of_ble_eq_true rfl, fun Jm hs => hs 400 0 _ _ _ _ _ ?_⟩
    conv => whnf
    repeat ((first | rw [hO] | refine ⟨trivial, ?_⟩ | refine ⟨rfl, ?_⟩ | refine ⟨fun hc => absurd hc (by decide), fun _ => ?_⟩ | refine ⟨fun _ => ?_, fun hc => absurd (by decide) hc⟩ | refine ⟨fun _ => ?_, fun hc => absurd hc (by decide)⟩ | refine ⟨fun hc => absurd (by decide) hc, fun _ => ?_⟩ | refine ⟨Or.inr rfl, ?_⟩ | refine ⟨Or.inl rfl, ?_⟩ | refine ⟨fun hq => absurd (by assumption) hq, fun _ => ?_⟩ | refine ⟨fun _ => ?_, fun hq => absurd (by assumption) hq⟩ | refine ⟨fun hq => absurd hq (by assumption), fun _ => ?_⟩ | refine ⟨fun _ => ?_, fun hq => absurd hq (by assumption)⟩); conv => whnf)
    try dsimp only
    refine ⟨N, rfl, by omega, ⟨Nat.le_of_ble_eq_true rfl, by show 0 + N ≤ 17; omega⟩, by simp [z_wfl, z_wfs, z_rlt, z_arl, Nat.blt_eq, ho, hW], ?_⟩
    rw [z_psh_eq, Nat.zero_add, Nat.zero_add]
    have hO1 : z_nth (G ++ [(.inr (2, N) : zSh)]) o = some (.inl (11, [some none, none, none, none])) := by rw [nth_app ho]; exact hO
    have hL1 : z_nth (G ++ [(.inr (2, N) : zSh)]) G.length = some (.inr (2, N)) := nth_new rfl
    conv => whnf
    repeat ((first | rw [hO1] | refine ⟨trivial, ?_⟩ | refine ⟨rfl, ?_⟩ | refine ⟨fun hc => absurd hc (by decide), fun _ => ?_⟩ | refine ⟨fun _ => ?_, fun hc => absurd (by decide) hc⟩ | refine ⟨fun _ => ?_, fun hc => absurd hc (by decide)⟩ | refine ⟨fun hc => absurd (by decide) hc, fun _ => ?_⟩ | refine ⟨Or.inr rfl, ?_⟩ | refine ⟨Or.inl rfl, ?_⟩ | refine ⟨fun hq => absurd (by assumption) hq, fun _ => ?_⟩ | refine ⟨fun _ => ?_, fun hq => absurd (by assumption) hq⟩ | refine ⟨fun hq => absurd hq (by assumption), fun _ => ?_⟩ | refine ⟨fun _ => ?_, fun hq => absurd hq (by assumption)⟩); conv => whnf)
    try dsimp only
    rw [z_gset_eq _ _ _ _ hO1]
    have ho2 : o < (G ++ [(.inr (2, N) : zSh)]).length := by rw [List.length_append]; omega
    have hO2 : z_nth ((G ++ [(.inr (2, N) : zSh)]).set o (.inl (11, [some none, none, none, none].set 0 (some (some G.length))))) o = some (.inl (11, [some (some G.length), none, none, none])) := nth_set ho2
    conv => whnf
    repeat ((first | rw [hO2] | refine ⟨trivial, ?_⟩ | refine ⟨rfl, ?_⟩ | refine ⟨fun hc => absurd hc (by decide), fun _ => ?_⟩ | refine ⟨fun _ => ?_, fun hc => absurd (by decide) hc⟩ | refine ⟨fun _ => ?_, fun hc => absurd hc (by decide)⟩ | refine ⟨fun hc => absurd (by decide) hc, fun _ => ?_⟩ | refine ⟨Or.inr rfl, ?_⟩ | refine ⟨Or.inl rfl, ?_⟩ | refine ⟨fun hq => absurd (by assumption) hq, fun _ => ?_⟩ | refine ⟨fun _ => ?_, fun hq => absurd (by assumption) hq⟩ | refine ⟨fun hq => absurd hq (by assumption), fun _ => ?_⟩ | refine ⟨fun _ => ?_, fun hq => absurd hq (by assumption)⟩); conv => whnf)
    try dsimp only
    refine ⟨⟨by decide, by decide⟩, ?_⟩
    conv => whnf
    repeat ((first | rw [hO2] | refine ⟨trivial, ?_⟩ | refine ⟨rfl, ?_⟩ | refine ⟨fun hc => absurd hc (by decide), fun _ => ?_⟩ | refine ⟨fun _ => ?_, fun hc => absurd (by decide) hc⟩ | refine ⟨fun _ => ?_, fun hc => absurd hc (by decide)⟩ | refine ⟨fun hc => absurd (by decide) hc, fun _ => ?_⟩ | refine ⟨Or.inr rfl, ?_⟩ | refine ⟨Or.inl rfl, ?_⟩ | refine ⟨fun hq => absurd (by assumption) hq, fun _ => ?_⟩ | refine ⟨fun _ => ?_, fun hq => absurd (by assumption) hq⟩ | refine ⟨fun hq => absurd hq (by assumption), fun _ => ?_⟩ | refine ⟨fun _ => ?_, fun hq => absurd hq (by assumption)⟩); conv => whnf)
    try dsimp only
    have hg : ∀ x, x < G.length → x ≠ o → z_nth ((G ++ [(Sum.inr (2, N) : zSh)]).set o (Sum.inl (11, [some none, none, none, none].set 0 (some (some G.length))) : zSh)) x = z_nth G x := fun x hx hxo => by rw [nth_setn hxo, nth_app hx]
    refine h _ ⟨?_, fun x hx => ⟨hg x (hb x hx) (fun q => hbo (q ▸ hx)), ?_, rfl⟩, fun _ => ?_⟩ ⟨G.length, N, Nat.le_refl _, hbo, fun q => Nat.lt_irrefl _ (hb _ q), hO2, ?_, ?_, by omega, ?_, Nat.zero_le _, fun k hk => absurd hk (Nat.not_lt_zero k), fun k hk => ?_⟩
    · dsimp only
      rw [List.length_set, List.length_append]
      omega
    · dsimp only
      have hxo : x ≠ o := fun q => hbo (q ▸ hx)
      rw [z_up_ne hxo, z_row_ne (Nat.ne_of_lt (hb x hx))]
    · exact wfg_set (wfg_app hW (by rfl)) hO1 (by rw [List.length_append]; exact Nat.lt_succ_self _)
    · simp [z_up]
    · dsimp only
      simp only [z_up, z_row]
      rw [if_neg (by omega), if_neg (by omega)]
      exact h3
    · dsimp only
      rw [nth_setn (by omega)]
      exact hL1
    · dsimp only
      simp only [z_up, z_row]
      rw [if_neg (by omega), if_pos trivial]
      rfl
def sp_J4_init_da8c8 : zSp := fun av w K => match av with
  | [.ref o] => ∃ (P : Nat → Prop), z_nth w.1 o = some (.inl (11, [some none, none, none, none])) ∧ ¬ P o ∧ Bel P w ∧ WF w ∧ w.2.1 o 3 = nI 0 ∧ ∀ w', Ext P w w' → SB P w' o 0 0 (fun _ => 0) → K none w'
  | _ => False
def rm_J4_init_da8c8 : Room := { frames := 2, cells := 1, slots := 17, locals := 41 }
def M_J4_init_da8c8 : zM := (k_J4_init_da8c8, f_J4, [(1, 1, 0, 2, 1, 17, sp_J5_init_d00df)], ([], [], []), [], [], 0, true, (false, 0, fun _ => 0), (1, 17, []))
theorem ca_J4_init_da8c8_0 (l : Launch) : z_cok l RJ4 (headSpec (.code yJ4_init_da8c8 cJ4_init_da8c8 1 none :: zTT) rm_J4_init_da8c8).room (false, 0, fun _ => 0) (1, 1, 0, 2, 1, 17, sp_J5_init_d00df) := z_ca1 (c_J5_init_d00df l) mb_J5_init_d00df wt_1028 wt_1029 rfl (by decide)
theorem O_J4_init_da8c8 (l : Launch) : z_OK l RJ4 cJ4_init_da8c8 (headSpec (.code yJ4_init_da8c8 cJ4_init_da8c8 1 none :: zTT) rm_J4_init_da8c8).room M_J4_init_da8c8 := ⟨ok_J4_init_da8c8, fo_J4, List.forall_mem_cons.mpr ⟨ca_J4_init_da8c8_0 l, fun _ h => absurd h List.not_mem_nil⟩, fun _ h => absurd h List.not_mem_nil, fun _ h => absurd h List.not_mem_nil, fun _ h => absurd h List.not_mem_nil, fun _ h => absurd h List.not_mem_nil, rfl, rfl, fun _ h => absurd h List.not_mem_nil⟩
theorem c_J4_init_da8c8 (l : Launch) : z_CS l yJ4_init_da8c8 cJ4_init_da8c8 1 none rm_J4_init_da8c8 sp_J4_init_da8c8 := by
  refine z_methF (by decide +kernel) (Or.inl ⟨rfl, rfl⟩) (fun _ => rfl) rfl (O_J4_init_da8c8 l) ?_
  intro av w K h
  match av, h with
  | [.ref (o : Nat)], h =>
    obtain ⟨P, hO, hbo, hb, hW, h3, h⟩ := h
    have ho : o < w.1.length := nth_lt hO
    refine ⟨Nat.le_of_ble_eq_true rfl, fun Jm hs => hs 400 0 _ _ _ _ _ ?_⟩
    conv => whnf
    repeat ((first | refine ⟨zG_of _, ?_⟩ | refine ⟨trivial, ?_⟩ | refine ⟨rfl, ?_⟩ | refine ⟨fun hc => absurd hc (by decide), fun _ => ?_⟩ | refine ⟨fun _ => ?_, fun hc => absurd (by decide) hc⟩ | refine ⟨fun _ => ?_, fun hc => absurd hc (by decide)⟩ | refine ⟨fun hc => absurd (by decide) hc, fun _ => ?_⟩); conv => whnf)
    try dsimp only
    refine ⟨⟨Nat.le_of_ble_eq_true rfl, Nat.le_of_ble_eq_true rfl⟩, by simp [z_wfl, z_wfs, z_rlt, z_arl, Nat.blt_eq, ho], ?_⟩
    refine ⟨P, 16, hO, hbo, hb, hW, h3, rfl, by omega, fun w' e s => ?_⟩
    conv => whnf
    repeat ((first | refine ⟨zG_of _, ?_⟩ | refine ⟨trivial, ?_⟩ | refine ⟨rfl, ?_⟩ | refine ⟨fun hc => absurd hc (by decide), fun _ => ?_⟩ | refine ⟨fun _ => ?_, fun hc => absurd (by decide) hc⟩ | refine ⟨fun _ => ?_, fun hc => absurd hc (by decide)⟩ | refine ⟨fun hc => absurd (by decide) hc, fun _ => ?_⟩); conv => whnf)
    try dsimp only
    obtain ⟨v, N, -, s⟩ := s
    exact h w' e ⟨v, N, Nat.zero_le _, s⟩
/-- one letter more -/
def upF (f : Nat → Nat) (n c : Nat) : Nat → Nat := fun k => if k = n then c else f k
/-- a letter written at the end, the length one more -/
theorem sb_put {P : Nat → Prop} {G : List zSh} {wi wi' : Nat → Nat → Int32} {wl : Nat → Nat → Int64} {o v N n c : Nat} {f : Nat → Nat} (h : SBv P (G, wi, wl) o v N n f) (hn : n + 1 ≤ N) (hc : c < 128) (hw : ∀ x k, wi' x k = if x = v ∧ k = n then nI c else if x = o ∧ k = 3 then nI (n + 1) else wi x k) : Ext P (G, wi, wl) (G, wi', wl) ∧ SBv P (G, wi', wl) o v N (n + 1) (upF f n c) := by
  obtain ⟨hbo, hbv, hO, h1, h3, hN, hV, hn2, hf, hF⟩ := h
  dsimp only at hO h1 h3 hV hf hF
  have hov : o ≠ v := fun q => by rw [q, hV] at hO; cases hO
  refine ⟨⟨Nat.le_refl _, fun x hx => ⟨rfl, ?_, rfl⟩, fun h => h⟩, hbo, hbv, hO, ?_, ?_, hN, hV, hn, fun k hk => ?_, fun k hk => ?_⟩
  · dsimp only
    funext k
    have hxv : ¬ (x = v ∧ k = n) := fun q => hbv (q.1 ▸ hx)
    have hxo : ¬ (x = o ∧ k = 3) := fun q => hbo (q.1 ▸ hx)
    rw [hw, if_neg hxv, if_neg hxo]
  · dsimp only
    rw [hw, if_neg (by omega), if_neg (by omega)]
    exact h1
  · dsimp only
    rw [hw, if_neg (by omega), if_pos ⟨rfl, rfl⟩]
  · dsimp only
    rw [hw]
    unfold upF
    by_cases hkn : k = n
    · rw [if_pos ⟨rfl, hkn⟩, if_pos hkn]
      exact ⟨rfl, hc⟩
    · rw [if_neg (fun q => hkn q.2), if_neg (fun q => hov q.1.symm), if_neg hkn]
      exact hf k (by omega)
  · dsimp only
    rw [hw]
    by_cases hkn : k = n
    · rw [if_pos ⟨rfl, hkn⟩]
      exact (fits_lt hc).1
    · rw [if_neg (fun q => hkn q.2), if_neg (fun q => hov q.1.symm)]
      exact hF k hk
def sp_J5_append_3fe6f : zSp := fun av w K => match av with
  | [.ref o, .int a] => ∃ (P : Nat → Prop) (n c : Nat) (f : Nat → Nat), SB P w o 0 n f ∧ Bel P w ∧ WF w ∧ a = nI c ∧ c < 128 ∧ n + 1 ≤ 150 ∧ ∀ w', Ext P w w' → SB P w' o 0 (n + 1) (upF f n c) → K (some (.ref o)) w'
  | _ => False
def rm_J5_append_3fe6f : Room := { frames := 4, cells := 1, slots := 300, locals := 91 }
def M_J5_append_3fe6f : zM := (k_J5_append_3fe6f, f_J5, [(100, 10, 11, 2, 1, 300, sp_J5_ensureCapacityInternal_d00df), (83, 10, 11, 1, 0, 0, sp_J5_isLatin1_aae02), (191, 0, 0, 1, 0, 0, sp_J1_canEncode_fc78d)], ([], [], []), [], [], 4, false, (false, 0, fun _ => 0), (1, 300, []))
theorem ca_J5_append_3fe6f_0 (l : Launch) : z_cok l RJ5 (headSpec (.code yJ5_append_3fe6f cJ5_append_3fe6f 2 (some (.object "java/lang/AbstractStringBuilder")) :: zTT) rm_J5_append_3fe6f).room (false, 0, fun _ => 0) (100, 10, 11, 2, 1, 300, sp_J5_ensureCapacityInternal_d00df) := z_ca10 (c_J5_ensureCapacityInternal_d00df l) mb_J5_ensureCapacityInternal_d00df ⟨_, rfl, zTT_x (by simp [zXP])⟩ wt_1068 (zTT_in (by decide +kernel) rfl) wt_1070 (by decide)
theorem ca_J5_append_3fe6f_1 (l : Launch) : z_cok l RJ5 (headSpec (.code yJ5_append_3fe6f cJ5_append_3fe6f 2 (some (.object "java/lang/AbstractStringBuilder")) :: zTT) rm_J5_append_3fe6f).room (false, 0, fun _ => 0) (83, 10, 11, 1, 0, 0, sp_J5_isLatin1_aae02) := z_ca10 (c_J5_isLatin1_aae02 l) mb_J5_isLatin1_aae02 ⟨_, rfl, (zTT_in (by decide +kernel) rfl)⟩ wt_1103 (zTT_in (by decide +kernel) rfl) wt_1104 (by decide)
theorem ca_J5_append_3fe6f_2 (l : Launch) : z_cok l RJ5 (headSpec (.code yJ5_append_3fe6f cJ5_append_3fe6f 2 (some (.object "java/lang/AbstractStringBuilder")) :: zTT) rm_J5_append_3fe6f).room (false, 0, fun _ => 0) (191, 0, 0, 1, 0, 0, sp_J1_canEncode_fc78d) := z_ca0 (c_J1_canEncode_fc78d l) mb_J1_canEncode_fc78d wt_1108 wt_1109 (by decide)
theorem O_J5_append_3fe6f (l : Launch) : z_OK l RJ5 cJ5_append_3fe6f (headSpec (.code yJ5_append_3fe6f cJ5_append_3fe6f 2 (some (.object "java/lang/AbstractStringBuilder")) :: zTT) rm_J5_append_3fe6f).room M_J5_append_3fe6f := ⟨ok_J5_append_3fe6f, fo_J5, List.forall_mem_cons.mpr ⟨ca_J5_append_3fe6f_0 l, List.forall_mem_cons.mpr ⟨ca_J5_append_3fe6f_1 l, List.forall_mem_cons.mpr ⟨ca_J5_append_3fe6f_2 l, fun _ h => absurd h List.not_mem_nil⟩⟩⟩, fun _ h => absurd h List.not_mem_nil, fun _ h => absurd h List.not_mem_nil, fun _ h => absurd h List.not_mem_nil, fun _ h => absurd h List.not_mem_nil, rfl, rfl, fun _ h => absurd h List.not_mem_nil⟩
theorem c_J5_append_3fe6f (l : Launch) : z_CS l yJ5_append_3fe6f cJ5_append_3fe6f 2 (some (.object "java/lang/AbstractStringBuilder")) rm_J5_append_3fe6f sp_J5_append_3fe6f := by
  refine z_methF (by decide +kernel) (Or.inr (Or.inr (Or.inr (Or.inr (Or.inl ⟨rfl, _, rfl, Or.inl ⟨_, rfl⟩⟩))))) (fun h => by cases h) rfl (O_J5_append_3fe6f l) ?_
  intro av w K h
  match av, h with
  | [.ref (o : Nat), .int a], h =>
    obtain ⟨P, n, c, f, hS, hb, hW, rfl, hc, hn, h⟩ := h
    have hS0 := hS
    obtain ⟨v0, N0, -, hbo, hbv, hO, h1, h3, -⟩ := hS
    obtain ⟨G, wi, wl⟩ := w
    dsimp only at hO h1 h3
    have ho : o < G.length := nth_lt hO
    refine ⟨Nat.le_of_ble_eq_true rfl, fun Jm hs => hs 400 0 _ _ _ _ _ ?_⟩
    conv => whnf
    repeat ((first | rw [hO] | rw [rcv10 hO] | refine ⟨trivial, ?_⟩ | refine ⟨rfl, ?_⟩ | refine ⟨fun hc => absurd hc (by decide), fun _ => ?_⟩ | refine ⟨fun _ => ?_, fun hc => absurd (by decide) hc⟩ | refine ⟨fun _ => ?_, fun hc => absurd hc (by decide)⟩ | refine ⟨fun hc => absurd (by decide) hc, fun _ => ?_⟩ | refine ⟨Or.inr rfl, ?_⟩ | refine ⟨Or.inl rfl, ?_⟩ | refine ⟨fun hq => absurd (by assumption) hq, fun _ => ?_⟩ | refine ⟨fun _ => ?_, fun hq => absurd (by assumption) hq⟩ | refine ⟨fun hq => absurd hq (by assumption), fun _ => ?_⟩ | refine ⟨fun _ => ?_, fun hq => absurd hq (by assumption)⟩); conv => whnf)
    try dsimp only
    refine ⟨⟨Nat.le_of_ble_eq_true rfl, Nat.le_of_ble_eq_true rfl⟩, by simp [z_wfl, z_wfs, z_rlt, z_arl, Nat.blt_eq, ho], ?_⟩
    refine ⟨P, n + 1, n, f, hS0, hb, hW, by rw [h3, nI_add], hn, fun w1 e1 s1 => ?_⟩
    obtain ⟨v, N, hN, s1⟩ := s1
    have s0 := s1
    obtain ⟨-, -, hO1, c1, c3, -, hV1, -⟩ := s1
    obtain ⟨G1, wi1, wl1⟩ := w1
    dsimp only at hO1 c1 c3 hV1
    conv => whnf
    repeat ((first | rw [hO1] | rw [hV1] | rw [c1] | rw [rcv10 hO1] | refine ⟨trivial, ?_⟩ | refine ⟨rfl, ?_⟩ | refine ⟨fun hc => absurd hc (by decide), fun _ => ?_⟩ | refine ⟨fun _ => ?_, fun hc => absurd (by decide) hc⟩ | refine ⟨fun _ => ?_, fun hc => absurd hc (by decide)⟩ | refine ⟨fun hc => absurd (by decide) hc, fun _ => ?_⟩ | refine ⟨Or.inr rfl, ?_⟩ | refine ⟨Or.inl rfl, ?_⟩ | refine ⟨fun hq => absurd (by assumption) hq, fun _ => ?_⟩ | refine ⟨fun _ => ?_, fun hq => absurd (by assumption) hq⟩ | refine ⟨fun hq => absurd hq (by assumption), fun _ => ?_⟩ | refine ⟨fun _ => ?_, fun hq => absurd hq (by assumption)⟩); conv => whnf)
    try dsimp only
    refine ⟨fun hc2 => absurd hc2 (nI_nlt (by omega) (by decide)), fun _ => ?_⟩
    conv => whnf
    repeat ((first | rw [hO1] | rw [hV1] | rw [c1] | rw [rcv10 hO1] | refine ⟨trivial, ?_⟩ | refine ⟨rfl, ?_⟩ | refine ⟨fun hc => absurd hc (by decide), fun _ => ?_⟩ | refine ⟨fun _ => ?_, fun hc => absurd (by decide) hc⟩ | refine ⟨fun _ => ?_, fun hc => absurd hc (by decide)⟩ | refine ⟨fun hc => absurd (by decide) hc, fun _ => ?_⟩ | refine ⟨Or.inr rfl, ?_⟩ | refine ⟨Or.inl rfl, ?_⟩ | refine ⟨fun hq => absurd (by assumption) hq, fun _ => ?_⟩ | refine ⟨fun _ => ?_, fun hq => absurd (by assumption) hq⟩ | refine ⟨fun hq => absurd hq (by assumption), fun _ => ?_⟩ | refine ⟨fun _ => ?_, fun hq => absurd hq (by assumption)⟩); conv => whnf)
    try dsimp only
    rw [c3]
    refine ⟨vp_in_nI (by omega) (by have := s0.2.2.2.2.2.1; omega), ?_⟩
    conv => whnf
    repeat ((first | rw [hO1] | rw [hV1] | rw [c1] | rw [rcv10 hO1] | refine ⟨trivial, ?_⟩ | refine ⟨rfl, ?_⟩ | refine ⟨fun hc => absurd hc (by decide), fun _ => ?_⟩ | refine ⟨fun _ => ?_, fun hc => absurd (by decide) hc⟩ | refine ⟨fun _ => ?_, fun hc => absurd hc (by decide)⟩ | refine ⟨fun hc => absurd (by decide) hc, fun _ => ?_⟩ | refine ⟨Or.inr rfl, ?_⟩ | refine ⟨Or.inl rfl, ?_⟩ | refine ⟨fun hq => absurd (by assumption) hq, fun _ => ?_⟩ | refine ⟨fun _ => ?_, fun hq => absurd (by assumption) hq⟩ | refine ⟨fun hq => absurd hq (by assumption), fun _ => ?_⟩ | refine ⟨fun _ => ?_, fun hq => absurd hq (by assumption)⟩); conv => whnf)
    try dsimp only
    have key := sb_put (wi' := z_up (z_up wi1 o 3 (nI n + nI 1)) v (nI n).toNatClampNeg (vp_nar .byte (nI c).toInt8.toInt32)) s0 hN hc (fun x k => by
      rw [nI_clamp (by omega), (fits_lt hc).2.2.1, (fits_lt hc).2.1, nI_add]
      unfold z_up
      rfl)
    exact h _ (e1.tr key.1) ⟨v, N, Nat.zero_le _, key.2⟩
def sp_J4_append_cf468 : zSp := sp_J5_append_3fe6f
def rm_J4_append_cf468 : Room := { frames := 5, cells := 1, slots := 300, locals := 112 }
def M_J4_append_cf468 : zM := (k_J4_append_cf468, f_J4, [(50, 11, 11, 2, 1, 300, sp_J5_append_3fe6f)], ([], [], []), [], [], 4, false, (false, 0, fun _ => 0), (1, 300, []))
theorem ca_J4_append_cf468_0 (l : Launch) : z_cok l RJ4 (headSpec (.code yJ4_append_cf468 cJ4_append_cf468 2 (some (.object "java/lang/StringBuilder")) :: zTT) rm_J4_append_cf468).room (false, 0, fun _ => 0) (50, 11, 11, 2, 1, 300, sp_J5_append_3fe6f) := z_ca11 (c_J5_append_3fe6f l) mb_J5_append_3fe6f ⟨_, rfl⟩ (by decide) wt_1065 (zTT_in (by decide +kernel) rfl) (zTT_in (by decide +kernel) rfl) wt_1066 (by decide)
theorem O_J4_append_cf468 (l : Launch) : z_OK l RJ4 cJ4_append_cf468 (headSpec (.code yJ4_append_cf468 cJ4_append_cf468 2 (some (.object "java/lang/StringBuilder")) :: zTT) rm_J4_append_cf468).room M_J4_append_cf468 := ⟨ok_J4_append_cf468, fo_J4, List.forall_mem_cons.mpr ⟨ca_J4_append_cf468_0 l, fun _ h => absurd h List.not_mem_nil⟩, fun _ h => absurd h List.not_mem_nil, fun _ h => absurd h List.not_mem_nil, fun _ h => absurd h List.not_mem_nil, fun _ h => absurd h List.not_mem_nil, rfl, rfl, fun _ h => absurd h List.not_mem_nil⟩
theorem c_J4_append_cf468 (l : Launch) : z_CS l yJ4_append_cf468 cJ4_append_cf468 2 (some (.object "java/lang/StringBuilder")) rm_J4_append_cf468 sp_J4_append_cf468 := by
  refine z_methF (by decide +kernel) (Or.inr (Or.inr (Or.inr (Or.inr (Or.inl ⟨rfl, _, rfl, Or.inl ⟨_, rfl⟩⟩))))) (fun h => by cases h) rfl (O_J4_append_cf468 l) ?_
  intro av w K h
  match av, h with
  | [.ref (o : Nat), .int a], h =>
    have h2 := h
    obtain ⟨P, n, c, f, ⟨v, N, -, -, -, hO, -⟩, -⟩ := h2
    obtain ⟨G, wi, wl⟩ := w
    dsimp only at hO
    have ho : o < G.length := nth_lt hO
    obtain ⟨P, n, c, f, hS, hb, hW, hc, hc2, hn, h⟩ := h
    refine ⟨Nat.le_of_ble_eq_true rfl, fun Jm hs => hs 400 0 _ _ _ _ _ ?_⟩
    conv => whnf
    repeat ((first | rw [rcv11 hO] | refine ⟨trivial, ?_⟩ | refine ⟨rfl, ?_⟩ | refine ⟨fun hc => absurd hc (by decide), fun _ => ?_⟩ | refine ⟨fun _ => ?_, fun hc => absurd (by decide) hc⟩ | refine ⟨fun _ => ?_, fun hc => absurd hc (by decide)⟩ | refine ⟨fun hc => absurd (by decide) hc, fun _ => ?_⟩ | refine ⟨Or.inr rfl, ?_⟩ | refine ⟨Or.inl rfl, ?_⟩ | refine ⟨fun hq => absurd (by assumption) hq, fun _ => ?_⟩ | refine ⟨fun _ => ?_, fun hq => absurd (by assumption) hq⟩ | refine ⟨fun hq => absurd hq (by assumption), fun _ => ?_⟩ | refine ⟨fun _ => ?_, fun hq => absurd hq (by assumption)⟩); conv => whnf)
    try dsimp only
    refine ⟨⟨Nat.le_of_ble_eq_true rfl, Nat.le_of_ble_eq_true rfl⟩, by simp [z_wfl, z_wfs, z_rlt, z_arl, Nat.blt_eq, ho], ?_⟩
    refine ⟨P, n, c, f, hS, hb, hW, hc, hc2, hn, fun w1 e1 s1 => ?_⟩
    conv => whnf
    repeat ((first | refine ⟨zG_of _, ?_⟩ | refine ⟨trivial, ?_⟩ | refine ⟨rfl, ?_⟩ | refine ⟨fun hc => absurd hc (by decide), fun _ => ?_⟩ | refine ⟨fun _ => ?_, fun hc => absurd (by decide) hc⟩ | refine ⟨fun _ => ?_, fun hc => absurd hc (by decide)⟩ | refine ⟨fun hc => absurd (by decide) hc, fun _ => ?_⟩); conv => whnf)
    try dsimp only
    exact h w1 e1 s1

