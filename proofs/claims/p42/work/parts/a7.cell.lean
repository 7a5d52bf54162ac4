/-! the script's cells; a String told to the class, four letters at a time -/
def k_L_cell_0 : List zI := [(0, 1, 0, .iload_n 1), (1, 2, 0, .aload_n 0), (2, 3, 0, .arraylength), (3, 6, 12, .if_icmp .ge 9), (6, 7, 0, .aload_n 0), (7, 8, 0, .iload_n 1), (8, 9, 0, .iaload), (9, 12, 13, .goto 4), (12, 13, 0, .iconst 0), (13, 14, 0, .ireturn)]
theorem ok_L_cell_0 : ∀ e ∈ k_L_cell_0, z_okb cL_cell e = true := fun e h => List.all_eq_true.mp (by decide +kernel : k_L_cell_0.all (z_okb cL_cell) = true) e h
def k_L_cell : List zI := k_L_cell_0
theorem ok_L_cell : ∀ e ∈ k_L_cell, z_okb cL_cell e = true := ok_L_cell_0
def k_L_say_0 : List zI := [(0, 1, 0, .iconst 0), (1, 2, 0, .istore_n 2), (2, 3, 0, .iload_n 2), (3, 4, 0, .aload_n 1), (4, 7, 0, .invokevirtual 7), (7, 10, 68, .if_icmp .ge 61), (10, 11, 0, .iconst 0), (11, 12, 0, .istore_n 3), (12, 13, 0, .iconst 0), (13, 15, 0, .istore 4), (15, 17, 0, .iload 4), (17, 18, 4, .iconst 4), (18, 21, 56, .if_icmp .ge 38), (21, 22, 0, .iload_n 3), (22, 24, 8, .bipush 8), (24, 25, 0, .ishl), (25, 26, 0, .iload_n 2), (26, 28, 0, .iload 4), (28, 29, 0, .iadd), (29, 30, 0, .aload_n 1), (30, 33, 0, .invokevirtual 7), (33, 36, 47, .if_icmp .ge 14), (36, 37, 0, .aload_n 1), (37, 38, 0, .iload_n 2), (38, 40, 0, .iload 4), (40, 41, 0, .iadd), (41, 44, 0, .invokevirtual 13), (44, 47, 48, .goto 4), (47, 48, 0, .iconst 0), (48, 49, 0, .ior), (49, 50, 0, .istore_n 3), (50, 53, 1, .iinc 4 1), (53, 56, 15, .goto (-38)), (56, 57, 0, .aload_n 0), (57, 58, 0, .iload_n 3), (58, 61, 0, .invokevirtual 17), (61, 62, 0, .pop), (62, 65, 4, .iinc 2 4), (65, 68, 2, .goto (-63)), (68, 69, 0, .aload_n 0)]
theorem ok_L_say_0 : ∀ e ∈ k_L_say_0, z_okb cL_say e = true := fun e h => List.all_eq_true.mp (by decide +kernel : k_L_say_0.all (z_okb cL_say) = true) e h
def k_L_say_1 : List zI := [(69, 70, 0, .aload_n 1), (70, 73, 0, .invokevirtual 7), (73, 76, 0, .invokevirtual 23), (76, 77, 0, .pop), (77, 78, 0, .return_)]
theorem ok_L_say_1 : ∀ e ∈ k_L_say_1, z_okb cL_say e = true := fun e h => List.all_eq_true.mp (by decide +kernel : k_L_say_1.all (z_okb cL_say) = true) e h
def k_L_say : List zI := k_L_say_0 ++ (k_L_say_1)
theorem ok_L_say : ∀ e ∈ k_L_say, z_okb cL_say e = true := List.forall_mem_append.mpr ⟨ok_L_say_0, ok_L_say_1⟩
def scrF (L : Nat) (xs : Nat → Int32) (k : Nat) : Int32 := if k < L then xs k else nI 0
def sp_L_cell (L : Nat) (xs : Nat → Int32) : zSp := fun av w K => match av with
  | [.float _, .int i] => ∃ k : Nat, i = nI k ∧ k < 2 ^ 31 ∧ L < 2 ^ 31 ∧ K (some (.int (scrF L xs k))) w
  | _ => False
def rm_L_cell : Room := { frames := 0, cells := 0, slots := 0, locals := 0 }
def M_L_cell (L : Nat) (xs : Nat → Int32) : zM := (k_L_cell, [], [], ([], [], []), [], [], 1, false, (true, L, xs), (0, 0, []))
theorem O_L_cell (l : Launch) (L : Nat) (xs : Nat → Int32) : z_OK l RL cL_cell (headSpec (.code yL_cell cL_cell 2 (some .int) :: zTT) rm_L_cell).room (M_L_cell L xs) := ⟨ok_L_cell, fun _ h => absurd h List.not_mem_nil, fun _ h => absurd h List.not_mem_nil, fun _ h => absurd h List.not_mem_nil, fun _ h => absurd h List.not_mem_nil, fun _ h => absurd h List.not_mem_nil, fun _ h => absurd h List.not_mem_nil, rfl, rfl, fun _ h => absurd h List.not_mem_nil⟩
theorem c_L_cell (l : Launch) (L : Nat) (xs : Nat → Int32) : z_CSs l yL_cell cL_cell 2 (some .int) rm_L_cell L xs (sp_L_cell L xs) := by
  refine z_methS (by decide) (Or.inr (Or.inl ⟨rfl, rfl⟩)) (fun h => by cases h) rfl (O_L_cell l L xs) ?_
  intro av w K h
  match av, h with
  | [.float a, .int i], h =>
    obtain ⟨k, rfl, hk, hL, h⟩ := h
    unfold scrF at h
    refine ⟨Nat.le_of_ble_eq_true rfl, fun Jm hs => hs 400 0 _ _ _ _ _ ?_⟩
    conv => whnf
    repeat ((first | refine ⟨zG_of _, ?_⟩ | refine ⟨trivial, ?_⟩ | refine ⟨rfl, ?_⟩ | refine ⟨fun hc => absurd hc (by decide), fun _ => ?_⟩ | refine ⟨fun _ => ?_, fun hc => absurd (by decide) hc⟩ | refine ⟨fun _ => ?_, fun hc => absurd hc (by decide)⟩ | refine ⟨fun hc => absurd (by decide) hc, fun _ => ?_⟩); conv => whnf)
    try dsimp only
    refine ⟨fun hc => ?_, fun hc => ?_⟩
    · have hc : ¬ nI k < nI L := hc
      rw [ltN hk hL] at hc
      rw [if_neg hc] at h
      conv => whnf
      repeat ((first | refine ⟨zG_of _, ?_⟩ | refine ⟨trivial, ?_⟩ | refine ⟨rfl, ?_⟩ | refine ⟨fun hc => absurd hc (by decide), fun _ => ?_⟩ | refine ⟨fun _ => ?_, fun hc => absurd (by decide) hc⟩ | refine ⟨fun _ => ?_, fun hc => absurd hc (by decide)⟩ | refine ⟨fun hc => absurd (by decide) hc, fun _ => ?_⟩); conv => whnf)
      try dsimp only
      exact h
    · have hc : nI k < nI L := hc
      rw [ltN hk hL] at hc
      rw [if_pos hc] at h
      conv => whnf
      repeat ((first | refine ⟨zG_of _, ?_⟩ | refine ⟨trivial, ?_⟩ | refine ⟨rfl, ?_⟩ | refine ⟨fun hc => absurd hc (by decide), fun _ => ?_⟩ | refine ⟨fun _ => ?_, fun hc => absurd (by decide) hc⟩ | refine ⟨fun _ => ?_, fun hc => absurd hc (by decide)⟩ | refine ⟨fun hc => absurd (by decide) hc, fun _ => ?_⟩); conv => whnf)
      try dsimp only
      refine ⟨vp_in_nI hc hL, ?_⟩
      conv => whnf
      repeat ((first | refine ⟨zG_of _, ?_⟩ | refine ⟨trivial, ?_⟩ | refine ⟨rfl, ?_⟩ | refine ⟨fun hc => absurd hc (by decide), fun _ => ?_⟩ | refine ⟨fun _ => ?_, fun hc => absurd (by decide) hc⟩ | refine ⟨fun _ => ?_, fun hc => absurd hc (by decide)⟩ | refine ⟨fun hc => absurd (by decide) hc, fun _ => ?_⟩); conv => whnf)
      try dsimp only
      rw [nI_clamp hk]
      exact h
theorem bvN_nI {W : Nat} (h : W < 2 ^ 32) : bvN (nI W) = W := (nI_eq2 (bv_N _).2 h).mp (bv_N _).1.symm
/-- the letters of four places, as one number -/
def pkN (f : Nat → Nat) : Nat → Nat
  | 0 => 0
  | c + 1 => pkN f c * 256 + f c
theorem pkN_lt {f : Nat → Nat} (h : ∀ k, f k < 256) : ∀ c, pkN f c < 256 ^ c
  | 0 => (by decide : 0 < 1)
  | c + 1 => by
    have h1 := pkN_lt h c
    have h2 := h c
    have e : 256 ^ (c + 1) = 256 ^ c * 256 := Nat.pow_succ ..
    have : pkN f c + 1 ≤ 256 ^ c := h1
    have := Nat.mul_le_mul_right 256 this
    show pkN f c * 256 + f c < 256 ^ (c + 1)
    omega
theorem pkN_or {a b : Nat} (ha : a < 2 ^ 24) (hb : b < 256) : z_shl (nI a) (nI 8) ||| nI b = nI (a * 256 + b) := by
  rw [z_shlN (by decide) (by omega), fa_or]
  congr 1
  have := Nat.two_pow_add_eq_or_of_lt (i := 8) (b := b) (by omega) a
  rw [Nat.mul_comm a, ← this]
theorem pkN_by {f : Nat → Nat} (h : ∀ k, f k < 256) {j : Nat} (hj : j < 4) : byN (pkN f 4) j = f j := by
  have h0 := h 0
  have h1 := h 1
  have h2 := h 2
  have h3 := h 3
  have e : pkN f 4 = ((f 0 * 256 + f 1) * 256 + f 2) * 256 + f 3 := by simp [pkN]
  rw [e]
  unfold byN
  match j, hj with
  | 0, _ => show _ / 2 ^ 24 % 256 = _; omega
  | 1, _ => show _ / 2 ^ 16 % 256 = _; omega
  | 2, _ => show _ / 2 ^ 8 % 256 = _; omega
  | 3, _ => show _ / 2 ^ 0 % 256 = _; omega
theorem zG_of_nth {G : List zSh} (hl : 45 ≤ G.length) (h : ∀ x, x < 45 → z_nth G x = z_nth GC x) : zG G := by
  refine ⟨G.drop 45, ?_⟩
  have e : G.take 45 = GC := by
    apply List.ext_getElem?
    intro k
    have h45 : GC.length = 45 := rfl
    by_cases hk : k < 45
    · rw [List.getElem?_take_of_lt hk, ← z_nth_eq, ← z_nth_eq]
      exact h k hk
    · rw [List.getElem?_eq_none (by rw [List.length_take]; omega), List.getElem?_eq_none (by omega)]
  rw [← e, List.take_append_drop]
theorem zG_len {G : List zSh} (h : zG G) : 45 ≤ G.length := by
  obtain ⟨r, rfl⟩ := h
  rw [List.length_append]
  have h45 : GC.length = 45 := rfl
  omega
/-- the class's cells are as they were -/
theorem ext_zG {P : Nat → Prop} {w w' : zW} (h : zG w.1) (e : Ext P w w') (hP : ∀ x, x < 45 → P x) : zG w'.1 := by
  have h45 := zG_len h
  refine zG_of_nth (Nat.le_trans h45 e.1) (fun x hx => ?_)
  rw [(e.2.1 x (hP x hx)).1]
  obtain ⟨r, hr⟩ := h
  rw [hr, nth_app (by exact hx)]
theorem ext_CT {P : Nat → Prop} {w w' : zW} {T : zT} (h : CT w.2.1 w.2.2 T) (e : Ext P w w') (hP : ∀ x, x < 45 → P x) : CT w'.2.1 w'.2.2 T := ct_same h (fun y hy => (e.2.1 y (hP y (by omega))).2.1) (e.2.1 5 (hP 5 (by decide))).2.2
/-- what a call of the class keeps: all but the class's cells -/
theorem frc_ext {w : zW} {wi' : Nat → Nat → Int32} {wl' : Nat → Nat → Int64} (h : FrC w.2.1 w.2.2 wi' wl') : Ext (fun x => 45 ≤ x) w (w.1, wi', wl') := ⟨Nat.le_refl _, fun x hx => ⟨rfl, (h x hx).1, (h x hx).2⟩, fun h => h⟩
/-- the text of the class's state is n letters of f -/
def setTx (T : zT) (n : Nat) (f : Nat → Nat) : zT := (T.1, T.2.1, T.2.2.1, T.2.2.2.1, T.2.2.2.2.1, (n, f), T.2.2.2.2.2.2)
theorem end_eq (T : zT) {n L : Nat} (x : Nat → Nat) (h : n ≤ L) (hL : L ≤ 400) : st_end (setTx T L x) (nI n) = (setTx T n x, nI 1) := by
  unfold st_end
  rw [if_pos (show idB ((setTx T L x).2.2.2.2.2.1.1 + 1) (nI n) = true from idB_of (show n < L + 1 by omega) (show L + 1 < 2 ^ 31 by omega)), nI_clamp (show n < 2 ^ 31 by omega)]
  rfl
theorem sign_eq (T : zT) {W L : Nat} (x : Nat → Nat) (h : L + 4 ≤ 400) (hW : W < 2 ^ 32) : st_sign (setTx T L x) (nI W) = (setTx T (L + 4) (apX x L W), nI (L + 4)) := by
  unfold st_sign
  rw [if_pos (show (setTx T L x).2.2.2.2.2.1.1 + 4 ≤ 400 from h), bvN_nI hW]
  rfl

