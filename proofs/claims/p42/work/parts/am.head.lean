/-! the law: its head, its start -/
def lawActs : List Nat := [244, 334, 389, 441, 518, 559, 602, 691, 786, 833, 945, 1007, 1156, 1221, 1286]
def k_L_head_0 : List zI := [(91, 93, 0, .iload 6), (93, 95, 9, .bipush 9), (95, 98, 1406, .if_icmp .ge 1311), (98, 99, 0, .aload_n 0), (99, 101, 0, .iload 6), (101, 104, 0, .invokestatic 46), (104, 106, 0, .istore 7), (106, 108, 0, .iload 7), (108, 109, 4, .iconst 4), (109, 110, 0, .iushr), (110, 112, 15, .bipush 15), (112, 113, 0, .iand), (113, 114, 0, .aload_n 1), (114, 115, 4, .iconst 4), (115, 118, 0, .invokevirtual 30), (118, 119, 1, .iconst 1), (119, 120, 0, .iadd), (120, 121, 0, .irem), (121, 123, 0, .istore 8), (123, 125, 0, .iload 7), (125, 127, 8, .bipush 8), (127, 128, 0, .iushr), (128, 130, 15, .bipush 15), (130, 131, 0, .iand), (131, 132, 0, .aload_n 1), (132, 133, 4, .iconst 4), (133, 136, 0, .invokevirtual 30), (136, 137, 1, .iconst 1), (137, 138, 0, .iadd), (138, 139, 0, .irem), (139, 141, 0, .istore 9), (141, 143, 0, .iload 7), (143, 145, 12, .bipush 12), (145, 146, 0, .iushr), (146, 147, 3, .iconst 3), (147, 148, 0, .iand), (148, 150, 0, .istore 10), (150, 151, 0, .aload_n 1), (151, 152, 4, .iconst 4), (152, 155, 0, .invokevirtual 30)]
theorem ok_L_head_0 : ∀ e ∈ k_L_head_0, z_okb cL_law e = true := fun e h => List.all_eq_true.mp (by decide +kernel : k_L_head_0.all (z_okb cL_law) = true) e h
def k_L_head_1 : List zI := [(155, 157, 0, .istore 11), (157, 158, 0, .aload_n 1), (158, 161, 0, .invokevirtual 56), (161, 163, 0, .istore 12), (163, 164, 1, .iconst 1), (164, 166, 0, .istore 13), (166, 168, 0, .iload 7), (168, 170, 15, .bipush 15), (170, 171, 0, .iand), (171, 244, 0, .tableswitch 1115 0 14 #[73, 73, 163, 218, 270, 347, 388, 431, 520, 615, 662, 774, 836, 985, 1050]), (1406, 1407, 1, .iconst 1), (1407, 1408, 0, .ireturn)]
theorem ok_L_head_1 : ∀ e ∈ k_L_head_1, z_okb cL_law e = true := fun e h => List.all_eq_true.mp (by decide +kernel : k_L_head_1.all (z_okb cL_law) = true) e h
def k_L_head : List zI := k_L_head_0 ++ (k_L_head_1)
theorem ok_L_head : ∀ e ∈ k_L_head, z_okb cL_law e = true := List.forall_mem_append.mpr ⟨ok_L_head_0, ok_L_head_1⟩
def sw_L_head : List (Nat × Int × Nat × List Nat) := [(171, 0, 1286, [244, 244, 334, 389, 441, 518, 559, 602, 691, 786, 833, 945, 1007, 1156, 1221])]
theorem swok_L_head : ∀ q ∈ sw_L_head, z_sokb cL_law q = true := fun q h => List.all_eq_true.mp (by decide +kernel : sw_L_head.all (z_sokb cL_law) = true) q h
def M_L_head (L : Nat) (xs : Nat → Int32) : zM := (k_L_head, [], [(46, 8, 0, 2, 0, 0, (sp_L_cell L xs)), (30, 4, 9, 2, 0, 0, sp_X11_count), (56, 4, 9, 1, 0, 0, sp_X11_checks)], ([], [], []), sw_L_head, [(91, [true, true, false, false, false, false, true, false, false, false, false, false, false, false, false, false, false, false]), (244, [true, true, false, false, false, false, true, true, true, true, true, true, true, true, false, false, false, false]), (278, [true, true, false, false, false, false, true, true, true, true, true, true, true, true, false, false, false, false]), (334, [true, true, false, false, false, false, true, true, true, true, true, true, true, true, false, false, false, false]), (389, [true, true, false, false, false, false, true, true, true, true, true, true, true, true, false, false, false, false]), (441, [true, true, false, false, false, false, true, true, true, true, true, true, true, true, false, false, false, false]), (454, [true, true, false, false, false, false, true, true, true, true, true, true, true, true, false, false, false, false]), (518, [true, true, false, false, false, false, true, true, true, true, true, true, true, true, false, false, false, false]), (559, [true, true, false, false, false, false, true, true, true, true, true, true, true, true, false, false, false, false]), (602, [true, true, false, false, false, false, true, true, true, true, true, true, true, true, false, false, false, false]), (605, [true, true, false, false, false, false, true, true, true, true, true, true, true, true, true, false, false, false]), (691, [true, true, false, false, false, false, true, true, true, true, true, true, true, true, false, false, false, false]), (707, [true, true, false, false, false, false, true, true, true, true, true, true, true, true, false, false, false, false]), (786, [true, true, false, false, false, false, true, true, true, true, true, true, true, true, false, false, false, false]), (833, [true, true, false, false, false, false, true, true, true, true, true, true, true, true, false, false, false, false]), (945, [true, true, false, false, false, false, true, true, true, true, true, true, true, true, false, false, false, false]), (1007, [true, true, false, false, false, false, true, true, true, true, true, true, true, true, false, false, false, false]), (1046, [true, true, false, false, false, false, true, true, true, true, true, true, true, true, true, true, true, false]), (1102, [true, true, false, false, false, false, true, true, true, true, true, true, true, true, false, false, false, true]), (1156, [true, true, false, false, false, false, true, true, true, true, true, true, true, true, false, false, false, false]), (1221, [true, true, false, false, false, false, true, true, true, true, true, true, true, true, false, false, false, false]), (1237, [true, true, false, false, false, false, true, true, true, true, true, true, true, true, false, false, false, false]), (1286, [true, true, false, false, false, false, true, true, true, true, true, true, true, true, false, false, false, false]), (1302, [true, true, false, false, false, false, true, true, true, true, true, true, true, true, false, false, false, false]), (1374, [true, true, false, false, false, false, true, false, false, false, false, false, true, true, false, false, false, false])], 2, false, (true, L, xs), (600104, 7301314, []))
theorem ca_L_head_0 (l : Launch) (L : Nat) (xs : Nat → Int32) : z_cok l RL room_1 (true, L, xs) (46, 8, 0, 2, 0, 0, (sp_L_cell L xs)) := z_ca8 (c_L_cell l L xs) mb_L_cell wt_950 wt_951 (by decide)
theorem ca_L_head_1 (l : Launch) (L : Nat) (xs : Nat → Int32) : z_cok l RL room_1 (true, L, xs) (30, 4, 9, 2, 0, 0, sp_X11_count) := z_ca4 (c_X11_count l) mb_X11_count ⟨_, rfl, rfl⟩ wt_858 wt_859 wt_860 (by decide)
theorem ca_L_head_2 (l : Launch) (L : Nat) (xs : Nat → Int32) : z_cok l RL room_1 (true, L, xs) (56, 4, 9, 1, 0, 0, sp_X11_checks) := z_ca4 (c_X11_checks l) mb_X11_checks ⟨_, rfl, rfl⟩ wt_425 wt_426 wt_427 (by decide)
theorem O_L_head (l : Launch) (L : Nat) (xs : Nat → Int32) : z_OK l RL cL_law room_1 (M_L_head L xs) := ⟨ok_L_head, fun _ h => absurd h List.not_mem_nil, List.forall_mem_cons.mpr ⟨ca_L_head_0 l L xs, List.forall_mem_cons.mpr ⟨ca_L_head_1 l L xs, List.forall_mem_cons.mpr ⟨ca_L_head_2 l L xs, fun _ h => absurd h List.not_mem_nil⟩⟩⟩, fun _ h => absurd h List.not_mem_nil, fun _ h => absurd h List.not_mem_nil, fun _ h => absurd h List.not_mem_nil, swok_L_head, rfl, rfl, fun _ h => absurd h List.not_mem_nil⟩
set_option maxRecDepth 100000 in
theorem law_loop {L : Nat} {xs : Nat → Int32} {Jm : zJ} (hs : lawS M_L_head L xs Jm) (hsE : lawS M_L_end L xs Jm) (hL : L ≤ 260) (hacts : ∀ pc ∈ lawActs, LAct Jm pc) : ∀ e k, k + e = 9 → 1 ≤ k → ∀ (w : zW) (d : Nat → Nat) (q c : Nat) (A : Nat → Nat → Nat) (kp : zK) (c1 c2 : Nat), LI d q c A kp w → c1 ≤ 100 + 300 * k → c2 ≤ 20000 + 90000 * k → Jm 91 (al91 k) [] w c1 c2 := by
  intro e
  induction e with
  | zero =>
    intro k hk hk1 w d q c A kp c1 c2 hI hc1 hc2
    obtain rfl : k = 9 := by omega
    refine hs 400 91 _ _ _ _ _ ?_
    unfold al91
    conv => whnf
    repeat ((first | refine ⟨trivial, ?_⟩ | refine ⟨rfl, ?_⟩ | refine ⟨fun hc => absurd hc (by decide), fun _ => ?_⟩ | refine ⟨fun _ => ?_, fun hc => absurd (by decide) hc⟩ | refine ⟨fun _ => ?_, fun hc => absurd hc (by decide)⟩ | refine ⟨fun hc => absurd (by decide) hc, fun _ => ?_⟩ | refine ⟨Or.inr rfl, ?_⟩ | refine ⟨Or.inl rfl, ?_⟩ | refine ⟨fun hq => absurd (by assumption) hq, fun _ => ?_⟩ | refine ⟨fun _ => ?_, fun hq => absurd (by assumption) hq⟩ | refine ⟨fun hq => absurd hq (by assumption), fun _ => ?_⟩ | refine ⟨fun _ => ?_, fun hq => absurd hq (by assumption)⟩ | refine ⟨fun _ => ?_, fun hq => absurd (Eq.refl _) hq⟩ | refine ⟨fun hq => absurd (Eq.refl _) hq, fun _ => ?_⟩); conv => whnf)
    try dsimp only
  | succ e ih =>
    intro k hk hk1 w d q c A kp c1 c2 hI hc1 hc2
    obtain ⟨hz, hWF, x, tl, hC⟩ := hI
    obtain ⟨G, wi, wl⟩ := w
    dsimp only at hz hC
    have g0 := zG_0 hz
    have h40 : c ≤ 40 := cs_40 (ct_S hC)
    have f1 : nI k < nI 9 := nI_lt (by omega) (by decide)
    have hE : ∀ W, LEnd Jm k W c1 c2 := by
      intro W w2 d2 q2 c' A2 kp2 n1 n2 f hI2 hf hn1 hn2
      have b1 : k + 1 + e = 9 := by omega
      have b2 : n1 ≤ 100 + 300 * (k + 1) := by omega
      have b3 : n2 ≤ 20000 + 90000 * (k + 1) := by
        rw [Nat.mul_add, Nat.mul_one]
        exact Nat.le_trans hn2 (by rw [← Nat.add_assoc]; exact Nat.add_le_add_right hc2 _)
      have b4 : 1 ≤ k + 1 := by omega
      exact law_1374 hsE hI2 hf (fun w3 d3 q3 c3 A3 kp3 hI3 => ih (k + 1) b1 b4 w3 d3 q3 c3 A3 kp3 n1 n2 hI3 b2 b3)
    refine hs 400 91 _ _ _ _ _ ?_
    unfold al91
    conv => whnf
    repeat ((first | refine ⟨trivial, ?_⟩ | refine ⟨rfl, ?_⟩ | refine ⟨fun hc => absurd hc (by decide), fun _ => ?_⟩ | refine ⟨fun _ => ?_, fun hc => absurd (by decide) hc⟩ | refine ⟨fun _ => ?_, fun hc => absurd hc (by decide)⟩ | refine ⟨fun hc => absurd (by decide) hc, fun _ => ?_⟩ | refine ⟨Or.inr rfl, ?_⟩ | refine ⟨Or.inl rfl, ?_⟩ | refine ⟨fun hq => absurd (by assumption) hq, fun _ => ?_⟩ | refine ⟨fun _ => ?_, fun hq => absurd (by assumption) hq⟩ | refine ⟨fun hq => absurd hq (by assumption), fun _ => ?_⟩ | refine ⟨fun _ => ?_, fun hq => absurd hq (by assumption)⟩ | refine ⟨fun _ => ?_, fun hq => absurd (Eq.refl _) hq⟩ | refine ⟨fun hq => absurd (Eq.refl _) hq, fun _ => ?_⟩); conv => whnf)
    try dsimp only
    refine ⟨k, rfl, by omega, by omega, ?_⟩
    generalize scrF L xs k = wd
    obtain ⟨a, ha, ea⟩ := and_le (z_shr wd (nI 4)) 15
    obtain ⟨b, hb, eb⟩ := and_le (z_shr wd (nI 8)) 15
    obtain ⟨t, ht, et⟩ := and_le (z_shr wd (nI 12)) 3
    have fc : ¬ nI (c + 1) = 0 := nI_ne0 (by omega) (by omega)
    have m1 : a % (c + 1) < c + 1 := Nat.mod_lt _ (by omega)
    have m2 : b % (c + 1) < c + 1 := Nat.mod_lt _ (by omega)
    conv => whnf
    repeat ((first | rw [rcv4 g0] | refine ⟨trivial, ?_⟩ | refine ⟨rfl, ?_⟩ | refine ⟨fun hc => absurd hc (by decide), fun _ => ?_⟩ | refine ⟨fun _ => ?_, fun hc => absurd (by decide) hc⟩ | refine ⟨fun _ => ?_, fun hc => absurd hc (by decide)⟩ | refine ⟨fun hc => absurd (by decide) hc, fun _ => ?_⟩ | refine ⟨Or.inr rfl, ?_⟩ | refine ⟨Or.inl rfl, ?_⟩ | refine ⟨fun hq => absurd (by assumption) hq, fun _ => ?_⟩ | refine ⟨fun _ => ?_, fun hq => absurd (by assumption) hq⟩ | refine ⟨fun hq => absurd hq (by assumption), fun _ => ?_⟩ | refine ⟨fun _ => ?_, fun hq => absurd hq (by assumption)⟩ | refine ⟨fun _ => ?_, fun hq => absurd (Eq.refl _) hq⟩ | refine ⟨fun hq => absurd (Eq.refl _) hq, fun _ => ?_⟩); conv => whnf)
    try dsimp only
    refine ⟨hz, _, hC, fun wi2 wl2 hF2 hC2 => ?_⟩
    rw [cnt4] at hC2 ⊢
    conv => whnf
    repeat ((first | refine ⟨zG_of _, ?_⟩ | refine ⟨trivial, ?_⟩ | refine ⟨rfl, ?_⟩ | refine ⟨fun hc => absurd hc (by decide), fun _ => ?_⟩ | refine ⟨fun _ => ?_, fun hc => absurd (by decide) hc⟩ | refine ⟨fun _ => ?_, fun hc => absurd hc (by decide)⟩ | refine ⟨fun hc => absurd (by decide) hc, fun _ => ?_⟩); conv => whnf)
    try dsimp only
    rw [nI_add]
    refine ⟨fc, ?_⟩
    rw [ea, z_remN (show a < 2 ^ 31 by omega) (show 0 < c + 1 by omega) (show c + 1 < 2 ^ 31 by omega)]
    conv => whnf
    repeat ((first | rw [rcv4 g0] | refine ⟨trivial, ?_⟩ | refine ⟨rfl, ?_⟩ | refine ⟨fun hc => absurd hc (by decide), fun _ => ?_⟩ | refine ⟨fun _ => ?_, fun hc => absurd (by decide) hc⟩ | refine ⟨fun _ => ?_, fun hc => absurd hc (by decide)⟩ | refine ⟨fun hc => absurd (by decide) hc, fun _ => ?_⟩ | refine ⟨Or.inr rfl, ?_⟩ | refine ⟨Or.inl rfl, ?_⟩ | refine ⟨fun hq => absurd (by assumption) hq, fun _ => ?_⟩ | refine ⟨fun _ => ?_, fun hq => absurd (by assumption) hq⟩ | refine ⟨fun hq => absurd hq (by assumption), fun _ => ?_⟩ | refine ⟨fun _ => ?_, fun hq => absurd hq (by assumption)⟩ | refine ⟨fun _ => ?_, fun hq => absurd (Eq.refl _) hq⟩ | refine ⟨fun hq => absurd (Eq.refl _) hq, fun _ => ?_⟩); conv => whnf)
    try dsimp only
    refine ⟨hz, _, hC2, fun wi3 wl3 hF3 hC3 => ?_⟩
    rw [cnt4] at hC3 ⊢
    conv => whnf
    repeat ((first | refine ⟨zG_of _, ?_⟩ | refine ⟨trivial, ?_⟩ | refine ⟨rfl, ?_⟩ | refine ⟨fun hc => absurd hc (by decide), fun _ => ?_⟩ | refine ⟨fun _ => ?_, fun hc => absurd (by decide) hc⟩ | refine ⟨fun _ => ?_, fun hc => absurd hc (by decide)⟩ | refine ⟨fun hc => absurd (by decide) hc, fun _ => ?_⟩); conv => whnf)
    try dsimp only
    rw [nI_add]
    refine ⟨fc, ?_⟩
    rw [eb, z_remN (show b < 2 ^ 31 by omega) (show 0 < c + 1 by omega) (show c + 1 < 2 ^ 31 by omega)]
    conv => whnf
    repeat ((first | rw [rcv4 g0] | refine ⟨trivial, ?_⟩ | refine ⟨rfl, ?_⟩ | refine ⟨fun hc => absurd hc (by decide), fun _ => ?_⟩ | refine ⟨fun _ => ?_, fun hc => absurd (by decide) hc⟩ | refine ⟨fun _ => ?_, fun hc => absurd hc (by decide)⟩ | refine ⟨fun hc => absurd (by decide) hc, fun _ => ?_⟩ | refine ⟨Or.inr rfl, ?_⟩ | refine ⟨Or.inl rfl, ?_⟩ | refine ⟨fun hq => absurd (by assumption) hq, fun _ => ?_⟩ | refine ⟨fun _ => ?_, fun hq => absurd (by assumption) hq⟩ | refine ⟨fun hq => absurd hq (by assumption), fun _ => ?_⟩ | refine ⟨fun _ => ?_, fun hq => absurd hq (by assumption)⟩ | refine ⟨fun _ => ?_, fun hq => absurd (Eq.refl _) hq⟩ | refine ⟨fun hq => absurd (Eq.refl _) hq, fun _ => ?_⟩); conv => whnf)
    try dsimp only
    refine ⟨hz, _, hC3, fun wi4 wl4 hF4 hC4 => ?_⟩
    rw [cnt4] at hC4 ⊢
    rw [et]
    conv => whnf
    repeat ((first | rw [rcv4 g0] | refine ⟨trivial, ?_⟩ | refine ⟨rfl, ?_⟩ | refine ⟨fun hc => absurd hc (by decide), fun _ => ?_⟩ | refine ⟨fun _ => ?_, fun hc => absurd (by decide) hc⟩ | refine ⟨fun _ => ?_, fun hc => absurd hc (by decide)⟩ | refine ⟨fun hc => absurd (by decide) hc, fun _ => ?_⟩ | refine ⟨Or.inr rfl, ?_⟩ | refine ⟨Or.inl rfl, ?_⟩ | refine ⟨fun hq => absurd (by assumption) hq, fun _ => ?_⟩ | refine ⟨fun _ => ?_, fun hq => absurd (by assumption) hq⟩ | refine ⟨fun hq => absurd hq (by assumption), fun _ => ?_⟩ | refine ⟨fun _ => ?_, fun hq => absurd hq (by assumption)⟩ | refine ⟨fun _ => ?_, fun hq => absurd (Eq.refl _) hq⟩ | refine ⟨fun hq => absurd (Eq.refl _) hq, fun _ => ?_⟩); conv => whnf)
    try dsimp only
    obtain ⟨tl2, e5⟩ := chk_st d q c A kp x tl
    refine ⟨hz, _, hC4, fun wi5 wl5 hF5 hC5 => ?_⟩
    rw [e5] at hC5 ⊢
    clear e5
    obtain ⟨W, hW⟩ : ∃ W, W = wr d q A c := ⟨_, rfl⟩
    rw [← hW]
    have key : ∀ pc ∈ lawActs, Jm pc (alA k wd (a % (c + 1)) (b % (c + 1)) t c W) [] (G, wi5, wl5) c1 c2 := fun pc hpc => hacts pc hpc k _ _ t c1 c2 W wd (G, wi5, wl5) d q c A kp ⟨hz, hWF, x, tl2, hC5⟩ hW (by omega) (by omega) ht (by omega) (by omega) (hE W)
    unfold alA at key
    conv => whnf
    repeat ((first | refine ⟨zG_of _, ?_⟩ | refine ⟨trivial, ?_⟩ | refine ⟨rfl, ?_⟩ | refine ⟨fun hc => absurd hc (by decide), fun _ => ?_⟩ | refine ⟨fun _ => ?_, fun hc => absurd (by decide) hc⟩ | refine ⟨fun _ => ?_, fun hc => absurd hc (by decide)⟩ | refine ⟨fun hc => absurd (by decide) hc, fun _ => ?_⟩); conv => whnf)
    try dsimp only
    refine ⟨z_sw_all _ _ (fun pc hpc => ?_), fun _ => ?_⟩
    · simp only [List.mem_cons, List.not_mem_nil, or_false] at hpc
      rcases hpc with rfl | rfl | rfl | rfl | rfl | rfl | rfl | rfl | rfl | rfl | rfl | rfl | rfl | rfl | rfl <;> (conv => whnf) <;> exact key _ (by decide)
    · conv => whnf
      repeat ((first | refine ⟨zG_of _, ?_⟩ | refine ⟨trivial, ?_⟩ | refine ⟨rfl, ?_⟩ | refine ⟨fun hc => absurd hc (by decide), fun _ => ?_⟩ | refine ⟨fun _ => ?_, fun hc => absurd (by decide) hc⟩ | refine ⟨fun _ => ?_, fun hc => absurd hc (by decide)⟩ | refine ⟨fun hc => absurd (by decide) hc, fun _ => ?_⟩); conv => whnf)
      try dsimp only
      exact key _ (by decide)
def k_L_start_0 : List zI := [(0, 3, 0, .new 18), (3, 4, 0, .dup), (4, 7, 0, .invokespecial 45), (7, 8, 0, .astore_n 1), (8, 9, 0, .aload_n 0), (9, 10, 0, .iconst 0), (10, 13, 0, .invokestatic 46), (13, 14, 0, .istore_n 2), (14, 15, 1, .iconst 1), (15, 16, 0, .iload_n 2), (16, 19, 255, .sipush 255), (19, 20, 0, .iand), (20, 21, 3, .iconst 3), (21, 22, 0, .irem), (22, 23, 0, .iadd), (23, 24, 0, .istore_n 3), (24, 25, 1, .iconst 1), (25, 26, 0, .iload_n 2), (26, 28, 8, .bipush 8), (28, 29, 0, .iushr), (29, 32, 255, .sipush 255), (32, 33, 0, .iand), (33, 34, 3, .iconst 3), (34, 35, 0, .irem), (35, 36, 0, .iadd), (36, 38, 0, .istore 4), (38, 39, 1, .iconst 1), (39, 40, 0, .iload_n 2), (40, 42, 16, .bipush 16), (42, 43, 0, .iushr), (43, 46, 255, .sipush 255), (46, 47, 0, .iand), (47, 48, 2, .iconst 2), (48, 49, 0, .irem), (49, 50, 0, .iadd), (50, 52, 0, .istore 5), (52, 53, 0, .aload_n 1), (53, 54, 0, .iload_n 3), (54, 56, 0, .iload 4), (56, 58, 0, .iload 5)]
theorem ok_L_start_0 : ∀ e ∈ k_L_start_0, z_okb cL_law e = true := fun e h => List.all_eq_true.mp (by decide +kernel : k_L_start_0.all (z_okb cL_law) = true) e h
def k_L_start_1 : List zI := [(58, 59, 2, .iconst 2), (59, 60, 0, .iload_n 2), (60, 62, 24, .bipush 24), (62, 63, 0, .iushr), (63, 64, 1, .iconst 1), (64, 65, 0, .iand), (65, 66, 0, .iadd), (66, 69, 0, .invokevirtual 52), (69, 70, 0, .iload_n 3), (70, 72, 0, .iload 4), (72, 73, 0, .imul), (73, 75, 0, .iload 5), (75, 76, 0, .imul), (76, 79, 86, .if_icmp .ne 10), (79, 80, 0, .aload_n 1), (80, 83, 0, .invokevirtual 56), (83, 86, 88, .ifCond .eq 5), (86, 87, 0, .iconst 0), (87, 88, 0, .ireturn), (88, 89, 1, .iconst 1), (89, 91, 0, .istore 6)]
theorem ok_L_start_1 : ∀ e ∈ k_L_start_1, z_okb cL_law e = true := fun e h => List.all_eq_true.mp (by decide +kernel : k_L_start_1.all (z_okb cL_law) = true) e h
def k_L_start : List zI := k_L_start_0 ++ (k_L_start_1)
theorem ok_L_start : ∀ e ∈ k_L_start, z_okb cL_law e = true := List.forall_mem_append.mpr ⟨ok_L_start_0, ok_L_start_1⟩
def M_L_start (L : Nat) (xs : Nat → Int32) : zM := (k_L_start, [], [(45, 1, 0, 1, 44, 11142, sp_X11_init), (46, 8, 0, 2, 0, 0, (sp_L_cell L xs)), (52, 4, 9, 5, 0, 0, sp_X11_format), (56, 4, 9, 1, 0, 0, sp_X11_checks)], ([], [], [(18, 9, [some none, some none, some none, some none, some none, some none, some none, some none, some none, some none, none])]), [], [(91, [true, true, false, false, false, false, true, false, false, false, false, false, false, false, false, false, false, false]), (244, [true, true, false, false, false, false, true, true, true, true, true, true, true, true, false, false, false, false]), (278, [true, true, false, false, false, false, true, true, true, true, true, true, true, true, false, false, false, false]), (334, [true, true, false, false, false, false, true, true, true, true, true, true, true, true, false, false, false, false]), (389, [true, true, false, false, false, false, true, true, true, true, true, true, true, true, false, false, false, false]), (441, [true, true, false, false, false, false, true, true, true, true, true, true, true, true, false, false, false, false]), (454, [true, true, false, false, false, false, true, true, true, true, true, true, true, true, false, false, false, false]), (518, [true, true, false, false, false, false, true, true, true, true, true, true, true, true, false, false, false, false]), (559, [true, true, false, false, false, false, true, true, true, true, true, true, true, true, false, false, false, false]), (602, [true, true, false, false, false, false, true, true, true, true, true, true, true, true, false, false, false, false]), (605, [true, true, false, false, false, false, true, true, true, true, true, true, true, true, true, false, false, false]), (691, [true, true, false, false, false, false, true, true, true, true, true, true, true, true, false, false, false, false]), (707, [true, true, false, false, false, false, true, true, true, true, true, true, true, true, false, false, false, false]), (786, [true, true, false, false, false, false, true, true, true, true, true, true, true, true, false, false, false, false]), (833, [true, true, false, false, false, false, true, true, true, true, true, true, true, true, false, false, false, false]), (945, [true, true, false, false, false, false, true, true, true, true, true, true, true, true, false, false, false, false]), (1007, [true, true, false, false, false, false, true, true, true, true, true, true, true, true, false, false, false, false]), (1046, [true, true, false, false, false, false, true, true, true, true, true, true, true, true, true, true, true, false]), (1102, [true, true, false, false, false, false, true, true, true, true, true, true, true, true, false, false, false, true]), (1156, [true, true, false, false, false, false, true, true, true, true, true, true, true, true, false, false, false, false]), (1221, [true, true, false, false, false, false, true, true, true, true, true, true, true, true, false, false, false, false]), (1237, [true, true, false, false, false, false, true, true, true, true, true, true, true, true, false, false, false, false]), (1286, [true, true, false, false, false, false, true, true, true, true, true, true, true, true, false, false, false, false]), (1302, [true, true, false, false, false, false, true, true, true, true, true, true, true, true, false, false, false, false]), (1374, [true, true, false, false, false, false, true, false, false, false, false, false, true, true, false, false, false, false])], 2, false, (true, L, xs), (600104, 7301314, []))
theorem ca_L_start_0 (l : Launch) (L : Nat) (xs : Nat → Int32) : z_cok l RL room_1 (true, L, xs) (45, 1, 0, 1, 44, 11142, sp_X11_init) := z_ca1 (c_X11_init l) mb_X11_init wt_57 wt_58 rfl (by decide)
theorem ca_L_start_1 (l : Launch) (L : Nat) (xs : Nat → Int32) : z_cok l RL room_1 (true, L, xs) (46, 8, 0, 2, 0, 0, (sp_L_cell L xs)) := z_ca8 (c_L_cell l L xs) mb_L_cell wt_950 wt_951 (by decide)
theorem ca_L_start_2 (l : Launch) (L : Nat) (xs : Nat → Int32) : z_cok l RL room_1 (true, L, xs) (52, 4, 9, 5, 0, 0, sp_X11_format) := z_ca4 (c_X11_format l) mb_X11_format ⟨_, rfl, rfl⟩ wt_333 wt_334 wt_335 (by decide)
theorem ca_L_start_3 (l : Launch) (L : Nat) (xs : Nat → Int32) : z_cok l RL room_1 (true, L, xs) (56, 4, 9, 1, 0, 0, sp_X11_checks) := z_ca4 (c_X11_checks l) mb_X11_checks ⟨_, rfl, rfl⟩ wt_425 wt_426 wt_427 (by decide)
theorem O_L_start (l : Launch) (L : Nat) (xs : Nat → Int32) : z_OK l RL cL_law room_1 (M_L_start L xs) := ⟨ok_L_start, fun _ h => absurd h List.not_mem_nil, List.forall_mem_cons.mpr ⟨ca_L_start_0 l L xs, List.forall_mem_cons.mpr ⟨ca_L_start_1 l L xs, List.forall_mem_cons.mpr ⟨ca_L_start_2 l L xs, List.forall_mem_cons.mpr ⟨ca_L_start_3 l L xs, fun _ h => absurd h List.not_mem_nil⟩⟩⟩⟩, fun _ h => absurd h List.not_mem_nil, fun _ h => absurd h List.not_mem_nil, List.forall_mem_cons.mpr ⟨⟨RX11, TX11, 11, tyX11, rfl, inX11, tyX11_ok, wt_55, wt_56, wt_26, rfl, nk_X11⟩, fun _ h => absurd h List.not_mem_nil⟩, fun _ h => absurd h List.not_mem_nil, rfl, rfl, fun _ h => absurd h List.not_mem_nil⟩
theorem format_st {n m p f : Nat} (hn : 1 ≤ n ∧ n ≤ 3) (hm : 1 ≤ m ∧ m ≤ 3) (hp : 1 ≤ p ∧ p ≤ 3) (hf : f = 2 ∨ f = 3) : ∃ d kp x tl, Dd d ∧ (plS d).1 = n * m * p ∧ st_format T0 (nI n) (nI m) (nI p) (nI f) = ((d, f, (plS d).1, (plS d).2, kp, (0, x), tl), nI (n * m * p)) := by
  have e0 : mkD (nI n) (nI m) (nI p) 0 = n := nI_clamp (by omega)
  have e1 : mkD (nI n) (nI m) (nI p) 1 = m := nI_clamp (by omega)
  have e2 : mkD (nI n) (nI m) (nI p) 2 = p := nI_clamp (by omega)
  have ec : (plS (mkD (nI n) (nI m) (nI p))).1 = n * m * p := by rw [pl_c, e0, e1, e2]
  refine ⟨mkD (nI n) (nI m) (nI p), (false, two2, 0, fun _ _ => 0), fun _ => 0, (0, fun _ => 0), fun t ht => ?_, ec, ?_⟩
  · rcases lt3 ht with rfl | rfl | rfl
    · rw [e0]; exact hn
    · rw [e1]; exact hm
    · rw [e2]; exact hp
  · have sz : ∀ v : Nat, 1 ≤ v ∧ v ≤ 3 → szB (nI v) = true := fun v hv => decide_eq_true ⟨nI_nlt hv.1 (by omega), nI_nlt hv.2 (by decide)⟩
    unfold st_format
    rw [if_pos (show (szB (nI n) && szB (nI m) && szB (nI p) && decide (¬ nI f < nI 2 ∧ ¬ nI 3 < nI f)) = true by
      rw [sz n hn, sz m hm, sz p hp, decide_eq_true (p := _ ∧ _) ⟨nI_nlt (show 2 ≤ f by omega) (by omega), nI_nlt (show f ≤ 3 by omega) (by decide)⟩]
      rfl), nI_clamp (show f < 2 ^ 31 by omega), ec]
    rfl
set_option maxRecDepth 100000 in
theorem law_0 {L : Nat} {xs : Nat → Int32} {Jm : zJ} {wi0 : Nat → Nat → Int32} {wl0 : Nat → Nat → Int64} (hs : lawS M_L_start L xs Jm) (hL : L ≤ 260) (hN : ∀ (w : zW) (d : Nat → Nat) (q c : Nat) (A : Nat → Nat → Nat) (kp : zK) (c1 c2 : Nat), LI d q c A kp w → c1 ≤ 100 → c2 ≤ 20000 → Jm 91 (al91 1) [] w c1 c2) : Jm 0 (z_arl [.float 0] 18) [] ([], wi0, wl0) 0 0 := by
  unfold al91 at hN
  refine hs 400 0 _ _ _ _ _ ?_
  conv => whnf
  repeat ((first | refine ⟨zG_of _, ?_⟩ | refine ⟨trivial, ?_⟩ | refine ⟨rfl, ?_⟩ | refine ⟨fun hc => absurd hc (by decide), fun _ => ?_⟩ | refine ⟨fun _ => ?_, fun hc => absurd (by decide) hc⟩ | refine ⟨fun _ => ?_, fun hc => absurd hc (by decide)⟩ | refine ⟨fun hc => absurd (by decide) hc, fun _ => ?_⟩); conv => whnf)
  try dsimp only
  refine ⟨⟨Nat.le_of_ble_eq_true rfl, Nat.le_of_ble_eq_true rfl⟩, rfl, ?_⟩
  conv => whnf
  repeat ((first | refine ⟨zG_of _, ?_⟩ | refine ⟨trivial, ?_⟩ | refine ⟨rfl, ?_⟩ | refine ⟨fun hc => absurd hc (by decide), fun _ => ?_⟩ | refine ⟨fun _ => ?_, fun hc => absurd (by decide) hc⟩ | refine ⟨fun _ => ?_, fun hc => absurd hc (by decide)⟩ | refine ⟨fun hc => absurd (by decide) hc, fun _ => ?_⟩); conv => whnf)
  try dsimp only
  refine ⟨⟨Nat.le_of_ble_eq_true rfl, Nat.le_of_ble_eq_true rfl⟩, rfl, ?_⟩
  refine ⟨rfl, rfl, by simp [z_row, nI_0], fun wi1 wl1 hC1 => ?_⟩
  have hz : zG GC := ⟨[], by rw [List.append_nil]⟩
  have hWG : ∀ wi wl, WF (GC, wi, wl) := fun wi wl => (by decide +kernel : z_wfg GC.length GC = true)
  have g0 := zG_0 hz
  obtain ⟨G, hG⟩ : ∃ G, G = GC := ⟨_, rfl⟩
  rw [← hG] at hz hWG g0 ⊢
  clear hG
  conv => whnf
  repeat ((first | refine ⟨trivial, ?_⟩ | refine ⟨rfl, ?_⟩ | refine ⟨fun hc => absurd hc (by decide), fun _ => ?_⟩ | refine ⟨fun _ => ?_, fun hc => absurd (by decide) hc⟩ | refine ⟨fun _ => ?_, fun hc => absurd hc (by decide)⟩ | refine ⟨fun hc => absurd (by decide) hc, fun _ => ?_⟩ | refine ⟨Or.inr rfl, ?_⟩ | refine ⟨Or.inl rfl, ?_⟩ | refine ⟨fun hq => absurd (by assumption) hq, fun _ => ?_⟩ | refine ⟨fun _ => ?_, fun hq => absurd (by assumption) hq⟩ | refine ⟨fun hq => absurd hq (by assumption), fun _ => ?_⟩ | refine ⟨fun _ => ?_, fun hq => absurd hq (by assumption)⟩ | refine ⟨fun _ => ?_, fun hq => absurd (Eq.refl _) hq⟩ | refine ⟨fun hq => absurd (Eq.refl _) hq, fun _ => ?_⟩); conv => whnf)
  try dsimp only
  refine ⟨0, rfl, by omega, by omega, ?_⟩
  generalize scrF L xs 0 = wd
  obtain ⟨a, ha, ea⟩ := and_le wd 255
  obtain ⟨b, hb, eb⟩ := and_le (z_shr wd (nI 8)) 255
  obtain ⟨p, hp, ep⟩ := and_le (z_shr wd (nI 16)) 255
  obtain ⟨f, hf, ef⟩ := and_le (z_shr wd (nI 24)) 1
  have n3 : ¬ nI 3 = 0 := by decide
  have n2 : ¬ nI 2 = 0 := by decide
  conv => whnf
  repeat ((first | refine ⟨zG_of _, ?_⟩ | refine ⟨trivial, ?_⟩ | refine ⟨rfl, ?_⟩ | refine ⟨fun hc => absurd hc (by decide), fun _ => ?_⟩ | refine ⟨fun _ => ?_, fun hc => absurd (by decide) hc⟩ | refine ⟨fun _ => ?_, fun hc => absurd hc (by decide)⟩ | refine ⟨fun hc => absurd (by decide) hc, fun _ => ?_⟩); conv => whnf)
  try dsimp only
  refine ⟨n3, ?_⟩
  rw [ea, z_remN (show a < 2 ^ 31 by omega) (by decide) (by decide)]
  conv => whnf
  repeat ((first | refine ⟨zG_of _, ?_⟩ | refine ⟨trivial, ?_⟩ | refine ⟨rfl, ?_⟩ | refine ⟨fun hc => absurd hc (by decide), fun _ => ?_⟩ | refine ⟨fun _ => ?_, fun hc => absurd (by decide) hc⟩ | refine ⟨fun _ => ?_, fun hc => absurd hc (by decide)⟩ | refine ⟨fun hc => absurd (by decide) hc, fun _ => ?_⟩); conv => whnf)
  try dsimp only
  refine ⟨n3, ?_⟩
  rw [eb, z_remN (show b < 2 ^ 31 by omega) (by decide) (by decide)]
  conv => whnf
  repeat ((first | refine ⟨zG_of _, ?_⟩ | refine ⟨trivial, ?_⟩ | refine ⟨rfl, ?_⟩ | refine ⟨fun hc => absurd hc (by decide), fun _ => ?_⟩ | refine ⟨fun _ => ?_, fun hc => absurd (by decide) hc⟩ | refine ⟨fun _ => ?_, fun hc => absurd hc (by decide)⟩ | refine ⟨fun hc => absurd (by decide) hc, fun _ => ?_⟩); conv => whnf)
  try dsimp only
  refine ⟨n2, ?_⟩
  rw [ep, z_remN (show p < 2 ^ 31 by omega) (by decide) (by decide)]
  conv => whnf
  repeat ((first | rw [rcv4 g0] | refine ⟨trivial, ?_⟩ | refine ⟨rfl, ?_⟩ | refine ⟨fun hc => absurd hc (by decide), fun _ => ?_⟩ | refine ⟨fun _ => ?_, fun hc => absurd (by decide) hc⟩ | refine ⟨fun _ => ?_, fun hc => absurd hc (by decide)⟩ | refine ⟨fun hc => absurd (by decide) hc, fun _ => ?_⟩ | refine ⟨Or.inr rfl, ?_⟩ | refine ⟨Or.inl rfl, ?_⟩ | refine ⟨fun hq => absurd (by assumption) hq, fun _ => ?_⟩ | refine ⟨fun _ => ?_, fun hq => absurd (by assumption) hq⟩ | refine ⟨fun hq => absurd hq (by assumption), fun _ => ?_⟩ | refine ⟨fun _ => ?_, fun hq => absurd hq (by assumption)⟩ | refine ⟨fun _ => ?_, fun hq => absurd (Eq.refl _) hq⟩ | refine ⟨fun hq => absurd (Eq.refl _) hq, fun _ => ?_⟩); conv => whnf)
  try dsimp only
  rw [ef, nI_add, nI_add, nI_add, nI_add]
  have r1 : a % 3 < 3 := Nat.mod_lt _ (by decide)
  have r2 : b % 3 < 3 := Nat.mod_lt _ (by decide)
  have r3 : p % 2 < 2 := Nat.mod_lt _ (by decide)
  obtain ⟨d, kp, x, tl, hd, hc, e⟩ := format_st (n := 1 + a % 3) (m := 1 + b % 3) (p := 1 + p % 2) (f := 2 + f) (by omega) (by omega) (by omega) (by omega)
  refine ⟨hz, _, hC1, fun wi2 wl2 hF2 hC2 => ?_⟩
  rw [e] at hC2 ⊢
  have hq : 2 + f = 2 ∨ 2 + f = 3 := by omega
  have hw : wr d (2 + f) (plS d).2 (plS d).1 = 0 := (wr_RT hd).mpr (pl_RT hd hq)
  have ec : nI (1 + a % 3) * nI (1 + b % 3) * nI (1 + p % 2) = nI ((1 + a % 3) * (1 + b % 3) * (1 + p % 2)) := by rw [pk_mul, pk_mul]
  generalize (1 + a % 3) * (1 + b % 3) * (1 + p % 2) = cc at ec
  generalize plS d = S at hC2 hw hc
  conv => whnf
  repeat ((first | rw [rcv4 g0] | refine ⟨trivial, ?_⟩ | refine ⟨rfl, ?_⟩ | refine ⟨fun hc => absurd hc (by decide), fun _ => ?_⟩ | refine ⟨fun _ => ?_, fun hc => absurd (by decide) hc⟩ | refine ⟨fun _ => ?_, fun hc => absurd hc (by decide)⟩ | refine ⟨fun hc => absurd (by decide) hc, fun _ => ?_⟩ | refine ⟨Or.inr rfl, ?_⟩ | refine ⟨Or.inl rfl, ?_⟩ | refine ⟨fun hq => absurd (by assumption) hq, fun _ => ?_⟩ | refine ⟨fun _ => ?_, fun hq => absurd (by assumption) hq⟩ | refine ⟨fun hq => absurd hq (by assumption), fun _ => ?_⟩ | refine ⟨fun _ => ?_, fun hq => absurd hq (by assumption)⟩ | refine ⟨fun _ => ?_, fun hq => absurd (Eq.refl _) hq⟩ | refine ⟨fun hq => absurd (Eq.refl _) hq, fun _ => ?_⟩); conv => whnf)
  try dsimp only
  rw [ec]
  conv => whnf
  repeat ((first | rw [rcv4 g0] | refine ⟨trivial, ?_⟩ | refine ⟨rfl, ?_⟩ | refine ⟨fun hc => absurd hc (by decide), fun _ => ?_⟩ | refine ⟨fun _ => ?_, fun hc => absurd (by decide) hc⟩ | refine ⟨fun _ => ?_, fun hc => absurd hc (by decide)⟩ | refine ⟨fun hc => absurd (by decide) hc, fun _ => ?_⟩ | refine ⟨Or.inr rfl, ?_⟩ | refine ⟨Or.inl rfl, ?_⟩ | refine ⟨fun hq => absurd (by assumption) hq, fun _ => ?_⟩ | refine ⟨fun _ => ?_, fun hq => absurd (by assumption) hq⟩ | refine ⟨fun hq => absurd hq (by assumption), fun _ => ?_⟩ | refine ⟨fun _ => ?_, fun hq => absurd hq (by assumption)⟩ | refine ⟨fun _ => ?_, fun hq => absurd (Eq.refl _) hq⟩ | refine ⟨fun hq => absurd (Eq.refl _) hq, fun _ => ?_⟩); conv => whnf)
  try dsimp only
  obtain ⟨tl3, e3⟩ := chk_st d (2 + f) S.1 S.2 kp x tl
  refine ⟨hz, _, hC2, fun wi3 wl3 hF3 hC3 => ?_⟩
  rw [e3, hw] at hC3 ⊢
  clear e3
  conv => whnf
  repeat ((first | refine ⟨trivial, ?_⟩ | refine ⟨rfl, ?_⟩ | refine ⟨fun hc => absurd hc (by decide), fun _ => ?_⟩ | refine ⟨fun _ => ?_, fun hc => absurd (by decide) hc⟩ | refine ⟨fun _ => ?_, fun hc => absurd hc (by decide)⟩ | refine ⟨fun hc => absurd (by decide) hc, fun _ => ?_⟩ | refine ⟨Or.inr rfl, ?_⟩ | refine ⟨Or.inl rfl, ?_⟩ | refine ⟨fun hq => absurd (by assumption) hq, fun _ => ?_⟩ | refine ⟨fun _ => ?_, fun hq => absurd (by assumption) hq⟩ | refine ⟨fun hq => absurd hq (by assumption), fun _ => ?_⟩ | refine ⟨fun _ => ?_, fun hq => absurd hq (by assumption)⟩ | refine ⟨fun _ => ?_, fun hq => absurd (Eq.refl _) hq⟩ | refine ⟨fun hq => absurd (Eq.refl _) hq, fun _ => ?_⟩); conv => whnf)
  try dsimp only
  exact hN _ d (2 + f) S.1 S.2 kp _ _ ⟨hz, hWG _ _, x, tl3, hC3⟩ (by omega) (by simp only [List.length_cons, List.length_nil]; omega)

