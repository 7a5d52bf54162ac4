/-! the law: its end -/
def k_L_end_0 : List zI := [(1374, 1376, 0, .iload 13), (1376, 1379, 1388, .ifCond .eq 12), (1379, 1380, 0, .aload_n 1), (1380, 1383, 0, .invokevirtual 56), (1383, 1385, 0, .iload 12), (1385, 1388, 1398, .if_icmp .ne 13), (1388, 1389, 0, .aload_n 1), (1389, 1390, 4, .iconst 4), (1390, 1393, 0, .invokevirtual 30), (1393, 1395, 40, .bipush 40), (1395, 1398, 1400, .if_icmp .le 5), (1398, 1399, 0, .iconst 0), (1399, 1400, 0, .ireturn), (1400, 1403, 1, .iinc 6 1), (1403, 1406, 91, .goto (-1312)), (1406, 1407, 1, .iconst 1), (1407, 1408, 0, .ireturn)]
theorem ok_L_end_0 : ∀ e ∈ k_L_end_0, z_okb cL_law e = true := fun e h => List.all_eq_true.mp (by decide +kernel : k_L_end_0.all (z_okb cL_law) = true) e h
def k_L_end : List zI := k_L_end_0
theorem ok_L_end : ∀ e ∈ k_L_end, z_okb cL_law e = true := ok_L_end_0
def M_L_end (L : Nat) (xs : Nat → Int32) : zM := (k_L_end, [], [(56, 4, 9, 1, 0, 0, sp_X11_checks), (30, 4, 9, 2, 0, 0, sp_X11_count)], ([], [], []), [], [(91, [true, true, false, false, false, false, true, false, false, false, false, false, false, false, false, false, false, false]), (244, [true, true, false, false, false, false, true, true, true, true, true, true, true, true, false, false, false, false]), (278, [true, true, false, false, false, false, true, true, true, true, true, true, true, true, false, false, false, false]), (334, [true, true, false, false, false, false, true, true, true, true, true, true, true, true, false, false, false, false]), (389, [true, true, false, false, false, false, true, true, true, true, true, true, true, true, false, false, false, false]), (441, [true, true, false, false, false, false, true, true, true, true, true, true, true, true, false, false, false, false]), (454, [true, true, false, false, false, false, true, true, true, true, true, true, true, true, false, false, false, false]), (518, [true, true, false, false, false, false, true, true, true, true, true, true, true, true, false, false, false, false]), (559, [true, true, false, false, false, false, true, true, true, true, true, true, true, true, false, false, false, false]), (602, [true, true, false, false, false, false, true, true, true, true, true, true, true, true, false, false, false, false]), (605, [true, true, false, false, false, false, true, true, true, true, true, true, true, true, true, false, false, false]), (691, [true, true, false, false, false, false, true, true, true, true, true, true, true, true, false, false, false, false]), (707, [true, true, false, false, false, false, true, true, true, true, true, true, true, true, false, false, false, false]), (786, [true, true, false, false, false, false, true, true, true, true, true, true, true, true, false, false, false, false]), (833, [true, true, false, false, false, false, true, true, true, true, true, true, true, true, false, false, false, false]), (945, [true, true, false, false, false, false, true, true, true, true, true, true, true, true, false, false, false, false]), (1007, [true, true, false, false, false, false, true, true, true, true, true, true, true, true, false, false, false, false]), (1046, [true, true, false, false, false, false, true, true, true, true, true, true, true, true, true, true, true, false]), (1102, [true, true, false, false, false, false, true, true, true, true, true, true, true, true, false, false, false, true]), (1156, [true, true, false, false, false, false, true, true, true, true, true, true, true, true, false, false, false, false]), (1221, [true, true, false, false, false, false, true, true, true, true, true, true, true, true, false, false, false, false]), (1237, [true, true, false, false, false, false, true, true, true, true, true, true, true, true, false, false, false, false]), (1286, [true, true, false, false, false, false, true, true, true, true, true, true, true, true, false, false, false, false]), (1302, [true, true, false, false, false, false, true, true, true, true, true, true, true, true, false, false, false, false]), (1374, [true, true, false, false, false, false, true, false, false, false, false, false, true, true, false, false, false, false])], 2, false, (true, L, xs), (600104, 7301314, []))
theorem ca_L_end_0 (l : Launch) (L : Nat) (xs : Nat → Int32) : z_cok l RL room_1 (true, L, xs) (56, 4, 9, 1, 0, 0, sp_X11_checks) := z_ca4 (c_X11_checks l) mb_X11_checks ⟨_, rfl, rfl⟩ wt_425 wt_426 wt_427 (by decide)
theorem ca_L_end_1 (l : Launch) (L : Nat) (xs : Nat → Int32) : z_cok l RL room_1 (true, L, xs) (30, 4, 9, 2, 0, 0, sp_X11_count) := z_ca4 (c_X11_count l) mb_X11_count ⟨_, rfl, rfl⟩ wt_858 wt_859 wt_860 (by decide)
theorem O_L_end (l : Launch) (L : Nat) (xs : Nat → Int32) : z_OK l RL cL_law room_1 (M_L_end L xs) := ⟨ok_L_end, fun _ h => absurd h List.not_mem_nil, List.forall_mem_cons.mpr ⟨ca_L_end_0 l L xs, List.forall_mem_cons.mpr ⟨ca_L_end_1 l L xs, fun _ h => absurd h List.not_mem_nil⟩⟩, fun _ h => absurd h List.not_mem_nil, fun _ h => absurd h List.not_mem_nil, fun _ h => absurd h List.not_mem_nil, fun _ h => absurd h List.not_mem_nil, rfl, rfl, fun _ h => absurd h List.not_mem_nil⟩
set_option maxRecDepth 100000 in
theorem law_1374 {L : Nat} {xs : Nat → Int32} {Jm : zJ} {k c1 c2 W f : Nat} {w : zW} {d : Nat → Nat} {q c : Nat} {A : Nat → Nat → Nat} {kp : zK} (hs : lawS M_L_end L xs Jm) (hI : LI d q c A kp w) (hf : f = 0 ∨ f = 1 ∧ wr d q A c = W) (hN : ∀ w2 d2 q2 c' A2 kp2, LI d2 q2 c' A2 kp2 w2 → Jm 91 (al91 (k + 1)) [] w2 c1 c2) : Jm 1374 (alE k W f) [] w c1 c2 := by
  obtain ⟨hz, hWF, x, tl, hC⟩ := hI
  obtain ⟨G, wi, wl⟩ := w
  dsimp only at hz hC
  have g0 := zG_0 hz
  have h40 := cs_40 (ct_S hC)
  have fin : ∀ wi2 wl2 x2 tl2, CT wi2 wl2 (d, q, c, A, kp, (0, x2), tl2) → Jm 91 (al91 (k + 1)) [] (G, wi2, wl2) c1 c2 := fun wi2 wl2 x2 tl2 h => hN _ d q c A kp ⟨hz, hWF, x2, tl2, h⟩
  unfold al91 at fin
  refine hs 400 1374 _ _ _ _ _ ?_
  unfold alE
  conv => whnf
  refine ⟨fun _ => ?_, fun hq => ?_⟩
  · conv => whnf
    repeat ((first | rw [rcv4 g0] | refine ⟨trivial, ?_⟩ | refine ⟨rfl, ?_⟩ | refine ⟨fun hc => absurd hc (by decide), fun _ => ?_⟩ | refine ⟨fun _ => ?_, fun hc => absurd (by decide) hc⟩ | refine ⟨fun _ => ?_, fun hc => absurd hc (by decide)⟩ | refine ⟨fun hc => absurd (by decide) hc, fun _ => ?_⟩ | refine ⟨Or.inr rfl, ?_⟩ | refine ⟨Or.inl rfl, ?_⟩ | refine ⟨fun hq => absurd (by assumption) hq, fun _ => ?_⟩ | refine ⟨fun _ => ?_, fun hq => absurd (by assumption) hq⟩ | refine ⟨fun hq => absurd hq (by assumption), fun _ => ?_⟩ | refine ⟨fun _ => ?_, fun hq => absurd hq (by assumption)⟩); conv => whnf)
    try dsimp only
    refine ⟨hz, _, hC, fun wi2 wl2 hF2 hC2 => ?_⟩
    rw [cnt4] at hC2 ⊢
    conv => whnf
    repeat ((first | refine ⟨zG_of _, ?_⟩ | refine ⟨trivial, ?_⟩ | refine ⟨rfl, ?_⟩ | refine ⟨fun hc => absurd hc (by decide), fun _ => ?_⟩ | refine ⟨fun _ => ?_, fun hc => absurd (by decide) hc⟩ | refine ⟨fun _ => ?_, fun hc => absurd hc (by decide)⟩ | refine ⟨fun hc => absurd (by decide) hc, fun _ => ?_⟩); conv => whnf)
    try dsimp only
    refine ⟨fun _ => ?_, fun hq => absurd hq (nI_nlt h40 (by decide))⟩
    conv => whnf
    repeat ((first | refine ⟨zG_of _, ?_⟩ | refine ⟨trivial, ?_⟩ | refine ⟨rfl, ?_⟩ | refine ⟨fun hc => absurd hc (by decide), fun _ => ?_⟩ | refine ⟨fun _ => ?_, fun hc => absurd (by decide) hc⟩ | refine ⟨fun _ => ?_, fun hc => absurd hc (by decide)⟩ | refine ⟨fun hc => absurd (by decide) hc, fun _ => ?_⟩); conv => whnf)
    try dsimp only
    have := fin wi2 wl2 _ _ hC2
    rw [nI_add]
    exact this
  · rcases hf with rfl | ⟨rfl, hw⟩
    · exact absurd rfl hq
    · conv => whnf
      repeat ((first | rw [rcv4 g0] | refine ⟨trivial, ?_⟩ | refine ⟨rfl, ?_⟩ | refine ⟨fun hc => absurd hc (by decide), fun _ => ?_⟩ | refine ⟨fun _ => ?_, fun hc => absurd (by decide) hc⟩ | refine ⟨fun _ => ?_, fun hc => absurd hc (by decide)⟩ | refine ⟨fun hc => absurd (by decide) hc, fun _ => ?_⟩ | refine ⟨Or.inr rfl, ?_⟩ | refine ⟨Or.inl rfl, ?_⟩ | refine ⟨fun hq => absurd (by assumption) hq, fun _ => ?_⟩ | refine ⟨fun _ => ?_, fun hq => absurd (by assumption) hq⟩ | refine ⟨fun hq => absurd hq (by assumption), fun _ => ?_⟩ | refine ⟨fun _ => ?_, fun hq => absurd hq (by assumption)⟩); conv => whnf)
      try dsimp only
      refine ⟨hz, _, hC, fun wi2 wl2 hF2 hC2 => ?_⟩
      obtain ⟨tl2, e⟩ := chk_st d q c A kp x tl
      rw [e, hw] at hC2 ⊢
      clear e
      conv => whnf
      repeat ((first | refine ⟨zG_of _, ?_⟩ | refine ⟨trivial, ?_⟩ | refine ⟨rfl, ?_⟩ | refine ⟨fun hc => absurd hc (by decide), fun _ => ?_⟩ | refine ⟨fun _ => ?_, fun hc => absurd (by decide) hc⟩ | refine ⟨fun _ => ?_, fun hc => absurd hc (by decide)⟩ | refine ⟨fun hc => absurd (by decide) hc, fun _ => ?_⟩); conv => whnf)
      try dsimp only
      refine ⟨fun hq => absurd rfl hq, fun _ => ?_⟩
      conv => whnf
      repeat ((first | rw [rcv4 g0] | refine ⟨trivial, ?_⟩ | refine ⟨rfl, ?_⟩ | refine ⟨fun hc => absurd hc (by decide), fun _ => ?_⟩ | refine ⟨fun _ => ?_, fun hc => absurd (by decide) hc⟩ | refine ⟨fun _ => ?_, fun hc => absurd hc (by decide)⟩ | refine ⟨fun hc => absurd (by decide) hc, fun _ => ?_⟩ | refine ⟨Or.inr rfl, ?_⟩ | refine ⟨Or.inl rfl, ?_⟩ | refine ⟨fun hq => absurd (by assumption) hq, fun _ => ?_⟩ | refine ⟨fun _ => ?_, fun hq => absurd (by assumption) hq⟩ | refine ⟨fun hq => absurd hq (by assumption), fun _ => ?_⟩ | refine ⟨fun _ => ?_, fun hq => absurd hq (by assumption)⟩); conv => whnf)
      try dsimp only
      refine ⟨hz, _, hC2, fun wi3 wl3 hF3 hC3 => ?_⟩
      rw [cnt4] at hC3 ⊢
      conv => whnf
      repeat ((first | refine ⟨zG_of _, ?_⟩ | refine ⟨trivial, ?_⟩ | refine ⟨rfl, ?_⟩ | refine ⟨fun hc => absurd hc (by decide), fun _ => ?_⟩ | refine ⟨fun _ => ?_, fun hc => absurd (by decide) hc⟩ | refine ⟨fun _ => ?_, fun hc => absurd hc (by decide)⟩ | refine ⟨fun hc => absurd (by decide) hc, fun _ => ?_⟩); conv => whnf)
      try dsimp only
      refine ⟨fun _ => ?_, fun hq => absurd hq (nI_nlt h40 (by decide))⟩
      conv => whnf
      repeat ((first | refine ⟨zG_of _, ?_⟩ | refine ⟨trivial, ?_⟩ | refine ⟨rfl, ?_⟩ | refine ⟨fun hc => absurd hc (by decide), fun _ => ?_⟩ | refine ⟨fun _ => ?_, fun hc => absurd (by decide) hc⟩ | refine ⟨fun _ => ?_, fun hc => absurd hc (by decide)⟩ | refine ⟨fun hc => absurd (by decide) hc, fun _ => ?_⟩); conv => whnf)
      try dsimp only
      have := fin wi3 wl3 _ _ hC3
      rw [nI_add]
      exact this

