/-! the law: a product dropped; two products made three -/
theorem idB_iff {c n : Nat} (hn : n < 2 ^ 31) (hc : c < 2 ^ 31) : idB c (nI n) = true ↔ n < c := by
  constructor
  · intro h
    obtain ⟨m, hm, e⟩ := idB_N h hc
    rw [(nI_eq hn (by omega)).mp e]
    exact hm
  · exact fun h => idB_of h hc
section
variable (d : Nat → Nat) (q c : Nat) (A : Nat → Nat → Nat) (kp : zK) (x : Nat → Nat) (tl : Nat × (Nat → Int64))
theorem drops_st {i : Nat} (hc : c ≤ 40) (hi : i < c) : st_drops (d, q, c, A, kp, (0, x), tl) (nI i) = ((d, q, c - 1, rmA A i, kp, (0, x), tl), nI (c - 1)) := by
  unfold st_drops
  rw [if_pos (show idB c (nI i) = true from idB_of hi (by omega)), nI_clamp (by omega)]
theorem drops_no {i : Nat} (hc : c ≤ 40) (hi : ¬ i < c) (hi2 : i ≤ 40) : st_drops (d, q, c, A, kp, (0, x), tl) (nI i) = ((d, q, c, A, kp, (0, x), tl), mI 1) := by
  unfold st_drops
  rw [if_neg (show ¬ idB c (nI i) = true from fun h => hi ((idB_iff (by omega) (by omega)).mp h))]
theorem plus_st {i j t : Nat} (hc : c ≤ 40) (hi : i ≤ 40) (hj : j ≤ 40) (ht : t ≤ 3) : (∃ v, v < nI 0 ∧ st_plus (d, q, c, A, kp, (0, x), tl) (nI i) (nI j) (nI t) = ((d, q, c, A, kp, (0, x), tl), v)) ∨ (i < c ∧ j < c ∧ t < 3 ∧ i ≠ j ∧ st_plus (d, q, c, A, kp, (0, x), tl) (nI i) (nI j) (nI t) = ((d, q, c + 1, plX q A c i j t, kp, (0, x), tl), nI (c + 1))) := by
  unfold st_plus
  by_cases h : (idB c (nI i) && (idB c (nI j) && idB 3 (nI t))) = true
  · rw [if_pos (show (idB (d, q, c, A, kp, ((0 : Nat), x), tl).2.2.1 (nI i) && (idB (d, q, c, A, kp, ((0 : Nat), x), tl).2.2.1 (nI j) && idB 3 (nI t))) = true from h)]
    rw [Bool.and_eq_true, Bool.and_eq_true, idB_iff (by omega) (by omega), idB_iff (by omega) (by omega), idB_iff (by omega) (by omega)] at h
    by_cases e : i = j
    · rw [if_pos (by rw [e])]
      exact Or.inl ⟨mI 2, by decide, rfl⟩
    · rw [if_neg (fun q => e ((nI_eq (by omega) (by omega)).mp q))]
      by_cases e2 : c = 40
      · rw [if_pos (show (d, q, c, A, kp, ((0 : Nat), x), tl).2.2.1 = 40 from e2)]
        exact Or.inl ⟨mI 3, by decide, rfl⟩
      · rw [if_neg (show ¬ (d, q, c, A, kp, ((0 : Nat), x), tl).2.2.1 = 40 from e2), nI_clamp (by omega), nI_clamp (by omega), nI_clamp (by omega)]
        exact Or.inr ⟨h.1, h.2.1, h.2.2, e, rfl⟩
  · rw [if_neg (show ¬ (idB (d, q, c, A, kp, ((0 : Nat), x), tl).2.2.1 (nI i) && (idB (d, q, c, A, kp, ((0 : Nat), x), tl).2.2.1 (nI j) && idB 3 (nI t))) = true from h)]
    exact Or.inl ⟨mI 1, by decide, rfl⟩
end
def k_L_786_0 : List zI := [(786, 787, 0, .aload_n 1), (787, 789, 0, .iload 8), (789, 792, 0, .invokevirtual 110), (792, 794, 0, .istore 14), (794, 796, 0, .iload 14), (796, 798, 0, .iload 8), (798, 800, 0, .iload 11), (800, 803, 810, .if_icmp .ge 10), (803, 805, 0, .iload 11), (805, 806, 1, .iconst 1), (806, 807, 0, .isub), (807, 810, 811, .goto 4), (810, 811, 1, .iconst (-1)), (811, 814, 816, .if_icmp .eq 5), (814, 815, 0, .iconst 0), (815, 816, 0, .ireturn), (816, 818, 0, .iload 8), (818, 820, 0, .iload 11), (820, 823, 827, .if_icmp .lt 7), (823, 824, 1, .iconst 1), (824, 827, 828, .goto 4), (827, 828, 0, .iconst 0), (828, 830, 0, .istore 13), (830, 833, 1374, .goto 544)]
theorem ok_L_786_0 : ∀ e ∈ k_L_786_0, z_okb cL_law e = true := fun e h => List.all_eq_true.mp (by decide +kernel : k_L_786_0.all (z_okb cL_law) = true) e h
def k_L_786 : List zI := k_L_786_0
theorem ok_L_786 : ∀ e ∈ k_L_786, z_okb cL_law e = true := ok_L_786_0
def M_L_786 (L : Nat) (xs : Nat → Int32) : zM := (k_L_786, [], [(110, 4, 9, 2, 0, 0, sp_X11_drops)], ([], [], []), [], [(91, [true, true, false, false, false, false, true, false, false, false, false, false, false, false, false, false, false, false]), (244, [true, true, false, false, false, false, true, true, true, true, true, true, true, true, false, false, false, false]), (278, [true, true, false, false, false, false, true, true, true, true, true, true, true, true, false, false, false, false]), (334, [true, true, false, false, false, false, true, true, true, true, true, true, true, true, false, false, false, false]), (389, [true, true, false, false, false, false, true, true, true, true, true, true, true, true, false, false, false, false]), (441, [true, true, false, false, false, false, true, true, true, true, true, true, true, true, false, false, false, false]), (454, [true, true, false, false, false, false, true, true, true, true, true, true, true, true, false, false, false, false]), (518, [true, true, false, false, false, false, true, true, true, true, true, true, true, true, false, false, false, false]), (559, [true, true, false, false, false, false, true, true, true, true, true, true, true, true, false, false, false, false]), (602, [true, true, false, false, false, false, true, true, true, true, true, true, true, true, false, false, false, false]), (605, [true, true, false, false, false, false, true, true, true, true, true, true, true, true, true, false, false, false]), (691, [true, true, false, false, false, false, true, true, true, true, true, true, true, true, false, false, false, false]), (707, [true, true, false, false, false, false, true, true, true, true, true, true, true, true, false, false, false, false]), (786, [true, true, false, false, false, false, true, true, true, true, true, true, true, true, false, false, false, false]), (833, [true, true, false, false, false, false, true, true, true, true, true, true, true, true, false, false, false, false]), (945, [true, true, false, false, false, false, true, true, true, true, true, true, true, true, false, false, false, false]), (1007, [true, true, false, false, false, false, true, true, true, true, true, true, true, true, false, false, false, false]), (1046, [true, true, false, false, false, false, true, true, true, true, true, true, true, true, true, true, true, false]), (1102, [true, true, false, false, false, false, true, true, true, true, true, true, true, true, false, false, false, true]), (1156, [true, true, false, false, false, false, true, true, true, true, true, true, true, true, false, false, false, false]), (1221, [true, true, false, false, false, false, true, true, true, true, true, true, true, true, false, false, false, false]), (1237, [true, true, false, false, false, false, true, true, true, true, true, true, true, true, false, false, false, false]), (1286, [true, true, false, false, false, false, true, true, true, true, true, true, true, true, false, false, false, false]), (1302, [true, true, false, false, false, false, true, true, true, true, true, true, true, true, false, false, false, false]), (1374, [true, true, false, false, false, false, true, false, false, false, false, false, true, true, false, false, false, false])], 2, false, (true, L, xs), (600104, 7301314, []))
theorem ca_L_786_0 (l : Launch) (L : Nat) (xs : Nat → Int32) : z_cok l RL room_1 (true, L, xs) (110, 4, 9, 2, 0, 0, sp_X11_drops) := z_ca4 (c_X11_drops l) mb_X11_drops ⟨_, rfl, rfl⟩ wt_412 wt_413 wt_414 (by decide)
theorem O_L_786 (l : Launch) (L : Nat) (xs : Nat → Int32) : z_OK l RL cL_law room_1 (M_L_786 L xs) := ⟨ok_L_786, fun _ h => absurd h List.not_mem_nil, List.forall_mem_cons.mpr ⟨ca_L_786_0 l L xs, fun _ h => absurd h List.not_mem_nil⟩, fun _ h => absurd h List.not_mem_nil, fun _ h => absurd h List.not_mem_nil, fun _ h => absurd h List.not_mem_nil, fun _ h => absurd h List.not_mem_nil, rfl, rfl, fun _ h => absurd h List.not_mem_nil⟩
set_option maxRecDepth 100000 in
theorem act_786 {L : Nat} {xs : Nat → Int32} {Jm : zJ} (hs : lawS M_L_786 L xs Jm) : LAct Jm 786 := by
  intro k i j t c1 c2 W wd w d q c A kp hI hW hi hj ht hc1 hc2 hE
  obtain ⟨hz, hWF, x, tl, hC⟩ := hI
  obtain ⟨G, wi, wl⟩ := w
  dsimp only at hz hC
  have g0 := zG_0 hz
  have h40 : c ≤ 40 := cs_40 (ct_S hC)
  have hq : q = 2 ∨ q = 3 := cs_q23 (ct_S hC)
  have hA : Bd q c A := cs_A (ct_S hC)
  have hd : Dd d := cs_d (ct_S hC)
  have hW729 : W ≤ 729 := Nat.le_trans (Nat.le_of_eq hW) (wr_le d q A c)
  have fin : ∀ (wi2 : Nat → Nat → Int32) (wl2 : Nat → Nat → Int64) (d2 : Nat → Nat) (q2 c' : Nat) (A2 : Nat → Nat → Nat) (kp2 : zK) (x2 : Nat → Nat) (tl2 : Nat × (Nat → Int64)) (f : Nat), CT wi2 wl2 (d2, q2, c', A2, kp2, (0, x2), tl2) → (f = 0 ∨ f = 1 ∧ wr d2 q2 A2 c' = W) → Jm 1374 (alE k W f) [] (G, wi2, wl2) c1 c2 := fun wi2 wl2 d2 q2 c' A2 kp2 x2 tl2 f h hf => hE _ d2 q2 c' A2 kp2 c1 c2 f ⟨hz, hWF, x2, tl2, h⟩ hf (by omega) (by omega)
  unfold alE at fin
  refine hs 400 786 _ _ _ _ _ ?_
  unfold alA
  by_cases hic : i < c
  · have e := drops_st d q c A kp x tl h40 hic
    have f1 : nI i < nI c := nI_lt hic (by omega)
    have f2 : nI (c - 1) = nI c - nI 1 := (nI_sub (by omega)).symm
    conv => whnf
    repeat ((first | rw [rcv4 g0] | refine ⟨trivial, ?_⟩ | refine ⟨rfl, ?_⟩ | refine ⟨fun hc => absurd hc (by decide), fun _ => ?_⟩ | refine ⟨fun _ => ?_, fun hc => absurd (by decide) hc⟩ | refine ⟨fun _ => ?_, fun hc => absurd hc (by decide)⟩ | refine ⟨fun hc => absurd (by decide) hc, fun _ => ?_⟩ | refine ⟨Or.inr rfl, ?_⟩ | refine ⟨Or.inl rfl, ?_⟩ | refine ⟨fun hq => absurd (by assumption) hq, fun _ => ?_⟩ | refine ⟨fun _ => ?_, fun hq => absurd (by assumption) hq⟩ | refine ⟨fun hq => absurd hq (by assumption), fun _ => ?_⟩ | refine ⟨fun _ => ?_, fun hq => absurd hq (by assumption)⟩ | refine ⟨fun _ => ?_, fun hq => absurd (Eq.refl _) hq⟩ | refine ⟨fun hq => absurd (Eq.refl _) hq, fun _ => ?_⟩); conv => whnf)
    try dsimp only
    refine ⟨hz, _, hC, fun wi2 wl2 hF2 hC2 => ?_⟩
    rw [e] at hC2 ⊢
    conv => whnf
    repeat ((first | refine ⟨trivial, ?_⟩ | refine ⟨rfl, ?_⟩ | refine ⟨fun hc => absurd hc (by decide), fun _ => ?_⟩ | refine ⟨fun _ => ?_, fun hc => absurd (by decide) hc⟩ | refine ⟨fun _ => ?_, fun hc => absurd hc (by decide)⟩ | refine ⟨fun hc => absurd (by decide) hc, fun _ => ?_⟩ | refine ⟨Or.inr rfl, ?_⟩ | refine ⟨Or.inl rfl, ?_⟩ | refine ⟨fun hq => absurd (by assumption) hq, fun _ => ?_⟩ | refine ⟨fun _ => ?_, fun hq => absurd (by assumption) hq⟩ | refine ⟨fun hq => absurd hq (by assumption), fun _ => ?_⟩ | refine ⟨fun _ => ?_, fun hq => absurd hq (by assumption)⟩ | refine ⟨fun _ => ?_, fun hq => absurd (Eq.refl _) hq⟩ | refine ⟨fun hq => absurd (Eq.refl _) hq, fun _ => ?_⟩); conv => whnf)
    try dsimp only
    exact fin wi2 wl2 _ _ _ _ _ _ _ 0 hC2 (Or.inl rfl)
  · have e := drops_no d q c A kp x tl h40 hic (by omega)
    have f1 : ¬ nI i < nI c := nI_nlt (by omega) (by omega)
    conv => whnf
    repeat ((first | rw [rcv4 g0] | refine ⟨trivial, ?_⟩ | refine ⟨rfl, ?_⟩ | refine ⟨fun hc => absurd hc (by decide), fun _ => ?_⟩ | refine ⟨fun _ => ?_, fun hc => absurd (by decide) hc⟩ | refine ⟨fun _ => ?_, fun hc => absurd hc (by decide)⟩ | refine ⟨fun hc => absurd (by decide) hc, fun _ => ?_⟩ | refine ⟨Or.inr rfl, ?_⟩ | refine ⟨Or.inl rfl, ?_⟩ | refine ⟨fun hq => absurd (by assumption) hq, fun _ => ?_⟩ | refine ⟨fun _ => ?_, fun hq => absurd (by assumption) hq⟩ | refine ⟨fun hq => absurd hq (by assumption), fun _ => ?_⟩ | refine ⟨fun _ => ?_, fun hq => absurd hq (by assumption)⟩ | refine ⟨fun _ => ?_, fun hq => absurd (Eq.refl _) hq⟩ | refine ⟨fun hq => absurd (Eq.refl _) hq, fun _ => ?_⟩); conv => whnf)
    try dsimp only
    refine ⟨hz, _, hC, fun wi2 wl2 hF2 hC2 => ?_⟩
    rw [e] at hC2 ⊢
    conv => whnf
    repeat ((first | refine ⟨trivial, ?_⟩ | refine ⟨rfl, ?_⟩ | refine ⟨fun hc => absurd hc (by decide), fun _ => ?_⟩ | refine ⟨fun _ => ?_, fun hc => absurd (by decide) hc⟩ | refine ⟨fun _ => ?_, fun hc => absurd hc (by decide)⟩ | refine ⟨fun hc => absurd (by decide) hc, fun _ => ?_⟩ | refine ⟨Or.inr rfl, ?_⟩ | refine ⟨Or.inl rfl, ?_⟩ | refine ⟨fun hq => absurd (by assumption) hq, fun _ => ?_⟩ | refine ⟨fun _ => ?_, fun hq => absurd (by assumption) hq⟩ | refine ⟨fun hq => absurd hq (by assumption), fun _ => ?_⟩ | refine ⟨fun _ => ?_, fun hq => absurd hq (by assumption)⟩ | refine ⟨fun _ => ?_, fun hq => absurd (Eq.refl _) hq⟩ | refine ⟨fun hq => absurd (Eq.refl _) hq, fun _ => ?_⟩); conv => whnf)
    try dsimp only
    exact fin wi2 wl2 _ _ _ _ _ _ _ 1 hC2 (Or.inr ⟨rfl, hW.symm⟩)
def k_L_518_0 : List zI := [(518, 519, 0, .aload_n 1), (519, 521, 0, .iload 8), (521, 523, 0, .iload 9), (523, 525, 0, .iload 10), (525, 528, 0, .invokevirtual 88), (528, 530, 0, .istore 14), (530, 532, 0, .iload 14), (532, 535, 547, .ifCond .lt 15), (535, 537, 0, .iload 14), (537, 539, 0, .iload 11), (539, 540, 1, .iconst 1), (540, 541, 0, .iadd), (541, 544, 1374, .if_icmp .eq 833), (544, 547, 557, .goto 13), (547, 548, 0, .aload_n 1), (548, 549, 4, .iconst 4), (549, 552, 0, .invokevirtual 30), (552, 554, 0, .iload 11), (554, 557, 1374, .if_icmp .eq 820), (557, 558, 0, .iconst 0), (558, 559, 0, .ireturn)]
theorem ok_L_518_0 : ∀ e ∈ k_L_518_0, z_okb cL_law e = true := fun e h => List.all_eq_true.mp (by decide +kernel : k_L_518_0.all (z_okb cL_law) = true) e h
def k_L_518 : List zI := k_L_518_0
theorem ok_L_518 : ∀ e ∈ k_L_518, z_okb cL_law e = true := ok_L_518_0
def M_L_518 (L : Nat) (xs : Nat → Int32) : zM := (k_L_518, [], [(88, 4, 9, 4, 0, 0, sp_X11_plus), (30, 4, 9, 2, 0, 0, sp_X11_count)], ([], [], []), [], [(91, [true, true, false, false, false, false, true, false, false, false, false, false, false, false, false, false, false, false]), (244, [true, true, false, false, false, false, true, true, true, true, true, true, true, true, false, false, false, false]), (278, [true, true, false, false, false, false, true, true, true, true, true, true, true, true, false, false, false, false]), (334, [true, true, false, false, false, false, true, true, true, true, true, true, true, true, false, false, false, false]), (389, [true, true, false, false, false, false, true, true, true, true, true, true, true, true, false, false, false, false]), (441, [true, true, false, false, false, false, true, true, true, true, true, true, true, true, false, false, false, false]), (454, [true, true, false, false, false, false, true, true, true, true, true, true, true, true, false, false, false, false]), (518, [true, true, false, false, false, false, true, true, true, true, true, true, true, true, false, false, false, false]), (559, [true, true, false, false, false, false, true, true, true, true, true, true, true, true, false, false, false, false]), (602, [true, true, false, false, false, false, true, true, true, true, true, true, true, true, false, false, false, false]), (605, [true, true, false, false, false, false, true, true, true, true, true, true, true, true, true, false, false, false]), (691, [true, true, false, false, false, false, true, true, true, true, true, true, true, true, false, false, false, false]), (707, [true, true, false, false, false, false, true, true, true, true, true, true, true, true, false, false, false, false]), (786, [true, true, false, false, false, false, true, true, true, true, true, true, true, true, false, false, false, false]), (833, [true, true, false, false, false, false, true, true, true, true, true, true, true, true, false, false, false, false]), (945, [true, true, false, false, false, false, true, true, true, true, true, true, true, true, false, false, false, false]), (1007, [true, true, false, false, false, false, true, true, true, true, true, true, true, true, false, false, false, false]), (1046, [true, true, false, false, false, false, true, true, true, true, true, true, true, true, true, true, true, false]), (1102, [true, true, false, false, false, false, true, true, true, true, true, true, true, true, false, false, false, true]), (1156, [true, true, false, false, false, false, true, true, true, true, true, true, true, true, false, false, false, false]), (1221, [true, true, false, false, false, false, true, true, true, true, true, true, true, true, false, false, false, false]), (1237, [true, true, false, false, false, false, true, true, true, true, true, true, true, true, false, false, false, false]), (1286, [true, true, false, false, false, false, true, true, true, true, true, true, true, true, false, false, false, false]), (1302, [true, true, false, false, false, false, true, true, true, true, true, true, true, true, false, false, false, false]), (1374, [true, true, false, false, false, false, true, false, false, false, false, false, true, true, false, false, false, false])], 2, false, (true, L, xs), (600104, 7301314, []))
theorem ca_L_518_0 (l : Launch) (L : Nat) (xs : Nat → Int32) : z_cok l RL room_1 (true, L, xs) (88, 4, 9, 4, 0, 0, sp_X11_plus) := z_ca4 (c_X11_plus l) mb_X11_plus ⟨_, rfl, rfl⟩ wt_637 wt_638 wt_639 (by decide)
theorem ca_L_518_1 (l : Launch) (L : Nat) (xs : Nat → Int32) : z_cok l RL room_1 (true, L, xs) (30, 4, 9, 2, 0, 0, sp_X11_count) := z_ca4 (c_X11_count l) mb_X11_count ⟨_, rfl, rfl⟩ wt_858 wt_859 wt_860 (by decide)
theorem O_L_518 (l : Launch) (L : Nat) (xs : Nat → Int32) : z_OK l RL cL_law room_1 (M_L_518 L xs) := ⟨ok_L_518, fun _ h => absurd h List.not_mem_nil, List.forall_mem_cons.mpr ⟨ca_L_518_0 l L xs, List.forall_mem_cons.mpr ⟨ca_L_518_1 l L xs, fun _ h => absurd h List.not_mem_nil⟩⟩, fun _ h => absurd h List.not_mem_nil, fun _ h => absurd h List.not_mem_nil, fun _ h => absurd h List.not_mem_nil, fun _ h => absurd h List.not_mem_nil, rfl, rfl, fun _ h => absurd h List.not_mem_nil⟩
set_option maxRecDepth 100000 in
theorem act_518 {L : Nat} {xs : Nat → Int32} {Jm : zJ} (hs : lawS M_L_518 L xs Jm) : LAct Jm 518 := by
  intro k i j t c1 c2 W wd w d q c A kp hI hW hi hj ht hc1 hc2 hE
  obtain ⟨hz, hWF, x, tl, hC⟩ := hI
  obtain ⟨G, wi, wl⟩ := w
  dsimp only at hz hC
  have g0 := zG_0 hz
  have h40 : c ≤ 40 := cs_40 (ct_S hC)
  have hq : q = 2 ∨ q = 3 := cs_q23 (ct_S hC)
  have hA : Bd q c A := cs_A (ct_S hC)
  have hd : Dd d := cs_d (ct_S hC)
  have hW729 : W ≤ 729 := Nat.le_trans (Nat.le_of_eq hW) (wr_le d q A c)
  have fin : ∀ (wi2 : Nat → Nat → Int32) (wl2 : Nat → Nat → Int64) (d2 : Nat → Nat) (q2 c' : Nat) (A2 : Nat → Nat → Nat) (kp2 : zK) (x2 : Nat → Nat) (tl2 : Nat × (Nat → Int64)) (f : Nat), CT wi2 wl2 (d2, q2, c', A2, kp2, (0, x2), tl2) → (f = 0 ∨ f = 1 ∧ wr d2 q2 A2 c' = W) → Jm 1374 (alE k W f) [] (G, wi2, wl2) c1 c2 := fun wi2 wl2 d2 q2 c' A2 kp2 x2 tl2 f h hf => hE _ d2 q2 c' A2 kp2 c1 c2 f ⟨hz, hWF, x2, tl2, h⟩ hf (by omega) (by omega)
  unfold alE at fin
  refine hs 400 518 _ _ _ _ _ ?_
  unfold alA
  rcases plus_st d q c A kp x tl (i := i) (j := j) (t := t) h40 (by omega) (by omega) ht with ⟨v, hv, e⟩ | ⟨h1, h2, h3, h4, e⟩
  · conv => whnf
    repeat ((first | rw [rcv4 g0] | refine ⟨trivial, ?_⟩ | refine ⟨rfl, ?_⟩ | refine ⟨fun hc => absurd hc (by decide), fun _ => ?_⟩ | refine ⟨fun _ => ?_, fun hc => absurd (by decide) hc⟩ | refine ⟨fun _ => ?_, fun hc => absurd hc (by decide)⟩ | refine ⟨fun hc => absurd (by decide) hc, fun _ => ?_⟩ | refine ⟨Or.inr rfl, ?_⟩ | refine ⟨Or.inl rfl, ?_⟩ | refine ⟨fun hq => absurd (by assumption) hq, fun _ => ?_⟩ | refine ⟨fun _ => ?_, fun hq => absurd (by assumption) hq⟩ | refine ⟨fun hq => absurd hq (by assumption), fun _ => ?_⟩ | refine ⟨fun _ => ?_, fun hq => absurd hq (by assumption)⟩ | refine ⟨fun _ => ?_, fun hq => absurd (Eq.refl _) hq⟩ | refine ⟨fun hq => absurd (Eq.refl _) hq, fun _ => ?_⟩); conv => whnf)
    try dsimp only
    refine ⟨hz, _, hC, fun wi2 wl2 hF2 hC2 => ?_⟩
    rw [e] at hC2 ⊢
    conv => whnf
    repeat ((first | rw [rcv4 g0] | refine ⟨trivial, ?_⟩ | refine ⟨rfl, ?_⟩ | refine ⟨fun hc => absurd hc (by decide), fun _ => ?_⟩ | refine ⟨fun _ => ?_, fun hc => absurd (by decide) hc⟩ | refine ⟨fun _ => ?_, fun hc => absurd hc (by decide)⟩ | refine ⟨fun hc => absurd (by decide) hc, fun _ => ?_⟩ | refine ⟨Or.inr rfl, ?_⟩ | refine ⟨Or.inl rfl, ?_⟩ | refine ⟨fun hq => absurd (by assumption) hq, fun _ => ?_⟩ | refine ⟨fun _ => ?_, fun hq => absurd (by assumption) hq⟩ | refine ⟨fun hq => absurd hq (by assumption), fun _ => ?_⟩ | refine ⟨fun _ => ?_, fun hq => absurd hq (by assumption)⟩ | refine ⟨fun _ => ?_, fun hq => absurd (Eq.refl _) hq⟩ | refine ⟨fun hq => absurd (Eq.refl _) hq, fun _ => ?_⟩); conv => whnf)
    try dsimp only
    refine ⟨hz, _, hC2, fun wi3 wl3 hF3 hC3 => ?_⟩
    rw [cnt4] at hC3 ⊢
    conv => whnf
    repeat ((first | refine ⟨trivial, ?_⟩ | refine ⟨rfl, ?_⟩ | refine ⟨fun hc => absurd hc (by decide), fun _ => ?_⟩ | refine ⟨fun _ => ?_, fun hc => absurd (by decide) hc⟩ | refine ⟨fun _ => ?_, fun hc => absurd hc (by decide)⟩ | refine ⟨fun hc => absurd (by decide) hc, fun _ => ?_⟩ | refine ⟨Or.inr rfl, ?_⟩ | refine ⟨Or.inl rfl, ?_⟩ | refine ⟨fun hq => absurd (by assumption) hq, fun _ => ?_⟩ | refine ⟨fun _ => ?_, fun hq => absurd (by assumption) hq⟩ | refine ⟨fun hq => absurd hq (by assumption), fun _ => ?_⟩ | refine ⟨fun _ => ?_, fun hq => absurd hq (by assumption)⟩ | refine ⟨fun _ => ?_, fun hq => absurd (Eq.refl _) hq⟩ | refine ⟨fun hq => absurd (Eq.refl _) hq, fun _ => ?_⟩); conv => whnf)
    try dsimp only
    exact fin wi3 wl3 _ _ _ _ _ _ _ 1 hC3 (Or.inr ⟨rfl, hW.symm⟩)
  · have f1 : ¬ nI (c + 1) < nI 0 := nI_nlt (by omega) (by omega)
    have f2 : nI (c + 1) = nI c + nI 1 := (nI_add c 1).symm
    conv => whnf
    repeat ((first | rw [rcv4 g0] | refine ⟨trivial, ?_⟩ | refine ⟨rfl, ?_⟩ | refine ⟨fun hc => absurd hc (by decide), fun _ => ?_⟩ | refine ⟨fun _ => ?_, fun hc => absurd (by decide) hc⟩ | refine ⟨fun _ => ?_, fun hc => absurd hc (by decide)⟩ | refine ⟨fun hc => absurd (by decide) hc, fun _ => ?_⟩ | refine ⟨Or.inr rfl, ?_⟩ | refine ⟨Or.inl rfl, ?_⟩ | refine ⟨fun hq => absurd (by assumption) hq, fun _ => ?_⟩ | refine ⟨fun _ => ?_, fun hq => absurd (by assumption) hq⟩ | refine ⟨fun hq => absurd hq (by assumption), fun _ => ?_⟩ | refine ⟨fun _ => ?_, fun hq => absurd hq (by assumption)⟩ | refine ⟨fun _ => ?_, fun hq => absurd (Eq.refl _) hq⟩ | refine ⟨fun hq => absurd (Eq.refl _) hq, fun _ => ?_⟩); conv => whnf)
    try dsimp only
    refine ⟨hz, _, hC, fun wi2 wl2 hF2 hC2 => ?_⟩
    rw [e] at hC2 ⊢
    conv => whnf
    repeat ((first | refine ⟨trivial, ?_⟩ | refine ⟨rfl, ?_⟩ | refine ⟨fun hc => absurd hc (by decide), fun _ => ?_⟩ | refine ⟨fun _ => ?_, fun hc => absurd (by decide) hc⟩ | refine ⟨fun _ => ?_, fun hc => absurd hc (by decide)⟩ | refine ⟨fun hc => absurd (by decide) hc, fun _ => ?_⟩ | refine ⟨Or.inr rfl, ?_⟩ | refine ⟨Or.inl rfl, ?_⟩ | refine ⟨fun hq => absurd (by assumption) hq, fun _ => ?_⟩ | refine ⟨fun _ => ?_, fun hq => absurd (by assumption) hq⟩ | refine ⟨fun hq => absurd hq (by assumption), fun _ => ?_⟩ | refine ⟨fun _ => ?_, fun hq => absurd hq (by assumption)⟩ | refine ⟨fun _ => ?_, fun hq => absurd (Eq.refl _) hq⟩ | refine ⟨fun hq => absurd (Eq.refl _) hq, fun _ => ?_⟩); conv => whnf)
    try dsimp only
    exact fin wi2 wl2 _ _ _ _ _ _ _ 1 hC2 (Or.inr ⟨rfl, (wr_eqG (px_eqG hq hA h1 h2 h4 h3)).symm.trans hW.symm⟩)

