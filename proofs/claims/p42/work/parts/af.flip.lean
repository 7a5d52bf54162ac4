/-! the law: two products turned -/
section
variable (d : Nat → Nat) (q c : Nat) (A : Nat → Nat → Nat) (kp : zK) (x : Nat → Nat) (tl : Nat × (Nat → Int64))
theorem like_st (hq : q = 2 ∨ q = 3) {i j t : Nat} (hc : c ≤ 40) (hi : i < c) (hj : j < c) (ht : t < 3) : ∃ v, (v < nI 0 ↔ likeN q (A (3 * i + t)) (A (3 * j + t)) = 0) ∧ st_like (d, q, c, A, kp, (0, x), tl) (nI i) (nI j) (nI t) = ((d, q, c, A, kp, (0, x), tl), v) := by
  unfold st_like
  rw [if_pos (show (idB c (nI i) && (idB c (nI j) && idB 3 (nI t))) = true by rw [idB_of hi (by omega), idB_of hj (by omega), idB_of ht (by decide)]; rfl), nI_clamp (by omega), nI_clamp (by omega), nI_clamp (by omega)]
  dsimp only
  have h3 := likeN_lt_q hq (A (3 * i + t)) (A (3 * j + t))
  by_cases h : likeN q (A (3 * i + t)) (A (3 * j + t)) = 0
  · rw [if_pos h]
    exact ⟨mI 2, ⟨fun _ => h, fun _ => by decide⟩, rfl⟩
  · rw [if_neg h]
    exact ⟨_, ⟨fun k => absurd k (nI_nlt (Nat.zero_le _) (by omega)), fun k => absurd k h⟩, rfl⟩
theorem flip_st {i j t : Nat} (hc : c ≤ 40) (hi : i ≤ 40) (hj : j ≤ 40) (ht : t ≤ 3) : (i < c ∧ j < c ∧ t < 3 ∧ i ≠ j ∧ likeN q (A (3 * i + t)) (A (3 * j + t)) ≠ 0 ∧ ∃ m, m ≤ 40 ∧ st_flip (d, q, c, A, kp, (0, x), tl) (nI i) (nI j) (nI t) = ((d, q, c, tfA q A i j t, kp, (0, x), tl), nI m)) ∨ (¬ (i < c ∧ j < c ∧ t < 3 ∧ i ≠ j ∧ likeN q (A (3 * i + t)) (A (3 * j + t)) ≠ 0) ∧ ∃ v, v < nI 0 ∧ st_flip (d, q, c, A, kp, (0, x), tl) (nI i) (nI j) (nI t) = ((d, q, c, A, kp, (0, x), tl), v)) := by
  unfold st_flip
  by_cases h : (idB c (nI i) && (idB c (nI j) && idB 3 (nI t))) = true
  · rw [if_pos (show (idB (d, q, c, A, kp, ((0 : Nat), x), tl).2.2.1 (nI i) && (idB (d, q, c, A, kp, ((0 : Nat), x), tl).2.2.1 (nI j) && idB 3 (nI t))) = true from h)]
    rw [Bool.and_eq_true, Bool.and_eq_true, idB_iff (by omega) (by omega), idB_iff (by omega) (by omega), idB_iff (by omega) (by omega)] at h
    by_cases e : i = j
    · rw [if_pos (by rw [e])]
      exact Or.inr ⟨fun k => k.2.2.2.1 e, mI 2, by decide, rfl⟩
    · rw [if_neg (fun q => e ((nI_eq (by omega) (by omega)).mp q)), nI_clamp (by omega), nI_clamp (by omega), nI_clamp (by omega)]
      by_cases e2 : lkB q A t i j = false
      · rw [if_pos (show lkB (d, q, c, A, kp, ((0 : Nat), x), tl).2.1 (d, q, c, A, kp, ((0 : Nat), x), tl).2.2.2.1 t i j = false from e2)]
        refine Or.inr ⟨fun k => ?_, mI 3, by decide, rfl⟩
        have := lk_of k.2.2.2.2
        rw [e2] at this
        cases this
      · rw [if_neg (show ¬ lkB (d, q, c, A, kp, ((0 : Nat), x), tl).2.1 (d, q, c, A, kp, ((0 : Nat), x), tl).2.2.2.1 t i j = false from e2)]
        exact Or.inl ⟨h.1, h.2.1, h.2.2, e, lk_ne (Bool.not_eq_false _ |>.mp e2), _, Nat.le_trans (fb_ct_le _ _) hc, rfl⟩
  · rw [if_neg (show ¬ (idB (d, q, c, A, kp, ((0 : Nat), x), tl).2.2.1 (nI i) && (idB (d, q, c, A, kp, ((0 : Nat), x), tl).2.2.1 (nI j) && idB 3 (nI t))) = true from h)]
    refine Or.inr ⟨fun k => h ?_, mI 1, by decide, rfl⟩
    rw [Bool.and_eq_true, Bool.and_eq_true, idB_iff (by omega) (by omega), idB_iff (by omega) (by omega), idB_iff (by omega) (by omega)]
    exact ⟨k.1, k.2.1, k.2.2.1⟩
end
def k_L_244_0 : List zI := [(244, 246, 0, .iload 8), (246, 248, 0, .iload 11), (248, 251, 277, .if_icmp .ge 29), (251, 253, 0, .iload 9), (253, 255, 0, .iload 11), (255, 258, 277, .if_icmp .ge 22), (258, 260, 0, .iload 10), (260, 261, 3, .iconst 3), (261, 264, 277, .if_icmp .ge 16), (264, 265, 0, .aload_n 1), (265, 267, 0, .iload 8), (267, 269, 0, .iload 9), (269, 271, 0, .iload 10), (271, 274, 0, .invokevirtual 59), (274, 277, 278, .goto 4), (277, 278, 1, .iconst (-1)), (278, 280, 0, .istore 14), (280, 281, 0, .aload_n 1), (281, 283, 0, .iload 8), (283, 285, 0, .iload 9), (285, 287, 0, .iload 10), (287, 290, 0, .invokevirtual 63), (290, 292, 0, .istore 15), (292, 294, 0, .iload 15), (294, 297, 301, .ifCond .ge 7), (297, 298, 1, .iconst 1), (298, 301, 302, .goto 4), (301, 302, 0, .iconst 0), (302, 304, 0, .iload 14), (304, 307, 314, .ifCond .lt 10), (307, 309, 0, .iload 8), (309, 311, 0, .iload 9), (311, 314, 318, .if_icmp .ne 7), (314, 315, 1, .iconst 1), (315, 318, 319, .goto 4), (318, 319, 0, .iconst 0), (319, 322, 332, .if_icmp .ne 13), (322, 323, 0, .aload_n 1), (323, 324, 4, .iconst 4), (324, 327, 0, .invokevirtual 30)]
theorem ok_L_244_0 : ∀ e ∈ k_L_244_0, z_okb cL_law e = true := fun e h => List.all_eq_true.mp (by decide +kernel : k_L_244_0.all (z_okb cL_law) = true) e h
def k_L_244_1 : List zI := [(327, 329, 0, .iload 11), (329, 332, 1374, .if_icmp .eq 1045), (332, 333, 0, .iconst 0), (333, 334, 0, .ireturn)]
theorem ok_L_244_1 : ∀ e ∈ k_L_244_1, z_okb cL_law e = true := fun e h => List.all_eq_true.mp (by decide +kernel : k_L_244_1.all (z_okb cL_law) = true) e h
def k_L_244 : List zI := k_L_244_0 ++ (k_L_244_1)
theorem ok_L_244 : ∀ e ∈ k_L_244, z_okb cL_law e = true := List.forall_mem_append.mpr ⟨ok_L_244_0, ok_L_244_1⟩
def M_L_244 (L : Nat) (xs : Nat → Int32) : zM := (k_L_244, [], [(59, 4, 9, 4, 0, 0, sp_X11_like), (63, 4, 9, 4, 0, 0, sp_X11_flip), (30, 4, 9, 2, 0, 0, sp_X11_count)], ([], [], []), [], [(91, [true, true, false, false, false, false, true, false, false, false, false, false, false, false, false, false, false, false]), (244, [true, true, false, false, false, false, true, true, true, true, true, true, true, true, false, false, false, false]), (278, [true, true, false, false, false, false, true, true, true, true, true, true, true, true, false, false, false, false]), (334, [true, true, false, false, false, false, true, true, true, true, true, true, true, true, false, false, false, false]), (389, [true, true, false, false, false, false, true, true, true, true, true, true, true, true, false, false, false, false]), (441, [true, true, false, false, false, false, true, true, true, true, true, true, true, true, false, false, false, false]), (454, [true, true, false, false, false, false, true, true, true, true, true, true, true, true, false, false, false, false]), (518, [true, true, false, false, false, false, true, true, true, true, true, true, true, true, false, false, false, false]), (559, [true, true, false, false, false, false, true, true, true, true, true, true, true, true, false, false, false, false]), (602, [true, true, false, false, false, false, true, true, true, true, true, true, true, true, false, false, false, false]), (605, [true, true, false, false, false, false, true, true, true, true, true, true, true, true, true, false, false, false]), (691, [true, true, false, false, false, false, true, true, true, true, true, true, true, true, false, false, false, false]), (707, [true, true, false, false, false, false, true, true, true, true, true, true, true, true, false, false, false, false]), (786, [true, true, false, false, false, false, true, true, true, true, true, true, true, true, false, false, false, false]), (833, [true, true, false, false, false, false, true, true, true, true, true, true, true, true, false, false, false, false]), (945, [true, true, false, false, false, false, true, true, true, true, true, true, true, true, false, false, false, false]), (1007, [true, true, false, false, false, false, true, true, true, true, true, true, true, true, false, false, false, false]), (1046, [true, true, false, false, false, false, true, true, true, true, true, true, true, true, true, true, true, false]), (1102, [true, true, false, false, false, false, true, true, true, true, true, true, true, true, false, false, false, true]), (1156, [true, true, false, false, false, false, true, true, true, true, true, true, true, true, false, false, false, false]), (1221, [true, true, false, false, false, false, true, true, true, true, true, true, true, true, false, false, false, false]), (1237, [true, true, false, false, false, false, true, true, true, true, true, true, true, true, false, false, false, false]), (1286, [true, true, false, false, false, false, true, true, true, true, true, true, true, true, false, false, false, false]), (1302, [true, true, false, false, false, false, true, true, true, true, true, true, true, true, false, false, false, false]), (1374, [true, true, false, false, false, false, true, false, false, false, false, false, true, true, false, false, false, false])], 2, false, (true, L, xs), (600104, 7301314, []))
theorem ca_L_244_0 (l : Launch) (L : Nat) (xs : Nat → Int32) : z_cok l RL room_1 (true, L, xs) (59, 4, 9, 4, 0, 0, sp_X11_like) := z_ca4 (c_X11_like l) mb_X11_like ⟨_, rfl, rfl⟩ wt_501 wt_502 wt_503 (by decide)
theorem ca_L_244_1 (l : Launch) (L : Nat) (xs : Nat → Int32) : z_cok l RL room_1 (true, L, xs) (63, 4, 9, 4, 0, 0, sp_X11_flip) := z_ca4 (c_X11_flip l) mb_X11_flip ⟨_, rfl, rfl⟩ wt_518 wt_519 wt_520 (by decide)
theorem ca_L_244_2 (l : Launch) (L : Nat) (xs : Nat → Int32) : z_cok l RL room_1 (true, L, xs) (30, 4, 9, 2, 0, 0, sp_X11_count) := z_ca4 (c_X11_count l) mb_X11_count ⟨_, rfl, rfl⟩ wt_858 wt_859 wt_860 (by decide)
theorem O_L_244 (l : Launch) (L : Nat) (xs : Nat → Int32) : z_OK l RL cL_law room_1 (M_L_244 L xs) := ⟨ok_L_244, fun _ h => absurd h List.not_mem_nil, List.forall_mem_cons.mpr ⟨ca_L_244_0 l L xs, List.forall_mem_cons.mpr ⟨ca_L_244_1 l L xs, List.forall_mem_cons.mpr ⟨ca_L_244_2 l L xs, fun _ h => absurd h List.not_mem_nil⟩⟩⟩, fun _ h => absurd h List.not_mem_nil, fun _ h => absurd h List.not_mem_nil, fun _ h => absurd h List.not_mem_nil, fun _ h => absurd h List.not_mem_nil, rfl, rfl, fun _ h => absurd h List.not_mem_nil⟩
set_option maxRecDepth 100000 in
theorem act_244 {L : Nat} {xs : Nat → Int32} {Jm : zJ} (hs : lawS M_L_244 L xs Jm) : LAct Jm 244 := by
  intro k i j t c1 c2 W wd w d q c A kp hI hW hi hj ht hc1 hc2 hE
  obtain ⟨hz, hWF, x, tl, hC⟩ := hI
  obtain ⟨G, wi, wl⟩ := w
  dsimp only at hz hC
  have g0 := zG_0 hz
  have h40 : c ≤ 40 := cs_40 (ct_S hC)
  have hq : q = 2 ∨ q = 3 := cs_q23 (ct_S hC)
  have hA : Bd q c A := cs_A (ct_S hC)
  have hd : Dd d := cs_d (ct_S hC)
  have hW729 : W ≤ 729 := Nat.le_trans (Nat.le_of_eq hW) (wr_le d q A c)
  have fin : ∀ (wi2 : Nat → Nat → Int32) (wl2 : Nat → Nat → Int64) (d2 : Nat → Nat) (q2 c' : Nat) (A2 : Nat → Nat → Nat) (kp2 : zK) (x2 : Nat → Nat) (tl2 : Nat × (Nat → Int64)) (f : Nat), CT wi2 wl2 (d2, q2, c', A2, kp2, (0, x2), tl2) → (f = 0 ∨ f = 1 ∧ wr d2 q2 A2 c' = W) → Jm 1374 (alE k W f) [] (G, wi2, wl2) c1 c2 := fun wi2 wl2 d2 q2 c' A2 kp2 x2 tl2 f h hf => hE _ d2 q2 c' A2 kp2 c1 c2 f ⟨hz, hWF, x2, tl2, h⟩ hf (by omega) (by omega)
  unfold alE at fin
  refine hs 400 244 _ _ _ _ _ ?_
  unfold alA
  have h278 : ∀ (wi2 : Nat → Nat → Int32) (wl2 : Nat → Nat → Int64) (v : Int32), CT wi2 wl2 (d, q, c, A, kp, (0, x), tl) → (v < nI 0 ↔ ¬ (i < c ∧ j < c ∧ t < 3 ∧ likeN q (A (3 * i + t)) (A (3 * j + t)) ≠ 0)) → Jm 278 (alA k wd i j t c W) [.int v] (G, wi2, wl2) c1 c2 := by
    intro wi2 wl2 v hC2 hv
    refine hs 400 278 _ _ _ _ _ ?_
    unfold alA
    rcases flip_st d q c A kp x tl (i := i) (j := j) (t := t) h40 (by omega) (by omega) ht with ⟨h1, h2, h3, h4, h5, m, hm, e⟩ | ⟨h1, v2, hv2, e⟩
    · have f1 : ¬ nI m < nI 0 := nI_nlt (Nat.zero_le _) (by omega)
      have f2 : ¬ v < nI 0 := fun q => hv.mp q ⟨h1, h2, h3, h5⟩
      have f3 : ¬ nI i = nI j := fun q => h4 ((nI_eq (by omega) (by omega)).mp q)
      conv => whnf
      repeat ((first | rw [rcv4 g0] | refine ⟨trivial, ?_⟩ | refine ⟨rfl, ?_⟩ | refine ⟨fun hc => absurd hc (by decide), fun _ => ?_⟩ | refine ⟨fun _ => ?_, fun hc => absurd (by decide) hc⟩ | refine ⟨fun _ => ?_, fun hc => absurd hc (by decide)⟩ | refine ⟨fun hc => absurd (by decide) hc, fun _ => ?_⟩ | refine ⟨Or.inr rfl, ?_⟩ | refine ⟨Or.inl rfl, ?_⟩ | refine ⟨fun hq => absurd (by assumption) hq, fun _ => ?_⟩ | refine ⟨fun _ => ?_, fun hq => absurd (by assumption) hq⟩ | refine ⟨fun hq => absurd hq (by assumption), fun _ => ?_⟩ | refine ⟨fun _ => ?_, fun hq => absurd hq (by assumption)⟩ | refine ⟨fun _ => ?_, fun hq => absurd (Eq.refl _) hq⟩ | refine ⟨fun hq => absurd (Eq.refl _) hq, fun _ => ?_⟩); conv => whnf)
      try dsimp only
      refine ⟨hz, _, hC2, fun wi3 wl3 hF3 hC3 => ?_⟩
      rw [e] at hC3 ⊢
      conv => whnf
      repeat ((first | rw [rcv4 g0] | refine ⟨trivial, ?_⟩ | refine ⟨rfl, ?_⟩ | refine ⟨fun hc => absurd hc (by decide), fun _ => ?_⟩ | refine ⟨fun _ => ?_, fun hc => absurd (by decide) hc⟩ | refine ⟨fun _ => ?_, fun hc => absurd hc (by decide)⟩ | refine ⟨fun hc => absurd (by decide) hc, fun _ => ?_⟩ | refine ⟨Or.inr rfl, ?_⟩ | refine ⟨Or.inl rfl, ?_⟩ | refine ⟨fun hq => absurd (by assumption) hq, fun _ => ?_⟩ | refine ⟨fun _ => ?_, fun hq => absurd (by assumption) hq⟩ | refine ⟨fun hq => absurd hq (by assumption), fun _ => ?_⟩ | refine ⟨fun _ => ?_, fun hq => absurd hq (by assumption)⟩ | refine ⟨fun _ => ?_, fun hq => absurd (Eq.refl _) hq⟩ | refine ⟨fun hq => absurd (Eq.refl _) hq, fun _ => ?_⟩); conv => whnf)
      try dsimp only
      refine ⟨hz, _, hC3, fun wi4 wl4 hF4 hC4 => ?_⟩
      rw [cnt4] at hC4 ⊢
      conv => whnf
      repeat ((first | refine ⟨trivial, ?_⟩ | refine ⟨rfl, ?_⟩ | refine ⟨fun hc => absurd hc (by decide), fun _ => ?_⟩ | refine ⟨fun _ => ?_, fun hc => absurd (by decide) hc⟩ | refine ⟨fun _ => ?_, fun hc => absurd hc (by decide)⟩ | refine ⟨fun hc => absurd (by decide) hc, fun _ => ?_⟩ | refine ⟨Or.inr rfl, ?_⟩ | refine ⟨Or.inl rfl, ?_⟩ | refine ⟨fun hq => absurd (by assumption) hq, fun _ => ?_⟩ | refine ⟨fun _ => ?_, fun hq => absurd (by assumption) hq⟩ | refine ⟨fun hq => absurd hq (by assumption), fun _ => ?_⟩ | refine ⟨fun _ => ?_, fun hq => absurd hq (by assumption)⟩ | refine ⟨fun _ => ?_, fun hq => absurd (Eq.refl _) hq⟩ | refine ⟨fun hq => absurd (Eq.refl _) hq, fun _ => ?_⟩); conv => whnf)
      try dsimp only
      exact fin wi4 wl4 _ _ _ _ _ _ _ 1 hC4 (Or.inr ⟨rfl, (wr_eqG (tf_eqG hq hA h1 h2 h4 h3 h5)).symm.trans hW.symm⟩)
    · by_cases h6 : v < nI 0
      · conv => whnf
        repeat ((first | rw [rcv4 g0] | refine ⟨trivial, ?_⟩ | refine ⟨rfl, ?_⟩ | refine ⟨fun hc => absurd hc (by decide), fun _ => ?_⟩ | refine ⟨fun _ => ?_, fun hc => absurd (by decide) hc⟩ | refine ⟨fun _ => ?_, fun hc => absurd hc (by decide)⟩ | refine ⟨fun hc => absurd (by decide) hc, fun _ => ?_⟩ | refine ⟨Or.inr rfl, ?_⟩ | refine ⟨Or.inl rfl, ?_⟩ | refine ⟨fun hq => absurd (by assumption) hq, fun _ => ?_⟩ | refine ⟨fun _ => ?_, fun hq => absurd (by assumption) hq⟩ | refine ⟨fun hq => absurd hq (by assumption), fun _ => ?_⟩ | refine ⟨fun _ => ?_, fun hq => absurd hq (by assumption)⟩ | refine ⟨fun _ => ?_, fun hq => absurd (Eq.refl _) hq⟩ | refine ⟨fun hq => absurd (Eq.refl _) hq, fun _ => ?_⟩); conv => whnf)
        try dsimp only
        refine ⟨hz, _, hC2, fun wi3 wl3 hF3 hC3 => ?_⟩
        rw [e] at hC3 ⊢
        conv => whnf
        repeat ((first | rw [rcv4 g0] | refine ⟨trivial, ?_⟩ | refine ⟨rfl, ?_⟩ | refine ⟨fun hc => absurd hc (by decide), fun _ => ?_⟩ | refine ⟨fun _ => ?_, fun hc => absurd (by decide) hc⟩ | refine ⟨fun _ => ?_, fun hc => absurd hc (by decide)⟩ | refine ⟨fun hc => absurd (by decide) hc, fun _ => ?_⟩ | refine ⟨Or.inr rfl, ?_⟩ | refine ⟨Or.inl rfl, ?_⟩ | refine ⟨fun hq => absurd (by assumption) hq, fun _ => ?_⟩ | refine ⟨fun _ => ?_, fun hq => absurd (by assumption) hq⟩ | refine ⟨fun hq => absurd hq (by assumption), fun _ => ?_⟩ | refine ⟨fun _ => ?_, fun hq => absurd hq (by assumption)⟩ | refine ⟨fun _ => ?_, fun hq => absurd (Eq.refl _) hq⟩ | refine ⟨fun hq => absurd (Eq.refl _) hq, fun _ => ?_⟩); conv => whnf)
        try dsimp only
        refine ⟨hz, _, hC3, fun wi4 wl4 hF4 hC4 => ?_⟩
        rw [cnt4] at hC4 ⊢
        conv => whnf
        repeat ((first | refine ⟨trivial, ?_⟩ | refine ⟨rfl, ?_⟩ | refine ⟨fun hc => absurd hc (by decide), fun _ => ?_⟩ | refine ⟨fun _ => ?_, fun hc => absurd (by decide) hc⟩ | refine ⟨fun _ => ?_, fun hc => absurd hc (by decide)⟩ | refine ⟨fun hc => absurd (by decide) hc, fun _ => ?_⟩ | refine ⟨Or.inr rfl, ?_⟩ | refine ⟨Or.inl rfl, ?_⟩ | refine ⟨fun hq => absurd (by assumption) hq, fun _ => ?_⟩ | refine ⟨fun _ => ?_, fun hq => absurd (by assumption) hq⟩ | refine ⟨fun hq => absurd hq (by assumption), fun _ => ?_⟩ | refine ⟨fun _ => ?_, fun hq => absurd hq (by assumption)⟩ | refine ⟨fun _ => ?_, fun hq => absurd (Eq.refl _) hq⟩ | refine ⟨fun hq => absurd (Eq.refl _) hq, fun _ => ?_⟩); conv => whnf)
        try dsimp only
        exact fin wi4 wl4 _ _ _ _ _ _ _ 1 hC4 (Or.inr ⟨rfl, hW.symm⟩)
      · have f3 : nI i = nI j := by
          have h7 : i < c ∧ j < c ∧ t < 3 ∧ likeN q (A (3 * i + t)) (A (3 * j + t)) ≠ 0 := Decidable.byContradiction fun k => h6 (hv.mpr k)
          have h8 : i = j := Decidable.byContradiction fun k => h1 ⟨h7.1, h7.2.1, h7.2.2.1, k, h7.2.2.2⟩
          rw [h8]
        conv => whnf
        repeat ((first | rw [rcv4 g0] | refine ⟨trivial, ?_⟩ | refine ⟨rfl, ?_⟩ | refine ⟨fun hc => absurd hc (by decide), fun _ => ?_⟩ | refine ⟨fun _ => ?_, fun hc => absurd (by decide) hc⟩ | refine ⟨fun _ => ?_, fun hc => absurd hc (by decide)⟩ | refine ⟨fun hc => absurd (by decide) hc, fun _ => ?_⟩ | refine ⟨Or.inr rfl, ?_⟩ | refine ⟨Or.inl rfl, ?_⟩ | refine ⟨fun hq => absurd (by assumption) hq, fun _ => ?_⟩ | refine ⟨fun _ => ?_, fun hq => absurd (by assumption) hq⟩ | refine ⟨fun hq => absurd hq (by assumption), fun _ => ?_⟩ | refine ⟨fun _ => ?_, fun hq => absurd hq (by assumption)⟩ | refine ⟨fun _ => ?_, fun hq => absurd (Eq.refl _) hq⟩ | refine ⟨fun hq => absurd (Eq.refl _) hq, fun _ => ?_⟩); conv => whnf)
        try dsimp only
        refine ⟨hz, _, hC2, fun wi3 wl3 hF3 hC3 => ?_⟩
        rw [e] at hC3 ⊢
        conv => whnf
        repeat ((first | rw [rcv4 g0] | refine ⟨trivial, ?_⟩ | refine ⟨rfl, ?_⟩ | refine ⟨fun hc => absurd hc (by decide), fun _ => ?_⟩ | refine ⟨fun _ => ?_, fun hc => absurd (by decide) hc⟩ | refine ⟨fun _ => ?_, fun hc => absurd hc (by decide)⟩ | refine ⟨fun hc => absurd (by decide) hc, fun _ => ?_⟩ | refine ⟨Or.inr rfl, ?_⟩ | refine ⟨Or.inl rfl, ?_⟩ | refine ⟨fun hq => absurd (by assumption) hq, fun _ => ?_⟩ | refine ⟨fun _ => ?_, fun hq => absurd (by assumption) hq⟩ | refine ⟨fun hq => absurd hq (by assumption), fun _ => ?_⟩ | refine ⟨fun _ => ?_, fun hq => absurd hq (by assumption)⟩ | refine ⟨fun _ => ?_, fun hq => absurd (Eq.refl _) hq⟩ | refine ⟨fun hq => absurd (Eq.refl _) hq, fun _ => ?_⟩); conv => whnf)
        try dsimp only
        refine ⟨hz, _, hC3, fun wi4 wl4 hF4 hC4 => ?_⟩
        rw [cnt4] at hC4 ⊢
        conv => whnf
        repeat ((first | refine ⟨trivial, ?_⟩ | refine ⟨rfl, ?_⟩ | refine ⟨fun hc => absurd hc (by decide), fun _ => ?_⟩ | refine ⟨fun _ => ?_, fun hc => absurd (by decide) hc⟩ | refine ⟨fun _ => ?_, fun hc => absurd hc (by decide)⟩ | refine ⟨fun hc => absurd (by decide) hc, fun _ => ?_⟩ | refine ⟨Or.inr rfl, ?_⟩ | refine ⟨Or.inl rfl, ?_⟩ | refine ⟨fun hq => absurd (by assumption) hq, fun _ => ?_⟩ | refine ⟨fun _ => ?_, fun hq => absurd (by assumption) hq⟩ | refine ⟨fun hq => absurd hq (by assumption), fun _ => ?_⟩ | refine ⟨fun _ => ?_, fun hq => absurd hq (by assumption)⟩ | refine ⟨fun _ => ?_, fun hq => absurd (Eq.refl _) hq⟩ | refine ⟨fun hq => absurd (Eq.refl _) hq, fun _ => ?_⟩); conv => whnf)
        try dsimp only
        exact fin wi4 wl4 _ _ _ _ _ _ _ 1 hC4 (Or.inr ⟨rfl, hW.symm⟩)
  unfold alA at h278
  have no : ¬ (i < c ∧ j < c ∧ t < 3) → ∀ wi2 wl2, CT wi2 wl2 (d, q, c, A, kp, (0, x), tl) → _ := fun h wi2 wl2 hC2 => h278 wi2 wl2 (mI 1) hC2 ⟨fun _ k => h ⟨k.1, k.2.1, k.2.2.1⟩, fun _ => by decide⟩
  by_cases hi2 : i < c
  · have f1 : nI i < nI c := nI_lt hi2 (by omega)
    by_cases hj2 : j < c
    · have f2 : nI j < nI c := nI_lt hj2 (by omega)
      by_cases ht2 : t < 3
      · have f3 : nI t < nI 3 := nI_lt ht2 (by omega)
        obtain ⟨v, hv, e⟩ := like_st d q c A kp x tl hq h40 hi2 hj2 ht2
        conv => whnf
        repeat ((first | rw [rcv4 g0] | refine ⟨trivial, ?_⟩ | refine ⟨rfl, ?_⟩ | refine ⟨fun hc => absurd hc (by decide), fun _ => ?_⟩ | refine ⟨fun _ => ?_, fun hc => absurd (by decide) hc⟩ | refine ⟨fun _ => ?_, fun hc => absurd hc (by decide)⟩ | refine ⟨fun hc => absurd (by decide) hc, fun _ => ?_⟩ | refine ⟨Or.inr rfl, ?_⟩ | refine ⟨Or.inl rfl, ?_⟩ | refine ⟨fun hq => absurd (by assumption) hq, fun _ => ?_⟩ | refine ⟨fun _ => ?_, fun hq => absurd (by assumption) hq⟩ | refine ⟨fun hq => absurd hq (by assumption), fun _ => ?_⟩ | refine ⟨fun _ => ?_, fun hq => absurd hq (by assumption)⟩ | refine ⟨fun _ => ?_, fun hq => absurd (Eq.refl _) hq⟩ | refine ⟨fun hq => absurd (Eq.refl _) hq, fun _ => ?_⟩); conv => whnf)
        try dsimp only
        refine ⟨hz, _, hC, fun wi3 wl3 hF3 hC3 => ?_⟩
        rw [e] at hC3 ⊢
        conv => whnf
        repeat ((first | refine ⟨trivial, ?_⟩ | refine ⟨rfl, ?_⟩ | refine ⟨fun hc => absurd hc (by decide), fun _ => ?_⟩ | refine ⟨fun _ => ?_, fun hc => absurd (by decide) hc⟩ | refine ⟨fun _ => ?_, fun hc => absurd hc (by decide)⟩ | refine ⟨fun hc => absurd (by decide) hc, fun _ => ?_⟩ | refine ⟨Or.inr rfl, ?_⟩ | refine ⟨Or.inl rfl, ?_⟩ | refine ⟨fun hq => absurd (by assumption) hq, fun _ => ?_⟩ | refine ⟨fun _ => ?_, fun hq => absurd (by assumption) hq⟩ | refine ⟨fun hq => absurd hq (by assumption), fun _ => ?_⟩ | refine ⟨fun _ => ?_, fun hq => absurd hq (by assumption)⟩ | refine ⟨fun _ => ?_, fun hq => absurd (Eq.refl _) hq⟩ | refine ⟨fun hq => absurd (Eq.refl _) hq, fun _ => ?_⟩); conv => whnf)
        try dsimp only
        refine h278 wi3 wl3 v hC3 (hv.trans ⟨fun h k => k.2.2.2 h, fun h => ?_⟩)
        exact Decidable.byContradiction fun k => h ⟨hi2, hj2, ht2, k⟩
      · have f3 : ¬ nI t < nI 3 := nI_nlt (by omega) (by omega)
        conv => whnf
        repeat ((first | refine ⟨trivial, ?_⟩ | refine ⟨rfl, ?_⟩ | refine ⟨fun hc => absurd hc (by decide), fun _ => ?_⟩ | refine ⟨fun _ => ?_, fun hc => absurd (by decide) hc⟩ | refine ⟨fun _ => ?_, fun hc => absurd hc (by decide)⟩ | refine ⟨fun hc => absurd (by decide) hc, fun _ => ?_⟩ | refine ⟨Or.inr rfl, ?_⟩ | refine ⟨Or.inl rfl, ?_⟩ | refine ⟨fun hq => absurd (by assumption) hq, fun _ => ?_⟩ | refine ⟨fun _ => ?_, fun hq => absurd (by assumption) hq⟩ | refine ⟨fun hq => absurd hq (by assumption), fun _ => ?_⟩ | refine ⟨fun _ => ?_, fun hq => absurd hq (by assumption)⟩ | refine ⟨fun _ => ?_, fun hq => absurd (Eq.refl _) hq⟩ | refine ⟨fun hq => absurd (Eq.refl _) hq, fun _ => ?_⟩); conv => whnf)
        try dsimp only
        exact no (fun k => ht2 k.2.2) wi wl hC
    · have f2 : ¬ nI j < nI c := nI_nlt (by omega) (by omega)
      conv => whnf
      repeat ((first | refine ⟨trivial, ?_⟩ | refine ⟨rfl, ?_⟩ | refine ⟨fun hc => absurd hc (by decide), fun _ => ?_⟩ | refine ⟨fun _ => ?_, fun hc => absurd (by decide) hc⟩ | refine ⟨fun _ => ?_, fun hc => absurd hc (by decide)⟩ | refine ⟨fun hc => absurd (by decide) hc, fun _ => ?_⟩ | refine ⟨Or.inr rfl, ?_⟩ | refine ⟨Or.inl rfl, ?_⟩ | refine ⟨fun hq => absurd (by assumption) hq, fun _ => ?_⟩ | refine ⟨fun _ => ?_, fun hq => absurd (by assumption) hq⟩ | refine ⟨fun hq => absurd hq (by assumption), fun _ => ?_⟩ | refine ⟨fun _ => ?_, fun hq => absurd hq (by assumption)⟩ | refine ⟨fun _ => ?_, fun hq => absurd (Eq.refl _) hq⟩ | refine ⟨fun hq => absurd (Eq.refl _) hq, fun _ => ?_⟩); conv => whnf)
      try dsimp only
      exact no (fun k => hj2 k.2.1) wi wl hC
  · have f1 : ¬ nI i < nI c := nI_nlt (by omega) (by omega)
    conv => whnf
    repeat ((first | refine ⟨trivial, ?_⟩ | refine ⟨rfl, ?_⟩ | refine ⟨fun hc => absurd hc (by decide), fun _ => ?_⟩ | refine ⟨fun _ => ?_, fun hc => absurd (by decide) hc⟩ | refine ⟨fun _ => ?_, fun hc => absurd hc (by decide)⟩ | refine ⟨fun hc => absurd (by decide) hc, fun _ => ?_⟩ | refine ⟨Or.inr rfl, ?_⟩ | refine ⟨Or.inl rfl, ?_⟩ | refine ⟨fun hq => absurd (by assumption) hq, fun _ => ?_⟩ | refine ⟨fun _ => ?_, fun hq => absurd (by assumption) hq⟩ | refine ⟨fun hq => absurd hq (by assumption), fun _ => ?_⟩ | refine ⟨fun _ => ?_, fun hq => absurd hq (by assumption)⟩ | refine ⟨fun _ => ?_, fun hq => absurd (Eq.refl _) hq⟩ | refine ⟨fun hq => absurd (Eq.refl _) hq, fun _ => ?_⟩); conv => whnf)
    try dsimp only
    exact no (fun k => hi2 k.1) wi wl hC

