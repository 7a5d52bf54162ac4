/-! the law: products joined, shed; a walk -/
theorem lcmp_self (a : Int64) : lg_cmp a a = nI 0 := (lg_cmp_eq a a).mpr rfl
section
variable (d : Nat → Nat) (q c : Nat) (A : Nat → Nat → Nat) (kp : zK) (x : Nat → Nat) (tl : Nat × (Nat → Int64))
theorem joins_st (hq : q = 2 ∨ q = 3) (hA : Bd q c A) (hc : c ≤ 40) : ∃ (c' z l : Nat) (A' : Nat → Nat → Nat) (tl2 : Nat × (Nat → Int64)), c' + (z + l) = c ∧ Bd q c' A' ∧ eqG q A c A' c' ∧ (¬ fi (hzB A') c' < c' ∧ ¬ jf q A' c' < 4800) ∧ tl2.1 = 2 ∧ tl2.2 0 = lN z ∧ tl2.2 1 = lN l ∧ st_joins (d, q, c, A, kp, (0, x), tl) = ((d, q, c', A', kp, (0, x), tl2), nI (z + l)) := by
  obtain ⟨h1, h2, h3, h4⟩ := jAll_ok hq 40 c A 0 0 hA
  exact ⟨_, _, _, _, _, h3, h1, h2, h4 hc, rfl, rfl, rfl, rfl⟩
theorem joins_no (h : ¬ fi (hzB A) c < c ∧ ¬ jf q A c < 4800) : ∃ tl2, st_joins (d, q, c, A, kp, (0, x), tl) = ((d, q, c, A, kp, (0, x), tl2), nI 0) := by
  unfold st_joins
  rw [show jAll (d, q, c, A, kp, ((0 : Nat), x), tl).2.1 40 ((d, q, c, A, kp, ((0 : Nat), x), tl).2.2.1, (d, q, c, A, kp, ((0 : Nat), x), tl).2.2.2.1, 0, 0) = (c, A, 0, 0) from jAll_fix h.1 h.2 40]
  exact ⟨_, rfl⟩
theorem sheds_st (hq : q = 2 ∨ q = 3) (hA : Bd q c A) (hc : c ≤ 40) : ∃ (c' u v y n : Nat) (A' : Nat → Nat → Nat) (tl2 : Nat × (Nat → Int64)), c' + n = c ∧ u + v + y = n ∧ Bd q c' A' ∧ eqG q A c A' c' ∧ ¬ sf q A' c' < 240 ∧ tl2.1 = 3 ∧ tl2.2 0 = lN u ∧ tl2.2 1 = lN v ∧ tl2.2 2 = lN y ∧ st_sheds (d, q, c, A, kp, (0, x), tl) = ((d, q, c', A', kp, (0, x), tl2), nI n) := by
  obtain ⟨h1, h2, h3, h4, h5⟩ := shAll_ok hq 40 c A (fun _ => 0) 0 hA
  have h5 := h5 hc
  unfold st_sheds shT
  dsimp only at h4 ⊢
  generalize shAll q 40 (c, A, fun _ => 0, 0) = S at h1 h2 h3 h4 h5 ⊢
  exact ⟨S.1, S.2.2.1 0, S.2.2.1 1, S.2.2.1 2, S.2.2.2, S.2.1, _, h3, by omega, h1, h2, h5, rfl, rfl, rfl, rfl, rfl⟩
theorem sheds_no (h : ¬ sf q A c < 240) : ∃ tl2, st_sheds (d, q, c, A, kp, (0, x), tl) = ((d, q, c, A, kp, (0, x), tl2), nI 0) := by
  unfold st_sheds
  rw [show shT (d, q, c, A, kp, ((0 : Nat), x), tl) = (c, A, fun _ => 0, 0) from shAll_fix h 40]
  exact ⟨_, rfl⟩
theorem walks_st (hq : q = 2 ∨ q = 3) (hA : Bd q c A) (hc : c ≤ 40) {s n : Nat} (hs : 1 ≤ s) (hs2 : s ≤ 16777217) (hn : 1 ≤ n) (hn2 : n ≤ 100) : ∃ (c' : Nat) (A' : Nat → Nat → Nat) (tl2 : Nat × (Nat → Int64)), c' ≤ c ∧ Bd q c' A' ∧ eqG q A c A' c' ∧ st_walks (d, q, c, A, kp, (0, x), tl) (nI s) (nI n) = ((d, q, c', A', kp, (0, x), tl2), nI c') := by
  unfold st_walks
  rw [if_pos (show (rgB 1 100 (nI n) && rgB 1 2147483646 (nI s)) = true by
    unfold rgB
    rw [decide_eq_true (p := _ ∧ _) ⟨nI_nlt hn (by omega), nI_nlt hn2 (by decide)⟩, decide_eq_true (p := _ ∧ _) ⟨nI_nlt hs (by omega), nI_nlt (by omega) (by decide)⟩]
    rfl)]
  obtain ⟨h1, h2, h3⟩ := wk_ok hq hc hA (nI s).toNatClampNeg 0 (nI n).toNatClampNeg
  exact ⟨_, _, _, h1, h2, h3, rfl⟩
end
def k_L_334_0 : List zI := [(334, 335, 0, .aload_n 1), (335, 338, 0, .invokevirtual 66), (338, 340, 0, .istore 14), (340, 342, 0, .iload 14), (342, 343, 0, .i2l), (343, 344, 0, .aload_n 1), (344, 345, 0, .iconst 0), (345, 348, 0, .invokevirtual 69), (348, 349, 0, .aload_n 1), (349, 350, 1, .iconst 1), (350, 353, 0, .invokevirtual 69), (353, 354, 0, .ladd), (354, 355, 0, .lcmp), (355, 358, 387, .ifCond .ne 32), (358, 359, 0, .aload_n 1), (359, 360, 4, .iconst 4), (360, 363, 0, .invokevirtual 30), (363, 365, 0, .iload 11), (365, 367, 0, .iload 14), (367, 368, 0, .isub), (368, 371, 387, .if_icmp .ne 19), (371, 372, 0, .aload_n 1), (372, 374, 8, .bipush 8), (374, 377, 0, .invokevirtual 30), (377, 380, 387, .ifCond .ne 10), (380, 381, 0, .aload_n 1), (381, 384, 0, .invokevirtual 66), (384, 387, 1374, .ifCond .eq 990), (387, 388, 0, .iconst 0), (388, 389, 0, .ireturn)]
theorem ok_L_334_0 : ∀ e ∈ k_L_334_0, z_okb cL_law e = true := fun e h => List.all_eq_true.mp (by decide +kernel : k_L_334_0.all (z_okb cL_law) = true) e h
def k_L_334 : List zI := k_L_334_0
theorem ok_L_334 : ∀ e ∈ k_L_334, z_okb cL_law e = true := ok_L_334_0
def M_L_334 (L : Nat) (xs : Nat → Int32) : zM := (k_L_334, [], [(66, 4, 9, 1, 0, 0, sp_X11_joins), (69, 4, 9, 2, 0, 0, sp_X11_row), (30, 4, 9, 2, 0, 0, sp_X11_count)], ([], [], []), [], [(91, [true, true, false, false, false, false, true, false, false, false, false, false, false, false, false, false, false, false]), (244, [true, true, false, false, false, false, true, true, true, true, true, true, true, true, false, false, false, false]), (278, [true, true, false, false, false, false, true, true, true, true, true, true, true, true, false, false, false, false]), (334, [true, true, false, false, false, false, true, true, true, true, true, true, true, true, false, false, false, false]), (389, [true, true, false, false, false, false, true, true, true, true, true, true, true, true, false, false, false, false]), (441, [true, true, false, false, false, false, true, true, true, true, true, true, true, true, false, false, false, false]), (454, [true, true, false, false, false, false, true, true, true, true, true, true, true, true, false, false, false, false]), (518, [true, true, false, false, false, false, true, true, true, true, true, true, true, true, false, false, false, false]), (559, [true, true, false, false, false, false, true, true, true, true, true, true, true, true, false, false, false, false]), (602, [true, true, false, false, false, false, true, true, true, true, true, true, true, true, false, false, false, false]), (605, [true, true, false, false, false, false, true, true, true, true, true, true, true, true, true, false, false, false]), (691, [true, true, false, false, false, false, true, true, true, true, true, true, true, true, false, false, false, false]), (707, [true, true, false, false, false, false, true, true, true, true, true, true, true, true, false, false, false, false]), (786, [true, true, false, false, false, false, true, true, true, true, true, true, true, true, false, false, false, false]), (833, [true, true, false, false, false, false, true, true, true, true, true, true, true, true, false, false, false, false]), (945, [true, true, false, false, false, false, true, true, true, true, true, true, true, true, false, false, false, false]), (1007, [true, true, false, false, false, false, true, true, true, true, true, true, true, true, false, false, false, false]), (1046, [true, true, false, false, false, false, true, true, true, true, true, true, true, true, true, true, true, false]), (1102, [true, true, false, false, false, false, true, true, true, true, true, true, true, true, false, false, false, true]), (1156, [true, true, false, false, false, false, true, true, true, true, true, true, true, true, false, false, false, false]), (1221, [true, true, false, false, false, false, true, true, true, true, true, true, true, true, false, false, false, false]), (1237, [true, true, false, false, false, false, true, true, true, true, true, true, true, true, false, false, false, false]), (1286, [true, true, false, false, false, false, true, true, true, true, true, true, true, true, false, false, false, false]), (1302, [true, true, false, false, false, false, true, true, true, true, true, true, true, true, false, false, false, false]), (1374, [true, true, false, false, false, false, true, false, false, false, false, false, true, true, false, false, false, false])], 2, false, (true, L, xs), (600104, 7301314, []))
theorem ca_L_334_0 (l : Launch) (L : Nat) (xs : Nat → Int32) : z_cok l RL room_1 (true, L, xs) (66, 4, 9, 1, 0, 0, sp_X11_joins) := z_ca4 (c_X11_joins l) mb_X11_joins ⟨_, rfl, rfl⟩ wt_543 wt_544 wt_545 (by decide)
theorem ca_L_334_1 (l : Launch) (L : Nat) (xs : Nat → Int32) : z_cok l RL room_1 (true, L, xs) (69, 4, 9, 2, 0, 0, sp_X11_row) := z_ca4 (c_X11_row l) mb_X11_row ⟨_, rfl, rfl⟩ wt_881 wt_882 wt_883 (by decide)
theorem ca_L_334_2 (l : Launch) (L : Nat) (xs : Nat → Int32) : z_cok l RL room_1 (true, L, xs) (30, 4, 9, 2, 0, 0, sp_X11_count) := z_ca4 (c_X11_count l) mb_X11_count ⟨_, rfl, rfl⟩ wt_858 wt_859 wt_860 (by decide)
theorem O_L_334 (l : Launch) (L : Nat) (xs : Nat → Int32) : z_OK l RL cL_law room_1 (M_L_334 L xs) := ⟨ok_L_334, fun _ h => absurd h List.not_mem_nil, List.forall_mem_cons.mpr ⟨ca_L_334_0 l L xs, List.forall_mem_cons.mpr ⟨ca_L_334_1 l L xs, List.forall_mem_cons.mpr ⟨ca_L_334_2 l L xs, fun _ h => absurd h List.not_mem_nil⟩⟩⟩, fun _ h => absurd h List.not_mem_nil, fun _ h => absurd h List.not_mem_nil, fun _ h => absurd h List.not_mem_nil, fun _ h => absurd h List.not_mem_nil, rfl, rfl, fun _ h => absurd h List.not_mem_nil⟩
set_option maxRecDepth 100000 in
theorem act_334 {L : Nat} {xs : Nat → Int32} {Jm : zJ} (hs : lawS M_L_334 L xs Jm) : LAct Jm 334 := by
  intro k i j t c1 c2 W wd w d q c A kp hI hW hi hj ht hc1 hc2 hE
  obtain ⟨hz, hWF, x, tl, hC⟩ := hI
  obtain ⟨G, wi, wl⟩ := w
  dsimp only at hz hC
  have g0 := zG_0 hz
  have h40 : c ≤ 40 := cs_40 (ct_S hC)
  have hq : q = 2 ∨ q = 3 := cs_q23 (ct_S hC)
  have hA : Bd q c A := cs_A (ct_S hC)
  have hd : Dd d := cs_d (ct_S hC)
  have hW729 : W ≤ 729 := Nat.le_trans (Nat.le_of_eq hW) (wr_le d q A c)
  have fin : ∀ (wi2 : Nat → Nat → Int32) (wl2 : Nat → Nat → Int64) (d2 : Nat → Nat) (q2 c' : Nat) (A2 : Nat → Nat → Nat) (kp2 : zK) (x2 : Nat → Nat) (tl2 : Nat × (Nat → Int64)) (f : Nat), CT wi2 wl2 (d2, q2, c', A2, kp2, (0, x2), tl2) → (f = 0 ∨ f = 1 ∧ wr d2 q2 A2 c' = W) → Jm 1374 (alE k W f) [] (G, wi2, wl2) c1 c2 := fun wi2 wl2 d2 q2 c' A2 kp2 x2 tl2 f h hf => hE _ d2 q2 c' A2 kp2 c1 c2 f ⟨hz, hWF, x2, tl2, h⟩ hf (by omega) (by omega)
  unfold alE at fin
  refine hs 400 334 _ _ _ _ _ ?_
  unfold alA
  obtain ⟨c', z, l, A', tl2, e1, hB, hG, hfix, t0, t1, t2, e⟩ := joins_st d q c A kp x tl hq hA h40
  conv => whnf
  repeat ((first | rw [rcv4 g0] | refine ⟨trivial, ?_⟩ | refine ⟨rfl, ?_⟩ | refine ⟨fun hc => absurd hc (by decide), fun _ => ?_⟩ | refine ⟨fun _ => ?_, fun hc => absurd (by decide) hc⟩ | refine ⟨fun _ => ?_, fun hc => absurd hc (by decide)⟩ | refine ⟨fun hc => absurd (by decide) hc, fun _ => ?_⟩ | refine ⟨Or.inr rfl, ?_⟩ | refine ⟨Or.inl rfl, ?_⟩ | refine ⟨fun hq => absurd (by assumption) hq, fun _ => ?_⟩ | refine ⟨fun _ => ?_, fun hq => absurd (by assumption) hq⟩ | refine ⟨fun hq => absurd hq (by assumption), fun _ => ?_⟩ | refine ⟨fun _ => ?_, fun hq => absurd hq (by assumption)⟩ | refine ⟨fun _ => ?_, fun hq => absurd (Eq.refl _) hq⟩ | refine ⟨fun hq => absurd (Eq.refl _) hq, fun _ => ?_⟩); conv => whnf)
  try dsimp only
  refine ⟨hz, _, hC, fun wi2 wl2 hF2 hC2 => ?_⟩
  rw [e] at hC2 ⊢
  have hi : ∀ n, n < 2 → idx tl2.1 (nI n) := fun n hn => by rw [t0]; exact idx_of hn (by decide)
  conv => whnf
  repeat ((first | rw [rcv4 g0] | refine ⟨trivial, ?_⟩ | refine ⟨rfl, ?_⟩ | refine ⟨fun hc => absurd hc (by decide), fun _ => ?_⟩ | refine ⟨fun _ => ?_, fun hc => absurd (by decide) hc⟩ | refine ⟨fun _ => ?_, fun hc => absurd hc (by decide)⟩ | refine ⟨fun hc => absurd (by decide) hc, fun _ => ?_⟩ | refine ⟨Or.inr rfl, ?_⟩ | refine ⟨Or.inl rfl, ?_⟩ | refine ⟨fun hq => absurd (by assumption) hq, fun _ => ?_⟩ | refine ⟨fun _ => ?_, fun hq => absurd (by assumption) hq⟩ | refine ⟨fun hq => absurd hq (by assumption), fun _ => ?_⟩ | refine ⟨fun _ => ?_, fun hq => absurd hq (by assumption)⟩ | refine ⟨fun _ => ?_, fun hq => absurd (Eq.refl _) hq⟩ | refine ⟨fun hq => absurd (Eq.refl _) hq, fun _ => ?_⟩); conv => whnf)
  try dsimp only
  refine ⟨hz, _, hC2, hi 0 (by decide), ?_⟩
  conv => whnf
  repeat ((first | rw [rcv4 g0] | refine ⟨trivial, ?_⟩ | refine ⟨rfl, ?_⟩ | refine ⟨fun hc => absurd hc (by decide), fun _ => ?_⟩ | refine ⟨fun _ => ?_, fun hc => absurd (by decide) hc⟩ | refine ⟨fun _ => ?_, fun hc => absurd hc (by decide)⟩ | refine ⟨fun hc => absurd (by decide) hc, fun _ => ?_⟩ | refine ⟨Or.inr rfl, ?_⟩ | refine ⟨Or.inl rfl, ?_⟩ | refine ⟨fun hq => absurd (by assumption) hq, fun _ => ?_⟩ | refine ⟨fun _ => ?_, fun hq => absurd (by assumption) hq⟩ | refine ⟨fun hq => absurd hq (by assumption), fun _ => ?_⟩ | refine ⟨fun _ => ?_, fun hq => absurd hq (by assumption)⟩ | refine ⟨fun _ => ?_, fun hq => absurd (Eq.refl _) hq⟩ | refine ⟨fun hq => absurd (Eq.refl _) hq, fun _ => ?_⟩); conv => whnf)
  try dsimp only
  refine ⟨hz, _, hC2, hi 1 (by decide), ?_⟩
  conv => whnf
  repeat ((first | refine ⟨trivial, ?_⟩ | refine ⟨rfl, ?_⟩ | refine ⟨fun hc => absurd hc (by decide), fun _ => ?_⟩ | refine ⟨fun _ => ?_, fun hc => absurd (by decide) hc⟩ | refine ⟨fun _ => ?_, fun hc => absurd hc (by decide)⟩ | refine ⟨fun hc => absurd (by decide) hc, fun _ => ?_⟩ | refine ⟨Or.inr rfl, ?_⟩ | refine ⟨Or.inl rfl, ?_⟩ | refine ⟨fun hq => absurd (by assumption) hq, fun _ => ?_⟩ | refine ⟨fun _ => ?_, fun hq => absurd (by assumption) hq⟩ | refine ⟨fun hq => absurd hq (by assumption), fun _ => ?_⟩ | refine ⟨fun _ => ?_, fun hq => absurd hq (by assumption)⟩ | refine ⟨fun _ => ?_, fun hq => absurd (Eq.refl _) hq⟩ | refine ⟨fun hq => absurd (Eq.refl _) hq, fun _ => ?_⟩); conv => whnf)
  try dsimp only
  have f1 : lg_cmp (nI (z + l)).toInt64 (tl2.2 (nI 0).toNatClampNeg + tl2.2 (nI 1).toNatClampNeg) = nI 0 := by
    rw [nI_clamp (by decide), nI_clamp (by decide), t1, t2, nI_l (by omega), lN_add]
    exact lcmp_self _
  refine ⟨fun hq => absurd f1 hq, fun _ => ?_⟩
  conv => whnf
  repeat ((first | rw [rcv4 g0] | refine ⟨trivial, ?_⟩ | refine ⟨rfl, ?_⟩ | refine ⟨fun hc => absurd hc (by decide), fun _ => ?_⟩ | refine ⟨fun _ => ?_, fun hc => absurd (by decide) hc⟩ | refine ⟨fun _ => ?_, fun hc => absurd hc (by decide)⟩ | refine ⟨fun hc => absurd (by decide) hc, fun _ => ?_⟩ | refine ⟨Or.inr rfl, ?_⟩ | refine ⟨Or.inl rfl, ?_⟩ | refine ⟨fun hq => absurd (by assumption) hq, fun _ => ?_⟩ | refine ⟨fun _ => ?_, fun hq => absurd (by assumption) hq⟩ | refine ⟨fun hq => absurd hq (by assumption), fun _ => ?_⟩ | refine ⟨fun _ => ?_, fun hq => absurd hq (by assumption)⟩ | refine ⟨fun _ => ?_, fun hq => absurd (Eq.refl _) hq⟩ | refine ⟨fun hq => absurd (Eq.refl _) hq, fun _ => ?_⟩); conv => whnf)
  try dsimp only
  refine ⟨hz, _, hC2, fun wi3 wl3 hF3 hC3 => ?_⟩
  rw [cnt4] at hC3 ⊢
  have f2 : nI c' = nI c - nI (z + l) := by rw [nI_sub (by omega)]; congr 1; omega
  conv => whnf
  repeat ((first | rw [rcv4 g0] | refine ⟨trivial, ?_⟩ | refine ⟨rfl, ?_⟩ | refine ⟨fun hc => absurd hc (by decide), fun _ => ?_⟩ | refine ⟨fun _ => ?_, fun hc => absurd (by decide) hc⟩ | refine ⟨fun _ => ?_, fun hc => absurd hc (by decide)⟩ | refine ⟨fun hc => absurd (by decide) hc, fun _ => ?_⟩ | refine ⟨Or.inr rfl, ?_⟩ | refine ⟨Or.inl rfl, ?_⟩ | refine ⟨fun hq => absurd (by assumption) hq, fun _ => ?_⟩ | refine ⟨fun _ => ?_, fun hq => absurd (by assumption) hq⟩ | refine ⟨fun hq => absurd hq (by assumption), fun _ => ?_⟩ | refine ⟨fun _ => ?_, fun hq => absurd hq (by assumption)⟩ | refine ⟨fun _ => ?_, fun hq => absurd (Eq.refl _) hq⟩ | refine ⟨fun hq => absurd (Eq.refl _) hq, fun _ => ?_⟩); conv => whnf)
  try dsimp only
  refine ⟨hz, _, hC3, fun wi4 wl4 hF4 hC4 => ?_⟩
  rw [cnt8, no_zero hfix.1] at hC4 ⊢
  conv => whnf
  repeat ((first | rw [rcv4 g0] | refine ⟨trivial, ?_⟩ | refine ⟨rfl, ?_⟩ | refine ⟨fun hc => absurd hc (by decide), fun _ => ?_⟩ | refine ⟨fun _ => ?_, fun hc => absurd (by decide) hc⟩ | refine ⟨fun _ => ?_, fun hc => absurd hc (by decide)⟩ | refine ⟨fun hc => absurd (by decide) hc, fun _ => ?_⟩ | refine ⟨Or.inr rfl, ?_⟩ | refine ⟨Or.inl rfl, ?_⟩ | refine ⟨fun hq => absurd (by assumption) hq, fun _ => ?_⟩ | refine ⟨fun _ => ?_, fun hq => absurd (by assumption) hq⟩ | refine ⟨fun hq => absurd hq (by assumption), fun _ => ?_⟩ | refine ⟨fun _ => ?_, fun hq => absurd hq (by assumption)⟩ | refine ⟨fun _ => ?_, fun hq => absurd (Eq.refl _) hq⟩ | refine ⟨fun hq => absurd (Eq.refl _) hq, fun _ => ?_⟩); conv => whnf)
  try dsimp only
  obtain ⟨tl3, e3⟩ := joins_no d q c' A' kp x tl2 hfix
  refine ⟨hz, _, hC4, fun wi5 wl5 hF5 hC5 => ?_⟩
  rw [e3] at hC5 ⊢
  conv => whnf
  repeat ((first | refine ⟨trivial, ?_⟩ | refine ⟨rfl, ?_⟩ | refine ⟨fun hc => absurd hc (by decide), fun _ => ?_⟩ | refine ⟨fun _ => ?_, fun hc => absurd (by decide) hc⟩ | refine ⟨fun _ => ?_, fun hc => absurd hc (by decide)⟩ | refine ⟨fun hc => absurd (by decide) hc, fun _ => ?_⟩ | refine ⟨Or.inr rfl, ?_⟩ | refine ⟨Or.inl rfl, ?_⟩ | refine ⟨fun hq => absurd (by assumption) hq, fun _ => ?_⟩ | refine ⟨fun _ => ?_, fun hq => absurd (by assumption) hq⟩ | refine ⟨fun hq => absurd hq (by assumption), fun _ => ?_⟩ | refine ⟨fun _ => ?_, fun hq => absurd hq (by assumption)⟩ | refine ⟨fun _ => ?_, fun hq => absurd (Eq.refl _) hq⟩ | refine ⟨fun hq => absurd (Eq.refl _) hq, fun _ => ?_⟩); conv => whnf)
  try dsimp only
  exact fin wi5 wl5 _ _ _ _ _ _ _ 1 hC5 (Or.inr ⟨rfl, (wr_eqG hG).symm.trans hW.symm⟩)
def k_L_389_0 : List zI := [(389, 390, 0, .aload_n 1), (390, 393, 0, .invokevirtual 73), (393, 395, 0, .istore 14), (395, 397, 0, .iload 14), (397, 398, 0, .i2l), (398, 399, 0, .aload_n 1), (399, 400, 0, .iconst 0), (400, 403, 0, .invokevirtual 69), (403, 404, 0, .aload_n 1), (404, 405, 1, .iconst 1), (405, 408, 0, .invokevirtual 69), (408, 409, 0, .ladd), (409, 410, 0, .aload_n 1), (410, 411, 2, .iconst 2), (411, 414, 0, .invokevirtual 69), (414, 415, 0, .ladd), (415, 416, 0, .lcmp), (416, 419, 439, .ifCond .ne 23), (419, 420, 0, .aload_n 1), (420, 421, 4, .iconst 4), (421, 424, 0, .invokevirtual 30), (424, 426, 0, .iload 11), (426, 428, 0, .iload 14), (428, 429, 0, .isub), (429, 432, 439, .if_icmp .ne 10), (432, 433, 0, .aload_n 1), (433, 436, 0, .invokevirtual 73), (436, 439, 1374, .ifCond .eq 938), (439, 440, 0, .iconst 0), (440, 441, 0, .ireturn)]
theorem ok_L_389_0 : ∀ e ∈ k_L_389_0, z_okb cL_law e = true := fun e h => List.all_eq_true.mp (by decide +kernel : k_L_389_0.all (z_okb cL_law) = true) e h
def k_L_389 : List zI := k_L_389_0
theorem ok_L_389 : ∀ e ∈ k_L_389, z_okb cL_law e = true := ok_L_389_0
def M_L_389 (L : Nat) (xs : Nat → Int32) : zM := (k_L_389, [], [(73, 4, 9, 1, 0, 0, sp_X11_sheds), (69, 4, 9, 2, 0, 0, sp_X11_row), (30, 4, 9, 2, 0, 0, sp_X11_count)], ([], [], []), [], [(91, [true, true, false, false, false, false, true, false, false, false, false, false, false, false, false, false, false, false]), (244, [true, true, false, false, false, false, true, true, true, true, true, true, true, true, false, false, false, false]), (278, [true, true, false, false, false, false, true, true, true, true, true, true, true, true, false, false, false, false]), (334, [true, true, false, false, false, false, true, true, true, true, true, true, true, true, false, false, false, false]), (389, [true, true, false, false, false, false, true, true, true, true, true, true, true, true, false, false, false, false]), (441, [true, true, false, false, false, false, true, true, true, true, true, true, true, true, false, false, false, false]), (454, [true, true, false, false, false, false, true, true, true, true, true, true, true, true, false, false, false, false]), (518, [true, true, false, false, false, false, true, true, true, true, true, true, true, true, false, false, false, false]), (559, [true, true, false, false, false, false, true, true, true, true, true, true, true, true, false, false, false, false]), (602, [true, true, false, false, false, false, true, true, true, true, true, true, true, true, false, false, false, false]), (605, [true, true, false, false, false, false, true, true, true, true, true, true, true, true, true, false, false, false]), (691, [true, true, false, false, false, false, true, true, true, true, true, true, true, true, false, false, false, false]), (707, [true, true, false, false, false, false, true, true, true, true, true, true, true, true, false, false, false, false]), (786, [true, true, false, false, false, false, true, true, true, true, true, true, true, true, false, false, false, false]), (833, [true, true, false, false, false, false, true, true, true, true, true, true, true, true, false, false, false, false]), (945, [true, true, false, false, false, false, true, true, true, true, true, true, true, true, false, false, false, false]), (1007, [true, true, false, false, false, false, true, true, true, true, true, true, true, true, false, false, false, false]), (1046, [true, true, false, false, false, false, true, true, true, true, true, true, true, true, true, true, true, false]), (1102, [true, true, false, false, false, false, true, true, true, true, true, true, true, true, false, false, false, true]), (1156, [true, true, false, false, false, false, true, true, true, true, true, true, true, true, false, false, false, false]), (1221, [true, true, false, false, false, false, true, true, true, true, true, true, true, true, false, false, false, false]), (1237, [true, true, false, false, false, false, true, true, true, true, true, true, true, true, false, false, false, false]), (1286, [true, true, false, false, false, false, true, true, true, true, true, true, true, true, false, false, false, false]), (1302, [true, true, false, false, false, false, true, true, true, true, true, true, true, true, false, false, false, false]), (1374, [true, true, false, false, false, false, true, false, false, false, false, false, true, true, false, false, false, false])], 2, false, (true, L, xs), (600104, 7301314, []))
theorem ca_L_389_0 (l : Launch) (L : Nat) (xs : Nat → Int32) : z_cok l RL room_1 (true, L, xs) (73, 4, 9, 1, 0, 0, sp_X11_sheds) := z_ca4 (c_X11_sheds l) mb_X11_sheds ⟨_, rfl, rfl⟩ wt_568 wt_569 wt_570 (by decide)
theorem ca_L_389_1 (l : Launch) (L : Nat) (xs : Nat → Int32) : z_cok l RL room_1 (true, L, xs) (69, 4, 9, 2, 0, 0, sp_X11_row) := z_ca4 (c_X11_row l) mb_X11_row ⟨_, rfl, rfl⟩ wt_881 wt_882 wt_883 (by decide)
theorem ca_L_389_2 (l : Launch) (L : Nat) (xs : Nat → Int32) : z_cok l RL room_1 (true, L, xs) (30, 4, 9, 2, 0, 0, sp_X11_count) := z_ca4 (c_X11_count l) mb_X11_count ⟨_, rfl, rfl⟩ wt_858 wt_859 wt_860 (by decide)
theorem O_L_389 (l : Launch) (L : Nat) (xs : Nat → Int32) : z_OK l RL cL_law room_1 (M_L_389 L xs) := ⟨ok_L_389, fun _ h => absurd h List.not_mem_nil, List.forall_mem_cons.mpr ⟨ca_L_389_0 l L xs, List.forall_mem_cons.mpr ⟨ca_L_389_1 l L xs, List.forall_mem_cons.mpr ⟨ca_L_389_2 l L xs, fun _ h => absurd h List.not_mem_nil⟩⟩⟩, fun _ h => absurd h List.not_mem_nil, fun _ h => absurd h List.not_mem_nil, fun _ h => absurd h List.not_mem_nil, fun _ h => absurd h List.not_mem_nil, rfl, rfl, fun _ h => absurd h List.not_mem_nil⟩
set_option maxRecDepth 100000 in
theorem act_389 {L : Nat} {xs : Nat → Int32} {Jm : zJ} (hs : lawS M_L_389 L xs Jm) : LAct Jm 389 := by
  intro k i j t c1 c2 W wd w d q c A kp hI hW hi hj ht hc1 hc2 hE
  obtain ⟨hz, hWF, x, tl, hC⟩ := hI
  obtain ⟨G, wi, wl⟩ := w
  dsimp only at hz hC
  have g0 := zG_0 hz
  have h40 : c ≤ 40 := cs_40 (ct_S hC)
  have hq : q = 2 ∨ q = 3 := cs_q23 (ct_S hC)
  have hA : Bd q c A := cs_A (ct_S hC)
  have hd : Dd d := cs_d (ct_S hC)
  have hW729 : W ≤ 729 := Nat.le_trans (Nat.le_of_eq hW) (wr_le d q A c)
  have fin : ∀ (wi2 : Nat → Nat → Int32) (wl2 : Nat → Nat → Int64) (d2 : Nat → Nat) (q2 c' : Nat) (A2 : Nat → Nat → Nat) (kp2 : zK) (x2 : Nat → Nat) (tl2 : Nat × (Nat → Int64)) (f : Nat), CT wi2 wl2 (d2, q2, c', A2, kp2, (0, x2), tl2) → (f = 0 ∨ f = 1 ∧ wr d2 q2 A2 c' = W) → Jm 1374 (alE k W f) [] (G, wi2, wl2) c1 c2 := fun wi2 wl2 d2 q2 c' A2 kp2 x2 tl2 f h hf => hE _ d2 q2 c' A2 kp2 c1 c2 f ⟨hz, hWF, x2, tl2, h⟩ hf (by omega) (by omega)
  unfold alE at fin
  refine hs 400 389 _ _ _ _ _ ?_
  unfold alA
  obtain ⟨c', u, v, y, n, A', tl2, e1, e2, hB, hG, hfix, t0, t1, t2, t3', e⟩ := sheds_st d q c A kp x tl hq hA h40
  conv => whnf
  repeat ((first | rw [rcv4 g0] | refine ⟨trivial, ?_⟩ | refine ⟨rfl, ?_⟩ | refine ⟨fun hc => absurd hc (by decide), fun _ => ?_⟩ | refine ⟨fun _ => ?_, fun hc => absurd (by decide) hc⟩ | refine ⟨fun _ => ?_, fun hc => absurd hc (by decide)⟩ | refine ⟨fun hc => absurd (by decide) hc, fun _ => ?_⟩ | refine ⟨Or.inr rfl, ?_⟩ | refine ⟨Or.inl rfl, ?_⟩ | refine ⟨fun hq => absurd (by assumption) hq, fun _ => ?_⟩ | refine ⟨fun _ => ?_, fun hq => absurd (by assumption) hq⟩ | refine ⟨fun hq => absurd hq (by assumption), fun _ => ?_⟩ | refine ⟨fun _ => ?_, fun hq => absurd hq (by assumption)⟩ | refine ⟨fun _ => ?_, fun hq => absurd (Eq.refl _) hq⟩ | refine ⟨fun hq => absurd (Eq.refl _) hq, fun _ => ?_⟩); conv => whnf)
  try dsimp only
  refine ⟨hz, _, hC, fun wi2 wl2 hF2 hC2 => ?_⟩
  rw [e] at hC2 ⊢
  have hi : ∀ n, n < 3 → idx tl2.1 (nI n) := fun n hn => by rw [t0]; exact idx_of hn (by decide)
  conv => whnf
  repeat ((first | rw [rcv4 g0] | refine ⟨trivial, ?_⟩ | refine ⟨rfl, ?_⟩ | refine ⟨fun hc => absurd hc (by decide), fun _ => ?_⟩ | refine ⟨fun _ => ?_, fun hc => absurd (by decide) hc⟩ | refine ⟨fun _ => ?_, fun hc => absurd hc (by decide)⟩ | refine ⟨fun hc => absurd (by decide) hc, fun _ => ?_⟩ | refine ⟨Or.inr rfl, ?_⟩ | refine ⟨Or.inl rfl, ?_⟩ | refine ⟨fun hq => absurd (by assumption) hq, fun _ => ?_⟩ | refine ⟨fun _ => ?_, fun hq => absurd (by assumption) hq⟩ | refine ⟨fun hq => absurd hq (by assumption), fun _ => ?_⟩ | refine ⟨fun _ => ?_, fun hq => absurd hq (by assumption)⟩ | refine ⟨fun _ => ?_, fun hq => absurd (Eq.refl _) hq⟩ | refine ⟨fun hq => absurd (Eq.refl _) hq, fun _ => ?_⟩); conv => whnf)
  try dsimp only
  refine ⟨hz, _, hC2, hi 0 (by decide), ?_⟩
  conv => whnf
  repeat ((first | rw [rcv4 g0] | refine ⟨trivial, ?_⟩ | refine ⟨rfl, ?_⟩ | refine ⟨fun hc => absurd hc (by decide), fun _ => ?_⟩ | refine ⟨fun _ => ?_, fun hc => absurd (by decide) hc⟩ | refine ⟨fun _ => ?_, fun hc => absurd hc (by decide)⟩ | refine ⟨fun hc => absurd (by decide) hc, fun _ => ?_⟩ | refine ⟨Or.inr rfl, ?_⟩ | refine ⟨Or.inl rfl, ?_⟩ | refine ⟨fun hq => absurd (by assumption) hq, fun _ => ?_⟩ | refine ⟨fun _ => ?_, fun hq => absurd (by assumption) hq⟩ | refine ⟨fun hq => absurd hq (by assumption), fun _ => ?_⟩ | refine ⟨fun _ => ?_, fun hq => absurd hq (by assumption)⟩ | refine ⟨fun _ => ?_, fun hq => absurd (Eq.refl _) hq⟩ | refine ⟨fun hq => absurd (Eq.refl _) hq, fun _ => ?_⟩); conv => whnf)
  try dsimp only
  refine ⟨hz, _, hC2, hi 1 (by decide), ?_⟩
  conv => whnf
  repeat ((first | rw [rcv4 g0] | refine ⟨trivial, ?_⟩ | refine ⟨rfl, ?_⟩ | refine ⟨fun hc => absurd hc (by decide), fun _ => ?_⟩ | refine ⟨fun _ => ?_, fun hc => absurd (by decide) hc⟩ | refine ⟨fun _ => ?_, fun hc => absurd hc (by decide)⟩ | refine ⟨fun hc => absurd (by decide) hc, fun _ => ?_⟩ | refine ⟨Or.inr rfl, ?_⟩ | refine ⟨Or.inl rfl, ?_⟩ | refine ⟨fun hq => absurd (by assumption) hq, fun _ => ?_⟩ | refine ⟨fun _ => ?_, fun hq => absurd (by assumption) hq⟩ | refine ⟨fun hq => absurd hq (by assumption), fun _ => ?_⟩ | refine ⟨fun _ => ?_, fun hq => absurd hq (by assumption)⟩ | refine ⟨fun _ => ?_, fun hq => absurd (Eq.refl _) hq⟩ | refine ⟨fun hq => absurd (Eq.refl _) hq, fun _ => ?_⟩); conv => whnf)
  try dsimp only
  refine ⟨hz, _, hC2, hi 2 (by decide), ?_⟩
  conv => whnf
  repeat ((first | refine ⟨trivial, ?_⟩ | refine ⟨rfl, ?_⟩ | refine ⟨fun hc => absurd hc (by decide), fun _ => ?_⟩ | refine ⟨fun _ => ?_, fun hc => absurd (by decide) hc⟩ | refine ⟨fun _ => ?_, fun hc => absurd hc (by decide)⟩ | refine ⟨fun hc => absurd (by decide) hc, fun _ => ?_⟩ | refine ⟨Or.inr rfl, ?_⟩ | refine ⟨Or.inl rfl, ?_⟩ | refine ⟨fun hq => absurd (by assumption) hq, fun _ => ?_⟩ | refine ⟨fun _ => ?_, fun hq => absurd (by assumption) hq⟩ | refine ⟨fun hq => absurd hq (by assumption), fun _ => ?_⟩ | refine ⟨fun _ => ?_, fun hq => absurd hq (by assumption)⟩ | refine ⟨fun _ => ?_, fun hq => absurd (Eq.refl _) hq⟩ | refine ⟨fun hq => absurd (Eq.refl _) hq, fun _ => ?_⟩); conv => whnf)
  try dsimp only
  have f1 : lg_cmp (nI n).toInt64 (tl2.2 (nI 0).toNatClampNeg + tl2.2 (nI 1).toNatClampNeg + tl2.2 (nI 2).toNatClampNeg) = nI 0 := by
    rw [nI_clamp (by decide), nI_clamp (by decide), nI_clamp (by decide), t1, t2, t3', nI_l (by omega), lN_add, lN_add, e2]
    exact lcmp_self _
  refine ⟨fun hq => absurd f1 hq, fun _ => ?_⟩
  conv => whnf
  repeat ((first | rw [rcv4 g0] | refine ⟨trivial, ?_⟩ | refine ⟨rfl, ?_⟩ | refine ⟨fun hc => absurd hc (by decide), fun _ => ?_⟩ | refine ⟨fun _ => ?_, fun hc => absurd (by decide) hc⟩ | refine ⟨fun _ => ?_, fun hc => absurd hc (by decide)⟩ | refine ⟨fun hc => absurd (by decide) hc, fun _ => ?_⟩ | refine ⟨Or.inr rfl, ?_⟩ | refine ⟨Or.inl rfl, ?_⟩ | refine ⟨fun hq => absurd (by assumption) hq, fun _ => ?_⟩ | refine ⟨fun _ => ?_, fun hq => absurd (by assumption) hq⟩ | refine ⟨fun hq => absurd hq (by assumption), fun _ => ?_⟩ | refine ⟨fun _ => ?_, fun hq => absurd hq (by assumption)⟩ | refine ⟨fun _ => ?_, fun hq => absurd (Eq.refl _) hq⟩ | refine ⟨fun hq => absurd (Eq.refl _) hq, fun _ => ?_⟩); conv => whnf)
  try dsimp only
  refine ⟨hz, _, hC2, fun wi3 wl3 hF3 hC3 => ?_⟩
  rw [cnt4] at hC3 ⊢
  have f2 : nI c' = nI c - nI n := by rw [nI_sub (by omega)]; congr 1; omega
  conv => whnf
  repeat ((first | rw [rcv4 g0] | refine ⟨trivial, ?_⟩ | refine ⟨rfl, ?_⟩ | refine ⟨fun hc => absurd hc (by decide), fun _ => ?_⟩ | refine ⟨fun _ => ?_, fun hc => absurd (by decide) hc⟩ | refine ⟨fun _ => ?_, fun hc => absurd hc (by decide)⟩ | refine ⟨fun hc => absurd (by decide) hc, fun _ => ?_⟩ | refine ⟨Or.inr rfl, ?_⟩ | refine ⟨Or.inl rfl, ?_⟩ | refine ⟨fun hq => absurd (by assumption) hq, fun _ => ?_⟩ | refine ⟨fun _ => ?_, fun hq => absurd (by assumption) hq⟩ | refine ⟨fun hq => absurd hq (by assumption), fun _ => ?_⟩ | refine ⟨fun _ => ?_, fun hq => absurd hq (by assumption)⟩ | refine ⟨fun _ => ?_, fun hq => absurd (Eq.refl _) hq⟩ | refine ⟨fun hq => absurd (Eq.refl _) hq, fun _ => ?_⟩); conv => whnf)
  try dsimp only
  obtain ⟨tl3, e3⟩ := sheds_no d q c' A' kp x tl2 hfix
  refine ⟨hz, _, hC3, fun wi5 wl5 hF5 hC5 => ?_⟩
  rw [e3] at hC5 ⊢
  conv => whnf
  repeat ((first | refine ⟨trivial, ?_⟩ | refine ⟨rfl, ?_⟩ | refine ⟨fun hc => absurd hc (by decide), fun _ => ?_⟩ | refine ⟨fun _ => ?_, fun hc => absurd (by decide) hc⟩ | refine ⟨fun _ => ?_, fun hc => absurd hc (by decide)⟩ | refine ⟨fun hc => absurd (by decide) hc, fun _ => ?_⟩ | refine ⟨Or.inr rfl, ?_⟩ | refine ⟨Or.inl rfl, ?_⟩ | refine ⟨fun hq => absurd (by assumption) hq, fun _ => ?_⟩ | refine ⟨fun _ => ?_, fun hq => absurd (by assumption) hq⟩ | refine ⟨fun hq => absurd hq (by assumption), fun _ => ?_⟩ | refine ⟨fun _ => ?_, fun hq => absurd hq (by assumption)⟩ | refine ⟨fun _ => ?_, fun hq => absurd (Eq.refl _) hq⟩ | refine ⟨fun hq => absurd (Eq.refl _) hq, fun _ => ?_⟩); conv => whnf)
  try dsimp only
  exact fin wi5 wl5 _ _ _ _ _ _ _ 1 hC5 (Or.inr ⟨rfl, (wr_eqG hG).symm.trans hW.symm⟩)
def k_L_559_0 : List zI := [(559, 560, 0, .aload_n 1), (560, 562, 0, .iload 7), (562, 563, 4, .iconst 4), (563, 564, 0, .iushr), (564, 566, 0, .ldc 91), (566, 567, 0, .iand), (567, 568, 1, .iconst 1), (568, 569, 0, .iadd), (569, 570, 1, .iconst 1), (570, 572, 0, .iload 7), (572, 574, 28, .bipush 28), (574, 575, 0, .iushr), (575, 576, 3, .iconst 3), (576, 577, 0, .iand), (577, 578, 0, .iadd), (578, 581, 0, .invokevirtual 92), (581, 583, 0, .istore 14), (583, 585, 0, .iload 14), (585, 586, 0, .aload_n 1), (586, 587, 4, .iconst 4), (587, 590, 0, .invokevirtual 30), (590, 593, 600, .if_icmp .ne 10), (593, 595, 0, .iload 14), (595, 597, 0, .iload 11), (597, 600, 1374, .if_icmp .le 777), (600, 601, 0, .iconst 0), (601, 602, 0, .ireturn)]
theorem ok_L_559_0 : ∀ e ∈ k_L_559_0, z_okb cL_law e = true := fun e h => List.all_eq_true.mp (by decide +kernel : k_L_559_0.all (z_okb cL_law) = true) e h
def k_L_559 : List zI := k_L_559_0
theorem ok_L_559 : ∀ e ∈ k_L_559, z_okb cL_law e = true := ok_L_559_0
def M_L_559 (L : Nat) (xs : Nat → Int32) : zM := (k_L_559, [], [(92, 4, 9, 3, 0, 0, sp_X11_walks), (30, 4, 9, 2, 0, 0, sp_X11_count)], ([(91, 16777215)], [], []), [], [(91, [true, true, false, false, false, false, true, false, false, false, false, false, false, false, false, false, false, false]), (244, [true, true, false, false, false, false, true, true, true, true, true, true, true, true, false, false, false, false]), (278, [true, true, false, false, false, false, true, true, true, true, true, true, true, true, false, false, false, false]), (334, [true, true, false, false, false, false, true, true, true, true, true, true, true, true, false, false, false, false]), (389, [true, true, false, false, false, false, true, true, true, true, true, true, true, true, false, false, false, false]), (441, [true, true, false, false, false, false, true, true, true, true, true, true, true, true, false, false, false, false]), (454, [true, true, false, false, false, false, true, true, true, true, true, true, true, true, false, false, false, false]), (518, [true, true, false, false, false, false, true, true, true, true, true, true, true, true, false, false, false, false]), (559, [true, true, false, false, false, false, true, true, true, true, true, true, true, true, false, false, false, false]), (602, [true, true, false, false, false, false, true, true, true, true, true, true, true, true, false, false, false, false]), (605, [true, true, false, false, false, false, true, true, true, true, true, true, true, true, true, false, false, false]), (691, [true, true, false, false, false, false, true, true, true, true, true, true, true, true, false, false, false, false]), (707, [true, true, false, false, false, false, true, true, true, true, true, true, true, true, false, false, false, false]), (786, [true, true, false, false, false, false, true, true, true, true, true, true, true, true, false, false, false, false]), (833, [true, true, false, false, false, false, true, true, true, true, true, true, true, true, false, false, false, false]), (945, [true, true, false, false, false, false, true, true, true, true, true, true, true, true, false, false, false, false]), (1007, [true, true, false, false, false, false, true, true, true, true, true, true, true, true, false, false, false, false]), (1046, [true, true, false, false, false, false, true, true, true, true, true, true, true, true, true, true, true, false]), (1102, [true, true, false, false, false, false, true, true, true, true, true, true, true, true, false, false, false, true]), (1156, [true, true, false, false, false, false, true, true, true, true, true, true, true, true, false, false, false, false]), (1221, [true, true, false, false, false, false, true, true, true, true, true, true, true, true, false, false, false, false]), (1237, [true, true, false, false, false, false, true, true, true, true, true, true, true, true, false, false, false, false]), (1286, [true, true, false, false, false, false, true, true, true, true, true, true, true, true, false, false, false, false]), (1302, [true, true, false, false, false, false, true, true, true, true, true, true, true, true, false, false, false, false]), (1374, [true, true, false, false, false, false, true, false, false, false, false, false, true, true, false, false, false, false])], 2, false, (true, L, xs), (600104, 7301314, []))
theorem ca_L_559_0 (l : Launch) (L : Nat) (xs : Nat → Int32) : z_cok l RL room_1 (true, L, xs) (92, 4, 9, 3, 0, 0, sp_X11_walks) := z_ca4 (c_X11_walks l) mb_X11_walks ⟨_, rfl, rfl⟩ wt_682 wt_683 wt_684 (by decide)
theorem ca_L_559_1 (l : Launch) (L : Nat) (xs : Nat → Int32) : z_cok l RL room_1 (true, L, xs) (30, 4, 9, 2, 0, 0, sp_X11_count) := z_ca4 (c_X11_count l) mb_X11_count ⟨_, rfl, rfl⟩ wt_858 wt_859 wt_860 (by decide)
theorem O_L_559 (l : Launch) (L : Nat) (xs : Nat → Int32) : z_OK l RL cL_law room_1 (M_L_559 L xs) := ⟨ok_L_559, fun _ h => absurd h List.not_mem_nil, List.forall_mem_cons.mpr ⟨ca_L_559_0 l L xs, List.forall_mem_cons.mpr ⟨ca_L_559_1 l L xs, fun _ h => absurd h List.not_mem_nil⟩⟩, List.forall_mem_cons.mpr ⟨wt_1263, fun _ h => absurd h List.not_mem_nil⟩, fun _ h => absurd h List.not_mem_nil, fun _ h => absurd h List.not_mem_nil, fun _ h => absurd h List.not_mem_nil, rfl, rfl, fun _ h => absurd h List.not_mem_nil⟩
set_option maxRecDepth 100000 in
theorem act_559 {L : Nat} {xs : Nat → Int32} {Jm : zJ} (hs : lawS M_L_559 L xs Jm) : LAct Jm 559 := by
  intro k i j t c1 c2 W wd w d q c A kp hI hW hi hj ht hc1 hc2 hE
  obtain ⟨hz, hWF, x, tl, hC⟩ := hI
  obtain ⟨G, wi, wl⟩ := w
  dsimp only at hz hC
  have g0 := zG_0 hz
  have h40 : c ≤ 40 := cs_40 (ct_S hC)
  have hq : q = 2 ∨ q = 3 := cs_q23 (ct_S hC)
  have hA : Bd q c A := cs_A (ct_S hC)
  have hd : Dd d := cs_d (ct_S hC)
  have hW729 : W ≤ 729 := Nat.le_trans (Nat.le_of_eq hW) (wr_le d q A c)
  have fin : ∀ (wi2 : Nat → Nat → Int32) (wl2 : Nat → Nat → Int64) (d2 : Nat → Nat) (q2 c' : Nat) (A2 : Nat → Nat → Nat) (kp2 : zK) (x2 : Nat → Nat) (tl2 : Nat × (Nat → Int64)) (f : Nat), CT wi2 wl2 (d2, q2, c', A2, kp2, (0, x2), tl2) → (f = 0 ∨ f = 1 ∧ wr d2 q2 A2 c' = W) → Jm 1374 (alE k W f) [] (G, wi2, wl2) c1 c2 := fun wi2 wl2 d2 q2 c' A2 kp2 x2 tl2 f h hf => hE _ d2 q2 c' A2 kp2 c1 c2 f ⟨hz, hWF, x2, tl2, h⟩ hf (by omega) (by omega)
  unfold alE at fin
  refine hs 400 559 _ _ _ _ _ ?_
  unfold alA
  obtain ⟨s, hs1, es⟩ := and_le (z_shr wd (nI 4)) 16777215
  obtain ⟨n, hn1, en⟩ := and_le (z_shr wd (nI 28)) 3
  have e0 : (16777215 : Int32) = nI 16777215 := by decide
  obtain ⟨c', A', tl2, hc', hB, hG, e⟩ := walks_st d q c A kp x tl hq hA h40 (s := s + 1) (n := 1 + n) (by omega) (by omega) (by omega) (by omega)
  conv => whnf
  repeat ((first | rw [rcv4 g0] | refine ⟨trivial, ?_⟩ | refine ⟨rfl, ?_⟩ | refine ⟨fun hc => absurd hc (by decide), fun _ => ?_⟩ | refine ⟨fun _ => ?_, fun hc => absurd (by decide) hc⟩ | refine ⟨fun _ => ?_, fun hc => absurd hc (by decide)⟩ | refine ⟨fun hc => absurd (by decide) hc, fun _ => ?_⟩ | refine ⟨Or.inr rfl, ?_⟩ | refine ⟨Or.inl rfl, ?_⟩ | refine ⟨fun hq => absurd (by assumption) hq, fun _ => ?_⟩ | refine ⟨fun _ => ?_, fun hq => absurd (by assumption) hq⟩ | refine ⟨fun hq => absurd hq (by assumption), fun _ => ?_⟩ | refine ⟨fun _ => ?_, fun hq => absurd hq (by assumption)⟩ | refine ⟨fun _ => ?_, fun hq => absurd (Eq.refl _) hq⟩ | refine ⟨fun hq => absurd (Eq.refl _) hq, fun _ => ?_⟩); conv => whnf)
  try dsimp only
  refine ⟨hz, _, hC, fun wi2 wl2 hF2 hC2 => ?_⟩
  rw [e0, es, en, nI_add, nI_add, e] at hC2 ⊢
  conv => whnf
  repeat ((first | rw [rcv4 g0] | refine ⟨trivial, ?_⟩ | refine ⟨rfl, ?_⟩ | refine ⟨fun hc => absurd hc (by decide), fun _ => ?_⟩ | refine ⟨fun _ => ?_, fun hc => absurd (by decide) hc⟩ | refine ⟨fun _ => ?_, fun hc => absurd hc (by decide)⟩ | refine ⟨fun hc => absurd (by decide) hc, fun _ => ?_⟩ | refine ⟨Or.inr rfl, ?_⟩ | refine ⟨Or.inl rfl, ?_⟩ | refine ⟨fun hq => absurd (by assumption) hq, fun _ => ?_⟩ | refine ⟨fun _ => ?_, fun hq => absurd (by assumption) hq⟩ | refine ⟨fun hq => absurd hq (by assumption), fun _ => ?_⟩ | refine ⟨fun _ => ?_, fun hq => absurd hq (by assumption)⟩ | refine ⟨fun _ => ?_, fun hq => absurd (Eq.refl _) hq⟩ | refine ⟨fun hq => absurd (Eq.refl _) hq, fun _ => ?_⟩); conv => whnf)
  try dsimp only
  refine ⟨hz, _, hC2, fun wi3 wl3 hF3 hC3 => ?_⟩
  rw [cnt4] at hC3 ⊢
  have f1 : ¬ nI c < nI c' := nI_nlt hc' (by omega)
  conv => whnf
  repeat ((first | refine ⟨trivial, ?_⟩ | refine ⟨rfl, ?_⟩ | refine ⟨fun hc => absurd hc (by decide), fun _ => ?_⟩ | refine ⟨fun _ => ?_, fun hc => absurd (by decide) hc⟩ | refine ⟨fun _ => ?_, fun hc => absurd hc (by decide)⟩ | refine ⟨fun hc => absurd (by decide) hc, fun _ => ?_⟩ | refine ⟨Or.inr rfl, ?_⟩ | refine ⟨Or.inl rfl, ?_⟩ | refine ⟨fun hq => absurd (by assumption) hq, fun _ => ?_⟩ | refine ⟨fun _ => ?_, fun hq => absurd (by assumption) hq⟩ | refine ⟨fun hq => absurd hq (by assumption), fun _ => ?_⟩ | refine ⟨fun _ => ?_, fun hq => absurd hq (by assumption)⟩ | refine ⟨fun _ => ?_, fun hq => absurd (Eq.refl _) hq⟩ | refine ⟨fun hq => absurd (Eq.refl _) hq, fun _ => ?_⟩); conv => whnf)
  try dsimp only
  exact fin wi3 wl3 _ _ _ _ _ _ _ 1 hC3 (Or.inr ⟨rfl, (wr_eqG hG).symm.trans hW.symm⟩)

