/-! the law: turned about, mirrored; sheared -/
section
variable (d : Nat → Nat) (q c : Nat) (A : Nat → Nat → Nat) (kp : zK) (x : Nat → Nat) (tl : Nat × (Nat → Int64))
theorem keeps_st : st_keeps (d, q, c, A, kp, (0, x), tl) = ((d, q, c, A, (true, d, c, A), (0, x), tl), nI c) := rfl
theorem rolls_st : st_rolls (d, q, c, A, kp, (0, x), tl) = ((nxD d, q, c, rlA A, kp, (0, x), tl), nI c) := rfl
theorem mirrors_st : st_mirrors (d, q, c, A, kp, (0, x), tl) = ((mrD d, q, c, mrA d A, kp, (0, x), tl), nI c) := rfl
theorem unlikes_st {d2 : Nat → Nat} {c2 : Nat} {B : Nat → Nat → Nat} (h : shB d d2 = true) (h0 : fb_ct (ukB d q A c B c2) 729 = 0) : ∃ tl2, st_unlikes (d, q, c, A, (true, d2, c2, B), (0, x), tl) = ((d, q, c, A, (true, d2, c2, B), (0, x), tl2), nI 0) := by
  refine ⟨fv ukG (ukB d q A c B c2) 3 729, ?_⟩
  unfold st_unlikes
  rw [if_pos (show (d, q, c, A, (true, d2, c2, B), ((0 : Nat), x), tl).2.2.2.2.1.1 = true from rfl), if_pos (show shB (d, q, c, A, (true, d2, c2, B), ((0 : Nat), x), tl).1 (d, q, c, A, (true, d2, c2, B), ((0 : Nat), x), tl).2.2.2.2.1.2.1 = true from h)]
  exact Prod.ext rfl (congrArg nI h0)
theorem shB_rf : shB d d = true := by simp [shB]
theorem rgB_iff {lo hi n : Nat} (h1 : lo < 2 ^ 31) (h2 : hi < 2 ^ 31) (h3 : n < 2 ^ 31) : rgB lo hi (nI n) = true ↔ lo ≤ n ∧ n ≤ hi := by
  unfold rgB
  rw [decide_eq_true_iff, ltN h3 h1, ltN h2 h3]
  omega
theorem shears_st (hq : q = 2 ∨ q = 3) {t u v : Nat} (hc : c ≤ 40) (ht : t < 3) (hu : u < d t) (hv : v < d t) (hd : Dd d) (hne : u ≠ v) : ∃ m, m ≤ 120 ∧ st_shears (d, q, c, A, kp, (0, x), tl) (nI t) (nI (1 + u)) (nI (1 + v)) (nI 1) = ((d, q, c, shA d q A t u v 1, kp, (0, x), tl), nI m) := by
  have hdt := hd t ht
  unfold st_shears
  rw [nI_clamp (show t < 2 ^ 31 by omega), nI_clamp (show 1 + u < 2 ^ 31 by omega), nI_clamp (show 1 + v < 2 ^ 31 by omega), nI_clamp (show 1 < 2 ^ 31 by decide), Nat.add_sub_cancel_left, Nat.add_sub_cancel_left]
  rw [if_pos (show (idB 3 (nI t) && (lnB (d t) (nI (1 + u)) && (lnB (d t) (nI (1 + v)) && (!decide (nI (1 + u) = nI (1 + v)) && fcB q (nI 1))))) = true by
    rw [idB_of ht (by decide), show lnB (d t) (nI (1 + u)) = true from (rgB_iff (by decide) (by omega) (by omega)).mpr ⟨by omega, by omega⟩, show lnB (d t) (nI (1 + v)) = true from (rgB_iff (by decide) (by omega) (by omega)).mpr ⟨by omega, by omega⟩, decide_eq_false (p := nI (1 + u) = nI (1 + v)) (fun k => hne (by have := (nI_eq (by omega) (by omega)).mp k; omega))]
    unfold fcB
    rw [decide_eq_true (p := _ ∧ _) ⟨nI_nlt (Nat.le_refl _) (by decide), nI_lt (by omega) (by omega)⟩]
    rfl)]
  exact ⟨_, Nat.le_trans (fb_ct_le _ _) (by show 3 * c ≤ 120; omega), rfl⟩
theorem shears_no {t u v : Nat} (hu : u ≤ 40) (hv : v ≤ 40) (ht : t ≤ 3) (h : t = 3 ∨ u = v) : st_shears (d, q, c, A, kp, (0, x), tl) (nI t) (nI (1 + u)) (nI (1 + v)) (nI 1) = ((d, q, c, A, kp, (0, x), tl), mI 1) := by
  unfold st_shears
  rw [if_neg]
  intro k
  rw [Bool.and_eq_true, Bool.and_eq_true, Bool.and_eq_true, Bool.and_eq_true] at k
  rcases h with h | h
  · have := (idB_iff (by omega) (by decide)).mp k.1
    omega
  · have k2 := k.2.2.2.1
    rw [h] at k2
    simp at k2
end
def k_L_602_0 : List zI := [(602, 603, 0, .iconst 0), (603, 605, 0, .istore 14), (605, 607, 0, .iload 14), (607, 608, 3, .iconst 3), (608, 611, 646, .if_icmp .ge 38), (611, 612, 0, .aload_n 1), (612, 615, 0, .invokevirtual 95), (615, 617, 0, .iload 11), (617, 620, 638, .if_icmp .ne 21), (620, 621, 0, .aload_n 1), (621, 624, 0, .invokevirtual 98), (624, 626, 0, .iload 11), (626, 629, 638, .if_icmp .ne 12), (629, 630, 0, .aload_n 1), (630, 633, 0, .invokevirtual 56), (633, 635, 0, .iload 12), (635, 638, 640, .if_icmp .eq 5), (638, 639, 0, .iconst 0), (639, 640, 0, .ireturn), (640, 643, 1, .iinc 14 1), (643, 646, 605, .goto (-38)), (646, 647, 0, .aload_n 1), (647, 650, 0, .invokevirtual 95), (650, 652, 0, .iload 11), (652, 655, 689, .if_icmp .ne 37), (655, 656, 0, .aload_n 1), (656, 659, 0, .invokevirtual 101), (659, 661, 0, .iload 11), (661, 664, 689, .if_icmp .ne 28), (664, 665, 0, .aload_n 1), (665, 668, 0, .invokevirtual 56), (668, 670, 0, .iload 12), (670, 673, 689, .if_icmp .ne 19), (673, 674, 0, .aload_n 1), (674, 677, 0, .invokevirtual 101), (677, 679, 0, .iload 11), (679, 682, 689, .if_icmp .ne 10), (682, 683, 0, .aload_n 1), (683, 686, 0, .invokevirtual 104), (686, 689, 1374, .ifCond .eq 688)]
theorem ok_L_602_0 : ∀ e ∈ k_L_602_0, z_okb cL_law e = true := fun e h => List.all_eq_true.mp (by decide +kernel : k_L_602_0.all (z_okb cL_law) = true) e h
def k_L_602_1 : List zI := [(689, 690, 0, .iconst 0), (690, 691, 0, .ireturn)]
theorem ok_L_602_1 : ∀ e ∈ k_L_602_1, z_okb cL_law e = true := fun e h => List.all_eq_true.mp (by decide +kernel : k_L_602_1.all (z_okb cL_law) = true) e h
def k_L_602 : List zI := k_L_602_0 ++ (k_L_602_1)
theorem ok_L_602 : ∀ e ∈ k_L_602, z_okb cL_law e = true := List.forall_mem_append.mpr ⟨ok_L_602_0, ok_L_602_1⟩
def M_L_602 (L : Nat) (xs : Nat → Int32) : zM := (k_L_602, [], [(95, 4, 9, 1, 0, 0, sp_X11_keeps), (98, 4, 9, 1, 0, 0, sp_X11_rolls), (56, 4, 9, 1, 0, 0, sp_X11_checks), (101, 4, 9, 1, 0, 0, sp_X11_mirrors), (104, 4, 9, 1, 0, 0, sp_X11_unlikes)], ([], [], []), [], [(91, [true, true, false, false, false, false, true, false, false, false, false, false, false, false, false, false, false, false]), (244, [true, true, false, false, false, false, true, true, true, true, true, true, true, true, false, false, false, false]), (278, [true, true, false, false, false, false, true, true, true, true, true, true, true, true, false, false, false, false]), (334, [true, true, false, false, false, false, true, true, true, true, true, true, true, true, false, false, false, false]), (389, [true, true, false, false, false, false, true, true, true, true, true, true, true, true, false, false, false, false]), (441, [true, true, false, false, false, false, true, true, true, true, true, true, true, true, false, false, false, false]), (454, [true, true, false, false, false, false, true, true, true, true, true, true, true, true, false, false, false, false]), (518, [true, true, false, false, false, false, true, true, true, true, true, true, true, true, false, false, false, false]), (559, [true, true, false, false, false, false, true, true, true, true, true, true, true, true, false, false, false, false]), (602, [true, true, false, false, false, false, true, true, true, true, true, true, true, true, false, false, false, false]), (605, [true, true, false, false, false, false, true, true, true, true, true, true, true, true, true, false, false, false]), (691, [true, true, false, false, false, false, true, true, true, true, true, true, true, true, false, false, false, false]), (707, [true, true, false, false, false, false, true, true, true, true, true, true, true, true, false, false, false, false]), (786, [true, true, false, false, false, false, true, true, true, true, true, true, true, true, false, false, false, false]), (833, [true, true, false, false, false, false, true, true, true, true, true, true, true, true, false, false, false, false]), (945, [true, true, false, false, false, false, true, true, true, true, true, true, true, true, false, false, false, false]), (1007, [true, true, false, false, false, false, true, true, true, true, true, true, true, true, false, false, false, false]), (1046, [true, true, false, false, false, false, true, true, true, true, true, true, true, true, true, true, true, false]), (1102, [true, true, false, false, false, false, true, true, true, true, true, true, true, true, false, false, false, true]), (1156, [true, true, false, false, false, false, true, true, true, true, true, true, true, true, false, false, false, false]), (1221, [true, true, false, false, false, false, true, true, true, true, true, true, true, true, false, false, false, false]), (1237, [true, true, false, false, false, false, true, true, true, true, true, true, true, true, false, false, false, false]), (1286, [true, true, false, false, false, false, true, true, true, true, true, true, true, true, false, false, false, false]), (1302, [true, true, false, false, false, false, true, true, true, true, true, true, true, true, false, false, false, false]), (1374, [true, true, false, false, false, false, true, false, false, false, false, false, true, true, false, false, false, false])], 2, false, (true, L, xs), (600104, 7301314, []))
theorem ca_L_602_0 (l : Launch) (L : Nat) (xs : Nat → Int32) : z_cok l RL room_1 (true, L, xs) (95, 4, 9, 1, 0, 0, sp_X11_keeps) := z_ca4 (c_X11_keeps l) mb_X11_keeps ⟨_, rfl, rfl⟩ wt_765 wt_766 wt_767 (by decide)
theorem ca_L_602_1 (l : Launch) (L : Nat) (xs : Nat → Int32) : z_cok l RL room_1 (true, L, xs) (98, 4, 9, 1, 0, 0, sp_X11_rolls) := z_ca4 (c_X11_rolls l) mb_X11_rolls ⟨_, rfl, rfl⟩ wt_700 wt_701 wt_702 (by decide)
theorem ca_L_602_2 (l : Launch) (L : Nat) (xs : Nat → Int32) : z_cok l RL room_1 (true, L, xs) (56, 4, 9, 1, 0, 0, sp_X11_checks) := z_ca4 (c_X11_checks l) mb_X11_checks ⟨_, rfl, rfl⟩ wt_425 wt_426 wt_427 (by decide)
theorem ca_L_602_3 (l : Launch) (L : Nat) (xs : Nat → Int32) : z_cok l RL room_1 (true, L, xs) (101, 4, 9, 1, 0, 0, sp_X11_mirrors) := z_ca4 (c_X11_mirrors l) mb_X11_mirrors ⟨_, rfl, rfl⟩ wt_707 wt_708 wt_709 (by decide)
theorem ca_L_602_4 (l : Launch) (L : Nat) (xs : Nat → Int32) : z_cok l RL room_1 (true, L, xs) (104, 4, 9, 1, 0, 0, sp_X11_unlikes) := z_ca4 (c_X11_unlikes l) mb_X11_unlikes ⟨_, rfl, rfl⟩ wt_786 wt_787 wt_788 (by decide)
theorem O_L_602 (l : Launch) (L : Nat) (xs : Nat → Int32) : z_OK l RL cL_law room_1 (M_L_602 L xs) := ⟨ok_L_602, fun _ h => absurd h List.not_mem_nil, List.forall_mem_cons.mpr ⟨ca_L_602_0 l L xs, List.forall_mem_cons.mpr ⟨ca_L_602_1 l L xs, List.forall_mem_cons.mpr ⟨ca_L_602_2 l L xs, List.forall_mem_cons.mpr ⟨ca_L_602_3 l L xs, List.forall_mem_cons.mpr ⟨ca_L_602_4 l L xs, fun _ h => absurd h List.not_mem_nil⟩⟩⟩⟩⟩, fun _ h => absurd h List.not_mem_nil, fun _ h => absurd h List.not_mem_nil, fun _ h => absurd h List.not_mem_nil, fun _ h => absurd h List.not_mem_nil, rfl, rfl, fun _ h => absurd h List.not_mem_nil⟩
set_option maxRecDepth 100000 in
theorem act_602 {L : Nat} {xs : Nat → Int32} {Jm : zJ} (hs : lawS M_L_602 L xs Jm) : LAct Jm 602 := by
  intro k i j t c1 c2 W wd w d q c A kp hI hW hi hj ht hc1 hc2 hE
  obtain ⟨hz, hWF, x, tl, hC⟩ := hI
  obtain ⟨G, wi, wl⟩ := w
  dsimp only at hz hC
  have g0 := zG_0 hz
  have h40 : c ≤ 40 := cs_40 (ct_S hC)
  have hq : q = 2 ∨ q = 3 := cs_q23 (ct_S hC)
  have hA : Bd q c A := cs_A (ct_S hC)
  have hd : Dd d := cs_d (ct_S hC)
  have hW729 : W ≤ 729 := Nat.le_trans (Nat.le_of_eq hW) (wr_le d q A c)
  have fin : ∀ (wi2 : Nat → Nat → Int32) (wl2 : Nat → Nat → Int64) (d2 : Nat → Nat) (q2 c' : Nat) (A2 : Nat → Nat → Nat) (kp2 : zK) (x2 : Nat → Nat) (tl2 : Nat × (Nat → Int64)) (f : Nat), CT wi2 wl2 (d2, q2, c', A2, kp2, (0, x2), tl2) → (f = 0 ∨ f = 1 ∧ wr d2 q2 A2 c' = W) → Jm 1374 (alE k W f) [] (G, wi2, wl2) c1 c2 := fun wi2 wl2 d2 q2 c' A2 kp2 x2 tl2 f h hf => hE _ d2 q2 c' A2 kp2 c1 c2 f ⟨hz, hWF, x2, tl2, h⟩ hf (by omega) (by omega)
  unfold alE at fin
  refine hs 400 602 _ _ _ _ _ ?_
  unfold alA
  have m646 : ∀ (wi2 : Nat → Nat → Int32) (wl2 : Nat → Nat → Int64) (d2 : Nat → Nat) (A2 : Nat → Nat → Nat) (kp2 : zK) (x2 : Nat → Nat) (tl2 : Nat × (Nat → Int64)), CT wi2 wl2 (d2, q, c, A2, kp2, (0, x2), tl2) → wr d2 q A2 c = W → ∀ r, r ≤ 3 → ∀ m, r + m = 3 → Jm 605 [some (.float 0), some (.ref 0), none, none, none, none, some (.int (nI k)), some (.int wd), some (.int (nI i)), some (.int (nI j)), some (.int (nI t)), some (.int (nI c)), some (.int (nI W)), some (.int (nI 1)), some (.int (nI r)), none, none, none] [] (G, wi2, wl2) c1 c2 := by
    intro wi2 wl2 d2 A2 kp2 x2 tl2 hC2 hW2 r hr m
    induction m generalizing wi2 wl2 d2 A2 kp2 x2 tl2 r with
    | zero =>
      intro hm
      obtain rfl : r = 3 := by omega
      refine hs 400 605 _ _ _ _ _ ?_
      have hd2 : Dd d2 := cs_d (ct_S hC2)
      conv => whnf
      repeat ((first | rw [rcv4 g0] | refine ⟨trivial, ?_⟩ | refine ⟨rfl, ?_⟩ | refine ⟨fun hc => absurd hc (by decide), fun _ => ?_⟩ | refine ⟨fun _ => ?_, fun hc => absurd (by decide) hc⟩ | refine ⟨fun _ => ?_, fun hc => absurd hc (by decide)⟩ | refine ⟨fun hc => absurd (by decide) hc, fun _ => ?_⟩ | refine ⟨Or.inr rfl, ?_⟩ | refine ⟨Or.inl rfl, ?_⟩ | refine ⟨fun hq => absurd (by assumption) hq, fun _ => ?_⟩ | refine ⟨fun _ => ?_, fun hq => absurd (by assumption) hq⟩ | refine ⟨fun hq => absurd hq (by assumption), fun _ => ?_⟩ | refine ⟨fun _ => ?_, fun hq => absurd hq (by assumption)⟩ | refine ⟨fun _ => ?_, fun hq => absurd (Eq.refl _) hq⟩ | refine ⟨fun hq => absurd (Eq.refl _) hq, fun _ => ?_⟩); conv => whnf)
      try dsimp only
      refine ⟨hz, _, hC2, fun wi3 wl3 hF3 hC3 => ?_⟩
      rw [keeps_st] at hC3 ⊢
      conv => whnf
      repeat ((first | rw [rcv4 g0] | refine ⟨trivial, ?_⟩ | refine ⟨rfl, ?_⟩ | refine ⟨fun hc => absurd hc (by decide), fun _ => ?_⟩ | refine ⟨fun _ => ?_, fun hc => absurd (by decide) hc⟩ | refine ⟨fun _ => ?_, fun hc => absurd hc (by decide)⟩ | refine ⟨fun hc => absurd (by decide) hc, fun _ => ?_⟩ | refine ⟨Or.inr rfl, ?_⟩ | refine ⟨Or.inl rfl, ?_⟩ | refine ⟨fun hq => absurd (by assumption) hq, fun _ => ?_⟩ | refine ⟨fun _ => ?_, fun hq => absurd (by assumption) hq⟩ | refine ⟨fun hq => absurd hq (by assumption), fun _ => ?_⟩ | refine ⟨fun _ => ?_, fun hq => absurd hq (by assumption)⟩ | refine ⟨fun _ => ?_, fun hq => absurd (Eq.refl _) hq⟩ | refine ⟨fun hq => absurd (Eq.refl _) hq, fun _ => ?_⟩); conv => whnf)
      try dsimp only
      refine ⟨hz, _, hC3, fun wi4 wl4 hF4 hC4 => ?_⟩
      rw [mirrors_st] at hC4 ⊢
      conv => whnf
      repeat ((first | rw [rcv4 g0] | refine ⟨trivial, ?_⟩ | refine ⟨rfl, ?_⟩ | refine ⟨fun hc => absurd hc (by decide), fun _ => ?_⟩ | refine ⟨fun _ => ?_, fun hc => absurd (by decide) hc⟩ | refine ⟨fun _ => ?_, fun hc => absurd hc (by decide)⟩ | refine ⟨fun hc => absurd (by decide) hc, fun _ => ?_⟩ | refine ⟨Or.inr rfl, ?_⟩ | refine ⟨Or.inl rfl, ?_⟩ | refine ⟨fun hq => absurd (by assumption) hq, fun _ => ?_⟩ | refine ⟨fun _ => ?_, fun hq => absurd (by assumption) hq⟩ | refine ⟨fun hq => absurd hq (by assumption), fun _ => ?_⟩ | refine ⟨fun _ => ?_, fun hq => absurd hq (by assumption)⟩ | refine ⟨fun _ => ?_, fun hq => absurd (Eq.refl _) hq⟩ | refine ⟨fun hq => absurd (Eq.refl _) hq, fun _ => ?_⟩); conv => whnf)
      try dsimp only
      refine ⟨hz, _, hC4, fun wi5 wl5 hF5 hC5 => ?_⟩
      obtain ⟨tl5, e5⟩ := chk_st (mrD d2) q c (mrA d2 A2) (true, d2, c, A2) x2 tl2
      rw [e5, mr_wr hd2, hW2] at hC5 ⊢
      clear e5
      conv => whnf
      repeat ((first | rw [rcv4 g0] | refine ⟨trivial, ?_⟩ | refine ⟨rfl, ?_⟩ | refine ⟨fun hc => absurd hc (by decide), fun _ => ?_⟩ | refine ⟨fun _ => ?_, fun hc => absurd (by decide) hc⟩ | refine ⟨fun _ => ?_, fun hc => absurd hc (by decide)⟩ | refine ⟨fun hc => absurd (by decide) hc, fun _ => ?_⟩ | refine ⟨Or.inr rfl, ?_⟩ | refine ⟨Or.inl rfl, ?_⟩ | refine ⟨fun hq => absurd (by assumption) hq, fun _ => ?_⟩ | refine ⟨fun _ => ?_, fun hq => absurd (by assumption) hq⟩ | refine ⟨fun hq => absurd hq (by assumption), fun _ => ?_⟩ | refine ⟨fun _ => ?_, fun hq => absurd hq (by assumption)⟩ | refine ⟨fun _ => ?_, fun hq => absurd (Eq.refl _) hq⟩ | refine ⟨fun hq => absurd (Eq.refl _) hq, fun _ => ?_⟩); conv => whnf)
      try dsimp only
      refine ⟨hz, _, hC5, fun wi6 wl6 hF6 hC6 => ?_⟩
      rw [mirrors_st] at hC6 ⊢
      conv => whnf
      repeat ((first | rw [rcv4 g0] | refine ⟨trivial, ?_⟩ | refine ⟨rfl, ?_⟩ | refine ⟨fun hc => absurd hc (by decide), fun _ => ?_⟩ | refine ⟨fun _ => ?_, fun hc => absurd (by decide) hc⟩ | refine ⟨fun _ => ?_, fun hc => absurd hc (by decide)⟩ | refine ⟨fun hc => absurd (by decide) hc, fun _ => ?_⟩ | refine ⟨Or.inr rfl, ?_⟩ | refine ⟨Or.inl rfl, ?_⟩ | refine ⟨fun hq => absurd (by assumption) hq, fun _ => ?_⟩ | refine ⟨fun _ => ?_, fun hq => absurd (by assumption) hq⟩ | refine ⟨fun hq => absurd hq (by assumption), fun _ => ?_⟩ | refine ⟨fun _ => ?_, fun hq => absurd hq (by assumption)⟩ | refine ⟨fun _ => ?_, fun hq => absurd (Eq.refl _) hq⟩ | refine ⟨fun hq => absurd (Eq.refl _) hq, fun _ => ?_⟩); conv => whnf)
      try dsimp only
      refine ⟨hz, _, hC6, fun wi7 wl7 hF7 hC7 => ?_⟩
      obtain ⟨tl7, e7⟩ := unlikes_st (mrD (mrD d2)) q c (mrA (mrD d2) (mrA d2 A2)) x2 tl5 (d2 := d2) (c2 := c) (B := A2) (by rw [mrD2]; exact shB_rf d2) (mr2_uk hd2)
      rw [e7] at hC7 ⊢
      clear e7
      conv => whnf
      repeat ((first | refine ⟨trivial, ?_⟩ | refine ⟨rfl, ?_⟩ | refine ⟨fun hc => absurd hc (by decide), fun _ => ?_⟩ | refine ⟨fun _ => ?_, fun hc => absurd (by decide) hc⟩ | refine ⟨fun _ => ?_, fun hc => absurd hc (by decide)⟩ | refine ⟨fun hc => absurd (by decide) hc, fun _ => ?_⟩ | refine ⟨Or.inr rfl, ?_⟩ | refine ⟨Or.inl rfl, ?_⟩ | refine ⟨fun hq => absurd (by assumption) hq, fun _ => ?_⟩ | refine ⟨fun _ => ?_, fun hq => absurd (by assumption) hq⟩ | refine ⟨fun hq => absurd hq (by assumption), fun _ => ?_⟩ | refine ⟨fun _ => ?_, fun hq => absurd hq (by assumption)⟩ | refine ⟨fun _ => ?_, fun hq => absurd (Eq.refl _) hq⟩ | refine ⟨fun hq => absurd (Eq.refl _) hq, fun _ => ?_⟩); conv => whnf)
      try dsimp only
      exact fin wi7 wl7 _ _ _ _ _ _ _ 1 hC7 (Or.inr ⟨rfl, (mr_wr (mrD_d hd2)).trans ((mr_wr hd2).trans hW2)⟩)
    | succ m ih =>
      intro hm
      refine hs 400 605 _ _ _ _ _ ?_
      have f1 : nI r < nI 3 := nI_lt (by omega) (by decide)
      conv => whnf
      repeat ((first | rw [rcv4 g0] | refine ⟨trivial, ?_⟩ | refine ⟨rfl, ?_⟩ | refine ⟨fun hc => absurd hc (by decide), fun _ => ?_⟩ | refine ⟨fun _ => ?_, fun hc => absurd (by decide) hc⟩ | refine ⟨fun _ => ?_, fun hc => absurd hc (by decide)⟩ | refine ⟨fun hc => absurd (by decide) hc, fun _ => ?_⟩ | refine ⟨Or.inr rfl, ?_⟩ | refine ⟨Or.inl rfl, ?_⟩ | refine ⟨fun hq => absurd (by assumption) hq, fun _ => ?_⟩ | refine ⟨fun _ => ?_, fun hq => absurd (by assumption) hq⟩ | refine ⟨fun hq => absurd hq (by assumption), fun _ => ?_⟩ | refine ⟨fun _ => ?_, fun hq => absurd hq (by assumption)⟩ | refine ⟨fun _ => ?_, fun hq => absurd (Eq.refl _) hq⟩ | refine ⟨fun hq => absurd (Eq.refl _) hq, fun _ => ?_⟩); conv => whnf)
      try dsimp only
      refine ⟨hz, _, hC2, fun wi3 wl3 hF3 hC3 => ?_⟩
      rw [keeps_st] at hC3 ⊢
      conv => whnf
      repeat ((first | rw [rcv4 g0] | refine ⟨trivial, ?_⟩ | refine ⟨rfl, ?_⟩ | refine ⟨fun hc => absurd hc (by decide), fun _ => ?_⟩ | refine ⟨fun _ => ?_, fun hc => absurd (by decide) hc⟩ | refine ⟨fun _ => ?_, fun hc => absurd hc (by decide)⟩ | refine ⟨fun hc => absurd (by decide) hc, fun _ => ?_⟩ | refine ⟨Or.inr rfl, ?_⟩ | refine ⟨Or.inl rfl, ?_⟩ | refine ⟨fun hq => absurd (by assumption) hq, fun _ => ?_⟩ | refine ⟨fun _ => ?_, fun hq => absurd (by assumption) hq⟩ | refine ⟨fun hq => absurd hq (by assumption), fun _ => ?_⟩ | refine ⟨fun _ => ?_, fun hq => absurd hq (by assumption)⟩ | refine ⟨fun _ => ?_, fun hq => absurd (Eq.refl _) hq⟩ | refine ⟨fun hq => absurd (Eq.refl _) hq, fun _ => ?_⟩); conv => whnf)
      try dsimp only
      refine ⟨hz, _, hC3, fun wi4 wl4 hF4 hC4 => ?_⟩
      rw [rolls_st] at hC4 ⊢
      conv => whnf
      repeat ((first | rw [rcv4 g0] | refine ⟨trivial, ?_⟩ | refine ⟨rfl, ?_⟩ | refine ⟨fun hc => absurd hc (by decide), fun _ => ?_⟩ | refine ⟨fun _ => ?_, fun hc => absurd (by decide) hc⟩ | refine ⟨fun _ => ?_, fun hc => absurd hc (by decide)⟩ | refine ⟨fun hc => absurd (by decide) hc, fun _ => ?_⟩ | refine ⟨Or.inr rfl, ?_⟩ | refine ⟨Or.inl rfl, ?_⟩ | refine ⟨fun hq => absurd (by assumption) hq, fun _ => ?_⟩ | refine ⟨fun _ => ?_, fun hq => absurd (by assumption) hq⟩ | refine ⟨fun hq => absurd hq (by assumption), fun _ => ?_⟩ | refine ⟨fun _ => ?_, fun hq => absurd hq (by assumption)⟩ | refine ⟨fun _ => ?_, fun hq => absurd (Eq.refl _) hq⟩ | refine ⟨fun hq => absurd (Eq.refl _) hq, fun _ => ?_⟩); conv => whnf)
      try dsimp only
      refine ⟨hz, _, hC4, fun wi5 wl5 hF5 hC5 => ?_⟩
      obtain ⟨tl5, e5⟩ := chk_st (nxD d2) q c (rlA A2) (true, d2, c, A2) x2 tl2
      rw [e5, rl_wr, hW2] at hC5 ⊢
      clear e5
      conv => whnf
      repeat ((first | refine ⟨trivial, ?_⟩ | refine ⟨rfl, ?_⟩ | refine ⟨fun hc => absurd hc (by decide), fun _ => ?_⟩ | refine ⟨fun _ => ?_, fun hc => absurd (by decide) hc⟩ | refine ⟨fun _ => ?_, fun hc => absurd hc (by decide)⟩ | refine ⟨fun hc => absurd (by decide) hc, fun _ => ?_⟩ | refine ⟨Or.inr rfl, ?_⟩ | refine ⟨Or.inl rfl, ?_⟩ | refine ⟨fun hq => absurd (by assumption) hq, fun _ => ?_⟩ | refine ⟨fun _ => ?_, fun hq => absurd (by assumption) hq⟩ | refine ⟨fun hq => absurd hq (by assumption), fun _ => ?_⟩ | refine ⟨fun _ => ?_, fun hq => absurd hq (by assumption)⟩ | refine ⟨fun _ => ?_, fun hq => absurd (Eq.refl _) hq⟩ | refine ⟨fun hq => absurd (Eq.refl _) hq, fun _ => ?_⟩); conv => whnf)
      try dsimp only
      rw [nI_add]
      exact ih wi5 wl5 _ _ _ _ _ hC5 (rl_wr.trans hW2) (r + 1) (by omega) (by omega)
  conv => whnf
  repeat ((first | refine ⟨trivial, ?_⟩ | refine ⟨rfl, ?_⟩ | refine ⟨fun hc => absurd hc (by decide), fun _ => ?_⟩ | refine ⟨fun _ => ?_, fun hc => absurd (by decide) hc⟩ | refine ⟨fun _ => ?_, fun hc => absurd hc (by decide)⟩ | refine ⟨fun hc => absurd (by decide) hc, fun _ => ?_⟩ | refine ⟨Or.inr rfl, ?_⟩ | refine ⟨Or.inl rfl, ?_⟩ | refine ⟨fun hq => absurd (by assumption) hq, fun _ => ?_⟩ | refine ⟨fun _ => ?_, fun hq => absurd (by assumption) hq⟩ | refine ⟨fun hq => absurd hq (by assumption), fun _ => ?_⟩ | refine ⟨fun _ => ?_, fun hq => absurd hq (by assumption)⟩ | refine ⟨fun _ => ?_, fun hq => absurd (Eq.refl _) hq⟩ | refine ⟨fun hq => absurd (Eq.refl _) hq, fun _ => ?_⟩); conv => whnf)
  try dsimp only
  exact m646 wi wl d A kp x tl hC hW.symm 0 (by decide) 3 rfl
def k_L_691_0 : List zI := [(691, 693, 0, .iload 10), (693, 694, 3, .iconst 3), (694, 697, 706, .if_icmp .ge 12), (697, 698, 0, .aload_n 1), (698, 700, 0, .iload 10), (700, 703, 0, .invokevirtual 30), (703, 706, 707, .goto 4), (706, 707, 1, .iconst 1), (707, 709, 0, .istore 14), (709, 710, 0, .aload_n 1), (710, 712, 0, .iload 10), (712, 713, 1, .iconst 1), (713, 715, 0, .iload 8), (715, 717, 0, .iload 14), (717, 718, 0, .irem), (718, 719, 0, .iadd), (719, 720, 1, .iconst 1), (720, 722, 0, .iload 9), (722, 724, 0, .iload 14), (724, 725, 0, .irem), (725, 726, 0, .iadd), (726, 727, 1, .iconst 1), (727, 730, 0, .invokevirtual 107), (730, 732, 0, .istore 15), (732, 734, 0, .iload 15), (734, 737, 741, .ifCond .ge 7), (737, 738, 1, .iconst 1), (738, 741, 742, .goto 4), (741, 742, 0, .iconst 0), (742, 744, 0, .iload 10), (744, 745, 3, .iconst 3), (745, 748, 761, .if_icmp .eq 16), (748, 750, 0, .iload 8), (750, 752, 0, .iload 14), (752, 753, 0, .irem), (753, 755, 0, .iload 9), (755, 757, 0, .iload 14), (757, 758, 0, .irem), (758, 761, 765, .if_icmp .ne 7), (761, 762, 1, .iconst 1)]
theorem ok_L_691_0 : ∀ e ∈ k_L_691_0, z_okb cL_law e = true := fun e h => List.all_eq_true.mp (by decide +kernel : k_L_691_0.all (z_okb cL_law) = true) e h
def k_L_691_1 : List zI := [(762, 765, 766, .goto 4), (765, 766, 0, .iconst 0), (766, 769, 771, .if_icmp .eq 5), (769, 770, 0, .iconst 0), (770, 771, 0, .ireturn), (771, 773, 0, .iload 12), (773, 776, 780, .ifCond .ne 7), (776, 777, 1, .iconst 1), (777, 780, 781, .goto 4), (780, 781, 0, .iconst 0), (781, 783, 0, .istore 13), (783, 786, 1374, .goto 591)]
theorem ok_L_691_1 : ∀ e ∈ k_L_691_1, z_okb cL_law e = true := fun e h => List.all_eq_true.mp (by decide +kernel : k_L_691_1.all (z_okb cL_law) = true) e h
def k_L_691 : List zI := k_L_691_0 ++ (k_L_691_1)
theorem ok_L_691 : ∀ e ∈ k_L_691, z_okb cL_law e = true := List.forall_mem_append.mpr ⟨ok_L_691_0, ok_L_691_1⟩
def M_L_691 (L : Nat) (xs : Nat → Int32) : zM := (k_L_691, [], [(30, 4, 9, 2, 0, 0, sp_X11_count), (107, 4, 9, 5, 0, 0, sp_X11_shears)], ([], [], []), [], [(91, [true, true, false, false, false, false, true, false, false, false, false, false, false, false, false, false, false, false]), (244, [true, true, false, false, false, false, true, true, true, true, true, true, true, true, false, false, false, false]), (278, [true, true, false, false, false, false, true, true, true, true, true, true, true, true, false, false, false, false]), (334, [true, true, false, false, false, false, true, true, true, true, true, true, true, true, false, false, false, false]), (389, [true, true, false, false, false, false, true, true, true, true, true, true, true, true, false, false, false, false]), (441, [true, true, false, false, false, false, true, true, true, true, true, true, true, true, false, false, false, false]), (454, [true, true, false, false, false, false, true, true, true, true, true, true, true, true, false, false, false, false]), (518, [true, true, false, false, false, false, true, true, true, true, true, true, true, true, false, false, false, false]), (559, [true, true, false, false, false, false, true, true, true, true, true, true, true, true, false, false, false, false]), (602, [true, true, false, false, false, false, true, true, true, true, true, true, true, true, false, false, false, false]), (605, [true, true, false, false, false, false, true, true, true, true, true, true, true, true, true, false, false, false]), (691, [true, true, false, false, false, false, true, true, true, true, true, true, true, true, false, false, false, false]), (707, [true, true, false, false, false, false, true, true, true, true, true, true, true, true, false, false, false, false]), (786, [true, true, false, false, false, false, true, true, true, true, true, true, true, true, false, false, false, false]), (833, [true, true, false, false, false, false, true, true, true, true, true, true, true, true, false, false, false, false]), (945, [true, true, false, false, false, false, true, true, true, true, true, true, true, true, false, false, false, false]), (1007, [true, true, false, false, false, false, true, true, true, true, true, true, true, true, false, false, false, false]), (1046, [true, true, false, false, false, false, true, true, true, true, true, true, true, true, true, true, true, false]), (1102, [true, true, false, false, false, false, true, true, true, true, true, true, true, true, false, false, false, true]), (1156, [true, true, false, false, false, false, true, true, true, true, true, true, true, true, false, false, false, false]), (1221, [true, true, false, false, false, false, true, true, true, true, true, true, true, true, false, false, false, false]), (1237, [true, true, false, false, false, false, true, true, true, true, true, true, true, true, false, false, false, false]), (1286, [true, true, false, false, false, false, true, true, true, true, true, true, true, true, false, false, false, false]), (1302, [true, true, false, false, false, false, true, true, true, true, true, true, true, true, false, false, false, false]), (1374, [true, true, false, false, false, false, true, false, false, false, false, false, true, true, false, false, false, false])], 2, false, (true, L, xs), (600104, 7301314, []))
theorem ca_L_691_0 (l : Launch) (L : Nat) (xs : Nat → Int32) : z_cok l RL room_1 (true, L, xs) (30, 4, 9, 2, 0, 0, sp_X11_count) := z_ca4 (c_X11_count l) mb_X11_count ⟨_, rfl, rfl⟩ wt_858 wt_859 wt_860 (by decide)
theorem ca_L_691_1 (l : Launch) (L : Nat) (xs : Nat → Int32) : z_cok l RL room_1 (true, L, xs) (107, 4, 9, 5, 0, 0, sp_X11_shears) := z_ca4 (c_X11_shears l) mb_X11_shears ⟨_, rfl, rfl⟩ wt_717 wt_718 wt_719 (by decide)
theorem O_L_691 (l : Launch) (L : Nat) (xs : Nat → Int32) : z_OK l RL cL_law room_1 (M_L_691 L xs) := ⟨ok_L_691, fun _ h => absurd h List.not_mem_nil, List.forall_mem_cons.mpr ⟨ca_L_691_0 l L xs, List.forall_mem_cons.mpr ⟨ca_L_691_1 l L xs, fun _ h => absurd h List.not_mem_nil⟩⟩, fun _ h => absurd h List.not_mem_nil, fun _ h => absurd h List.not_mem_nil, fun _ h => absurd h List.not_mem_nil, fun _ h => absurd h List.not_mem_nil, rfl, rfl, fun _ h => absurd h List.not_mem_nil⟩
set_option maxRecDepth 100000 in
theorem act_691 {L : Nat} {xs : Nat → Int32} {Jm : zJ} (hs : lawS M_L_691 L xs Jm) : LAct Jm 691 := by
  intro k i j t c1 c2 W wd w d q c A kp hI hW hi hj ht hc1 hc2 hE
  obtain ⟨hz, hWF, x, tl, hC⟩ := hI
  obtain ⟨G, wi, wl⟩ := w
  dsimp only at hz hC
  have g0 := zG_0 hz
  have h40 : c ≤ 40 := cs_40 (ct_S hC)
  have hq : q = 2 ∨ q = 3 := cs_q23 (ct_S hC)
  have hA : Bd q c A := cs_A (ct_S hC)
  have hd : Dd d := cs_d (ct_S hC)
  have hW729 : W ≤ 729 := Nat.le_trans (Nat.le_of_eq hW) (wr_le d q A c)
  have fin : ∀ (wi2 : Nat → Nat → Int32) (wl2 : Nat → Nat → Int64) (d2 : Nat → Nat) (q2 c' : Nat) (A2 : Nat → Nat → Nat) (kp2 : zK) (x2 : Nat → Nat) (tl2 : Nat × (Nat → Int64)) (f : Nat), CT wi2 wl2 (d2, q2, c', A2, kp2, (0, x2), tl2) → (f = 0 ∨ f = 1 ∧ wr d2 q2 A2 c' = W) → Jm 1374 (alE k W f) [] (G, wi2, wl2) c1 c2 := fun wi2 wl2 d2 q2 c' A2 kp2 x2 tl2 f h hf => hE _ d2 q2 c' A2 kp2 c1 c2 f ⟨hz, hWF, x2, tl2, h⟩ hf (by omega) (by omega)
  unfold alE at fin
  refine hs 400 691 _ _ _ _ _ ?_
  unfold alA
  have h707 : ∀ (wi2 : Nat → Nat → Int32) (wl2 : Nat → Nat → Int64) (n : Nat), 1 ≤ n → n ≤ 3 → (t < 3 → n = d t) → CT wi2 wl2 (d, q, c, A, kp, (0, x), tl) → Jm 707 (alA k wd i j t c W) [.int (nI n)] (G, wi2, wl2) c1 c2 := by
    intro wi2 wl2 n hn1 hn3 hnd hC2
    refine hs 400 707 _ _ _ _ _ ?_
    unfold alA
    have fn : ¬ nI n = 0 := nI_ne0 (by omega) (by omega)
    have er : ∀ m, m ≤ 40 → z_rem (nI m) (nI n) = nI (m % n) := fun m hm => z_remN (by omega) (by omega) (by omega)
    have m1 : i % n < n := Nat.mod_lt _ (by omega)
    have m2 : j % n < n := Nat.mod_lt _ (by omega)
    by_cases hv : t < 3 ∧ i % n ≠ j % n
    · have hn := hnd hv.1
      obtain ⟨m, hm, e⟩ := shears_st d q c A kp x tl hq h40 hv.1 (show i % n < d t by omega) (show j % n < d t by omega) hd hv.2
      have f1 : ¬ nI m < nI 0 := nI_nlt (Nat.zero_le _) (by omega)
      have f2 : ¬ nI t = nI 3 := fun k => by have := (nI_eq (by omega) (by decide)).mp k; omega
      have f3 : ¬ z_rem (nI i) (nI n) = z_rem (nI j) (nI n) := fun k => by
        rw [er i (by omega), er j (by omega)] at k
        exact hv.2 ((nI_eq (by omega) (by omega)).mp k)
      conv => whnf
      repeat ((first | rw [rcv4 g0] | refine ⟨fn, ?_⟩ | refine ⟨trivial, ?_⟩ | refine ⟨rfl, ?_⟩ | refine ⟨fun hc => absurd hc (by decide), fun _ => ?_⟩ | refine ⟨fun _ => ?_, fun hc => absurd (by decide) hc⟩ | refine ⟨fun _ => ?_, fun hc => absurd hc (by decide)⟩ | refine ⟨fun hc => absurd (by decide) hc, fun _ => ?_⟩ | refine ⟨Or.inr rfl, ?_⟩ | refine ⟨Or.inl rfl, ?_⟩ | refine ⟨fun hq => absurd (by assumption) hq, fun _ => ?_⟩ | refine ⟨fun _ => ?_, fun hq => absurd (by assumption) hq⟩ | refine ⟨fun hq => absurd hq (by assumption), fun _ => ?_⟩ | refine ⟨fun _ => ?_, fun hq => absurd hq (by assumption)⟩ | refine ⟨fun _ => ?_, fun hq => absurd (Eq.refl _) hq⟩ | refine ⟨fun hq => absurd (Eq.refl _) hq, fun _ => ?_⟩); conv => whnf)
      try dsimp only
      refine ⟨hz, _, hC2, fun wi3 wl3 hF3 hC3 => ?_⟩
      rw [er i (by omega), er j (by omega), nI_add, nI_add, e] at hC3 ⊢
      by_cases hW0 : W = 0
      · have f4 : nI W = nI 0 := by rw [hW0]
        conv => whnf
        repeat ((first | refine ⟨fn, ?_⟩ | refine ⟨trivial, ?_⟩ | refine ⟨rfl, ?_⟩ | refine ⟨fun hc => absurd hc (by decide), fun _ => ?_⟩ | refine ⟨fun _ => ?_, fun hc => absurd (by decide) hc⟩ | refine ⟨fun _ => ?_, fun hc => absurd hc (by decide)⟩ | refine ⟨fun hc => absurd (by decide) hc, fun _ => ?_⟩ | refine ⟨Or.inr rfl, ?_⟩ | refine ⟨Or.inl rfl, ?_⟩ | refine ⟨fun hq => absurd (by assumption) hq, fun _ => ?_⟩ | refine ⟨fun _ => ?_, fun hq => absurd (by assumption) hq⟩ | refine ⟨fun hq => absurd hq (by assumption), fun _ => ?_⟩ | refine ⟨fun _ => ?_, fun hq => absurd hq (by assumption)⟩ | refine ⟨fun _ => ?_, fun hq => absurd (Eq.refl _) hq⟩ | refine ⟨fun hq => absurd (Eq.refl _) hq, fun _ => ?_⟩); conv => whnf)
        try dsimp only
        exact fin wi3 wl3 _ _ _ _ _ _ _ 1 hC3 (Or.inr ⟨rfl, (shA_wr hd hq hA hv.1 (by omega) (by omega) hv.2 (by omega) (hW.symm.trans hW0)).trans hW0.symm⟩)
      · have f4 : ¬ nI W = nI 0 := fun k => hW0 ((nI_eq (by omega) (by decide)).mp k)
        conv => whnf
        repeat ((first | refine ⟨fn, ?_⟩ | refine ⟨trivial, ?_⟩ | refine ⟨rfl, ?_⟩ | refine ⟨fun hc => absurd hc (by decide), fun _ => ?_⟩ | refine ⟨fun _ => ?_, fun hc => absurd (by decide) hc⟩ | refine ⟨fun _ => ?_, fun hc => absurd hc (by decide)⟩ | refine ⟨fun hc => absurd (by decide) hc, fun _ => ?_⟩ | refine ⟨Or.inr rfl, ?_⟩ | refine ⟨Or.inl rfl, ?_⟩ | refine ⟨fun hq => absurd (by assumption) hq, fun _ => ?_⟩ | refine ⟨fun _ => ?_, fun hq => absurd (by assumption) hq⟩ | refine ⟨fun hq => absurd hq (by assumption), fun _ => ?_⟩ | refine ⟨fun _ => ?_, fun hq => absurd hq (by assumption)⟩ | refine ⟨fun _ => ?_, fun hq => absurd (Eq.refl _) hq⟩ | refine ⟨fun hq => absurd (Eq.refl _) hq, fun _ => ?_⟩); conv => whnf)
        try dsimp only
        exact fin wi3 wl3 _ _ _ _ _ _ _ 0 hC3 (Or.inl rfl)
    · have e := shears_no d q c A kp x tl (t := t) (u := i % n) (v := j % n) (by omega) (by omega) ht (Decidable.byContradiction fun k => hv ⟨by omega, fun q => k (Or.inr q)⟩)
      have hW4 : (nI W = nI 0 → wr d q A c = W) := fun _ => hW.symm
      have fs : ∀ f, f = 0 ∨ f = 1 → f = 0 ∨ f = 1 ∧ wr d q A c = W := fun f h => h.imp id (fun h => ⟨h, hW.symm⟩)
      by_cases ht3 : t = 3
      · have f2 : nI t = nI 3 := by rw [ht3]
        by_cases hW0 : nI W = nI 0
        · conv => whnf
          repeat ((first | rw [rcv4 g0] | refine ⟨fn, ?_⟩ | refine ⟨trivial, ?_⟩ | refine ⟨rfl, ?_⟩ | refine ⟨fun hc => absurd hc (by decide), fun _ => ?_⟩ | refine ⟨fun _ => ?_, fun hc => absurd (by decide) hc⟩ | refine ⟨fun _ => ?_, fun hc => absurd hc (by decide)⟩ | refine ⟨fun hc => absurd (by decide) hc, fun _ => ?_⟩ | refine ⟨Or.inr rfl, ?_⟩ | refine ⟨Or.inl rfl, ?_⟩ | refine ⟨fun hq => absurd (by assumption) hq, fun _ => ?_⟩ | refine ⟨fun _ => ?_, fun hq => absurd (by assumption) hq⟩ | refine ⟨fun hq => absurd hq (by assumption), fun _ => ?_⟩ | refine ⟨fun _ => ?_, fun hq => absurd hq (by assumption)⟩ | refine ⟨fun _ => ?_, fun hq => absurd (Eq.refl _) hq⟩ | refine ⟨fun hq => absurd (Eq.refl _) hq, fun _ => ?_⟩); conv => whnf)
          try dsimp only
          refine ⟨hz, _, hC2, fun wi3 wl3 hF3 hC3 => ?_⟩
          rw [er i (by omega), er j (by omega), nI_add, nI_add, e] at hC3 ⊢
          conv => whnf
          repeat ((first | refine ⟨fn, ?_⟩ | refine ⟨trivial, ?_⟩ | refine ⟨rfl, ?_⟩ | refine ⟨fun hc => absurd hc (by decide), fun _ => ?_⟩ | refine ⟨fun _ => ?_, fun hc => absurd (by decide) hc⟩ | refine ⟨fun _ => ?_, fun hc => absurd hc (by decide)⟩ | refine ⟨fun hc => absurd (by decide) hc, fun _ => ?_⟩ | refine ⟨Or.inr rfl, ?_⟩ | refine ⟨Or.inl rfl, ?_⟩ | refine ⟨fun hq => absurd (by assumption) hq, fun _ => ?_⟩ | refine ⟨fun _ => ?_, fun hq => absurd (by assumption) hq⟩ | refine ⟨fun hq => absurd hq (by assumption), fun _ => ?_⟩ | refine ⟨fun _ => ?_, fun hq => absurd hq (by assumption)⟩ | refine ⟨fun _ => ?_, fun hq => absurd (Eq.refl _) hq⟩ | refine ⟨fun hq => absurd (Eq.refl _) hq, fun _ => ?_⟩); conv => whnf)
          try dsimp only
          exact fin wi3 wl3 _ _ _ _ _ _ _ 1 hC3 (fs 1 (Or.inr rfl))
        · conv => whnf
          repeat ((first | rw [rcv4 g0] | refine ⟨fn, ?_⟩ | refine ⟨trivial, ?_⟩ | refine ⟨rfl, ?_⟩ | refine ⟨fun hc => absurd hc (by decide), fun _ => ?_⟩ | refine ⟨fun _ => ?_, fun hc => absurd (by decide) hc⟩ | refine ⟨fun _ => ?_, fun hc => absurd hc (by decide)⟩ | refine ⟨fun hc => absurd (by decide) hc, fun _ => ?_⟩ | refine ⟨Or.inr rfl, ?_⟩ | refine ⟨Or.inl rfl, ?_⟩ | refine ⟨fun hq => absurd (by assumption) hq, fun _ => ?_⟩ | refine ⟨fun _ => ?_, fun hq => absurd (by assumption) hq⟩ | refine ⟨fun hq => absurd hq (by assumption), fun _ => ?_⟩ | refine ⟨fun _ => ?_, fun hq => absurd hq (by assumption)⟩ | refine ⟨fun _ => ?_, fun hq => absurd (Eq.refl _) hq⟩ | refine ⟨fun hq => absurd (Eq.refl _) hq, fun _ => ?_⟩); conv => whnf)
          try dsimp only
          refine ⟨hz, _, hC2, fun wi3 wl3 hF3 hC3 => ?_⟩
          rw [er i (by omega), er j (by omega), nI_add, nI_add, e] at hC3 ⊢
          conv => whnf
          repeat ((first | refine ⟨fn, ?_⟩ | refine ⟨trivial, ?_⟩ | refine ⟨rfl, ?_⟩ | refine ⟨fun hc => absurd hc (by decide), fun _ => ?_⟩ | refine ⟨fun _ => ?_, fun hc => absurd (by decide) hc⟩ | refine ⟨fun _ => ?_, fun hc => absurd hc (by decide)⟩ | refine ⟨fun hc => absurd (by decide) hc, fun _ => ?_⟩ | refine ⟨Or.inr rfl, ?_⟩ | refine ⟨Or.inl rfl, ?_⟩ | refine ⟨fun hq => absurd (by assumption) hq, fun _ => ?_⟩ | refine ⟨fun _ => ?_, fun hq => absurd (by assumption) hq⟩ | refine ⟨fun hq => absurd hq (by assumption), fun _ => ?_⟩ | refine ⟨fun _ => ?_, fun hq => absurd hq (by assumption)⟩ | refine ⟨fun _ => ?_, fun hq => absurd (Eq.refl _) hq⟩ | refine ⟨fun hq => absurd (Eq.refl _) hq, fun _ => ?_⟩); conv => whnf)
          try dsimp only
          exact fin wi3 wl3 _ _ _ _ _ _ _ 0 hC3 (fs 0 (Or.inl rfl))
      · have f2 : ¬ nI t = nI 3 := fun k => ht3 ((nI_eq (by omega) (by decide)).mp k)
        have f3 : z_rem (nI i) (nI n) = z_rem (nI j) (nI n) := by
          rw [er i (by omega), er j (by omega), show i % n = j % n from Decidable.byContradiction fun k => hv ⟨by omega, k⟩]
        by_cases hW0 : nI W = nI 0
        · conv => whnf
          repeat ((first | rw [rcv4 g0] | refine ⟨fn, ?_⟩ | refine ⟨trivial, ?_⟩ | refine ⟨rfl, ?_⟩ | refine ⟨fun hc => absurd hc (by decide), fun _ => ?_⟩ | refine ⟨fun _ => ?_, fun hc => absurd (by decide) hc⟩ | refine ⟨fun _ => ?_, fun hc => absurd hc (by decide)⟩ | refine ⟨fun hc => absurd (by decide) hc, fun _ => ?_⟩ | refine ⟨Or.inr rfl, ?_⟩ | refine ⟨Or.inl rfl, ?_⟩ | refine ⟨fun hq => absurd (by assumption) hq, fun _ => ?_⟩ | refine ⟨fun _ => ?_, fun hq => absurd (by assumption) hq⟩ | refine ⟨fun hq => absurd hq (by assumption), fun _ => ?_⟩ | refine ⟨fun _ => ?_, fun hq => absurd hq (by assumption)⟩ | refine ⟨fun _ => ?_, fun hq => absurd (Eq.refl _) hq⟩ | refine ⟨fun hq => absurd (Eq.refl _) hq, fun _ => ?_⟩); conv => whnf)
          try dsimp only
          refine ⟨hz, _, hC2, fun wi3 wl3 hF3 hC3 => ?_⟩
          rw [er i (by omega), er j (by omega), nI_add, nI_add, e] at hC3 ⊢
          conv => whnf
          repeat ((first | refine ⟨fn, ?_⟩ | refine ⟨trivial, ?_⟩ | refine ⟨rfl, ?_⟩ | refine ⟨fun hc => absurd hc (by decide), fun _ => ?_⟩ | refine ⟨fun _ => ?_, fun hc => absurd (by decide) hc⟩ | refine ⟨fun _ => ?_, fun hc => absurd hc (by decide)⟩ | refine ⟨fun hc => absurd (by decide) hc, fun _ => ?_⟩ | refine ⟨Or.inr rfl, ?_⟩ | refine ⟨Or.inl rfl, ?_⟩ | refine ⟨fun hq => absurd (by assumption) hq, fun _ => ?_⟩ | refine ⟨fun _ => ?_, fun hq => absurd (by assumption) hq⟩ | refine ⟨fun hq => absurd hq (by assumption), fun _ => ?_⟩ | refine ⟨fun _ => ?_, fun hq => absurd hq (by assumption)⟩ | refine ⟨fun _ => ?_, fun hq => absurd (Eq.refl _) hq⟩ | refine ⟨fun hq => absurd (Eq.refl _) hq, fun _ => ?_⟩); conv => whnf)
          try dsimp only
          exact fin wi3 wl3 _ _ _ _ _ _ _ 1 hC3 (fs 1 (Or.inr rfl))
        · conv => whnf
          repeat ((first | rw [rcv4 g0] | refine ⟨fn, ?_⟩ | refine ⟨trivial, ?_⟩ | refine ⟨rfl, ?_⟩ | refine ⟨fun hc => absurd hc (by decide), fun _ => ?_⟩ | refine ⟨fun _ => ?_, fun hc => absurd (by decide) hc⟩ | refine ⟨fun _ => ?_, fun hc => absurd hc (by decide)⟩ | refine ⟨fun hc => absurd (by decide) hc, fun _ => ?_⟩ | refine ⟨Or.inr rfl, ?_⟩ | refine ⟨Or.inl rfl, ?_⟩ | refine ⟨fun hq => absurd (by assumption) hq, fun _ => ?_⟩ | refine ⟨fun _ => ?_, fun hq => absurd (by assumption) hq⟩ | refine ⟨fun hq => absurd hq (by assumption), fun _ => ?_⟩ | refine ⟨fun _ => ?_, fun hq => absurd hq (by assumption)⟩ | refine ⟨fun _ => ?_, fun hq => absurd (Eq.refl _) hq⟩ | refine ⟨fun hq => absurd (Eq.refl _) hq, fun _ => ?_⟩); conv => whnf)
          try dsimp only
          refine ⟨hz, _, hC2, fun wi3 wl3 hF3 hC3 => ?_⟩
          rw [er i (by omega), er j (by omega), nI_add, nI_add, e] at hC3 ⊢
          conv => whnf
          repeat ((first | refine ⟨fn, ?_⟩ | refine ⟨trivial, ?_⟩ | refine ⟨rfl, ?_⟩ | refine ⟨fun hc => absurd hc (by decide), fun _ => ?_⟩ | refine ⟨fun _ => ?_, fun hc => absurd (by decide) hc⟩ | refine ⟨fun _ => ?_, fun hc => absurd hc (by decide)⟩ | refine ⟨fun hc => absurd (by decide) hc, fun _ => ?_⟩ | refine ⟨Or.inr rfl, ?_⟩ | refine ⟨Or.inl rfl, ?_⟩ | refine ⟨fun hq => absurd (by assumption) hq, fun _ => ?_⟩ | refine ⟨fun _ => ?_, fun hq => absurd (by assumption) hq⟩ | refine ⟨fun hq => absurd hq (by assumption), fun _ => ?_⟩ | refine ⟨fun _ => ?_, fun hq => absurd hq (by assumption)⟩ | refine ⟨fun _ => ?_, fun hq => absurd (Eq.refl _) hq⟩ | refine ⟨fun hq => absurd (Eq.refl _) hq, fun _ => ?_⟩); conv => whnf)
          try dsimp only
          exact fin wi3 wl3 _ _ _ _ _ _ _ 0 hC3 (fs 0 (Or.inl rfl))
  unfold alA at h707
  by_cases ht3 : t < 3
  · have f1 : nI t < nI 3 := nI_lt ht3 (by decide)
    conv => whnf
    repeat ((first | rw [rcv4 g0] | refine ⟨trivial, ?_⟩ | refine ⟨rfl, ?_⟩ | refine ⟨fun hc => absurd hc (by decide), fun _ => ?_⟩ | refine ⟨fun _ => ?_, fun hc => absurd (by decide) hc⟩ | refine ⟨fun _ => ?_, fun hc => absurd hc (by decide)⟩ | refine ⟨fun hc => absurd (by decide) hc, fun _ => ?_⟩ | refine ⟨Or.inr rfl, ?_⟩ | refine ⟨Or.inl rfl, ?_⟩ | refine ⟨fun hq => absurd (by assumption) hq, fun _ => ?_⟩ | refine ⟨fun _ => ?_, fun hq => absurd (by assumption) hq⟩ | refine ⟨fun hq => absurd hq (by assumption), fun _ => ?_⟩ | refine ⟨fun _ => ?_, fun hq => absurd hq (by assumption)⟩ | refine ⟨fun _ => ?_, fun hq => absurd (Eq.refl _) hq⟩ | refine ⟨fun hq => absurd (Eq.refl _) hq, fun _ => ?_⟩); conv => whnf)
    try dsimp only
    refine ⟨hz, _, hC, fun wi2 wl2 hF2 hC2 => ?_⟩
    rw [cntd d q c A kp x tl ht3] at hC2 ⊢
    conv => whnf
    repeat ((first | refine ⟨trivial, ?_⟩ | refine ⟨rfl, ?_⟩ | refine ⟨fun hc => absurd hc (by decide), fun _ => ?_⟩ | refine ⟨fun _ => ?_, fun hc => absurd (by decide) hc⟩ | refine ⟨fun _ => ?_, fun hc => absurd hc (by decide)⟩ | refine ⟨fun hc => absurd (by decide) hc, fun _ => ?_⟩ | refine ⟨Or.inr rfl, ?_⟩ | refine ⟨Or.inl rfl, ?_⟩ | refine ⟨fun hq => absurd (by assumption) hq, fun _ => ?_⟩ | refine ⟨fun _ => ?_, fun hq => absurd (by assumption) hq⟩ | refine ⟨fun hq => absurd hq (by assumption), fun _ => ?_⟩ | refine ⟨fun _ => ?_, fun hq => absurd hq (by assumption)⟩ | refine ⟨fun _ => ?_, fun hq => absurd (Eq.refl _) hq⟩ | refine ⟨fun hq => absurd (Eq.refl _) hq, fun _ => ?_⟩); conv => whnf)
    try dsimp only
    exact h707 wi2 wl2 (d t) (hd t ht3).1 (hd t ht3).2 (fun _ => rfl) hC2
  · have f1 : ¬ nI t < nI 3 := nI_nlt (by omega) (by omega)
    conv => whnf
    repeat ((first | refine ⟨trivial, ?_⟩ | refine ⟨rfl, ?_⟩ | refine ⟨fun hc => absurd hc (by decide), fun _ => ?_⟩ | refine ⟨fun _ => ?_, fun hc => absurd (by decide) hc⟩ | refine ⟨fun _ => ?_, fun hc => absurd hc (by decide)⟩ | refine ⟨fun hc => absurd (by decide) hc, fun _ => ?_⟩ | refine ⟨Or.inr rfl, ?_⟩ | refine ⟨Or.inl rfl, ?_⟩ | refine ⟨fun hq => absurd (by assumption) hq, fun _ => ?_⟩ | refine ⟨fun _ => ?_, fun hq => absurd (by assumption) hq⟩ | refine ⟨fun hq => absurd hq (by assumption), fun _ => ?_⟩ | refine ⟨fun _ => ?_, fun hq => absurd hq (by assumption)⟩ | refine ⟨fun _ => ?_, fun hq => absurd (Eq.refl _) hq⟩ | refine ⟨fun hq => absurd (Eq.refl _) hq, fun _ => ?_⟩); conv => whnf)
    try dsimp only
    exact h707 wi wl 1 (by decide) (by decide) (fun k => absurd k ht3) hC

