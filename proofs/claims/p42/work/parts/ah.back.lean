/-! the law: kept and taken back; lifted -/
section
variable (d : Nat → Nat) (q c : Nat) (A : Nat → Nat → Nat) (kp : zK) (x : Nat → Nat) (tl : Nat × (Nat → Int64))
theorem others_st (hq : q = 2 ∨ q = 3) (hc : c ≤ 40) : ∃ tl2, st_others (d, q, c, A, (true, d, c, A), (0, x), tl) = ((d, q, c, A, (true, d, c, A), (0, x), tl2), nI (fb_ct (hzB A) c)) := by
  have hk : kpM (d, q, c, A, (true, d, c, A), ((0 : Nat), x), tl) = c - fb_ct (hzB A) c := by
    unfold kpM
    rw [if_pos (show shB (d, q, c, A, (true, d, c, A), ((0 : Nat), x), tl).1 (d, q, c, A, (true, d, c, A), ((0 : Nat), x), tl).2.2.2.2.1.2.1 = true from shB_rf d)]
    exact mt_self hq
  have hl := fb_ct_le (hzB A) c
  unfold st_others
  rw [if_pos (show (d, q, c, A, (true, d, c, A), ((0 : Nat), x), tl).2.2.2.2.1.1 = true from rfl), hk]
  refine ⟨_, Prod.ext rfl ?_⟩
  show nI c - nI (c - fb_ct (hzB A) c) = _
  rw [nI_sub (by omega), Nat.sub_sub_self hl]
theorem back_st {d2 : Nat → Nat} {c2 : Nat} {B : Nat → Nat → Nat} (h : shB d d2 = true) : st_back (d, q, c, A, (true, d2, c2, B), (0, x), tl) = ((d2, q, c2, B, (true, d2, c2, B), (0, x), tl), nI c2) := by
  unfold st_back
  rw [if_pos (show (d, q, c, A, (true, d2, c2, B), ((0 : Nat), x), tl).2.2.2.2.1.1 = true from rfl), if_pos (show shB (d, q, c, A, (true, d2, c2, B), ((0 : Nat), x), tl).1 (d, q, c, A, (true, d2, c2, B), ((0 : Nat), x), tl).2.2.2.2.1.2.1 = true from h)]
theorem lifts_st (hd : Dd d) : (q ≠ 2 ∧ st_lifts (d, q, c, A, kp, (0, x), tl) = ((d, q, c, A, kp, (0, x), tl), mI 2)) ∨ (q = 2 ∧ wr d q A c = 0 ∧ ∃ tl2 v, (v = nI 0 ∨ v = nI 1) ∧ st_lifts (d, q, c, A, kp, (0, x), tl) = ((d, q, c, A, kp, (0, x), tl2), v)) ∨ (q = 2 ∧ wr d q A c ≠ 0 ∧ st_lifts (d, q, c, A, kp, (0, x), tl) = ((d, q, c, A, kp, (0, x), tl), mI 3)) := by
  unfold st_lifts
  by_cases h2 : q = 2
  · rw [if_pos (show (d, q, c, A, kp, ((0 : Nat), x), tl).2.1 = 2 from h2)]
    subst h2
    by_cases hr : rtB d 2 A c = true
    · rw [if_pos (show rtB (d, 2, c, A, kp, ((0 : Nat), x), tl).1 2 (d, 2, c, A, kp, ((0 : Nat), x), tl).2.2.2.1 (d, 2, c, A, kp, ((0 : Nat), x), tl).2.2.1 = true from hr)]
      refine Or.inr (Or.inl ⟨rfl, (wr_RT hd).mpr (rt_RT.mp hr), _, _, ?_, rfl⟩)
      unfold bI
      split
      · exact Or.inr rfl
      · exact Or.inl rfl
    · rw [if_neg (show ¬ rtB (d, 2, c, A, kp, ((0 : Nat), x), tl).1 2 (d, 2, c, A, kp, ((0 : Nat), x), tl).2.2.2.1 (d, 2, c, A, kp, ((0 : Nat), x), tl).2.2.1 = true from hr)]
      exact Or.inr (Or.inr ⟨rfl, fun k => hr (rt_RT.mpr ((wr_RT hd).mp k)), rfl⟩)
  · rw [if_neg (show ¬ (d, q, c, A, kp, ((0 : Nat), x), tl).2.1 = 2 from h2)]
    exact Or.inl ⟨h2, rfl⟩
end
theorem shr8 (x : Int32) : ∃ a, a ≤ 16777215 ∧ z_shr x (nI 8) = nI a := by
  obtain ⟨e, h⟩ := bv_N x
  refine ⟨bvN x / 2 ^ 8, ?_, ?_⟩
  · have : bvN x / 2 ^ 8 < 2 ^ 24 := Nat.div_lt_of_lt_mul (by omega)
    omega
  · rw [show z_shr x (nI 8) = z_shr (nI (bvN x)) (nI 8) by rw [← e], z_shrN h (by decide)]
def k_L_945_0 : List zI := [(945, 946, 0, .aload_n 1), (946, 949, 0, .invokevirtual 95), (949, 951, 0, .iload 11), (951, 954, 967, .if_icmp .ne 16), (954, 955, 0, .aload_n 1), (955, 958, 0, .invokevirtual 121), (958, 959, 0, .aload_n 1), (959, 961, 8, .bipush 8), (961, 964, 0, .invokevirtual 30), (964, 967, 969, .if_icmp .eq 5), (967, 968, 0, .iconst 0), (968, 969, 0, .ireturn), (969, 970, 0, .aload_n 1), (970, 971, 1, .iconst 1), (971, 973, 0, .iload 7), (973, 975, 8, .bipush 8), (975, 976, 0, .iushr), (976, 977, 0, .iadd), (977, 978, 2, .iconst 2), (978, 981, 0, .invokevirtual 92), (981, 982, 0, .pop), (982, 983, 0, .aload_n 1), (983, 986, 0, .invokevirtual 104), (986, 989, 1005, .ifCond .ne 19), (989, 990, 0, .aload_n 1), (990, 993, 0, .invokevirtual 124), (993, 995, 0, .iload 11), (995, 998, 1005, .if_icmp .ne 10), (998, 999, 0, .aload_n 1), (999, 1002, 0, .invokevirtual 104), (1002, 1005, 1374, .ifCond .eq 372), (1005, 1006, 0, .iconst 0), (1006, 1007, 0, .ireturn)]
theorem ok_L_945_0 : ∀ e ∈ k_L_945_0, z_okb cL_law e = true := fun e h => List.all_eq_true.mp (by decide +kernel : k_L_945_0.all (z_okb cL_law) = true) e h
def k_L_945 : List zI := k_L_945_0
theorem ok_L_945 : ∀ e ∈ k_L_945, z_okb cL_law e = true := ok_L_945_0
def M_L_945 (L : Nat) (xs : Nat → Int32) : zM := (k_L_945, [], [(95, 4, 9, 1, 0, 0, sp_X11_keeps), (121, 4, 9, 1, 0, 0, sp_X11_others), (30, 4, 9, 2, 0, 0, sp_X11_count), (92, 4, 9, 3, 0, 0, sp_X11_walks), (104, 4, 9, 1, 0, 0, sp_X11_unlikes), (124, 4, 9, 1, 0, 0, sp_X11_back)], ([], [], []), [], [(91, [true, true, false, false, false, false, true, false, false, false, false, false, false, false, false, false, false, false]), (244, [true, true, false, false, false, false, true, true, true, true, true, true, true, true, false, false, false, false]), (278, [true, true, false, false, false, false, true, true, true, true, true, true, true, true, false, false, false, false]), (334, [true, true, false, false, false, false, true, true, true, true, true, true, true, true, false, false, false, false]), (389, [true, true, false, false, false, false, true, true, true, true, true, true, true, true, false, false, false, false]), (441, [true, true, false, false, false, false, true, true, true, true, true, true, true, true, false, false, false, false]), (454, [true, true, false, false, false, false, true, true, true, true, true, true, true, true, false, false, false, false]), (518, [true, true, false, false, false, false, true, true, true, true, true, true, true, true, false, false, false, false]), (559, [true, true, false, false, false, false, true, true, true, true, true, true, true, true, false, false, false, false]), (602, [true, true, false, false, false, false, true, true, true, true, true, true, true, true, false, false, false, false]), (605, [true, true, false, false, false, false, true, true, true, true, true, true, true, true, true, false, false, false]), (691, [true, true, false, false, false, false, true, true, true, true, true, true, true, true, false, false, false, false]), (707, [true, true, false, false, false, false, true, true, true, true, true, true, true, true, false, false, false, false]), (786, [true, true, false, false, false, false, true, true, true, true, true, true, true, true, false, false, false, false]), (833, [true, true, false, false, false, false, true, true, true, true, true, true, true, true, false, false, false, false]), (945, [true, true, false, false, false, false, true, true, true, true, true, true, true, true, false, false, false, false]), (1007, [true, true, false, false, false, false, true, true, true, true, true, true, true, true, false, false, false, false]), (1046, [true, true, false, false, false, false, true, true, true, true, true, true, true, true, true, true, true, false]), (1102, [true, true, false, false, false, false, true, true, true, true, true, true, true, true, false, false, false, true]), (1156, [true, true, false, false, false, false, true, true, true, true, true, true, true, true, false, false, false, false]), (1221, [true, true, false, false, false, false, true, true, true, true, true, true, true, true, false, false, false, false]), (1237, [true, true, false, false, false, false, true, true, true, true, true, true, true, true, false, false, false, false]), (1286, [true, true, false, false, false, false, true, true, true, true, true, true, true, true, false, false, false, false]), (1302, [true, true, false, false, false, false, true, true, true, true, true, true, true, true, false, false, false, false]), (1374, [true, true, false, false, false, false, true, false, false, false, false, false, true, true, false, false, false, false])], 2, false, (true, L, xs), (600104, 7301314, []))
theorem ca_L_945_0 (l : Launch) (L : Nat) (xs : Nat → Int32) : z_cok l RL room_1 (true, L, xs) (95, 4, 9, 1, 0, 0, sp_X11_keeps) := z_ca4 (c_X11_keeps l) mb_X11_keeps ⟨_, rfl, rfl⟩ wt_765 wt_766 wt_767 (by decide)
theorem ca_L_945_1 (l : Launch) (L : Nat) (xs : Nat → Int32) : z_cok l RL room_1 (true, L, xs) (121, 4, 9, 1, 0, 0, sp_X11_others) := z_ca4 (c_X11_others l) mb_X11_others ⟨_, rfl, rfl⟩ wt_769 wt_770 wt_771 (by decide)
theorem ca_L_945_2 (l : Launch) (L : Nat) (xs : Nat → Int32) : z_cok l RL room_1 (true, L, xs) (30, 4, 9, 2, 0, 0, sp_X11_count) := z_ca4 (c_X11_count l) mb_X11_count ⟨_, rfl, rfl⟩ wt_858 wt_859 wt_860 (by decide)
theorem ca_L_945_3 (l : Launch) (L : Nat) (xs : Nat → Int32) : z_cok l RL room_1 (true, L, xs) (92, 4, 9, 3, 0, 0, sp_X11_walks) := z_ca4 (c_X11_walks l) mb_X11_walks ⟨_, rfl, rfl⟩ wt_682 wt_683 wt_684 (by decide)
theorem ca_L_945_4 (l : Launch) (L : Nat) (xs : Nat → Int32) : z_cok l RL room_1 (true, L, xs) (104, 4, 9, 1, 0, 0, sp_X11_unlikes) := z_ca4 (c_X11_unlikes l) mb_X11_unlikes ⟨_, rfl, rfl⟩ wt_786 wt_787 wt_788 (by decide)
theorem ca_L_945_5 (l : Launch) (L : Nat) (xs : Nat → Int32) : z_cok l RL room_1 (true, L, xs) (124, 4, 9, 1, 0, 0, sp_X11_back) := z_ca4 (c_X11_back l) mb_X11_back ⟨_, rfl, rfl⟩ wt_790 wt_791 wt_792 (by decide)
theorem O_L_945 (l : Launch) (L : Nat) (xs : Nat → Int32) : z_OK l RL cL_law room_1 (M_L_945 L xs) := ⟨ok_L_945, fun _ h => absurd h List.not_mem_nil, List.forall_mem_cons.mpr ⟨ca_L_945_0 l L xs, List.forall_mem_cons.mpr ⟨ca_L_945_1 l L xs, List.forall_mem_cons.mpr ⟨ca_L_945_2 l L xs, List.forall_mem_cons.mpr ⟨ca_L_945_3 l L xs, List.forall_mem_cons.mpr ⟨ca_L_945_4 l L xs, List.forall_mem_cons.mpr ⟨ca_L_945_5 l L xs, fun _ h => absurd h List.not_mem_nil⟩⟩⟩⟩⟩⟩, fun _ h => absurd h List.not_mem_nil, fun _ h => absurd h List.not_mem_nil, fun _ h => absurd h List.not_mem_nil, fun _ h => absurd h List.not_mem_nil, rfl, rfl, fun _ h => absurd h List.not_mem_nil⟩
set_option maxRecDepth 100000 in
theorem act_945 {L : Nat} {xs : Nat → Int32} {Jm : zJ} (hs : lawS M_L_945 L xs Jm) : LAct Jm 945 := by
  intro k i j t c1 c2 W wd w d q c A kp hI hW hi hj ht hc1 hc2 hE
  obtain ⟨hz, hWF, x, tl, hC⟩ := hI
  obtain ⟨G, wi, wl⟩ := w
  dsimp only at hz hC
  have g0 := zG_0 hz
  have h40 : c ≤ 40 := cs_40 (ct_S hC)
  have hq : q = 2 ∨ q = 3 := cs_q23 (ct_S hC)
  have hA : Bd q c A := cs_A (ct_S hC)
  have hd : Dd d := cs_d (ct_S hC)
  have hW729 : W ≤ 729 := Nat.le_trans (Nat.le_of_eq hW) (wr_le d q A c)
  have fin : ∀ (wi2 : Nat → Nat → Int32) (wl2 : Nat → Nat → Int64) (d2 : Nat → Nat) (q2 c' : Nat) (A2 : Nat → Nat → Nat) (kp2 : zK) (x2 : Nat → Nat) (tl2 : Nat × (Nat → Int64)) (f : Nat), CT wi2 wl2 (d2, q2, c', A2, kp2, (0, x2), tl2) → (f = 0 ∨ f = 1 ∧ wr d2 q2 A2 c' = W) → Jm 1374 (alE k W f) [] (G, wi2, wl2) c1 c2 := fun wi2 wl2 d2 q2 c' A2 kp2 x2 tl2 f h hf => hE _ d2 q2 c' A2 kp2 c1 c2 f ⟨hz, hWF, x2, tl2, h⟩ hf (by omega) (by omega)
  unfold alE at fin
  refine hs 400 945 _ _ _ _ _ ?_
  unfold alA
  obtain ⟨a, ha, ea⟩ := shr8 wd
  conv => whnf
  repeat ((first | rw [rcv4 g0] | refine ⟨trivial, ?_⟩ | refine ⟨rfl, ?_⟩ | refine ⟨fun hc => absurd hc (by decide), fun _ => ?_⟩ | refine ⟨fun _ => ?_, fun hc => absurd (by decide) hc⟩ | refine ⟨fun _ => ?_, fun hc => absurd hc (by decide)⟩ | refine ⟨fun hc => absurd (by decide) hc, fun _ => ?_⟩ | refine ⟨Or.inr rfl, ?_⟩ | refine ⟨Or.inl rfl, ?_⟩ | refine ⟨fun hq => absurd (by assumption) hq, fun _ => ?_⟩ | refine ⟨fun _ => ?_, fun hq => absurd (by assumption) hq⟩ | refine ⟨fun hq => absurd hq (by assumption), fun _ => ?_⟩ | refine ⟨fun _ => ?_, fun hq => absurd hq (by assumption)⟩ | refine ⟨fun _ => ?_, fun hq => absurd (Eq.refl _) hq⟩ | refine ⟨fun hq => absurd (Eq.refl _) hq, fun _ => ?_⟩); conv => whnf)
  try dsimp only
  refine ⟨hz, _, hC, fun wi2 wl2 hF2 hC2 => ?_⟩
  rw [keeps_st] at hC2 ⊢
  conv => whnf
  repeat ((first | rw [rcv4 g0] | refine ⟨trivial, ?_⟩ | refine ⟨rfl, ?_⟩ | refine ⟨fun hc => absurd hc (by decide), fun _ => ?_⟩ | refine ⟨fun _ => ?_, fun hc => absurd (by decide) hc⟩ | refine ⟨fun _ => ?_, fun hc => absurd hc (by decide)⟩ | refine ⟨fun hc => absurd (by decide) hc, fun _ => ?_⟩ | refine ⟨Or.inr rfl, ?_⟩ | refine ⟨Or.inl rfl, ?_⟩ | refine ⟨fun hq => absurd (by assumption) hq, fun _ => ?_⟩ | refine ⟨fun _ => ?_, fun hq => absurd (by assumption) hq⟩ | refine ⟨fun hq => absurd hq (by assumption), fun _ => ?_⟩ | refine ⟨fun _ => ?_, fun hq => absurd hq (by assumption)⟩ | refine ⟨fun _ => ?_, fun hq => absurd (Eq.refl _) hq⟩ | refine ⟨fun hq => absurd (Eq.refl _) hq, fun _ => ?_⟩); conv => whnf)
  try dsimp only
  obtain ⟨tl3, e3⟩ := others_st d q c A x tl hq h40
  refine ⟨hz, _, hC2, fun wi3 wl3 hF3 hC3 => ?_⟩
  rw [e3] at hC3 ⊢
  clear e3
  conv => whnf
  repeat ((first | rw [rcv4 g0] | refine ⟨trivial, ?_⟩ | refine ⟨rfl, ?_⟩ | refine ⟨fun hc => absurd hc (by decide), fun _ => ?_⟩ | refine ⟨fun _ => ?_, fun hc => absurd (by decide) hc⟩ | refine ⟨fun _ => ?_, fun hc => absurd hc (by decide)⟩ | refine ⟨fun hc => absurd (by decide) hc, fun _ => ?_⟩ | refine ⟨Or.inr rfl, ?_⟩ | refine ⟨Or.inl rfl, ?_⟩ | refine ⟨fun hq => absurd (by assumption) hq, fun _ => ?_⟩ | refine ⟨fun _ => ?_, fun hq => absurd (by assumption) hq⟩ | refine ⟨fun hq => absurd hq (by assumption), fun _ => ?_⟩ | refine ⟨fun _ => ?_, fun hq => absurd hq (by assumption)⟩ | refine ⟨fun _ => ?_, fun hq => absurd (Eq.refl _) hq⟩ | refine ⟨fun hq => absurd (Eq.refl _) hq, fun _ => ?_⟩); conv => whnf)
  try dsimp only
  refine ⟨hz, _, hC3, fun wi4 wl4 hF4 hC4 => ?_⟩
  rw [cnt8] at hC4 ⊢
  generalize fb_ct (hzB A) c = zz at hC4 ⊢
  conv => whnf
  repeat ((first | rw [rcv4 g0] | refine ⟨trivial, ?_⟩ | refine ⟨rfl, ?_⟩ | refine ⟨fun hc => absurd hc (by decide), fun _ => ?_⟩ | refine ⟨fun _ => ?_, fun hc => absurd (by decide) hc⟩ | refine ⟨fun _ => ?_, fun hc => absurd hc (by decide)⟩ | refine ⟨fun hc => absurd (by decide) hc, fun _ => ?_⟩ | refine ⟨Or.inr rfl, ?_⟩ | refine ⟨Or.inl rfl, ?_⟩ | refine ⟨fun hq => absurd (by assumption) hq, fun _ => ?_⟩ | refine ⟨fun _ => ?_, fun hq => absurd (by assumption) hq⟩ | refine ⟨fun hq => absurd hq (by assumption), fun _ => ?_⟩ | refine ⟨fun _ => ?_, fun hq => absurd hq (by assumption)⟩ | refine ⟨fun _ => ?_, fun hq => absurd (Eq.refl _) hq⟩ | refine ⟨fun hq => absurd (Eq.refl _) hq, fun _ => ?_⟩); conv => whnf)
  try dsimp only
  obtain ⟨c', A', tl5, hc', hB, hG, e5⟩ := walks_st d q c A (true, d, c, A) x tl3 hq hA h40 (s := 1 + a) (n := 2) (by omega) (by omega) (by decide) (by decide)
  refine ⟨hz, _, hC4, fun wi5 wl5 hF5 hC5 => ?_⟩
  rw [ea, nI_add, e5] at hC5 ⊢
  clear e5
  conv => whnf
  repeat ((first | rw [rcv4 g0] | refine ⟨trivial, ?_⟩ | refine ⟨rfl, ?_⟩ | refine ⟨fun hc => absurd hc (by decide), fun _ => ?_⟩ | refine ⟨fun _ => ?_, fun hc => absurd (by decide) hc⟩ | refine ⟨fun _ => ?_, fun hc => absurd hc (by decide)⟩ | refine ⟨fun hc => absurd (by decide) hc, fun _ => ?_⟩ | refine ⟨Or.inr rfl, ?_⟩ | refine ⟨Or.inl rfl, ?_⟩ | refine ⟨fun hq => absurd (by assumption) hq, fun _ => ?_⟩ | refine ⟨fun _ => ?_, fun hq => absurd (by assumption) hq⟩ | refine ⟨fun hq => absurd hq (by assumption), fun _ => ?_⟩ | refine ⟨fun _ => ?_, fun hq => absurd hq (by assumption)⟩ | refine ⟨fun _ => ?_, fun hq => absurd (Eq.refl _) hq⟩ | refine ⟨fun hq => absurd (Eq.refl _) hq, fun _ => ?_⟩); conv => whnf)
  try dsimp only
  obtain ⟨tl6, e6⟩ := unlikes_st d q c' A' x tl5 (shB_rf d) (uk_eqG (d := d) (eqG_symm hG))
  refine ⟨hz, _, hC5, fun wi6 wl6 hF6 hC6 => ?_⟩
  rw [e6] at hC6 ⊢
  clear e6
  conv => whnf
  repeat ((first | rw [rcv4 g0] | refine ⟨trivial, ?_⟩ | refine ⟨rfl, ?_⟩ | refine ⟨fun hc => absurd hc (by decide), fun _ => ?_⟩ | refine ⟨fun _ => ?_, fun hc => absurd (by decide) hc⟩ | refine ⟨fun _ => ?_, fun hc => absurd hc (by decide)⟩ | refine ⟨fun hc => absurd (by decide) hc, fun _ => ?_⟩ | refine ⟨Or.inr rfl, ?_⟩ | refine ⟨Or.inl rfl, ?_⟩ | refine ⟨fun hq => absurd (by assumption) hq, fun _ => ?_⟩ | refine ⟨fun _ => ?_, fun hq => absurd (by assumption) hq⟩ | refine ⟨fun hq => absurd hq (by assumption), fun _ => ?_⟩ | refine ⟨fun _ => ?_, fun hq => absurd hq (by assumption)⟩ | refine ⟨fun _ => ?_, fun hq => absurd (Eq.refl _) hq⟩ | refine ⟨fun hq => absurd (Eq.refl _) hq, fun _ => ?_⟩); conv => whnf)
  try dsimp only
  refine ⟨hz, _, hC6, fun wi7 wl7 hF7 hC7 => ?_⟩
  rw [back_st d q c' A' x tl6 (shB_rf d)] at hC7 ⊢
  conv => whnf
  repeat ((first | rw [rcv4 g0] | refine ⟨trivial, ?_⟩ | refine ⟨rfl, ?_⟩ | refine ⟨fun hc => absurd hc (by decide), fun _ => ?_⟩ | refine ⟨fun _ => ?_, fun hc => absurd (by decide) hc⟩ | refine ⟨fun _ => ?_, fun hc => absurd hc (by decide)⟩ | refine ⟨fun hc => absurd (by decide) hc, fun _ => ?_⟩ | refine ⟨Or.inr rfl, ?_⟩ | refine ⟨Or.inl rfl, ?_⟩ | refine ⟨fun hq => absurd (by assumption) hq, fun _ => ?_⟩ | refine ⟨fun _ => ?_, fun hq => absurd (by assumption) hq⟩ | refine ⟨fun hq => absurd hq (by assumption), fun _ => ?_⟩ | refine ⟨fun _ => ?_, fun hq => absurd hq (by assumption)⟩ | refine ⟨fun _ => ?_, fun hq => absurd (Eq.refl _) hq⟩ | refine ⟨fun hq => absurd (Eq.refl _) hq, fun _ => ?_⟩); conv => whnf)
  try dsimp only
  obtain ⟨tl8, e8⟩ := unlikes_st d q c A x tl6 (shB_rf d) (uk_eqG (d := d) (eqG_refl q A c))
  refine ⟨hz, _, hC7, fun wi8 wl8 hF8 hC8 => ?_⟩
  rw [e8] at hC8 ⊢
  clear e8
  conv => whnf
  repeat ((first | refine ⟨trivial, ?_⟩ | refine ⟨rfl, ?_⟩ | refine ⟨fun hc => absurd hc (by decide), fun _ => ?_⟩ | refine ⟨fun _ => ?_, fun hc => absurd (by decide) hc⟩ | refine ⟨fun _ => ?_, fun hc => absurd hc (by decide)⟩ | refine ⟨fun hc => absurd (by decide) hc, fun _ => ?_⟩ | refine ⟨Or.inr rfl, ?_⟩ | refine ⟨Or.inl rfl, ?_⟩ | refine ⟨fun hq => absurd (by assumption) hq, fun _ => ?_⟩ | refine ⟨fun _ => ?_, fun hq => absurd (by assumption) hq⟩ | refine ⟨fun hq => absurd hq (by assumption), fun _ => ?_⟩ | refine ⟨fun _ => ?_, fun hq => absurd hq (by assumption)⟩ | refine ⟨fun _ => ?_, fun hq => absurd (Eq.refl _) hq⟩ | refine ⟨fun hq => absurd (Eq.refl _) hq, fun _ => ?_⟩); conv => whnf)
  try dsimp only
  exact fin wi8 wl8 _ _ _ _ _ _ _ 1 hC8 (Or.inr ⟨rfl, hW.symm⟩)
def k_L_1156_0 : List zI := [(1156, 1157, 0, .aload_n 1), (1157, 1160, 0, .invokevirtual 137), (1160, 1162, 0, .istore 14), (1162, 1163, 0, .aload_n 1), (1163, 1164, 3, .iconst 3), (1164, 1167, 0, .invokevirtual 30), (1167, 1168, 2, .iconst 2), (1168, 1171, 1181, .if_icmp .eq 13), (1171, 1173, 0, .iload 14), (1173, 1175, 2, .bipush (-2)), (1175, 1178, 1374, .if_icmp .eq 199), (1178, 1181, 1219, .goto 41), (1181, 1183, 0, .iload 14), (1183, 1185, 3, .bipush (-3)), (1185, 1188, 1192, .if_icmp .ne 7), (1188, 1189, 1, .iconst 1), (1189, 1192, 1193, .goto 4), (1192, 1193, 0, .iconst 0), (1193, 1195, 0, .iload 12), (1195, 1198, 1202, .ifCond .le 7), (1198, 1199, 1, .iconst 1), (1199, 1202, 1203, .goto 4), (1202, 1203, 0, .iconst 0), (1203, 1206, 1219, .if_icmp .ne 16), (1206, 1208, 0, .iload 14), (1208, 1210, 3, .bipush (-3)), (1210, 1213, 1219, .if_icmp .lt 9), (1213, 1215, 0, .iload 14), (1215, 1216, 1, .iconst 1), (1216, 1219, 1374, .if_icmp .le 158), (1219, 1220, 0, .iconst 0), (1220, 1221, 0, .ireturn)]
theorem ok_L_1156_0 : ∀ e ∈ k_L_1156_0, z_okb cL_law e = true := fun e h => List.all_eq_true.mp (by decide +kernel : k_L_1156_0.all (z_okb cL_law) = true) e h
def k_L_1156 : List zI := k_L_1156_0
theorem ok_L_1156 : ∀ e ∈ k_L_1156, z_okb cL_law e = true := ok_L_1156_0
def M_L_1156 (L : Nat) (xs : Nat → Int32) : zM := (k_L_1156, [], [(137, 4, 9, 1, 0, 0, sp_X11_lifts), (30, 4, 9, 2, 0, 0, sp_X11_count)], ([], [], []), [], [(91, [true, true, false, false, false, false, true, false, false, false, false, false, false, false, false, false, false, false]), (244, [true, true, false, false, false, false, true, true, true, true, true, true, true, true, false, false, false, false]), (278, [true, true, false, false, false, false, true, true, true, true, true, true, true, true, false, false, false, false]), (334, [true, true, false, false, false, false, true, true, true, true, true, true, true, true, false, false, false, false]), (389, [true, true, false, false, false, false, true, true, true, true, true, true, true, true, false, false, false, false]), (441, [true, true, false, false, false, false, true, true, true, true, true, true, true, true, false, false, false, false]), (454, [true, true, false, false, false, false, true, true, true, true, true, true, true, true, false, false, false, false]), (518, [true, true, false, false, false, false, true, true, true, true, true, true, true, true, false, false, false, false]), (559, [true, true, false, false, false, false, true, true, true, true, true, true, true, true, false, false, false, false]), (602, [true, true, false, false, false, false, true, true, true, true, true, true, true, true, false, false, false, false]), (605, [true, true, false, false, false, false, true, true, true, true, true, true, true, true, true, false, false, false]), (691, [true, true, false, false, false, false, true, true, true, true, true, true, true, true, false, false, false, false]), (707, [true, true, false, false, false, false, true, true, true, true, true, true, true, true, false, false, false, false]), (786, [true, true, false, false, false, false, true, true, true, true, true, true, true, true, false, false, false, false]), (833, [true, true, false, false, false, false, true, true, true, true, true, true, true, true, false, false, false, false]), (945, [true, true, false, false, false, false, true, true, true, true, true, true, true, true, false, false, false, false]), (1007, [true, true, false, false, false, false, true, true, true, true, true, true, true, true, false, false, false, false]), (1046, [true, true, false, false, false, false, true, true, true, true, true, true, true, true, true, true, true, false]), (1102, [true, true, false, false, false, false, true, true, true, true, true, true, true, true, false, false, false, true]), (1156, [true, true, false, false, false, false, true, true, true, true, true, true, true, true, false, false, false, false]), (1221, [true, true, false, false, false, false, true, true, true, true, true, true, true, true, false, false, false, false]), (1237, [true, true, false, false, false, false, true, true, true, true, true, true, true, true, false, false, false, false]), (1286, [true, true, false, false, false, false, true, true, true, true, true, true, true, true, false, false, false, false]), (1302, [true, true, false, false, false, false, true, true, true, true, true, true, true, true, false, false, false, false]), (1374, [true, true, false, false, false, false, true, false, false, false, false, false, true, true, false, false, false, false])], 2, false, (true, L, xs), (600104, 7301314, []))
theorem ca_L_1156_0 (l : Launch) (L : Nat) (xs : Nat → Int32) : z_cok l RL room_1 (true, L, xs) (137, 4, 9, 1, 0, 0, sp_X11_lifts) := z_ca4 (c_X11_lifts l) mb_X11_lifts ⟨_, rfl, rfl⟩ wt_794 wt_795 wt_796 (by decide)
theorem ca_L_1156_1 (l : Launch) (L : Nat) (xs : Nat → Int32) : z_cok l RL room_1 (true, L, xs) (30, 4, 9, 2, 0, 0, sp_X11_count) := z_ca4 (c_X11_count l) mb_X11_count ⟨_, rfl, rfl⟩ wt_858 wt_859 wt_860 (by decide)
theorem O_L_1156 (l : Launch) (L : Nat) (xs : Nat → Int32) : z_OK l RL cL_law room_1 (M_L_1156 L xs) := ⟨ok_L_1156, fun _ h => absurd h List.not_mem_nil, List.forall_mem_cons.mpr ⟨ca_L_1156_0 l L xs, List.forall_mem_cons.mpr ⟨ca_L_1156_1 l L xs, fun _ h => absurd h List.not_mem_nil⟩⟩, fun _ h => absurd h List.not_mem_nil, fun _ h => absurd h List.not_mem_nil, fun _ h => absurd h List.not_mem_nil, fun _ h => absurd h List.not_mem_nil, rfl, rfl, fun _ h => absurd h List.not_mem_nil⟩
set_option maxRecDepth 100000 in
theorem act_1156 {L : Nat} {xs : Nat → Int32} {Jm : zJ} (hs : lawS M_L_1156 L xs Jm) : LAct Jm 1156 := by
  intro k i j t c1 c2 W wd w d q c A kp hI hW hi hj ht hc1 hc2 hE
  obtain ⟨hz, hWF, x, tl, hC⟩ := hI
  obtain ⟨G, wi, wl⟩ := w
  dsimp only at hz hC
  have g0 := zG_0 hz
  have h40 : c ≤ 40 := cs_40 (ct_S hC)
  have hq : q = 2 ∨ q = 3 := cs_q23 (ct_S hC)
  have hA : Bd q c A := cs_A (ct_S hC)
  have hd : Dd d := cs_d (ct_S hC)
  have hW729 : W ≤ 729 := Nat.le_trans (Nat.le_of_eq hW) (wr_le d q A c)
  have fin : ∀ (wi2 : Nat → Nat → Int32) (wl2 : Nat → Nat → Int64) (d2 : Nat → Nat) (q2 c' : Nat) (A2 : Nat → Nat → Nat) (kp2 : zK) (x2 : Nat → Nat) (tl2 : Nat × (Nat → Int64)) (f : Nat), CT wi2 wl2 (d2, q2, c', A2, kp2, (0, x2), tl2) → (f = 0 ∨ f = 1 ∧ wr d2 q2 A2 c' = W) → Jm 1374 (alE k W f) [] (G, wi2, wl2) c1 c2 := fun wi2 wl2 d2 q2 c' A2 kp2 x2 tl2 f h hf => hE _ d2 q2 c' A2 kp2 c1 c2 f ⟨hz, hWF, x2, tl2, h⟩ hf (by omega) (by omega)
  unfold alE at fin
  refine hs 400 1156 _ _ _ _ _ ?_
  unfold alA
  rcases lifts_st d q c A kp x tl hd with ⟨h1, e⟩ | ⟨h1, h2, tl2, v, hv, e⟩ | ⟨h1, h2, e⟩
  · have f1 : ¬ nI q = nI 2 := fun k => h1 ((nI_eq (by omega) (by decide)).mp k)
    conv => whnf
    repeat ((first | rw [rcv4 g0] | refine ⟨trivial, ?_⟩ | refine ⟨rfl, ?_⟩ | refine ⟨fun hc => absurd hc (by decide), fun _ => ?_⟩ | refine ⟨fun _ => ?_, fun hc => absurd (by decide) hc⟩ | refine ⟨fun _ => ?_, fun hc => absurd hc (by decide)⟩ | refine ⟨fun hc => absurd (by decide) hc, fun _ => ?_⟩ | refine ⟨Or.inr rfl, ?_⟩ | refine ⟨Or.inl rfl, ?_⟩ | refine ⟨fun hq => absurd (by assumption) hq, fun _ => ?_⟩ | refine ⟨fun _ => ?_, fun hq => absurd (by assumption) hq⟩ | refine ⟨fun hq => absurd hq (by assumption), fun _ => ?_⟩ | refine ⟨fun _ => ?_, fun hq => absurd hq (by assumption)⟩ | refine ⟨fun _ => ?_, fun hq => absurd (Eq.refl _) hq⟩ | refine ⟨fun hq => absurd (Eq.refl _) hq, fun _ => ?_⟩); conv => whnf)
    try dsimp only
    refine ⟨hz, _, hC, fun wi2 wl2 hF2 hC2 => ?_⟩
    rw [e] at hC2 ⊢
    conv => whnf
    repeat ((first | rw [rcv4 g0] | refine ⟨trivial, ?_⟩ | refine ⟨rfl, ?_⟩ | refine ⟨fun hc => absurd hc (by decide), fun _ => ?_⟩ | refine ⟨fun _ => ?_, fun hc => absurd (by decide) hc⟩ | refine ⟨fun _ => ?_, fun hc => absurd hc (by decide)⟩ | refine ⟨fun hc => absurd (by decide) hc, fun _ => ?_⟩ | refine ⟨Or.inr rfl, ?_⟩ | refine ⟨Or.inl rfl, ?_⟩ | refine ⟨fun hq => absurd (by assumption) hq, fun _ => ?_⟩ | refine ⟨fun _ => ?_, fun hq => absurd (by assumption) hq⟩ | refine ⟨fun hq => absurd hq (by assumption), fun _ => ?_⟩ | refine ⟨fun _ => ?_, fun hq => absurd hq (by assumption)⟩ | refine ⟨fun _ => ?_, fun hq => absurd (Eq.refl _) hq⟩ | refine ⟨fun hq => absurd (Eq.refl _) hq, fun _ => ?_⟩); conv => whnf)
    try dsimp only
    refine ⟨hz, _, hC2, fun wi3 wl3 hF3 hC3 => ?_⟩
    rw [cnt3] at hC3 ⊢
    conv => whnf
    repeat ((first | refine ⟨trivial, ?_⟩ | refine ⟨rfl, ?_⟩ | refine ⟨fun hc => absurd hc (by decide), fun _ => ?_⟩ | refine ⟨fun _ => ?_, fun hc => absurd (by decide) hc⟩ | refine ⟨fun _ => ?_, fun hc => absurd hc (by decide)⟩ | refine ⟨fun hc => absurd (by decide) hc, fun _ => ?_⟩ | refine ⟨Or.inr rfl, ?_⟩ | refine ⟨Or.inl rfl, ?_⟩ | refine ⟨fun hq => absurd (by assumption) hq, fun _ => ?_⟩ | refine ⟨fun _ => ?_, fun hq => absurd (by assumption) hq⟩ | refine ⟨fun hq => absurd hq (by assumption), fun _ => ?_⟩ | refine ⟨fun _ => ?_, fun hq => absurd hq (by assumption)⟩ | refine ⟨fun _ => ?_, fun hq => absurd (Eq.refl _) hq⟩ | refine ⟨fun hq => absurd (Eq.refl _) hq, fun _ => ?_⟩); conv => whnf)
    try dsimp only
    exact fin wi3 wl3 _ _ _ _ _ _ _ 1 hC3 (Or.inr ⟨rfl, hW.symm⟩)
  · have f1 : nI q = nI 2 := by rw [h1]
    have f2 : ¬ v = mI 3 := by rcases hv with rfl | rfl <;> decide
    have f3 : ¬ nI 0 < nI W := by rw [hW, h2]; decide
    have f4 : ¬ v < mI 3 := by rcases hv with rfl | rfl <;> decide
    have f5 : ¬ nI 1 < v := by rcases hv with rfl | rfl <;> decide
    conv => whnf
    repeat ((first | rw [rcv4 g0] | refine ⟨trivial, ?_⟩ | refine ⟨rfl, ?_⟩ | refine ⟨fun hc => absurd hc (by decide), fun _ => ?_⟩ | refine ⟨fun _ => ?_, fun hc => absurd (by decide) hc⟩ | refine ⟨fun _ => ?_, fun hc => absurd hc (by decide)⟩ | refine ⟨fun hc => absurd (by decide) hc, fun _ => ?_⟩ | refine ⟨Or.inr rfl, ?_⟩ | refine ⟨Or.inl rfl, ?_⟩ | refine ⟨fun hq => absurd (by assumption) hq, fun _ => ?_⟩ | refine ⟨fun _ => ?_, fun hq => absurd (by assumption) hq⟩ | refine ⟨fun hq => absurd hq (by assumption), fun _ => ?_⟩ | refine ⟨fun _ => ?_, fun hq => absurd hq (by assumption)⟩ | refine ⟨fun _ => ?_, fun hq => absurd (Eq.refl _) hq⟩ | refine ⟨fun hq => absurd (Eq.refl _) hq, fun _ => ?_⟩); conv => whnf)
    try dsimp only
    refine ⟨hz, _, hC, fun wi2 wl2 hF2 hC2 => ?_⟩
    rw [e] at hC2 ⊢
    conv => whnf
    repeat ((first | rw [rcv4 g0] | refine ⟨trivial, ?_⟩ | refine ⟨rfl, ?_⟩ | refine ⟨fun hc => absurd hc (by decide), fun _ => ?_⟩ | refine ⟨fun _ => ?_, fun hc => absurd (by decide) hc⟩ | refine ⟨fun _ => ?_, fun hc => absurd hc (by decide)⟩ | refine ⟨fun hc => absurd (by decide) hc, fun _ => ?_⟩ | refine ⟨Or.inr rfl, ?_⟩ | refine ⟨Or.inl rfl, ?_⟩ | refine ⟨fun hq => absurd (by assumption) hq, fun _ => ?_⟩ | refine ⟨fun _ => ?_, fun hq => absurd (by assumption) hq⟩ | refine ⟨fun hq => absurd hq (by assumption), fun _ => ?_⟩ | refine ⟨fun _ => ?_, fun hq => absurd hq (by assumption)⟩ | refine ⟨fun _ => ?_, fun hq => absurd (Eq.refl _) hq⟩ | refine ⟨fun hq => absurd (Eq.refl _) hq, fun _ => ?_⟩); conv => whnf)
    try dsimp only
    refine ⟨hz, _, hC2, fun wi3 wl3 hF3 hC3 => ?_⟩
    rw [cnt3] at hC3 ⊢
    conv => whnf
    repeat ((first | refine ⟨trivial, ?_⟩ | refine ⟨rfl, ?_⟩ | refine ⟨fun hc => absurd hc (by decide), fun _ => ?_⟩ | refine ⟨fun _ => ?_, fun hc => absurd (by decide) hc⟩ | refine ⟨fun _ => ?_, fun hc => absurd hc (by decide)⟩ | refine ⟨fun hc => absurd (by decide) hc, fun _ => ?_⟩ | refine ⟨Or.inr rfl, ?_⟩ | refine ⟨Or.inl rfl, ?_⟩ | refine ⟨fun hq => absurd (by assumption) hq, fun _ => ?_⟩ | refine ⟨fun _ => ?_, fun hq => absurd (by assumption) hq⟩ | refine ⟨fun hq => absurd hq (by assumption), fun _ => ?_⟩ | refine ⟨fun _ => ?_, fun hq => absurd hq (by assumption)⟩ | refine ⟨fun _ => ?_, fun hq => absurd (Eq.refl _) hq⟩ | refine ⟨fun hq => absurd (Eq.refl _) hq, fun _ => ?_⟩); conv => whnf)
    try dsimp only
    exact fin wi3 wl3 _ _ _ _ _ _ _ 1 hC3 (Or.inr ⟨rfl, hW.symm⟩)
  · have f1 : nI q = nI 2 := by rw [h1]
    have f3 : nI 0 < nI W := nI_lt (by rw [← hW] at h2; omega) (by omega)
    conv => whnf
    repeat ((first | rw [rcv4 g0] | refine ⟨trivial, ?_⟩ | refine ⟨rfl, ?_⟩ | refine ⟨fun hc => absurd hc (by decide), fun _ => ?_⟩ | refine ⟨fun _ => ?_, fun hc => absurd (by decide) hc⟩ | refine ⟨fun _ => ?_, fun hc => absurd hc (by decide)⟩ | refine ⟨fun hc => absurd (by decide) hc, fun _ => ?_⟩ | refine ⟨Or.inr rfl, ?_⟩ | refine ⟨Or.inl rfl, ?_⟩ | refine ⟨fun hq => absurd (by assumption) hq, fun _ => ?_⟩ | refine ⟨fun _ => ?_, fun hq => absurd (by assumption) hq⟩ | refine ⟨fun hq => absurd hq (by assumption), fun _ => ?_⟩ | refine ⟨fun _ => ?_, fun hq => absurd hq (by assumption)⟩ | refine ⟨fun _ => ?_, fun hq => absurd (Eq.refl _) hq⟩ | refine ⟨fun hq => absurd (Eq.refl _) hq, fun _ => ?_⟩); conv => whnf)
    try dsimp only
    refine ⟨hz, _, hC, fun wi2 wl2 hF2 hC2 => ?_⟩
    rw [e] at hC2 ⊢
    conv => whnf
    repeat ((first | rw [rcv4 g0] | refine ⟨trivial, ?_⟩ | refine ⟨rfl, ?_⟩ | refine ⟨fun hc => absurd hc (by decide), fun _ => ?_⟩ | refine ⟨fun _ => ?_, fun hc => absurd (by decide) hc⟩ | refine ⟨fun _ => ?_, fun hc => absurd hc (by decide)⟩ | refine ⟨fun hc => absurd (by decide) hc, fun _ => ?_⟩ | refine ⟨Or.inr rfl, ?_⟩ | refine ⟨Or.inl rfl, ?_⟩ | refine ⟨fun hq => absurd (by assumption) hq, fun _ => ?_⟩ | refine ⟨fun _ => ?_, fun hq => absurd (by assumption) hq⟩ | refine ⟨fun hq => absurd hq (by assumption), fun _ => ?_⟩ | refine ⟨fun _ => ?_, fun hq => absurd hq (by assumption)⟩ | refine ⟨fun _ => ?_, fun hq => absurd (Eq.refl _) hq⟩ | refine ⟨fun hq => absurd (Eq.refl _) hq, fun _ => ?_⟩); conv => whnf)
    try dsimp only
    refine ⟨hz, _, hC2, fun wi3 wl3 hF3 hC3 => ?_⟩
    rw [cnt3] at hC3 ⊢
    conv => whnf
    repeat ((first | refine ⟨trivial, ?_⟩ | refine ⟨rfl, ?_⟩ | refine ⟨fun hc => absurd hc (by decide), fun _ => ?_⟩ | refine ⟨fun _ => ?_, fun hc => absurd (by decide) hc⟩ | refine ⟨fun _ => ?_, fun hc => absurd hc (by decide)⟩ | refine ⟨fun hc => absurd (by decide) hc, fun _ => ?_⟩ | refine ⟨Or.inr rfl, ?_⟩ | refine ⟨Or.inl rfl, ?_⟩ | refine ⟨fun hq => absurd (by assumption) hq, fun _ => ?_⟩ | refine ⟨fun _ => ?_, fun hq => absurd (by assumption) hq⟩ | refine ⟨fun hq => absurd hq (by assumption), fun _ => ?_⟩ | refine ⟨fun _ => ?_, fun hq => absurd hq (by assumption)⟩ | refine ⟨fun _ => ?_, fun hq => absurd (Eq.refl _) hq⟩ | refine ⟨fun hq => absurd (Eq.refl _) hq, fun _ => ?_⟩); conv => whnf)
    try dsimp only
    exact fin wi3 wl3 _ _ _ _ _ _ _ 1 hC3 (Or.inr ⟨rfl, hW.symm⟩)

