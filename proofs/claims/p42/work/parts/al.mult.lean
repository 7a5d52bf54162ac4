/-! the law: multiplied by ones -/
section
variable (d : Nat → Nat) (q c : Nat) (A : Nat → Nat → Nat) (kp : zK) (x : Nat → Nat) (tl : Nat × (Nat → Int64))
theorem mult_st (hq : q = 2 ∨ q = 3) (hd : Dd d) {n : Nat} (hn : n < 2 ^ 31) (h : ones (pl d 0 + pl d 1) n x) : ∃ m tl2, m ≤ 9 ∧ tl2.1 = pl d 2 ∧ (wr d q A c = 0 → m = 0 ∧ ∀ z, z < pl d 2 → tl2.2 z = lN (d 1 % q)) ∧ st_multiplies (d, q, c, A, kp, (n, x), tl) = ((d, q, c, A, kp, (0, x), tl2), nI m) := by
  obtain ⟨n1, n2, n3⟩ := nu_ones hq h (pl d 0 + pl d 1) (Nat.le_refl _)
  have hm : muN (d, q, c, A, kp, (n, x), tl) = nuL x n q (pl d 0 + pl d 1) := rfl
  have hn2 : (nuL x n q (pl d 0 + pl d 1)).2.1 = n := by rw [n2]; have := h.1; omega
  unfold st_multiplies
  rw [hm]
  generalize nuL x n q (pl d 0 + pl d 1) = R at n1 hn2 n3
  rw [if_pos (show ffI R.1 R.2.1 (d, q, c, A, kp, (n, x), tl).2.2.2.2.2.1.1 < nI 0 from (ffI_neg (by omega)).mpr ⟨n1, by rw [hn2]; exact Nat.lt_irrefl n⟩)]
  refine ⟨_, (pl d 2, muX d q A c R.2.2), Nat.le_trans (fb_ct_le _ _) (pl9 hd (by decide)), rfl, fun hw => ?_, rfl⟩
  have hR := (wr_RT hd).mp hw
  refine ⟨fb_ct_zero.mpr (fun z hz => ?_), fun z hz => ?_⟩
  · have hz : z < pl d 2 := hz
    show (!(cmN d q A R.2.2 z c % q == duN d R.2.2 z (d 1) % q)) = false
    rw [cm_right hd hR n3 hz, du_ones hd n3 hz]
    simp
  · show lN (cmN d q A R.2.2 z c % q) = _
    rw [cm_right hd hR n3 hz]
end
/-- 1,1, .. : m + 1 of them -/
def onL : Nat → List Nat
  | 0 => [49]
  | m + 1 => onL m ++ [44, 49]
theorem onL_len : ∀ m, (onL m).length = 2 * m + 1
  | 0 => rfl
  | m + 1 => by
    show (onL m ++ [44, 49]).length = _
    rw [List.length_append, onL_len m]
    rfl
theorem onL_at : ∀ m k, k < 2 * m + 1 → lfN (onL m) k = if k % 2 = 0 then 49 else 44
  | 0, k, h => by
    obtain rfl : k = 0 := by omega
    rfl
  | m + 1, k, h => by
    show lfN (onL m ++ [44, 49]) k = _
    by_cases h2 : k < (onL m).length
    · rw [lfN_l h2]
      rw [onL_len] at h2
      exact onL_at m k h2
    · rw [lfN_r h2]
      rw [onL_len] at h2 ⊢
      by_cases h3 : k = 2 * m + 1
      · rw [h3, Nat.sub_self, if_neg (by omega)]
        rfl
      · obtain rfl : k = 2 * m + 2 := by omega
        rw [show 2 * m + 2 - (2 * m + 1) = 1 by omega, if_pos (by omega)]
        rfl
def k_L_1007_0 : List zI := [(1007, 1010, 0, .new 27), (1010, 1011, 0, .dup), (1011, 1013, 0, .ldc 127), (1013, 1016, 0, .invokespecial 129), (1016, 1018, 0, .astore 14), (1018, 1019, 0, .aload_n 1), (1019, 1020, 0, .iconst 0), (1020, 1023, 0, .invokevirtual 30), (1023, 1024, 0, .aload_n 1), (1024, 1025, 1, .iconst 1), (1025, 1028, 0, .invokevirtual 30), (1028, 1029, 0, .imul), (1029, 1030, 0, .aload_n 1), (1030, 1031, 1, .iconst 1), (1031, 1034, 0, .invokevirtual 30), (1034, 1035, 0, .aload_n 1), (1035, 1036, 2, .iconst 2), (1036, 1039, 0, .invokevirtual 30), (1039, 1040, 0, .imul), (1040, 1041, 0, .iadd), (1041, 1043, 0, .istore 15), (1043, 1044, 1, .iconst 1), (1044, 1046, 0, .istore 16), (1046, 1048, 0, .iload 16), (1048, 1050, 0, .iload 15), (1050, 1053, 1067, .if_icmp .ge 17), (1053, 1055, 0, .aload 14), (1055, 1057, 0, .ldc 132), (1057, 1060, 0, .invokevirtual 113), (1060, 1061, 0, .pop), (1061, 1064, 1, .iinc 16 1), (1064, 1067, 1046, .goto (-18)), (1067, 1068, 0, .aload_n 1), (1068, 1070, 0, .aload 14), (1070, 1073, 0, .invokevirtual 41), (1073, 1076, 0, .invokestatic 80), (1076, 1077, 0, .aload_n 1), (1077, 1080, 0, .invokevirtual 134), (1080, 1082, 0, .istore 16), (1082, 1084, 0, .iload 16)]
theorem ok_L_1007_0 : ∀ e ∈ k_L_1007_0, z_okb cL_law e = true := fun e h => List.all_eq_true.mp (by decide +kernel : k_L_1007_0.all (z_okb cL_law) = true) e h
def k_L_1007_1 : List zI := [(1084, 1087, 1097, .ifCond .lt 13), (1087, 1089, 0, .iload 12), (1089, 1092, 1099, .ifCond .ne 10), (1092, 1094, 0, .iload 16), (1094, 1097, 1099, .ifCond .eq 5), (1097, 1098, 0, .iconst 0), (1098, 1099, 0, .ireturn), (1099, 1100, 0, .iconst 0), (1100, 1102, 0, .istore 17), (1102, 1104, 0, .iload 17), (1104, 1105, 0, .aload_n 1), (1105, 1106, 0, .iconst 0), (1106, 1109, 0, .invokevirtual 30), (1109, 1110, 0, .aload_n 1), (1110, 1111, 2, .iconst 2), (1111, 1114, 0, .invokevirtual 30), (1114, 1115, 0, .imul), (1115, 1118, 1153, .if_icmp .ge 38), (1118, 1120, 0, .iload 12), (1120, 1123, 1147, .ifCond .ne 27), (1123, 1124, 0, .aload_n 1), (1124, 1126, 0, .iload 17), (1126, 1129, 0, .invokevirtual 69), (1129, 1130, 0, .aload_n 1), (1130, 1131, 1, .iconst 1), (1131, 1134, 0, .invokevirtual 30), (1134, 1135, 0, .aload_n 1), (1135, 1136, 3, .iconst 3), (1136, 1139, 0, .invokevirtual 30), (1139, 1140, 0, .irem), (1140, 1141, 0, .i2l), (1141, 1142, 0, .lcmp), (1142, 1145, 1147, .ifCond .eq 5), (1145, 1146, 0, .iconst 0), (1146, 1147, 0, .ireturn), (1147, 1150, 1, .iinc 17 1), (1150, 1153, 1102, .goto (-48)), (1153, 1156, 1374, .goto 221)]
theorem ok_L_1007_1 : ∀ e ∈ k_L_1007_1, z_okb cL_law e = true := fun e h => List.all_eq_true.mp (by decide +kernel : k_L_1007_1.all (z_okb cL_law) = true) e h
def k_L_1007 : List zI := k_L_1007_0 ++ (k_L_1007_1)
theorem ok_L_1007 : ∀ e ∈ k_L_1007, z_okb cL_law e = true := List.forall_mem_append.mpr ⟨ok_L_1007_0, ok_L_1007_1⟩
def M_L_1007 (L : Nat) (xs : Nat → Int32) : zM := (k_L_1007, [], [(129, 1, 0, 2, 2, 317, sp_J4_init_a7421), (30, 4, 9, 2, 0, 0, sp_X11_count), (113, 4, 11, 2, 1, 300, sp_J4_append_15ec4), (41, 4, 11, 1, 2, 304, sp_J4_toString_0e30d), (80, 0, 0, 2, 0, 0, sp_L_say), (134, 4, 9, 1, 0, 0, sp_X11_multiplies), (69, 4, 9, 2, 0, 0, sp_X11_row)], ([], [], [(27, 11, [some none, none, none, none])]), [], [(91, [true, true, false, false, false, false, true, false, false, false, false, false, false, false, false, false, false, false]), (244, [true, true, false, false, false, false, true, true, true, true, true, true, true, true, false, false, false, false]), (278, [true, true, false, false, false, false, true, true, true, true, true, true, true, true, false, false, false, false]), (334, [true, true, false, false, false, false, true, true, true, true, true, true, true, true, false, false, false, false]), (389, [true, true, false, false, false, false, true, true, true, true, true, true, true, true, false, false, false, false]), (441, [true, true, false, false, false, false, true, true, true, true, true, true, true, true, false, false, false, false]), (454, [true, true, false, false, false, false, true, true, true, true, true, true, true, true, false, false, false, false]), (518, [true, true, false, false, false, false, true, true, true, true, true, true, true, true, false, false, false, false]), (559, [true, true, false, false, false, false, true, true, true, true, true, true, true, true, false, false, false, false]), (602, [true, true, false, false, false, false, true, true, true, true, true, true, true, true, false, false, false, false]), (605, [true, true, false, false, false, false, true, true, true, true, true, true, true, true, true, false, false, false]), (691, [true, true, false, false, false, false, true, true, true, true, true, true, true, true, false, false, false, false]), (707, [true, true, false, false, false, false, true, true, true, true, true, true, true, true, false, false, false, false]), (786, [true, true, false, false, false, false, true, true, true, true, true, true, true, true, false, false, false, false]), (833, [true, true, false, false, false, false, true, true, true, true, true, true, true, true, false, false, false, false]), (945, [true, true, false, false, false, false, true, true, true, true, true, true, true, true, false, false, false, false]), (1007, [true, true, false, false, false, false, true, true, true, true, true, true, true, true, false, false, false, false]), (1046, [true, true, false, false, false, false, true, true, true, true, true, true, true, true, true, true, true, false]), (1102, [true, true, false, false, false, false, true, true, true, true, true, true, true, true, false, false, false, true]), (1156, [true, true, false, false, false, false, true, true, true, true, true, true, true, true, false, false, false, false]), (1221, [true, true, false, false, false, false, true, true, true, true, true, true, true, true, false, false, false, false]), (1237, [true, true, false, false, false, false, true, true, true, true, true, true, true, true, false, false, false, false]), (1286, [true, true, false, false, false, false, true, true, true, true, true, true, true, true, false, false, false, false]), (1302, [true, true, false, false, false, false, true, true, true, true, true, true, true, true, false, false, false, false]), (1374, [true, true, false, false, false, false, true, false, false, false, false, false, true, true, false, false, false, false])], 2, false, (true, L, xs), (600104, 7301314, [(127, .retAddr 3), (132, .retAddr 5)]))
theorem ca_L_1007_0 (l : Launch) (L : Nat) (xs : Nat → Int32) : z_cok l RL room_1 (true, L, xs) (129, 1, 0, 2, 2, 317, sp_J4_init_a7421) := z_ca1 (c_J4_init_a7421 l) mb_J4_init_a7421 wt_1220 wt_1221 rfl (by decide)
theorem ca_L_1007_1 (l : Launch) (L : Nat) (xs : Nat → Int32) : z_cok l RL room_1 (true, L, xs) (30, 4, 9, 2, 0, 0, sp_X11_count) := z_ca4 (c_X11_count l) mb_X11_count ⟨_, rfl, rfl⟩ wt_858 wt_859 wt_860 (by decide)
theorem ca_L_1007_2 (l : Launch) (L : Nat) (xs : Nat → Int32) : z_cok l RL room_1 (true, L, xs) (113, 4, 11, 2, 1, 300, sp_J4_append_15ec4) := z_ca4 (c_J4_append_15ec4 l) mb_J4_append_15ec4 ⟨_, rfl, rfl⟩ wt_1262 wt_1236 wt_1237 (by decide)
theorem ca_L_1007_3 (l : Launch) (L : Nat) (xs : Nat → Int32) : z_cok l RL room_1 (true, L, xs) (41, 4, 11, 1, 2, 304, sp_J4_toString_0e30d) := z_ca4 (c_J4_toString_0e30d l) mb_J4_toString_0e30d ⟨_, rfl, rfl⟩ wt_1170 wt_1171 wt_1172 (by decide)
theorem ca_L_1007_4 (l : Launch) (L : Nat) (xs : Nat → Int32) : z_cok l RL room_1 (true, L, xs) (80, 0, 0, 2, 0, 0, sp_L_say) := z_ca0 (c_L_say l) mb_L_say wt_953 wt_954 (by decide)
theorem ca_L_1007_5 (l : Launch) (L : Nat) (xs : Nat → Int32) : z_cok l RL room_1 (true, L, xs) (134, 4, 9, 1, 0, 0, sp_X11_multiplies) := z_ca4 (c_X11_multiplies l) mb_X11_multiplies ⟨_, rfl, rfl⟩ wt_473 wt_474 wt_475 (by decide)
theorem ca_L_1007_6 (l : Launch) (L : Nat) (xs : Nat → Int32) : z_cok l RL room_1 (true, L, xs) (69, 4, 9, 2, 0, 0, sp_X11_row) := z_ca4 (c_X11_row l) mb_X11_row ⟨_, rfl, rfl⟩ wt_881 wt_882 wt_883 (by decide)
theorem O_L_1007 (l : Launch) (L : Nat) (xs : Nat → Int32) : z_OK l RL cL_law room_1 (M_L_1007 L xs) := ⟨ok_L_1007, fun _ h => absurd h List.not_mem_nil, List.forall_mem_cons.mpr ⟨ca_L_1007_0 l L xs, List.forall_mem_cons.mpr ⟨ca_L_1007_1 l L xs, List.forall_mem_cons.mpr ⟨ca_L_1007_2 l L xs, List.forall_mem_cons.mpr ⟨ca_L_1007_3 l L xs, List.forall_mem_cons.mpr ⟨ca_L_1007_4 l L xs, List.forall_mem_cons.mpr ⟨ca_L_1007_5 l L xs, List.forall_mem_cons.mpr ⟨ca_L_1007_6 l L xs, fun _ h => absurd h List.not_mem_nil⟩⟩⟩⟩⟩⟩⟩, fun _ h => absurd h List.not_mem_nil, fun _ h => absurd h List.not_mem_nil, List.forall_mem_cons.mpr ⟨⟨RJ4, TJ4, 4, tyJ4, rfl, inJ4, tyJ4_ok, wt_1023, wt_1024, wt_45, rfl, nk_J4⟩, fun _ h => absurd h List.not_mem_nil⟩, fun _ h => absurd h List.not_mem_nil, rfl, rfl, List.forall_mem_cons.mpr ⟨⟨rfl, rfl⟩, List.forall_mem_cons.mpr ⟨⟨rfl, rfl⟩, fun _ h => absurd h List.not_mem_nil⟩⟩⟩
set_option maxRecDepth 100000 in
theorem act_1007 {L : Nat} {xs : Nat → Int32} {Jm : zJ} (hs : lawS M_L_1007 L xs Jm) : LAct Jm 1007 := by
  intro k i j t c1 c2 W wd w d q c A kp hI hW hi hj ht hc1 hc2 hE
  obtain ⟨hz, hWF, x, tl, hC⟩ := hI
  obtain ⟨G, wi, wl⟩ := w
  dsimp only at hz hC
  have g0 := zG_0 hz
  have h40 : c ≤ 40 := cs_40 (ct_S hC)
  have hq : q = 2 ∨ q = 3 := cs_q23 (ct_S hC)
  have hA : Bd q c A := cs_A (ct_S hC)
  have hd : Dd d := cs_d (ct_S hC)
  have hW729 : W ≤ 729 := Nat.le_trans (Nat.le_of_eq hW) (wr_le d q A c)
  have fin : ∀ (wi2 : Nat → Nat → Int32) (wl2 : Nat → Nat → Int64) (d2 : Nat → Nat) (q2 c' : Nat) (A2 : Nat → Nat → Nat) (kp2 : zK) (x2 : Nat → Nat) (tl2 : Nat × (Nat → Int64)) (f : Nat), CT wi2 wl2 (d2, q2, c', A2, kp2, (0, x2), tl2) → (f = 0 ∨ f = 1 ∧ wr d2 q2 A2 c' = W) → Jm 1374 (alE k W f) [] (G, wi2, wl2) c1 c2 := fun wi2 wl2 d2 q2 c' A2 kp2 x2 tl2 f h hf => hE _ d2 q2 c' A2 kp2 c1 c2 f ⟨hz, hWF, x2, tl2, h⟩ hf (by omega) (by omega)
  unfold alE at fin
  refine hs 400 1007 _ _ _ _ _ ?_
  unfold alA
  have hl45 : 45 ≤ G.length := zG_len hz
  have hW0 : z_wfg G.length G = true := hWF
  have hd0 := hd 0 (by decide)
  have hd1 := hd 1 (by decide)
  have hd2 := hd 2 (by decide)
  have p0 := pl9 hd (show 0 < 3 by decide)
  have p1 := pl9 hd (show 1 < 3 by decide)
  have p2 := pl9 hd (show 2 < 3 by decide)
  have q0 : 0 < pl d 0 := Nat.mul_pos hd0.1 hd1.1
  have q1 : 0 < pl d 1 := Nat.mul_pos hd1.1 hd2.1
  obtain ⟨K, hK⟩ : ∃ K, K = pl d 0 + pl d 1 := ⟨_, rfl⟩
  obtain ⟨L0, hL0⟩ : ∃ L0, L0 = G.length := ⟨_, rfl⟩
  obtain ⟨lo, hlo⟩ : ∃ lo : Nat → zAL, ∀ r, lo r = [some (.float 0), some (.ref 0), none, none, none, none, some (.int (nI k)), some (.int wd), some (.int (nI i)), some (.int (nI j)), some (.int (nI t)), some (.int (nI c)), some (.int (nI W)), some (.int (nI 1)), some (.ref L0), some (.int (nI K)), some (.int (nI r)), none] := ⟨_, fun _ => rfl⟩
  -- the rows
  have rows : ∀ (GA : List zSh) (wiA : Nat → Nat → Int32) (wlA : Nat → Nat → Int64) (x3 : Nat → Nat) (tl3 : Nat × (Nat → Int64)) (n1 n2 : Nat), zG GA → WF (GA, wiA, wlA) → CT wiA wlA (d, q, c, A, kp, (0, x3), tl3) → tl3.1 = pl d 2 → (W = 0 → ∀ z, z < pl d 2 → tl3.2 z = lN (d 1 % q)) → n1 ≤ c1 + 300 → n2 ≤ c2 + 90000 → ∀ e r, r + e = pl d 2 → ∀ wi4 wl4, CT wi4 wl4 (d, q, c, A, kp, (0, x3), tl3) → Jm 1102 [some (.float 0), some (.ref 0), none, none, none, none, some (.int (nI k)), some (.int wd), some (.int (nI i)), some (.int (nI j)), some (.int (nI t)), some (.int (nI c)), some (.int (nI W)), some (.int (nI 1)), none, none, none, some (.int (nI r))] [] (GA, wi4, wl4) n1 n2 := by
    intro GA wiA wlA x3 tl3 n1 n2 hzA hWA hCA t0 hr hn1 hn2 e
    have gA := zG_0 hzA
    have fin2 : ∀ (wi4 : Nat → Nat → Int32) (wl4 : Nat → Nat → Int64), CT wi4 wl4 (d, q, c, A, kp, (0, x3), tl3) → Jm 1374 (alE k W 1) [] (GA, wi4, wl4) n1 n2 := fun wi4 wl4 h => hE _ d q c A kp n1 n2 1 ⟨hzA, hWA, x3, tl3, h⟩ (Or.inr ⟨rfl, hW.symm⟩) hn1 hn2
    unfold alE at fin2
    have em : nI (d 0) * nI (d 2) = nI (pl d 2) := by
      rw [pk_mul, Nat.mul_comm]
      rfl
    induction e with
    | zero =>
      intro r hr2 wi4 wl4 hC4
      refine hs 400 1102 _ _ _ _ _ ?_
      conv => whnf
      repeat ((first | rw [rcv4 gA] | refine ⟨trivial, ?_⟩ | refine ⟨rfl, ?_⟩ | refine ⟨fun hc => absurd hc (by decide), fun _ => ?_⟩ | refine ⟨fun _ => ?_, fun hc => absurd (by decide) hc⟩ | refine ⟨fun _ => ?_, fun hc => absurd hc (by decide)⟩ | refine ⟨fun hc => absurd (by decide) hc, fun _ => ?_⟩ | refine ⟨Or.inr rfl, ?_⟩ | refine ⟨Or.inl rfl, ?_⟩ | refine ⟨fun hq => absurd (by assumption) hq, fun _ => ?_⟩ | refine ⟨fun _ => ?_, fun hq => absurd (by assumption) hq⟩ | refine ⟨fun hq => absurd hq (by assumption), fun _ => ?_⟩ | refine ⟨fun _ => ?_, fun hq => absurd hq (by assumption)⟩ | refine ⟨fun _ => ?_, fun hq => absurd (Eq.refl _) hq⟩ | refine ⟨fun hq => absurd (Eq.refl _) hq, fun _ => ?_⟩); conv => whnf)
      try dsimp only
      refine ⟨hzA, _, hC4, fun wi5 wl5 hF5 hC5 => ?_⟩
      rw [show nI 0 = nI 0 from rfl, cntd d q c A kp x3 tl3 (show 0 < 3 by decide)] at hC5 ⊢
      conv => whnf
      repeat ((first | rw [rcv4 gA] | refine ⟨trivial, ?_⟩ | refine ⟨rfl, ?_⟩ | refine ⟨fun hc => absurd hc (by decide), fun _ => ?_⟩ | refine ⟨fun _ => ?_, fun hc => absurd (by decide) hc⟩ | refine ⟨fun _ => ?_, fun hc => absurd hc (by decide)⟩ | refine ⟨fun hc => absurd (by decide) hc, fun _ => ?_⟩ | refine ⟨Or.inr rfl, ?_⟩ | refine ⟨Or.inl rfl, ?_⟩ | refine ⟨fun hq => absurd (by assumption) hq, fun _ => ?_⟩ | refine ⟨fun _ => ?_, fun hq => absurd (by assumption) hq⟩ | refine ⟨fun hq => absurd hq (by assumption), fun _ => ?_⟩ | refine ⟨fun _ => ?_, fun hq => absurd hq (by assumption)⟩ | refine ⟨fun _ => ?_, fun hq => absurd (Eq.refl _) hq⟩ | refine ⟨fun hq => absurd (Eq.refl _) hq, fun _ => ?_⟩); conv => whnf)
      try dsimp only
      refine ⟨hzA, _, hC5, fun wi6 wl6 hF6 hC6 => ?_⟩
      rw [cntd d q c A kp x3 tl3 (show 2 < 3 by decide)] at hC6 ⊢
      conv => whnf
      repeat ((first | refine ⟨zG_of _, ?_⟩ | refine ⟨trivial, ?_⟩ | refine ⟨rfl, ?_⟩ | refine ⟨fun hc => absurd hc (by decide), fun _ => ?_⟩ | refine ⟨fun _ => ?_, fun hc => absurd (by decide) hc⟩ | refine ⟨fun _ => ?_, fun hc => absurd hc (by decide)⟩ | refine ⟨fun hc => absurd (by decide) hc, fun _ => ?_⟩); conv => whnf)
      try dsimp only
      rw [em]
      have f1 : ¬ nI r < nI (pl d 2) := nI_nlt (by omega) (by omega)
      conv => whnf
      repeat ((first | refine ⟨trivial, ?_⟩ | refine ⟨rfl, ?_⟩ | refine ⟨fun hc => absurd hc (by decide), fun _ => ?_⟩ | refine ⟨fun _ => ?_, fun hc => absurd (by decide) hc⟩ | refine ⟨fun _ => ?_, fun hc => absurd hc (by decide)⟩ | refine ⟨fun hc => absurd (by decide) hc, fun _ => ?_⟩ | refine ⟨Or.inr rfl, ?_⟩ | refine ⟨Or.inl rfl, ?_⟩ | refine ⟨fun hq => absurd (by assumption) hq, fun _ => ?_⟩ | refine ⟨fun _ => ?_, fun hq => absurd (by assumption) hq⟩ | refine ⟨fun hq => absurd hq (by assumption), fun _ => ?_⟩ | refine ⟨fun _ => ?_, fun hq => absurd hq (by assumption)⟩ | refine ⟨fun _ => ?_, fun hq => absurd (Eq.refl _) hq⟩ | refine ⟨fun hq => absurd (Eq.refl _) hq, fun _ => ?_⟩); conv => whnf)
      try dsimp only
      exact fin2 wi6 wl6 hC6
    | succ e ih =>
      intro r hr2 wi4 wl4 hC4
      refine hs 400 1102 _ _ _ _ _ ?_
      conv => whnf
      repeat ((first | rw [rcv4 gA] | refine ⟨trivial, ?_⟩ | refine ⟨rfl, ?_⟩ | refine ⟨fun hc => absurd hc (by decide), fun _ => ?_⟩ | refine ⟨fun _ => ?_, fun hc => absurd (by decide) hc⟩ | refine ⟨fun _ => ?_, fun hc => absurd hc (by decide)⟩ | refine ⟨fun hc => absurd (by decide) hc, fun _ => ?_⟩ | refine ⟨Or.inr rfl, ?_⟩ | refine ⟨Or.inl rfl, ?_⟩ | refine ⟨fun hq => absurd (by assumption) hq, fun _ => ?_⟩ | refine ⟨fun _ => ?_, fun hq => absurd (by assumption) hq⟩ | refine ⟨fun hq => absurd hq (by assumption), fun _ => ?_⟩ | refine ⟨fun _ => ?_, fun hq => absurd hq (by assumption)⟩ | refine ⟨fun _ => ?_, fun hq => absurd (Eq.refl _) hq⟩ | refine ⟨fun hq => absurd (Eq.refl _) hq, fun _ => ?_⟩); conv => whnf)
      try dsimp only
      refine ⟨hzA, _, hC4, fun wi5 wl5 hF5 hC5 => ?_⟩
      rw [cntd d q c A kp x3 tl3 (show 0 < 3 by decide)] at hC5 ⊢
      conv => whnf
      repeat ((first | rw [rcv4 gA] | refine ⟨trivial, ?_⟩ | refine ⟨rfl, ?_⟩ | refine ⟨fun hc => absurd hc (by decide), fun _ => ?_⟩ | refine ⟨fun _ => ?_, fun hc => absurd (by decide) hc⟩ | refine ⟨fun _ => ?_, fun hc => absurd hc (by decide)⟩ | refine ⟨fun hc => absurd (by decide) hc, fun _ => ?_⟩ | refine ⟨Or.inr rfl, ?_⟩ | refine ⟨Or.inl rfl, ?_⟩ | refine ⟨fun hq => absurd (by assumption) hq, fun _ => ?_⟩ | refine ⟨fun _ => ?_, fun hq => absurd (by assumption) hq⟩ | refine ⟨fun hq => absurd hq (by assumption), fun _ => ?_⟩ | refine ⟨fun _ => ?_, fun hq => absurd hq (by assumption)⟩ | refine ⟨fun _ => ?_, fun hq => absurd (Eq.refl _) hq⟩ | refine ⟨fun hq => absurd (Eq.refl _) hq, fun _ => ?_⟩); conv => whnf)
      try dsimp only
      refine ⟨hzA, _, hC5, fun wi6 wl6 hF6 hC6 => ?_⟩
      rw [cntd d q c A kp x3 tl3 (show 2 < 3 by decide)] at hC6 ⊢
      conv => whnf
      repeat ((first | refine ⟨zG_of _, ?_⟩ | refine ⟨trivial, ?_⟩ | refine ⟨rfl, ?_⟩ | refine ⟨fun hc => absurd hc (by decide), fun _ => ?_⟩ | refine ⟨fun _ => ?_, fun hc => absurd (by decide) hc⟩ | refine ⟨fun _ => ?_, fun hc => absurd hc (by decide)⟩ | refine ⟨fun hc => absurd (by decide) hc, fun _ => ?_⟩); conv => whnf)
      try dsimp only
      rw [em]
      have f1 : nI r < nI (pl d 2) := nI_lt (by omega) (by omega)
      by_cases hW0 : W = 0
      · have f2 : nI W = nI 0 := by rw [hW0]
        have hix : idx tl3.1 (nI r) := by rw [t0]; exact idx_of (by omega) (by omega)
        conv => whnf
        repeat ((first | rw [rcv4 gA] | refine ⟨trivial, ?_⟩ | refine ⟨rfl, ?_⟩ | refine ⟨fun hc => absurd hc (by decide), fun _ => ?_⟩ | refine ⟨fun _ => ?_, fun hc => absurd (by decide) hc⟩ | refine ⟨fun _ => ?_, fun hc => absurd hc (by decide)⟩ | refine ⟨fun hc => absurd (by decide) hc, fun _ => ?_⟩ | refine ⟨Or.inr rfl, ?_⟩ | refine ⟨Or.inl rfl, ?_⟩ | refine ⟨fun hq => absurd (by assumption) hq, fun _ => ?_⟩ | refine ⟨fun _ => ?_, fun hq => absurd (by assumption) hq⟩ | refine ⟨fun hq => absurd hq (by assumption), fun _ => ?_⟩ | refine ⟨fun _ => ?_, fun hq => absurd hq (by assumption)⟩ | refine ⟨fun _ => ?_, fun hq => absurd (Eq.refl _) hq⟩ | refine ⟨fun hq => absurd (Eq.refl _) hq, fun _ => ?_⟩); conv => whnf)
        try dsimp only
        refine ⟨hzA, _, hC6, hix, ?_⟩
        conv => whnf
        repeat ((first | rw [rcv4 gA] | refine ⟨trivial, ?_⟩ | refine ⟨rfl, ?_⟩ | refine ⟨fun hc => absurd hc (by decide), fun _ => ?_⟩ | refine ⟨fun _ => ?_, fun hc => absurd (by decide) hc⟩ | refine ⟨fun _ => ?_, fun hc => absurd hc (by decide)⟩ | refine ⟨fun hc => absurd (by decide) hc, fun _ => ?_⟩ | refine ⟨Or.inr rfl, ?_⟩ | refine ⟨Or.inl rfl, ?_⟩ | refine ⟨fun hq => absurd (by assumption) hq, fun _ => ?_⟩ | refine ⟨fun _ => ?_, fun hq => absurd (by assumption) hq⟩ | refine ⟨fun hq => absurd hq (by assumption), fun _ => ?_⟩ | refine ⟨fun _ => ?_, fun hq => absurd hq (by assumption)⟩ | refine ⟨fun _ => ?_, fun hq => absurd (Eq.refl _) hq⟩ | refine ⟨fun hq => absurd (Eq.refl _) hq, fun _ => ?_⟩); conv => whnf)
        try dsimp only
        refine ⟨hzA, _, hC6, fun wi7 wl7 hF7 hC7 => ?_⟩
        rw [cntd d q c A kp x3 tl3 (show 1 < 3 by decide)] at hC7 ⊢
        conv => whnf
        repeat ((first | rw [rcv4 gA] | refine ⟨trivial, ?_⟩ | refine ⟨rfl, ?_⟩ | refine ⟨fun hc => absurd hc (by decide), fun _ => ?_⟩ | refine ⟨fun _ => ?_, fun hc => absurd (by decide) hc⟩ | refine ⟨fun _ => ?_, fun hc => absurd hc (by decide)⟩ | refine ⟨fun hc => absurd (by decide) hc, fun _ => ?_⟩ | refine ⟨Or.inr rfl, ?_⟩ | refine ⟨Or.inl rfl, ?_⟩ | refine ⟨fun hq => absurd (by assumption) hq, fun _ => ?_⟩ | refine ⟨fun _ => ?_, fun hq => absurd (by assumption) hq⟩ | refine ⟨fun hq => absurd hq (by assumption), fun _ => ?_⟩ | refine ⟨fun _ => ?_, fun hq => absurd hq (by assumption)⟩ | refine ⟨fun _ => ?_, fun hq => absurd (Eq.refl _) hq⟩ | refine ⟨fun hq => absurd (Eq.refl _) hq, fun _ => ?_⟩); conv => whnf)
        try dsimp only
        refine ⟨hzA, _, hC7, fun wi8 wl8 hF8 hC8 => ?_⟩
        rw [cnt3] at hC8 ⊢
        have fq : ¬ nI q = 0 := nI_ne0 (by omega) (by omega)
        have f3 : lg_cmp (tl3.2 (nI r).toNatClampNeg) (z_rem (nI (d 1)) (nI q)).toInt64 = nI 0 := by
          have hm : d 1 % q < q := Nat.mod_lt _ (by omega)
          rw [nI_clamp (by omega), hr hW0 r (by omega), z_remN (by omega) (by omega) (by omega), nI_l (by omega)]
          exact lcmp_self _
        conv => whnf
        repeat ((first | refine ⟨fq, ?_⟩ | refine ⟨trivial, ?_⟩ | refine ⟨rfl, ?_⟩ | refine ⟨fun hc => absurd hc (by decide), fun _ => ?_⟩ | refine ⟨fun _ => ?_, fun hc => absurd (by decide) hc⟩ | refine ⟨fun _ => ?_, fun hc => absurd hc (by decide)⟩ | refine ⟨fun hc => absurd (by decide) hc, fun _ => ?_⟩ | refine ⟨Or.inr rfl, ?_⟩ | refine ⟨Or.inl rfl, ?_⟩ | refine ⟨fun hq => absurd (by assumption) hq, fun _ => ?_⟩ | refine ⟨fun _ => ?_, fun hq => absurd (by assumption) hq⟩ | refine ⟨fun hq => absurd hq (by assumption), fun _ => ?_⟩ | refine ⟨fun _ => ?_, fun hq => absurd hq (by assumption)⟩ | refine ⟨fun _ => ?_, fun hq => absurd (Eq.refl _) hq⟩ | refine ⟨fun hq => absurd (Eq.refl _) hq, fun _ => ?_⟩); conv => whnf)
        try dsimp only
        rw [nI_add]
        exact ih (r + 1) (by omega) wi8 wl8 hC8
      · have f2 : ¬ nI W = nI 0 := fun k => hW0 ((nI_eq (by omega) (by decide)).mp k)
        conv => whnf
        repeat ((first | refine ⟨trivial, ?_⟩ | refine ⟨rfl, ?_⟩ | refine ⟨fun hc => absurd hc (by decide), fun _ => ?_⟩ | refine ⟨fun _ => ?_, fun hc => absurd (by decide) hc⟩ | refine ⟨fun _ => ?_, fun hc => absurd hc (by decide)⟩ | refine ⟨fun hc => absurd (by decide) hc, fun _ => ?_⟩ | refine ⟨Or.inr rfl, ?_⟩ | refine ⟨Or.inl rfl, ?_⟩ | refine ⟨fun hq => absurd (by assumption) hq, fun _ => ?_⟩ | refine ⟨fun _ => ?_, fun hq => absurd (by assumption) hq⟩ | refine ⟨fun hq => absurd hq (by assumption), fun _ => ?_⟩ | refine ⟨fun _ => ?_, fun hq => absurd hq (by assumption)⟩ | refine ⟨fun _ => ?_, fun hq => absurd (Eq.refl _) hq⟩ | refine ⟨fun hq => absurd (Eq.refl _) hq, fun _ => ?_⟩); conv => whnf)
        try dsimp only
        rw [nI_add]
        exact ih (r + 1) (by omega) wi6 wl6 hC6
  -- the text
  have loop : ∀ e r, r + e = K → 1 ≤ r → ∀ w1 n1 n2, SS (d, q, c, A, kp, (0, x), tl) L0 (onL (r - 1)) w1 → n1 ≤ c1 + 3 + r → n2 ≤ c2 + 400 + 300 * r → Jm 1046 (lo r) [] w1 n1 n2 := by
    intro e
    induction e with
    | zero =>
      intro r hr hr1 w1 n1 n2 S hn1 hn2
      obtain ⟨vs3, N3, -, -, -, hO3, -⟩ := S.2.2.2
      obtain ⟨G3, wi3, wl3⟩ := w1
      dsimp only at hO3
      have b3 := nth_lt hO3
      have f1 : ¬ nI r < nI K := nI_nlt (by omega) (by omega)
      rw [hlo]
      refine hs 400 1046 _ _ _ _ _ ?_
      conv => whnf
      repeat ((first | rw [rcv4 hO3] | refine ⟨trivial, ?_⟩ | refine ⟨rfl, ?_⟩ | refine ⟨fun hc => absurd hc (by decide), fun _ => ?_⟩ | refine ⟨fun _ => ?_, fun hc => absurd (by decide) hc⟩ | refine ⟨fun _ => ?_, fun hc => absurd hc (by decide)⟩ | refine ⟨fun hc => absurd (by decide) hc, fun _ => ?_⟩ | refine ⟨Or.inr rfl, ?_⟩ | refine ⟨Or.inl rfl, ?_⟩ | refine ⟨fun hq => absurd (by assumption) hq, fun _ => ?_⟩ | refine ⟨fun _ => ?_, fun hq => absurd (by assumption) hq⟩ | refine ⟨fun hq => absurd hq (by assumption), fun _ => ?_⟩ | refine ⟨fun _ => ?_, fun hq => absurd hq (by assumption)⟩ | refine ⟨fun _ => ?_, fun hq => absurd (Eq.refl _) hq⟩ | refine ⟨fun hq => absurd (Eq.refl _) hq, fun _ => ?_⟩); conv => whnf)
      try dsimp only
      refine ⟨⟨by show n1 + 2 ≤ 600104; omega, by show n2 + 304 ≤ 7301314; omega⟩, by simp [z_wfl, z_wfs, z_rlt, Nat.blt_eq, b3, show 0 < G3.length by omega], ?_⟩
      refine ss_tos S (fun wA uA vA hzA hWA hCA huA hvA hsA => ?_)
      clear S hO3 b3
      obtain ⟨GA, wiA, wlA⟩ := wA
      dsimp only at hzA hCA
      have gA := zG_0 hzA
      have hln := onL_len (r - 1)
      conv => whnf
      repeat ((first | refine ⟨trivial, ?_⟩ | refine ⟨rfl, ?_⟩ | refine ⟨fun hc => absurd hc (by decide), fun _ => ?_⟩ | refine ⟨fun _ => ?_, fun hc => absurd (by decide) hc⟩ | refine ⟨fun _ => ?_, fun hc => absurd hc (by decide)⟩ | refine ⟨fun hc => absurd (by decide) hc, fun _ => ?_⟩ | refine ⟨Or.inr rfl, ?_⟩ | refine ⟨Or.inl rfl, ?_⟩ | refine ⟨fun hq => absurd (by assumption) hq, fun _ => ?_⟩ | refine ⟨fun _ => ?_, fun hq => absurd (by assumption) hq⟩ | refine ⟨fun hq => absurd hq (by assumption), fun _ => ?_⟩ | refine ⟨fun _ => ?_, fun hq => absurd hq (by assumption)⟩ | refine ⟨fun _ => ?_, fun hq => absurd (Eq.refl _) hq⟩ | refine ⟨fun hq => absurd (Eq.refl _) hq, fun _ => ?_⟩); conv => whnf)
      try dsimp only
      refine ⟨hzA, _, vA, _, _, hCA, rfl, huA, hvA, hsA, by omega, fun wiB wlB x3 hFB hCB hx3 => ?_⟩
      have hCBb : CT wiB wlB (d, q, c, A, kp, ((onL (r - 1)).length, x3), tl) := hCB
      clear hCB
      have hon : ones (pl d 0 + pl d 1) (onL (r - 1)).length x3 := ⟨by rw [hln]; omega, fun k hk => by
        rw [hx3 k hk]
        rw [hln] at hk
        exact onL_at (r - 1) k hk⟩
      clear hx3 hsA
      generalize (onL (r - 1)).length = n at hCBb hon hln
      obtain ⟨m, tl3, hm9, t0, hw, e⟩ := mult_st d q c A kp x3 tl hq hd (show n < 2 ^ 31 by omega) hon
      have hw2 : W = 0 → m = 0 ∧ ∀ z, z < pl d 2 → tl3.2 z = lN (d 1 % q) := fun k => hw (hW.symm.trans k)
      have f2 : ¬ nI m < nI 0 := nI_nlt (Nat.zero_le _) (by omega)
      conv => whnf
      repeat ((first | rw [rcv4 gA] | refine ⟨trivial, ?_⟩ | refine ⟨rfl, ?_⟩ | refine ⟨fun hc => absurd hc (by decide), fun _ => ?_⟩ | refine ⟨fun _ => ?_, fun hc => absurd (by decide) hc⟩ | refine ⟨fun _ => ?_, fun hc => absurd hc (by decide)⟩ | refine ⟨fun hc => absurd (by decide) hc, fun _ => ?_⟩ | refine ⟨Or.inr rfl, ?_⟩ | refine ⟨Or.inl rfl, ?_⟩ | refine ⟨fun hq => absurd (by assumption) hq, fun _ => ?_⟩ | refine ⟨fun _ => ?_, fun hq => absurd (by assumption) hq⟩ | refine ⟨fun hq => absurd hq (by assumption), fun _ => ?_⟩ | refine ⟨fun _ => ?_, fun hq => absurd hq (by assumption)⟩ | refine ⟨fun _ => ?_, fun hq => absurd (Eq.refl _) hq⟩ | refine ⟨fun hq => absurd (Eq.refl _) hq, fun _ => ?_⟩); conv => whnf)
      try dsimp only
      refine ⟨hzA, _, hCBb, fun wi4 wl4 hF4 hC4 => ?_⟩
      rw [e] at hC4 ⊢
      have fin3 := rows GA wi4 wl4 x3 tl3 (n1 + (1 + 1)) (n2 + 304) hzA hWA hC4 t0 (fun k => (hw2 k).2) (by omega) (by omega) (pl d 2) 0 (Nat.zero_add _) wi4 wl4 hC4
      by_cases hW0 : W = 0
      · have f3 : nI W = nI 0 := by rw [hW0]
        have f4 : nI m = nI 0 := by rw [(hw2 hW0).1]
        conv => whnf
        repeat ((first | refine ⟨trivial, ?_⟩ | refine ⟨rfl, ?_⟩ | refine ⟨fun hc => absurd hc (by decide), fun _ => ?_⟩ | refine ⟨fun _ => ?_, fun hc => absurd (by decide) hc⟩ | refine ⟨fun _ => ?_, fun hc => absurd hc (by decide)⟩ | refine ⟨fun hc => absurd (by decide) hc, fun _ => ?_⟩ | refine ⟨Or.inr rfl, ?_⟩ | refine ⟨Or.inl rfl, ?_⟩ | refine ⟨fun hq => absurd (by assumption) hq, fun _ => ?_⟩ | refine ⟨fun _ => ?_, fun hq => absurd (by assumption) hq⟩ | refine ⟨fun hq => absurd hq (by assumption), fun _ => ?_⟩ | refine ⟨fun _ => ?_, fun hq => absurd hq (by assumption)⟩ | refine ⟨fun _ => ?_, fun hq => absurd (Eq.refl _) hq⟩ | refine ⟨fun hq => absurd (Eq.refl _) hq, fun _ => ?_⟩); conv => whnf)
        try dsimp only
        exact fin3
      · have f3 : ¬ nI W = nI 0 := fun k => hW0 ((nI_eq (by omega) (by decide)).mp k)
        conv => whnf
        repeat ((first | refine ⟨trivial, ?_⟩ | refine ⟨rfl, ?_⟩ | refine ⟨fun hc => absurd hc (by decide), fun _ => ?_⟩ | refine ⟨fun _ => ?_, fun hc => absurd (by decide) hc⟩ | refine ⟨fun _ => ?_, fun hc => absurd hc (by decide)⟩ | refine ⟨fun hc => absurd (by decide) hc, fun _ => ?_⟩ | refine ⟨Or.inr rfl, ?_⟩ | refine ⟨Or.inl rfl, ?_⟩ | refine ⟨fun hq => absurd (by assumption) hq, fun _ => ?_⟩ | refine ⟨fun _ => ?_, fun hq => absurd (by assumption) hq⟩ | refine ⟨fun hq => absurd hq (by assumption), fun _ => ?_⟩ | refine ⟨fun _ => ?_, fun hq => absurd hq (by assumption)⟩ | refine ⟨fun _ => ?_, fun hq => absurd (Eq.refl _) hq⟩ | refine ⟨fun hq => absurd (Eq.refl _) hq, fun _ => ?_⟩); conv => whnf)
        try dsimp only
        exact fin3
    | succ e ih =>
      intro r hr hr1 w1 n1 n2 S hn1 hn2
      have hS := S
      obtain ⟨vs3, N3, -, -, -, hO3, -⟩ := S.2.2.2
      obtain ⟨G3, wi3, wl3⟩ := w1
      dsimp only at hO3
      have b3 := nth_lt hO3
      have f1 : nI r < nI K := nI_lt (by omega) (by omega)
      have hln := onL_len (r - 1)
      rw [hlo]
      refine hs 400 1046 _ _ _ _ _ ?_
      conv => whnf
      repeat ((first | rw [rcv4 hO3] | refine ⟨trivial, ?_⟩ | refine ⟨rfl, ?_⟩ | refine ⟨fun hc => absurd hc (by decide), fun _ => ?_⟩ | refine ⟨fun _ => ?_, fun hc => absurd (by decide) hc⟩ | refine ⟨fun _ => ?_, fun hc => absurd hc (by decide)⟩ | refine ⟨fun hc => absurd (by decide) hc, fun _ => ?_⟩ | refine ⟨Or.inr rfl, ?_⟩ | refine ⟨Or.inl rfl, ?_⟩ | refine ⟨fun hq => absurd (by assumption) hq, fun _ => ?_⟩ | refine ⟨fun _ => ?_, fun hq => absurd (by assumption) hq⟩ | refine ⟨fun hq => absurd hq (by assumption), fun _ => ?_⟩ | refine ⟨fun _ => ?_, fun hq => absurd hq (by assumption)⟩ | refine ⟨fun _ => ?_, fun hq => absurd (Eq.refl _) hq⟩ | refine ⟨fun hq => absurd (Eq.refl _) hq, fun _ => ?_⟩); conv => whnf)
      try dsimp only
      refine ⟨⟨by show n1 + 1 ≤ 600104; omega, by show n2 + 300 ≤ 7301314; omega⟩, by simp [z_wfl, z_wfs, z_rlt, Nat.blt_eq, b3, show 0 < G3.length by omega], ?_⟩
      refine ss_const (r := [44, 49]) hS (fun w' => ⟨rfl, rfl⟩) (fun k hk => by match k, hk with
        | 0, _ => rfl
        | 1, _ => rfl) (by rw [hln]; show 2 * (r - 1) + 1 + 2 ≤ 150; omega) (fun w4 S4 => ?_)
      have S5 : SS (d, q, c, A, kp, (0, x), tl) L0 (onL (r + 1 - 1)) w4 := by
        have er : r + 1 - 1 = (r - 1) + 1 := by omega
        rw [er]
        exact S4
      have := ih (r + 1) (by omega) (by omega) w4 (n1 + 1) (n2 + 300) S5 (by omega) (by omega)
      rw [hlo] at this
      conv => whnf
      repeat ((first | refine ⟨trivial, ?_⟩ | refine ⟨rfl, ?_⟩ | refine ⟨fun hc => absurd hc (by decide), fun _ => ?_⟩ | refine ⟨fun _ => ?_, fun hc => absurd (by decide) hc⟩ | refine ⟨fun _ => ?_, fun hc => absurd hc (by decide)⟩ | refine ⟨fun hc => absurd (by decide) hc, fun _ => ?_⟩ | refine ⟨Or.inr rfl, ?_⟩ | refine ⟨Or.inl rfl, ?_⟩ | refine ⟨fun hq => absurd (by assumption) hq, fun _ => ?_⟩ | refine ⟨fun _ => ?_, fun hq => absurd (by assumption) hq⟩ | refine ⟨fun hq => absurd hq (by assumption), fun _ => ?_⟩ | refine ⟨fun _ => ?_, fun hq => absurd hq (by assumption)⟩ | refine ⟨fun _ => ?_, fun hq => absurd (Eq.refl _) hq⟩ | refine ⟨fun hq => absurd (Eq.refl _) hq, fun _ => ?_⟩); conv => whnf)
      try dsimp only
      rw [nI_add]
      exact this
  have hO0 : z_nth (G ++ [(.inl (11, [some none, none, none, none]) : zSh)]) L0 = some (.inl (11, [some none, none, none, none])) := nth_new hL0
  have hL1 : (G ++ [(.inl (11, [some none, none, none, none]) : zSh)]).length = G.length + 1 := by simp
  obtain ⟨na, nb, nc⟩ := ss_new hz hWF hC
  rw [← hL0] at nb nc
  conv => whnf
  repeat ((first | refine ⟨trivial, ?_⟩ | refine ⟨rfl, ?_⟩ | refine ⟨fun hc => absurd hc (by decide), fun _ => ?_⟩ | refine ⟨fun _ => ?_, fun hc => absurd (by decide) hc⟩ | refine ⟨fun _ => ?_, fun hc => absurd hc (by decide)⟩ | refine ⟨fun hc => absurd (by decide) hc, fun _ => ?_⟩ | refine ⟨Or.inr rfl, ?_⟩ | refine ⟨Or.inl rfl, ?_⟩ | refine ⟨fun hq => absurd (by assumption) hq, fun _ => ?_⟩ | refine ⟨fun _ => ?_, fun hq => absurd (by assumption) hq⟩ | refine ⟨fun hq => absurd hq (by assumption), fun _ => ?_⟩ | refine ⟨fun _ => ?_, fun hq => absurd hq (by assumption)⟩ | refine ⟨fun _ => ?_, fun hq => absurd (Eq.refl _) hq⟩ | refine ⟨fun hq => absurd (Eq.refl _) hq, fun _ => ?_⟩); conv => whnf)
  try dsimp only
  refine ⟨⟨by show c1 + 1 ≤ 600104; omega, by show c2 + 4 ≤ 7301314; omega⟩, by simp [z_wfl, z_wfs, z_rlt, Nat.blt_eq, show 0 < G.length by omega, hW0], ?_⟩
  rw [z_psh_eq, Nat.zero_add, ← hL0]
  conv => whnf
  repeat ((first | refine ⟨trivial, ?_⟩ | refine ⟨rfl, ?_⟩ | refine ⟨fun hc => absurd hc (by decide), fun _ => ?_⟩ | refine ⟨fun _ => ?_, fun hc => absurd (by decide) hc⟩ | refine ⟨fun _ => ?_, fun hc => absurd hc (by decide)⟩ | refine ⟨fun hc => absurd (by decide) hc, fun _ => ?_⟩ | refine ⟨Or.inr rfl, ?_⟩ | refine ⟨Or.inl rfl, ?_⟩ | refine ⟨fun hq => absurd (by assumption) hq, fun _ => ?_⟩ | refine ⟨fun _ => ?_, fun hq => absurd (by assumption) hq⟩ | refine ⟨fun hq => absurd hq (by assumption), fun _ => ?_⟩ | refine ⟨fun _ => ?_, fun hq => absurd hq (by assumption)⟩ | refine ⟨fun _ => ?_, fun hq => absurd (Eq.refl _) hq⟩ | refine ⟨fun hq => absurd (Eq.refl _) hq, fun _ => ?_⟩); conv => whnf)
  try dsimp only
  refine ⟨⟨by show c1 + 1 + 2 ≤ 600104; omega, by show c2 + 4 + 317 ≤ 7301314; omega⟩, by simp [z_wfl, z_wfs, z_rlt, Nat.blt_eq, hL0], ?_⟩
  refine ⟨fun x => x < 45, fun _ => 49, rfl, fun w' => ⟨rfl, rfl⟩, hO0, by omega, fun x hx => by show x < (G ++ [(.inl (11, [some none, none, none, none]) : zSh)]).length; omega, nb, by simp [z_row, nI_0], fun w1 g1 e1 s1 hg => ?_⟩
  have S1 : SS (d, q, c, A, kp, (0, x), tl) L0 (onL 0) w1 := ⟨ext_zG na e1 (fun x hx => hx), e1.2.2 nb, ext_CT nc e1 (fun x hx => hx), SB.cong s1 rfl (fun k hk => by
    rw [hg k hk]
    obtain rfl : k = 0 := by omega
    rfl)⟩
  clear na nb nc e1 s1 hO0 hL1
  have hz1 := S1.1
  have hW1 := S1.2.1
  have hC1 := S1.2.2.1
  have hB1 := S1.2.2.2
  obtain ⟨G1, wi1, wl1⟩ := w1
  dsimp only at hz1 hC1
  have g1' := zG_0 hz1
  have f45 : 45 ≤ L0 := by omega
  conv => whnf
  repeat ((first | rw [rcv4 g1'] | refine ⟨trivial, ?_⟩ | refine ⟨rfl, ?_⟩ | refine ⟨fun hc => absurd hc (by decide), fun _ => ?_⟩ | refine ⟨fun _ => ?_, fun hc => absurd (by decide) hc⟩ | refine ⟨fun _ => ?_, fun hc => absurd hc (by decide)⟩ | refine ⟨fun hc => absurd (by decide) hc, fun _ => ?_⟩ | refine ⟨Or.inr rfl, ?_⟩ | refine ⟨Or.inl rfl, ?_⟩ | refine ⟨fun hq => absurd (by assumption) hq, fun _ => ?_⟩ | refine ⟨fun _ => ?_, fun hq => absurd (by assumption) hq⟩ | refine ⟨fun hq => absurd hq (by assumption), fun _ => ?_⟩ | refine ⟨fun _ => ?_, fun hq => absurd hq (by assumption)⟩ | refine ⟨fun _ => ?_, fun hq => absurd (Eq.refl _) hq⟩ | refine ⟨fun hq => absurd (Eq.refl _) hq, fun _ => ?_⟩); conv => whnf)
  try dsimp only
  refine ⟨hz1, _, hC1, fun wi2 wl2 hF2 hC2 => ?_⟩
  rw [cntd d q c A kp x tl (show 0 < 3 by decide)] at hC2 ⊢
  conv => whnf
  repeat ((first | rw [rcv4 g1'] | refine ⟨trivial, ?_⟩ | refine ⟨rfl, ?_⟩ | refine ⟨fun hc => absurd hc (by decide), fun _ => ?_⟩ | refine ⟨fun _ => ?_, fun hc => absurd (by decide) hc⟩ | refine ⟨fun _ => ?_, fun hc => absurd hc (by decide)⟩ | refine ⟨fun hc => absurd (by decide) hc, fun _ => ?_⟩ | refine ⟨Or.inr rfl, ?_⟩ | refine ⟨Or.inl rfl, ?_⟩ | refine ⟨fun hq => absurd (by assumption) hq, fun _ => ?_⟩ | refine ⟨fun _ => ?_, fun hq => absurd (by assumption) hq⟩ | refine ⟨fun hq => absurd hq (by assumption), fun _ => ?_⟩ | refine ⟨fun _ => ?_, fun hq => absurd hq (by assumption)⟩ | refine ⟨fun _ => ?_, fun hq => absurd (Eq.refl _) hq⟩ | refine ⟨fun hq => absurd (Eq.refl _) hq, fun _ => ?_⟩); conv => whnf)
  try dsimp only
  refine ⟨hz1, _, hC2, fun wi3 wl3 hF3 hC3 => ?_⟩
  rw [cntd d q c A kp x tl (show 1 < 3 by decide)] at hC3 ⊢
  conv => whnf
  repeat ((first | rw [rcv4 g1'] | refine ⟨trivial, ?_⟩ | refine ⟨rfl, ?_⟩ | refine ⟨fun hc => absurd hc (by decide), fun _ => ?_⟩ | refine ⟨fun _ => ?_, fun hc => absurd (by decide) hc⟩ | refine ⟨fun _ => ?_, fun hc => absurd hc (by decide)⟩ | refine ⟨fun hc => absurd (by decide) hc, fun _ => ?_⟩ | refine ⟨Or.inr rfl, ?_⟩ | refine ⟨Or.inl rfl, ?_⟩ | refine ⟨fun hq => absurd (by assumption) hq, fun _ => ?_⟩ | refine ⟨fun _ => ?_, fun hq => absurd (by assumption) hq⟩ | refine ⟨fun hq => absurd hq (by assumption), fun _ => ?_⟩ | refine ⟨fun _ => ?_, fun hq => absurd hq (by assumption)⟩ | refine ⟨fun _ => ?_, fun hq => absurd (Eq.refl _) hq⟩ | refine ⟨fun hq => absurd (Eq.refl _) hq, fun _ => ?_⟩); conv => whnf)
  try dsimp only
  refine ⟨hz1, _, hC3, fun wi4 wl4 hF4 hC4 => ?_⟩
  rw [cntd d q c A kp x tl (show 1 < 3 by decide)] at hC4 ⊢
  conv => whnf
  repeat ((first | rw [rcv4 g1'] | refine ⟨trivial, ?_⟩ | refine ⟨rfl, ?_⟩ | refine ⟨fun hc => absurd hc (by decide), fun _ => ?_⟩ | refine ⟨fun _ => ?_, fun hc => absurd (by decide) hc⟩ | refine ⟨fun _ => ?_, fun hc => absurd hc (by decide)⟩ | refine ⟨fun hc => absurd (by decide) hc, fun _ => ?_⟩ | refine ⟨Or.inr rfl, ?_⟩ | refine ⟨Or.inl rfl, ?_⟩ | refine ⟨fun hq => absurd (by assumption) hq, fun _ => ?_⟩ | refine ⟨fun _ => ?_, fun hq => absurd (by assumption) hq⟩ | refine ⟨fun hq => absurd hq (by assumption), fun _ => ?_⟩ | refine ⟨fun _ => ?_, fun hq => absurd hq (by assumption)⟩ | refine ⟨fun _ => ?_, fun hq => absurd (Eq.refl _) hq⟩ | refine ⟨fun hq => absurd (Eq.refl _) hq, fun _ => ?_⟩); conv => whnf)
  try dsimp only
  refine ⟨hz1, _, hC4, fun wi5 wl5 hF5 hC5 => ?_⟩
  rw [cntd d q c A kp x tl (show 2 < 3 by decide)] at hC5 ⊢
  conv => whnf
  repeat ((first | refine ⟨zG_of _, ?_⟩ | refine ⟨trivial, ?_⟩ | refine ⟨rfl, ?_⟩ | refine ⟨fun hc => absurd hc (by decide), fun _ => ?_⟩ | refine ⟨fun _ => ?_, fun hc => absurd (by decide) hc⟩ | refine ⟨fun _ => ?_, fun hc => absurd hc (by decide)⟩ | refine ⟨fun hc => absurd (by decide) hc, fun _ => ?_⟩); conv => whnf)
  try dsimp only
  rw [pk_mul, pk_mul, nI_add, show d 0 * d 1 + d 1 * d 2 = K from hK.symm]
  have hFF : FrC wi1 wl1 wi5 wl5 := FrC_tr (FrC_tr hF2 hF3) (FrC_tr hF4 hF5)
  have eF := frc_ext (w := (G1, wi1, wl1)) hFF
  have := loop (K - 1) 1 (by omega) (Nat.le_refl _) (G1, wi5, wl5) (c1 + 1 + 2) (c2 + 4 + 317) ⟨hz1, eF.2.2 hW1, hC5, hB1.keep eF (fun y _ hy => Nat.not_lt.mp hy)⟩ (by omega) (by omega)
  rw [hlo] at this
  exact this

