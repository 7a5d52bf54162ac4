/-! the law: groups and spans; widened and narrowed -/
section
variable (d : Nat → Nat) (q c : Nat) (A : Nat → Nat → Nat) (kp : zK) (x : Nat → Nat) (tl : Nat × (Nat → Int64))
theorem groups_st (hq : q = 2 ∨ q = 3) (hA : Bd q c A) {t : Nat} (ht : t < 3) : ∃ g r tl2, 2 * g ≤ c ∧ r ≤ c ∧ tl2.1 = 2 ∧ tl2.2 0 = lN r ∧ st_groups (d, q, c, A, kp, (0, x), tl) (nI t) = ((d, q, c, A, kp, (0, x), tl2), nI g) := by
  have h1 := gs_half hq hA ht
  have h2 := (gs_ldc (q := q) (A := A) (t := t) (c := c) c).2
  unfold st_groups
  rw [if_pos (idB_of ht (by decide)), nI_clamp (show t < 2 ^ 31 by omega)]
  dsimp only
  generalize gsS q A t c c = S at h1 h2 ⊢
  exact ⟨S.1, S.2.2, _, h1, h2, rfl, rfl, rfl⟩
theorem spans_st (hq : q = 2 ∨ q = 3) (hA : Bd q c A) {t : Nat} (ht : t < 3) : ∃ s tl2, s ≤ fb_ct (ulB q A t) c ∧ st_spans (d, q, c, A, kp, (0, x), tl) (nI t) = ((d, q, c, A, kp, (0, x), tl2), nI s) := by
  have h1 := sp_ul hq hA ht
  unfold st_spans
  rw [if_pos (idB_of ht (by decide)), nI_clamp (show t < 2 ^ 31 by omega)]
  dsimp only
  exact ⟨_, _, h1, rfl⟩
theorem cntu {t : Nat} (ht : t < 3) : st_count (d, q, c, A, kp, (0, x), tl) (nI (10 + t)) = ((d, q, c, A, kp, (0, x), tl), nI (fb_ct (ulB q A t) c)) := by
  rcases lt3 ht with rfl | rfl | rfl
  · exact cnt_st d q c A kp x tl (by decide) rfl
  · exact cnt_st d q c A kp x tl (by decide) rfl
  · exact cnt_st d q c A kp x tl (by decide) rfl
theorem widens_st {t : Nat} (ht : t ≤ 3) : (∃ v, v < nI 0 ∧ st_widens (d, q, c, A, kp, (0, x), tl) (nI t) = ((d, q, c, A, kp, (0, x), tl), v)) ∨ (t < 3 ∧ d t ≠ 3 ∧ st_widens (d, q, c, A, kp, (0, x), tl) (nI t) = ((upD d t (d t + 1), q, (wdT d c A t).1, (wdT d c A t).2, kp, (0, x), tl), nI (wdT d c A t).1)) := by
  unfold st_widens
  rw [nI_clamp (show t < 2 ^ 31 by omega)]
  by_cases h : idB 3 (nI t) = true
  · rw [if_pos h]
    have h := (idB_iff (by omega) (by decide)).mp h
    by_cases h2 : d t = 3
    · rw [if_pos (show (d, q, c, A, kp, ((0 : Nat), x), tl).1 t = 3 from h2)]
      exact Or.inl ⟨mI 2, by decide, rfl⟩
    · rw [if_neg (show ¬ (d, q, c, A, kp, ((0 : Nat), x), tl).1 t = 3 from h2)]
      by_cases h3 : 40 < c + d (nx t) * d (pv t)
      · rw [if_pos (show 40 < (d, q, c, A, kp, ((0 : Nat), x), tl).2.2.1 + (d, q, c, A, kp, ((0 : Nat), x), tl).1 (nx t) * (d, q, c, A, kp, ((0 : Nat), x), tl).1 (pv t) from h3)]
        exact Or.inl ⟨mI 3, by decide, rfl⟩
      · rw [if_neg (show ¬ 40 < (d, q, c, A, kp, ((0 : Nat), x), tl).2.2.1 + (d, q, c, A, kp, ((0 : Nat), x), tl).1 (nx t) * (d, q, c, A, kp, ((0 : Nat), x), tl).1 (pv t) from h3)]
        exact Or.inr ⟨h, h2, rfl⟩
  · rw [if_neg h]
    exact Or.inl ⟨mI 1, by decide, rfl⟩
theorem narrows_st {t v : Nat} (ht : t < 3) (h1 : 1 ≤ v) (h2 : v ≤ d t) (h3 : 1 < d t) (h4 : d t ≤ 3) (hc : c ≤ 40) : ∃ m, m ≤ 40 ∧ st_narrows (d, q, c, A, kp, (0, x), tl) (nI t) (nI v) = ((upD d t (d t - 1), q, c, nrA d A t (v - 1), kp, (0, x), tl), nI m) := by
  unfold st_narrows
  rw [nI_clamp (show t < 2 ^ 31 by omega), nI_clamp (show v < 2 ^ 31 by omega)]
  rw [if_pos (show (idB 3 (nI t) && lnB ((d, q, c, A, kp, ((0 : Nat), x), tl).1 t) (nI v)) = true by
    rw [idB_of ht (by decide), show lnB (d t) (nI v) = true from (rgB_iff (by decide) (by omega) (by omega)).mpr ⟨h1, h2⟩]
    rfl), if_neg (show ¬ (d, q, c, A, kp, ((0 : Nat), x), tl).1 t ≤ 1 by show ¬ d t ≤ 1; omega)]
  exact ⟨_, Nat.le_trans (fb_ct_le _ _) hc, rfl⟩
end
theorem lcmp_le {r c : Nat} (h : r ≤ c) (hc : c < 2 ^ 31) : ¬ nI 0 < lg_cmp (lN r) (nI c).toInt64 := by
  rw [nI_l hc]
  have h2 : lN r ≤ lN c := by
    rw [Int64.le_iff_toInt_le, lN_toInt (by omega), lN_toInt (by omega)]
    omega
  have := (lg_cmp_le (lN r) (lN c)).mpr h2
  exact Int32.not_lt.mpr this
def k_L_1221_0 : List zI := [(1221, 1223, 0, .iload 10), (1223, 1224, 3, .iconst 3), (1224, 1227, 1236, .if_icmp .ge 12), (1227, 1228, 0, .aload_n 1), (1228, 1230, 0, .iload 10), (1230, 1233, 0, .invokevirtual 140), (1233, 1236, 1237, .goto 4), (1236, 1237, 0, .iconst 0), (1237, 1239, 0, .istore 14), (1239, 1241, 0, .iload 10), (1241, 1242, 3, .iconst 3), (1242, 1245, 1374, .if_icmp .ge 132), (1245, 1247, 0, .iload 14), (1247, 1249, 0, .iload 11), (1249, 1250, 2, .iconst 2), (1250, 1251, 0, .idiv), (1251, 1254, 1284, .if_icmp .gt 33), (1254, 1255, 0, .aload_n 1), (1255, 1256, 0, .iconst 0), (1256, 1259, 0, .invokevirtual 69), (1259, 1261, 0, .iload 11), (1261, 1262, 0, .i2l), (1262, 1263, 0, .lcmp), (1263, 1266, 1284, .ifCond .gt 21), (1266, 1267, 0, .aload_n 1), (1267, 1269, 0, .iload 10), (1269, 1272, 0, .invokevirtual 143), (1272, 1273, 0, .aload_n 1), (1273, 1275, 10, .bipush 10), (1275, 1277, 0, .iload 10), (1277, 1278, 0, .iadd), (1278, 1281, 0, .invokevirtual 30), (1281, 1284, 1374, .if_icmp .le 93), (1284, 1285, 0, .iconst 0), (1285, 1286, 0, .ireturn)]
theorem ok_L_1221_0 : ∀ e ∈ k_L_1221_0, z_okb cL_law e = true := fun e h => List.all_eq_true.mp (by decide +kernel : k_L_1221_0.all (z_okb cL_law) = true) e h
def k_L_1221 : List zI := k_L_1221_0
theorem ok_L_1221 : ∀ e ∈ k_L_1221, z_okb cL_law e = true := ok_L_1221_0
def M_L_1221 (L : Nat) (xs : Nat → Int32) : zM := (k_L_1221, [], [(140, 4, 9, 2, 0, 0, sp_X11_groups), (69, 4, 9, 2, 0, 0, sp_X11_row), (143, 4, 9, 2, 0, 0, sp_X11_spans), (30, 4, 9, 2, 0, 0, sp_X11_count)], ([], [], []), [], [(91, [true, true, false, false, false, false, true, false, false, false, false, false, false, false, false, false, false, false]), (244, [true, true, false, false, false, false, true, true, true, true, true, true, true, true, false, false, false, false]), (278, [true, true, false, false, false, false, true, true, true, true, true, true, true, true, false, false, false, false]), (334, [true, true, false, false, false, false, true, true, true, true, true, true, true, true, false, false, false, false]), (389, [true, true, false, false, false, false, true, true, true, true, true, true, true, true, false, false, false, false]), (441, [true, true, false, false, false, false, true, true, true, true, true, true, true, true, false, false, false, false]), (454, [true, true, false, false, false, false, true, true, true, true, true, true, true, true, false, false, false, false]), (518, [true, true, false, false, false, false, true, true, true, true, true, true, true, true, false, false, false, false]), (559, [true, true, false, false, false, false, true, true, true, true, true, true, true, true, false, false, false, false]), (602, [true, true, false, false, false, false, true, true, true, true, true, true, true, true, false, false, false, false]), (605, [true, true, false, false, false, false, true, true, true, true, true, true, true, true, true, false, false, false]), (691, [true, true, false, false, false, false, true, true, true, true, true, true, true, true, false, false, false, false]), (707, [true, true, false, false, false, false, true, true, true, true, true, true, true, true, false, false, false, false]), (786, [true, true, false, false, false, false, true, true, true, true, true, true, true, true, false, false, false, false]), (833, [true, true, false, false, false, false, true, true, true, true, true, true, true, true, false, false, false, false]), (945, [true, true, false, false, false, false, true, true, true, true, true, true, true, true, false, false, false, false]), (1007, [true, true, false, false, false, false, true, true, true, true, true, true, true, true, false, false, false, false]), (1046, [true, true, false, false, false, false, true, true, true, true, true, true, true, true, true, true, true, false]), (1102, [true, true, false, false, false, false, true, true, true, true, true, true, true, true, false, false, false, true]), (1156, [true, true, false, false, false, false, true, true, true, true, true, true, true, true, false, false, false, false]), (1221, [true, true, false, false, false, false, true, true, true, true, true, true, true, true, false, false, false, false]), (1237, [true, true, false, false, false, false, true, true, true, true, true, true, true, true, false, false, false, false]), (1286, [true, true, false, false, false, false, true, true, true, true, true, true, true, true, false, false, false, false]), (1302, [true, true, false, false, false, false, true, true, true, true, true, true, true, true, false, false, false, false]), (1374, [true, true, false, false, false, false, true, false, false, false, false, false, true, true, false, false, false, false])], 2, false, (true, L, xs), (600104, 7301314, []))
theorem ca_L_1221_0 (l : Launch) (L : Nat) (xs : Nat → Int32) : z_cok l RL room_1 (true, L, xs) (140, 4, 9, 2, 0, 0, sp_X11_groups) := z_ca4 (c_X11_groups l) mb_X11_groups ⟨_, rfl, rfl⟩ wt_741 wt_742 wt_743 (by decide)
theorem ca_L_1221_1 (l : Launch) (L : Nat) (xs : Nat → Int32) : z_cok l RL room_1 (true, L, xs) (69, 4, 9, 2, 0, 0, sp_X11_row) := z_ca4 (c_X11_row l) mb_X11_row ⟨_, rfl, rfl⟩ wt_881 wt_882 wt_883 (by decide)
theorem ca_L_1221_2 (l : Launch) (L : Nat) (xs : Nat → Int32) : z_cok l RL room_1 (true, L, xs) (143, 4, 9, 2, 0, 0, sp_X11_spans) := z_ca4 (c_X11_spans l) mb_X11_spans ⟨_, rfl, rfl⟩ wt_759 wt_760 wt_761 (by decide)
theorem ca_L_1221_3 (l : Launch) (L : Nat) (xs : Nat → Int32) : z_cok l RL room_1 (true, L, xs) (30, 4, 9, 2, 0, 0, sp_X11_count) := z_ca4 (c_X11_count l) mb_X11_count ⟨_, rfl, rfl⟩ wt_858 wt_859 wt_860 (by decide)
theorem O_L_1221 (l : Launch) (L : Nat) (xs : Nat → Int32) : z_OK l RL cL_law room_1 (M_L_1221 L xs) := ⟨ok_L_1221, fun _ h => absurd h List.not_mem_nil, List.forall_mem_cons.mpr ⟨ca_L_1221_0 l L xs, List.forall_mem_cons.mpr ⟨ca_L_1221_1 l L xs, List.forall_mem_cons.mpr ⟨ca_L_1221_2 l L xs, List.forall_mem_cons.mpr ⟨ca_L_1221_3 l L xs, fun _ h => absurd h List.not_mem_nil⟩⟩⟩⟩, fun _ h => absurd h List.not_mem_nil, fun _ h => absurd h List.not_mem_nil, fun _ h => absurd h List.not_mem_nil, fun _ h => absurd h List.not_mem_nil, rfl, rfl, fun _ h => absurd h List.not_mem_nil⟩
set_option maxRecDepth 100000 in
theorem act_1221 {L : Nat} {xs : Nat → Int32} {Jm : zJ} (hs : lawS M_L_1221 L xs Jm) : LAct Jm 1221 := by
  intro k i j t c1 c2 W wd w d q c A kp hI hW hi hj ht hc1 hc2 hE
  obtain ⟨hz, hWF, x, tl, hC⟩ := hI
  obtain ⟨G, wi, wl⟩ := w
  dsimp only at hz hC
  have g0 := zG_0 hz
  have h40 : c ≤ 40 := cs_40 (ct_S hC)
  have hq : q = 2 ∨ q = 3 := cs_q23 (ct_S hC)
  have hA : Bd q c A := cs_A (ct_S hC)
  have hd : Dd d := cs_d (ct_S hC)
  have hW729 : W ≤ 729 := Nat.le_trans (Nat.le_of_eq hW) (wr_le d q A c)
  have fin : ∀ (wi2 : Nat → Nat → Int32) (wl2 : Nat → Nat → Int64) (d2 : Nat → Nat) (q2 c' : Nat) (A2 : Nat → Nat → Nat) (kp2 : zK) (x2 : Nat → Nat) (tl2 : Nat × (Nat → Int64)) (f : Nat), CT wi2 wl2 (d2, q2, c', A2, kp2, (0, x2), tl2) → (f = 0 ∨ f = 1 ∧ wr d2 q2 A2 c' = W) → Jm 1374 (alE k W f) [] (G, wi2, wl2) c1 c2 := fun wi2 wl2 d2 q2 c' A2 kp2 x2 tl2 f h hf => hE _ d2 q2 c' A2 kp2 c1 c2 f ⟨hz, hWF, x2, tl2, h⟩ hf (by omega) (by omega)
  unfold alE at fin
  refine hs 400 1221 _ _ _ _ _ ?_
  unfold alA
  by_cases ht3 : t < 3
  · have f1 : nI t < nI 3 := nI_lt ht3 (by decide)
    obtain ⟨g, r, tl2, hg, hr, t0, t1, e⟩ := groups_st d q c A kp x tl hq hA ht3
    have h1237 : ∀ (wi2 : Nat → Nat → Int32) (wl2 : Nat → Nat → Int64), CT wi2 wl2 (d, q, c, A, kp, (0, x), tl2) → Jm 1237 (alA k wd i j t c W) [.int (nI g)] (G, wi2, wl2) c1 c2 := by
      intro wi2 wl2 hC2
      refine hs 400 1237 _ _ _ _ _ ?_
      unfold alA
      have f2 : ¬ nI c / nI 2 < nI g := by
        rw [pk_div (by omega) (by decide) (by decide)]
        exact nI_nlt (by omega) (by omega)
      have fd : ¬ nI 2 = 0 := by decide
      have hi0 : idx tl2.1 (nI 0) := by rw [t0]; exact idx_of (by decide) (by decide)
      conv => whnf
      repeat ((first | rw [rcv4 g0] | refine ⟨fd, ?_⟩ | refine ⟨trivial, ?_⟩ | refine ⟨rfl, ?_⟩ | refine ⟨fun hc => absurd hc (by decide), fun _ => ?_⟩ | refine ⟨fun _ => ?_, fun hc => absurd (by decide) hc⟩ | refine ⟨fun _ => ?_, fun hc => absurd hc (by decide)⟩ | refine ⟨fun hc => absurd (by decide) hc, fun _ => ?_⟩ | refine ⟨Or.inr rfl, ?_⟩ | refine ⟨Or.inl rfl, ?_⟩ | refine ⟨fun hq => absurd (by assumption) hq, fun _ => ?_⟩ | refine ⟨fun _ => ?_, fun hq => absurd (by assumption) hq⟩ | refine ⟨fun hq => absurd hq (by assumption), fun _ => ?_⟩ | refine ⟨fun _ => ?_, fun hq => absurd hq (by assumption)⟩ | refine ⟨fun _ => ?_, fun hq => absurd (Eq.refl _) hq⟩ | refine ⟨fun hq => absurd (Eq.refl _) hq, fun _ => ?_⟩); conv => whnf)
      try dsimp only
      refine ⟨hz, _, hC2, hi0, ?_⟩
      have f3 : ¬ nI 0 < lg_cmp (tl2.2 (nI 0).toNatClampNeg) (nI c).toInt64 := by
        rw [nI_clamp (by decide), t1]
        exact lcmp_le hr (by omega)
      conv => whnf
      repeat ((first | rw [rcv4 g0] | refine ⟨trivial, ?_⟩ | refine ⟨rfl, ?_⟩ | refine ⟨fun hc => absurd hc (by decide), fun _ => ?_⟩ | refine ⟨fun _ => ?_, fun hc => absurd (by decide) hc⟩ | refine ⟨fun _ => ?_, fun hc => absurd hc (by decide)⟩ | refine ⟨fun hc => absurd (by decide) hc, fun _ => ?_⟩ | refine ⟨Or.inr rfl, ?_⟩ | refine ⟨Or.inl rfl, ?_⟩ | refine ⟨fun hq => absurd (by assumption) hq, fun _ => ?_⟩ | refine ⟨fun _ => ?_, fun hq => absurd (by assumption) hq⟩ | refine ⟨fun hq => absurd hq (by assumption), fun _ => ?_⟩ | refine ⟨fun _ => ?_, fun hq => absurd hq (by assumption)⟩ | refine ⟨fun _ => ?_, fun hq => absurd (Eq.refl _) hq⟩ | refine ⟨fun hq => absurd (Eq.refl _) hq, fun _ => ?_⟩); conv => whnf)
      try dsimp only
      obtain ⟨s, tl3, hs3, e3⟩ := spans_st d q c A kp x tl2 hq hA ht3
      refine ⟨hz, _, hC2, fun wi3 wl3 hF3 hC3 => ?_⟩
      rw [e3] at hC3 ⊢
      clear e3
      conv => whnf
      repeat ((first | rw [rcv4 g0] | refine ⟨trivial, ?_⟩ | refine ⟨rfl, ?_⟩ | refine ⟨fun hc => absurd hc (by decide), fun _ => ?_⟩ | refine ⟨fun _ => ?_, fun hc => absurd (by decide) hc⟩ | refine ⟨fun _ => ?_, fun hc => absurd hc (by decide)⟩ | refine ⟨fun hc => absurd (by decide) hc, fun _ => ?_⟩ | refine ⟨Or.inr rfl, ?_⟩ | refine ⟨Or.inl rfl, ?_⟩ | refine ⟨fun hq => absurd (by assumption) hq, fun _ => ?_⟩ | refine ⟨fun _ => ?_, fun hq => absurd (by assumption) hq⟩ | refine ⟨fun hq => absurd hq (by assumption), fun _ => ?_⟩ | refine ⟨fun _ => ?_, fun hq => absurd hq (by assumption)⟩ | refine ⟨fun _ => ?_, fun hq => absurd (Eq.refl _) hq⟩ | refine ⟨fun hq => absurd (Eq.refl _) hq, fun _ => ?_⟩); conv => whnf)
      try dsimp only
      refine ⟨hz, _, hC3, fun wi4 wl4 hF4 hC4 => ?_⟩
      have hu := fb_ct_le (ulB q A t) c
      rw [nI_add, cntu d q c A kp x tl3 ht3] at hC4 ⊢
      have f4 : ¬ nI (fb_ct (ulB q A t) c) < nI s := nI_nlt hs3 (by omega)
      generalize fb_ct (ulB q A t) c = uu at hC4 f4 ⊢
      conv => whnf
      repeat ((first | refine ⟨trivial, ?_⟩ | refine ⟨rfl, ?_⟩ | refine ⟨fun hc => absurd hc (by decide), fun _ => ?_⟩ | refine ⟨fun _ => ?_, fun hc => absurd (by decide) hc⟩ | refine ⟨fun _ => ?_, fun hc => absurd hc (by decide)⟩ | refine ⟨fun hc => absurd (by decide) hc, fun _ => ?_⟩ | refine ⟨Or.inr rfl, ?_⟩ | refine ⟨Or.inl rfl, ?_⟩ | refine ⟨fun hq => absurd (by assumption) hq, fun _ => ?_⟩ | refine ⟨fun _ => ?_, fun hq => absurd (by assumption) hq⟩ | refine ⟨fun hq => absurd hq (by assumption), fun _ => ?_⟩ | refine ⟨fun _ => ?_, fun hq => absurd hq (by assumption)⟩ | refine ⟨fun _ => ?_, fun hq => absurd (Eq.refl _) hq⟩ | refine ⟨fun hq => absurd (Eq.refl _) hq, fun _ => ?_⟩); conv => whnf)
      try dsimp only
      exact fin wi4 wl4 _ _ _ _ _ _ _ 1 hC4 (Or.inr ⟨rfl, hW.symm⟩)
    unfold alA at h1237
    conv => whnf
    repeat ((first | rw [rcv4 g0] | refine ⟨trivial, ?_⟩ | refine ⟨rfl, ?_⟩ | refine ⟨fun hc => absurd hc (by decide), fun _ => ?_⟩ | refine ⟨fun _ => ?_, fun hc => absurd (by decide) hc⟩ | refine ⟨fun _ => ?_, fun hc => absurd hc (by decide)⟩ | refine ⟨fun hc => absurd (by decide) hc, fun _ => ?_⟩ | refine ⟨Or.inr rfl, ?_⟩ | refine ⟨Or.inl rfl, ?_⟩ | refine ⟨fun hq => absurd (by assumption) hq, fun _ => ?_⟩ | refine ⟨fun _ => ?_, fun hq => absurd (by assumption) hq⟩ | refine ⟨fun hq => absurd hq (by assumption), fun _ => ?_⟩ | refine ⟨fun _ => ?_, fun hq => absurd hq (by assumption)⟩ | refine ⟨fun _ => ?_, fun hq => absurd (Eq.refl _) hq⟩ | refine ⟨fun hq => absurd (Eq.refl _) hq, fun _ => ?_⟩); conv => whnf)
    try dsimp only
    refine ⟨hz, _, hC, fun wi2 wl2 hF2 hC2 => ?_⟩
    rw [e] at hC2 ⊢
    conv => whnf
    repeat ((first | refine ⟨trivial, ?_⟩ | refine ⟨rfl, ?_⟩ | refine ⟨fun hc => absurd hc (by decide), fun _ => ?_⟩ | refine ⟨fun _ => ?_, fun hc => absurd (by decide) hc⟩ | refine ⟨fun _ => ?_, fun hc => absurd hc (by decide)⟩ | refine ⟨fun hc => absurd (by decide) hc, fun _ => ?_⟩ | refine ⟨Or.inr rfl, ?_⟩ | refine ⟨Or.inl rfl, ?_⟩ | refine ⟨fun hq => absurd (by assumption) hq, fun _ => ?_⟩ | refine ⟨fun _ => ?_, fun hq => absurd (by assumption) hq⟩ | refine ⟨fun hq => absurd hq (by assumption), fun _ => ?_⟩ | refine ⟨fun _ => ?_, fun hq => absurd hq (by assumption)⟩ | refine ⟨fun _ => ?_, fun hq => absurd (Eq.refl _) hq⟩ | refine ⟨fun hq => absurd (Eq.refl _) hq, fun _ => ?_⟩); conv => whnf)
    try dsimp only
    exact h1237 wi2 wl2 hC2
  · have f1 : ¬ nI t < nI 3 := nI_nlt (by omega) (by omega)
    have h1237 : Jm 1237 (alA k wd i j t c W) [.int (nI 0)] (G, wi, wl) c1 c2 := by
      refine hs 400 1237 _ _ _ _ _ ?_
      unfold alA
      conv => whnf
      repeat ((first | refine ⟨trivial, ?_⟩ | refine ⟨rfl, ?_⟩ | refine ⟨fun hc => absurd hc (by decide), fun _ => ?_⟩ | refine ⟨fun _ => ?_, fun hc => absurd (by decide) hc⟩ | refine ⟨fun _ => ?_, fun hc => absurd hc (by decide)⟩ | refine ⟨fun hc => absurd (by decide) hc, fun _ => ?_⟩ | refine ⟨Or.inr rfl, ?_⟩ | refine ⟨Or.inl rfl, ?_⟩ | refine ⟨fun hq => absurd (by assumption) hq, fun _ => ?_⟩ | refine ⟨fun _ => ?_, fun hq => absurd (by assumption) hq⟩ | refine ⟨fun hq => absurd hq (by assumption), fun _ => ?_⟩ | refine ⟨fun _ => ?_, fun hq => absurd hq (by assumption)⟩ | refine ⟨fun _ => ?_, fun hq => absurd (Eq.refl _) hq⟩ | refine ⟨fun hq => absurd (Eq.refl _) hq, fun _ => ?_⟩); conv => whnf)
      try dsimp only
      exact fin wi wl _ _ _ _ _ _ _ 1 hC (Or.inr ⟨rfl, hW.symm⟩)
    unfold alA at h1237
    conv => whnf
    repeat ((first | refine ⟨trivial, ?_⟩ | refine ⟨rfl, ?_⟩ | refine ⟨fun hc => absurd hc (by decide), fun _ => ?_⟩ | refine ⟨fun _ => ?_, fun hc => absurd (by decide) hc⟩ | refine ⟨fun _ => ?_, fun hc => absurd hc (by decide)⟩ | refine ⟨fun hc => absurd (by decide) hc, fun _ => ?_⟩ | refine ⟨Or.inr rfl, ?_⟩ | refine ⟨Or.inl rfl, ?_⟩ | refine ⟨fun hq => absurd (by assumption) hq, fun _ => ?_⟩ | refine ⟨fun _ => ?_, fun hq => absurd (by assumption) hq⟩ | refine ⟨fun hq => absurd hq (by assumption), fun _ => ?_⟩ | refine ⟨fun _ => ?_, fun hq => absurd hq (by assumption)⟩ | refine ⟨fun _ => ?_, fun hq => absurd (Eq.refl _) hq⟩ | refine ⟨fun hq => absurd (Eq.refl _) hq, fun _ => ?_⟩); conv => whnf)
    try dsimp only
    exact h1237
def k_L_1286_0 : List zI := [(1286, 1288, 0, .iload 10), (1288, 1289, 3, .iconst 3), (1289, 1292, 1301, .if_icmp .ge 12), (1292, 1293, 0, .aload_n 1), (1293, 1295, 0, .iload 10), (1295, 1298, 0, .invokevirtual 30), (1298, 1301, 1302, .goto 4), (1301, 1302, 1, .iconst 1), (1302, 1304, 0, .istore 14), (1304, 1305, 0, .aload_n 1), (1305, 1307, 0, .iload 10), (1307, 1310, 0, .invokevirtual 146), (1310, 1312, 0, .istore 15), (1312, 1314, 0, .iload 15), (1314, 1317, 1320, .ifCond .ge 6), (1317, 1320, 1374, .goto 57), (1320, 1322, 0, .iload 15), (1322, 1323, 0, .aload_n 1), (1323, 1324, 4, .iconst 4), (1324, 1327, 0, .invokevirtual 30), (1327, 1330, 1364, .if_icmp .ne 37), (1330, 1331, 0, .aload_n 1), (1331, 1333, 0, .iload 10), (1333, 1335, 0, .iload 14), (1335, 1336, 1, .iconst 1), (1336, 1337, 0, .iadd), (1337, 1340, 0, .invokevirtual 149), (1340, 1343, 1364, .ifCond .lt 24), (1343, 1344, 0, .aload_n 1), (1344, 1346, 0, .iload 10), (1346, 1349, 0, .invokevirtual 30), (1349, 1351, 0, .iload 14), (1351, 1354, 1364, .if_icmp .ne 13), (1354, 1355, 0, .aload_n 1), (1355, 1356, 4, .iconst 4), (1356, 1359, 0, .invokevirtual 30), (1359, 1361, 0, .iload 15), (1361, 1364, 1366, .if_icmp .eq 5), (1364, 1365, 0, .iconst 0), (1365, 1366, 0, .ireturn)]
theorem ok_L_1286_0 : ∀ e ∈ k_L_1286_0, z_okb cL_law e = true := fun e h => List.all_eq_true.mp (by decide +kernel : k_L_1286_0.all (z_okb cL_law) = true) e h
def k_L_1286_1 : List zI := [(1366, 1367, 0, .aload_n 1), (1367, 1370, 0, .invokevirtual 66), (1370, 1371, 0, .pop), (1371, 1374, 1374, .goto 3)]
theorem ok_L_1286_1 : ∀ e ∈ k_L_1286_1, z_okb cL_law e = true := fun e h => List.all_eq_true.mp (by decide +kernel : k_L_1286_1.all (z_okb cL_law) = true) e h
def k_L_1286 : List zI := k_L_1286_0 ++ (k_L_1286_1)
theorem ok_L_1286 : ∀ e ∈ k_L_1286, z_okb cL_law e = true := List.forall_mem_append.mpr ⟨ok_L_1286_0, ok_L_1286_1⟩
def M_L_1286 (L : Nat) (xs : Nat → Int32) : zM := (k_L_1286, [], [(30, 4, 9, 2, 0, 0, sp_X11_count), (146, 4, 9, 2, 0, 0, sp_X11_widens), (149, 4, 9, 3, 0, 0, sp_X11_narrows), (66, 4, 9, 1, 0, 0, sp_X11_joins)], ([], [], []), [], [(91, [true, true, false, false, false, false, true, false, false, false, false, false, false, false, false, false, false, false]), (244, [true, true, false, false, false, false, true, true, true, true, true, true, true, true, false, false, false, false]), (278, [true, true, false, false, false, false, true, true, true, true, true, true, true, true, false, false, false, false]), (334, [true, true, false, false, false, false, true, true, true, true, true, true, true, true, false, false, false, false]), (389, [true, true, false, false, false, false, true, true, true, true, true, true, true, true, false, false, false, false]), (441, [true, true, false, false, false, false, true, true, true, true, true, true, true, true, false, false, false, false]), (454, [true, true, false, false, false, false, true, true, true, true, true, true, true, true, false, false, false, false]), (518, [true, true, false, false, false, false, true, true, true, true, true, true, true, true, false, false, false, false]), (559, [true, true, false, false, false, false, true, true, true, true, true, true, true, true, false, false, false, false]), (602, [true, true, false, false, false, false, true, true, true, true, true, true, true, true, false, false, false, false]), (605, [true, true, false, false, false, false, true, true, true, true, true, true, true, true, true, false, false, false]), (691, [true, true, false, false, false, false, true, true, true, true, true, true, true, true, false, false, false, false]), (707, [true, true, false, false, false, false, true, true, true, true, true, true, true, true, false, false, false, false]), (786, [true, true, false, false, false, false, true, true, true, true, true, true, true, true, false, false, false, false]), (833, [true, true, false, false, false, false, true, true, true, true, true, true, true, true, false, false, false, false]), (945, [true, true, false, false, false, false, true, true, true, true, true, true, true, true, false, false, false, false]), (1007, [true, true, false, false, false, false, true, true, true, true, true, true, true, true, false, false, false, false]), (1046, [true, true, false, false, false, false, true, true, true, true, true, true, true, true, true, true, true, false]), (1102, [true, true, false, false, false, false, true, true, true, true, true, true, true, true, false, false, false, true]), (1156, [true, true, false, false, false, false, true, true, true, true, true, true, true, true, false, false, false, false]), (1221, [true, true, false, false, false, false, true, true, true, true, true, true, true, true, false, false, false, false]), (1237, [true, true, false, false, false, false, true, true, true, true, true, true, true, true, false, false, false, false]), (1286, [true, true, false, false, false, false, true, true, true, true, true, true, true, true, false, false, false, false]), (1302, [true, true, false, false, false, false, true, true, true, true, true, true, true, true, false, false, false, false]), (1374, [true, true, false, false, false, false, true, false, false, false, false, false, true, true, false, false, false, false])], 2, false, (true, L, xs), (600104, 7301314, []))
theorem ca_L_1286_0 (l : Launch) (L : Nat) (xs : Nat → Int32) : z_cok l RL room_1 (true, L, xs) (30, 4, 9, 2, 0, 0, sp_X11_count) := z_ca4 (c_X11_count l) mb_X11_count ⟨_, rfl, rfl⟩ wt_858 wt_859 wt_860 (by decide)
theorem ca_L_1286_1 (l : Launch) (L : Nat) (xs : Nat → Int32) : z_cok l RL room_1 (true, L, xs) (146, 4, 9, 2, 0, 0, sp_X11_widens) := z_ca4 (c_X11_widens l) mb_X11_widens ⟨_, rfl, rfl⟩ wt_673 wt_674 wt_675 (by decide)
theorem ca_L_1286_2 (l : Launch) (L : Nat) (xs : Nat → Int32) : z_cok l RL room_1 (true, L, xs) (149, 4, 9, 3, 0, 0, sp_X11_narrows) := z_ca4 (c_X11_narrows l) mb_X11_narrows ⟨_, rfl, rfl⟩ wt_643 wt_644 wt_645 (by decide)
theorem ca_L_1286_3 (l : Launch) (L : Nat) (xs : Nat → Int32) : z_cok l RL room_1 (true, L, xs) (66, 4, 9, 1, 0, 0, sp_X11_joins) := z_ca4 (c_X11_joins l) mb_X11_joins ⟨_, rfl, rfl⟩ wt_543 wt_544 wt_545 (by decide)
theorem O_L_1286 (l : Launch) (L : Nat) (xs : Nat → Int32) : z_OK l RL cL_law room_1 (M_L_1286 L xs) := ⟨ok_L_1286, fun _ h => absurd h List.not_mem_nil, List.forall_mem_cons.mpr ⟨ca_L_1286_0 l L xs, List.forall_mem_cons.mpr ⟨ca_L_1286_1 l L xs, List.forall_mem_cons.mpr ⟨ca_L_1286_2 l L xs, List.forall_mem_cons.mpr ⟨ca_L_1286_3 l L xs, fun _ h => absurd h List.not_mem_nil⟩⟩⟩⟩, fun _ h => absurd h List.not_mem_nil, fun _ h => absurd h List.not_mem_nil, fun _ h => absurd h List.not_mem_nil, fun _ h => absurd h List.not_mem_nil, rfl, rfl, fun _ h => absurd h List.not_mem_nil⟩
set_option maxRecDepth 100000 in
theorem act_1286 {L : Nat} {xs : Nat → Int32} {Jm : zJ} (hs : lawS M_L_1286 L xs Jm) : LAct Jm 1286 := by
  intro k i j t c1 c2 W wd w d q c A kp hI hW hi hj ht hc1 hc2 hE
  obtain ⟨hz, hWF, x, tl, hC⟩ := hI
  obtain ⟨G, wi, wl⟩ := w
  dsimp only at hz hC
  have g0 := zG_0 hz
  have h40 : c ≤ 40 := cs_40 (ct_S hC)
  have hq : q = 2 ∨ q = 3 := cs_q23 (ct_S hC)
  have hA : Bd q c A := cs_A (ct_S hC)
  have hd : Dd d := cs_d (ct_S hC)
  have hW729 : W ≤ 729 := Nat.le_trans (Nat.le_of_eq hW) (wr_le d q A c)
  have fin : ∀ (wi2 : Nat → Nat → Int32) (wl2 : Nat → Nat → Int64) (d2 : Nat → Nat) (q2 c' : Nat) (A2 : Nat → Nat → Nat) (kp2 : zK) (x2 : Nat → Nat) (tl2 : Nat × (Nat → Int64)) (f : Nat), CT wi2 wl2 (d2, q2, c', A2, kp2, (0, x2), tl2) → (f = 0 ∨ f = 1 ∧ wr d2 q2 A2 c' = W) → Jm 1374 (alE k W f) [] (G, wi2, wl2) c1 c2 := fun wi2 wl2 d2 q2 c' A2 kp2 x2 tl2 f h hf => hE _ d2 q2 c' A2 kp2 c1 c2 f ⟨hz, hWF, x2, tl2, h⟩ hf (by omega) (by omega)
  unfold alE at fin
  refine hs 400 1286 _ _ _ _ _ ?_
  unfold alA
  have h1302 : ∀ (wi2 : Nat → Nat → Int32) (wl2 : Nat → Nat → Int64) (n : Nat), (t < 3 → n = d t) → CT wi2 wl2 (d, q, c, A, kp, (0, x), tl) → Jm 1302 (alA k wd i j t c W) [.int (nI n)] (G, wi2, wl2) c1 c2 := by
    intro wi2 wl2 n hn hC2
    refine hs 400 1302 _ _ _ _ _ ?_
    unfold alA
    rcases widens_st d q c A kp x tl (t := t) ht with ⟨v, hv, e⟩ | ⟨h1, h2, e⟩
    · conv => whnf
      repeat ((first | rw [rcv4 g0] | refine ⟨trivial, ?_⟩ | refine ⟨rfl, ?_⟩ | refine ⟨fun hc => absurd hc (by decide), fun _ => ?_⟩ | refine ⟨fun _ => ?_, fun hc => absurd (by decide) hc⟩ | refine ⟨fun _ => ?_, fun hc => absurd hc (by decide)⟩ | refine ⟨fun hc => absurd (by decide) hc, fun _ => ?_⟩ | refine ⟨Or.inr rfl, ?_⟩ | refine ⟨Or.inl rfl, ?_⟩ | refine ⟨fun hq => absurd (by assumption) hq, fun _ => ?_⟩ | refine ⟨fun _ => ?_, fun hq => absurd (by assumption) hq⟩ | refine ⟨fun hq => absurd hq (by assumption), fun _ => ?_⟩ | refine ⟨fun _ => ?_, fun hq => absurd hq (by assumption)⟩ | refine ⟨fun _ => ?_, fun hq => absurd (Eq.refl _) hq⟩ | refine ⟨fun hq => absurd (Eq.refl _) hq, fun _ => ?_⟩); conv => whnf)
      try dsimp only
      refine ⟨hz, _, hC2, fun wi3 wl3 hF3 hC3 => ?_⟩
      rw [e] at hC3 ⊢
      conv => whnf
      repeat ((first | refine ⟨trivial, ?_⟩ | refine ⟨rfl, ?_⟩ | refine ⟨fun hc => absurd hc (by decide), fun _ => ?_⟩ | refine ⟨fun _ => ?_, fun hc => absurd (by decide) hc⟩ | refine ⟨fun _ => ?_, fun hc => absurd hc (by decide)⟩ | refine ⟨fun hc => absurd (by decide) hc, fun _ => ?_⟩ | refine ⟨Or.inr rfl, ?_⟩ | refine ⟨Or.inl rfl, ?_⟩ | refine ⟨fun hq => absurd (by assumption) hq, fun _ => ?_⟩ | refine ⟨fun _ => ?_, fun hq => absurd (by assumption) hq⟩ | refine ⟨fun hq => absurd hq (by assumption), fun _ => ?_⟩ | refine ⟨fun _ => ?_, fun hq => absurd hq (by assumption)⟩ | refine ⟨fun _ => ?_, fun hq => absurd (Eq.refl _) hq⟩ | refine ⟨fun hq => absurd (Eq.refl _) hq, fun _ => ?_⟩); conv => whnf)
      try dsimp only
      exact fin wi3 wl3 _ _ _ _ _ _ _ 1 hC3 (Or.inr ⟨rfl, hW.symm⟩)
    · have hn := hn h1
      have hdt := hd t h1
      have hG := wn_eqG (q := q) hd h1 (ct_Z hC)
      subst hn
      generalize wdT d c A t = S at e hG
      conv => whnf
      repeat ((first | rw [rcv4 g0] | refine ⟨trivial, ?_⟩ | refine ⟨rfl, ?_⟩ | refine ⟨fun hc => absurd hc (by decide), fun _ => ?_⟩ | refine ⟨fun _ => ?_, fun hc => absurd (by decide) hc⟩ | refine ⟨fun _ => ?_, fun hc => absurd hc (by decide)⟩ | refine ⟨fun hc => absurd (by decide) hc, fun _ => ?_⟩ | refine ⟨Or.inr rfl, ?_⟩ | refine ⟨Or.inl rfl, ?_⟩ | refine ⟨fun hq => absurd (by assumption) hq, fun _ => ?_⟩ | refine ⟨fun _ => ?_, fun hq => absurd (by assumption) hq⟩ | refine ⟨fun hq => absurd hq (by assumption), fun _ => ?_⟩ | refine ⟨fun _ => ?_, fun hq => absurd hq (by assumption)⟩ | refine ⟨fun _ => ?_, fun hq => absurd (Eq.refl _) hq⟩ | refine ⟨fun hq => absurd (Eq.refl _) hq, fun _ => ?_⟩); conv => whnf)
      try dsimp only
      refine ⟨hz, _, hC2, fun wi3 wl3 hF3 hC3 => ?_⟩
      rw [e] at hC3 ⊢
      clear e
      have hS40 : S.1 ≤ 40 := cs_40 (ct_S hC3)
      have f1 : ¬ nI S.1 < nI 0 := nI_nlt (Nat.zero_le _) (by omega)
      conv => whnf
      repeat ((first | rw [rcv4 g0] | refine ⟨trivial, ?_⟩ | refine ⟨rfl, ?_⟩ | refine ⟨fun hc => absurd hc (by decide), fun _ => ?_⟩ | refine ⟨fun _ => ?_, fun hc => absurd (by decide) hc⟩ | refine ⟨fun _ => ?_, fun hc => absurd hc (by decide)⟩ | refine ⟨fun hc => absurd (by decide) hc, fun _ => ?_⟩ | refine ⟨Or.inr rfl, ?_⟩ | refine ⟨Or.inl rfl, ?_⟩ | refine ⟨fun hq => absurd (by assumption) hq, fun _ => ?_⟩ | refine ⟨fun _ => ?_, fun hq => absurd (by assumption) hq⟩ | refine ⟨fun hq => absurd hq (by assumption), fun _ => ?_⟩ | refine ⟨fun _ => ?_, fun hq => absurd hq (by assumption)⟩ | refine ⟨fun _ => ?_, fun hq => absurd (Eq.refl _) hq⟩ | refine ⟨fun hq => absurd (Eq.refl _) hq, fun _ => ?_⟩); conv => whnf)
      try dsimp only
      refine ⟨hz, _, hC3, fun wi4 wl4 hF4 hC4 => ?_⟩
      rw [cnt4] at hC4 ⊢
      conv => whnf
      repeat ((first | rw [rcv4 g0] | refine ⟨trivial, ?_⟩ | refine ⟨rfl, ?_⟩ | refine ⟨fun hc => absurd hc (by decide), fun _ => ?_⟩ | refine ⟨fun _ => ?_, fun hc => absurd (by decide) hc⟩ | refine ⟨fun _ => ?_, fun hc => absurd hc (by decide)⟩ | refine ⟨fun hc => absurd (by decide) hc, fun _ => ?_⟩ | refine ⟨Or.inr rfl, ?_⟩ | refine ⟨Or.inl rfl, ?_⟩ | refine ⟨fun hq => absurd (by assumption) hq, fun _ => ?_⟩ | refine ⟨fun _ => ?_, fun hq => absurd (by assumption) hq⟩ | refine ⟨fun hq => absurd hq (by assumption), fun _ => ?_⟩ | refine ⟨fun _ => ?_, fun hq => absurd hq (by assumption)⟩ | refine ⟨fun _ => ?_, fun hq => absurd (Eq.refl _) hq⟩ | refine ⟨fun hq => absurd (Eq.refl _) hq, fun _ => ?_⟩); conv => whnf)
      try dsimp only
      obtain ⟨m, hm, e5⟩ := narrows_st (upD d t (d t + 1)) q S.1 S.2 kp x tl (t := t) (v := d t + 1) h1 (by omega) (by rw [upD_eq]; exact Nat.le_refl _) (by rw [upD_eq]; omega) (by rw [upD_eq]; omega) hS40
      rw [upD_eq, Nat.add_sub_cancel, upD_back] at e5
      refine ⟨hz, _, hC4, fun wi5 wl5 hF5 hC5 => ?_⟩
      rw [nI_add, e5] at hC5 ⊢
      clear e5
      have f2 : ¬ nI m < nI 0 := nI_nlt (Nat.zero_le _) (by omega)
      generalize nrA (upD d t (d t + 1)) S.2 t (d t) = N at hC5 hG ⊢
      conv => whnf
      repeat ((first | rw [rcv4 g0] | refine ⟨trivial, ?_⟩ | refine ⟨rfl, ?_⟩ | refine ⟨fun hc => absurd hc (by decide), fun _ => ?_⟩ | refine ⟨fun _ => ?_, fun hc => absurd (by decide) hc⟩ | refine ⟨fun _ => ?_, fun hc => absurd hc (by decide)⟩ | refine ⟨fun hc => absurd (by decide) hc, fun _ => ?_⟩ | refine ⟨Or.inr rfl, ?_⟩ | refine ⟨Or.inl rfl, ?_⟩ | refine ⟨fun hq => absurd (by assumption) hq, fun _ => ?_⟩ | refine ⟨fun _ => ?_, fun hq => absurd (by assumption) hq⟩ | refine ⟨fun hq => absurd hq (by assumption), fun _ => ?_⟩ | refine ⟨fun _ => ?_, fun hq => absurd hq (by assumption)⟩ | refine ⟨fun _ => ?_, fun hq => absurd (Eq.refl _) hq⟩ | refine ⟨fun hq => absurd (Eq.refl _) hq, fun _ => ?_⟩); conv => whnf)
      try dsimp only
      refine ⟨hz, _, hC5, fun wi6 wl6 hF6 hC6 => ?_⟩
      rw [cntd d q S.1 N kp x tl h1] at hC6 ⊢
      conv => whnf
      repeat ((first | rw [rcv4 g0] | refine ⟨trivial, ?_⟩ | refine ⟨rfl, ?_⟩ | refine ⟨fun hc => absurd hc (by decide), fun _ => ?_⟩ | refine ⟨fun _ => ?_, fun hc => absurd (by decide) hc⟩ | refine ⟨fun _ => ?_, fun hc => absurd hc (by decide)⟩ | refine ⟨fun hc => absurd (by decide) hc, fun _ => ?_⟩ | refine ⟨Or.inr rfl, ?_⟩ | refine ⟨Or.inl rfl, ?_⟩ | refine ⟨fun hq => absurd (by assumption) hq, fun _ => ?_⟩ | refine ⟨fun _ => ?_, fun hq => absurd (by assumption) hq⟩ | refine ⟨fun hq => absurd hq (by assumption), fun _ => ?_⟩ | refine ⟨fun _ => ?_, fun hq => absurd hq (by assumption)⟩ | refine ⟨fun _ => ?_, fun hq => absurd (Eq.refl _) hq⟩ | refine ⟨fun hq => absurd (Eq.refl _) hq, fun _ => ?_⟩); conv => whnf)
      try dsimp only
      refine ⟨hz, _, hC6, fun wi7 wl7 hF7 hC7 => ?_⟩
      rw [cnt4] at hC7 ⊢
      conv => whnf
      repeat ((first | rw [rcv4 g0] | refine ⟨trivial, ?_⟩ | refine ⟨rfl, ?_⟩ | refine ⟨fun hc => absurd hc (by decide), fun _ => ?_⟩ | refine ⟨fun _ => ?_, fun hc => absurd (by decide) hc⟩ | refine ⟨fun _ => ?_, fun hc => absurd hc (by decide)⟩ | refine ⟨fun hc => absurd (by decide) hc, fun _ => ?_⟩ | refine ⟨Or.inr rfl, ?_⟩ | refine ⟨Or.inl rfl, ?_⟩ | refine ⟨fun hq => absurd (by assumption) hq, fun _ => ?_⟩ | refine ⟨fun _ => ?_, fun hq => absurd (by assumption) hq⟩ | refine ⟨fun hq => absurd hq (by assumption), fun _ => ?_⟩ | refine ⟨fun _ => ?_, fun hq => absurd hq (by assumption)⟩ | refine ⟨fun _ => ?_, fun hq => absurd (Eq.refl _) hq⟩ | refine ⟨fun hq => absurd (Eq.refl _) hq, fun _ => ?_⟩); conv => whnf)
      try dsimp only
      obtain ⟨c', z, l, A', tl8, e1, hB, hG8, hfix, -, -, -, e8⟩ := joins_st d q S.1 N kp x tl hq (cs_A (ct_S hC7)) hS40
      refine ⟨hz, _, hC7, fun wi8 wl8 hF8 hC8 => ?_⟩
      rw [e8] at hC8 ⊢
      clear e8
      conv => whnf
      repeat ((first | refine ⟨trivial, ?_⟩ | refine ⟨rfl, ?_⟩ | refine ⟨fun hc => absurd hc (by decide), fun _ => ?_⟩ | refine ⟨fun _ => ?_, fun hc => absurd (by decide) hc⟩ | refine ⟨fun _ => ?_, fun hc => absurd hc (by decide)⟩ | refine ⟨fun hc => absurd (by decide) hc, fun _ => ?_⟩ | refine ⟨Or.inr rfl, ?_⟩ | refine ⟨Or.inl rfl, ?_⟩ | refine ⟨fun hq => absurd (by assumption) hq, fun _ => ?_⟩ | refine ⟨fun _ => ?_, fun hq => absurd (by assumption) hq⟩ | refine ⟨fun hq => absurd hq (by assumption), fun _ => ?_⟩ | refine ⟨fun _ => ?_, fun hq => absurd hq (by assumption)⟩ | refine ⟨fun _ => ?_, fun hq => absurd (Eq.refl _) hq⟩ | refine ⟨fun hq => absurd (Eq.refl _) hq, fun _ => ?_⟩); conv => whnf)
      try dsimp only
      exact fin wi8 wl8 _ _ _ _ _ _ _ 1 hC8 (Or.inr ⟨rfl, (wr_eqG hG8).symm.trans ((wr_eqG hG).symm.trans hW.symm)⟩)
  unfold alA at h1302
  by_cases ht3 : t < 3
  · have f1 : nI t < nI 3 := nI_lt ht3 (by decide)
    conv => whnf
    repeat ((first | rw [rcv4 g0] | refine ⟨trivial, ?_⟩ | refine ⟨rfl, ?_⟩ | refine ⟨fun hc => absurd hc (by decide), fun _ => ?_⟩ | refine ⟨fun _ => ?_, fun hc => absurd (by decide) hc⟩ | refine ⟨fun _ => ?_, fun hc => absurd hc (by decide)⟩ | refine ⟨fun hc => absurd (by decide) hc, fun _ => ?_⟩ | refine ⟨Or.inr rfl, ?_⟩ | refine ⟨Or.inl rfl, ?_⟩ | refine ⟨fun hq => absurd (by assumption) hq, fun _ => ?_⟩ | refine ⟨fun _ => ?_, fun hq => absurd (by assumption) hq⟩ | refine ⟨fun hq => absurd hq (by assumption), fun _ => ?_⟩ | refine ⟨fun _ => ?_, fun hq => absurd hq (by assumption)⟩ | refine ⟨fun _ => ?_, fun hq => absurd (Eq.refl _) hq⟩ | refine ⟨fun hq => absurd (Eq.refl _) hq, fun _ => ?_⟩); conv => whnf)
    try dsimp only
    refine ⟨hz, _, hC, fun wi2 wl2 hF2 hC2 => ?_⟩
    rw [cntd d q c A kp x tl ht3] at hC2 ⊢
    conv => whnf
    repeat ((first | refine ⟨trivial, ?_⟩ | refine ⟨rfl, ?_⟩ | refine ⟨fun hc => absurd hc (by decide), fun _ => ?_⟩ | refine ⟨fun _ => ?_, fun hc => absurd (by decide) hc⟩ | refine ⟨fun _ => ?_, fun hc => absurd hc (by decide)⟩ | refine ⟨fun hc => absurd (by decide) hc, fun _ => ?_⟩ | refine ⟨Or.inr rfl, ?_⟩ | refine ⟨Or.inl rfl, ?_⟩ | refine ⟨fun hq => absurd (by assumption) hq, fun _ => ?_⟩ | refine ⟨fun _ => ?_, fun hq => absurd (by assumption) hq⟩ | refine ⟨fun hq => absurd hq (by assumption), fun _ => ?_⟩ | refine ⟨fun _ => ?_, fun hq => absurd hq (by assumption)⟩ | refine ⟨fun _ => ?_, fun hq => absurd (Eq.refl _) hq⟩ | refine ⟨fun hq => absurd (Eq.refl _) hq, fun _ => ?_⟩); conv => whnf)
    try dsimp only
    exact h1302 wi2 wl2 (d t) (fun _ => rfl) hC2
  · have f1 : ¬ nI t < nI 3 := nI_nlt (by omega) (by omega)
    conv => whnf
    repeat ((first | refine ⟨trivial, ?_⟩ | refine ⟨rfl, ?_⟩ | refine ⟨fun hc => absurd hc (by decide), fun _ => ?_⟩ | refine ⟨fun _ => ?_, fun hc => absurd (by decide) hc⟩ | refine ⟨fun _ => ?_, fun hc => absurd hc (by decide)⟩ | refine ⟨fun hc => absurd (by decide) hc, fun _ => ?_⟩ | refine ⟨Or.inr rfl, ?_⟩ | refine ⟨Or.inl rfl, ?_⟩ | refine ⟨fun hq => absurd (by assumption) hq, fun _ => ?_⟩ | refine ⟨fun _ => ?_, fun hq => absurd (by assumption) hq⟩ | refine ⟨fun hq => absurd hq (by assumption), fun _ => ?_⟩ | refine ⟨fun _ => ?_, fun hq => absurd hq (by assumption)⟩ | refine ⟨fun _ => ?_, fun hq => absurd (Eq.refl _) hq⟩ | refine ⟨fun hq => absurd (Eq.refl _) hq, fun _ => ?_⟩); conv => whnf)
    try dsimp only
    exact h1302 wi wl 1 (fun k => absurd k ht3) hC

