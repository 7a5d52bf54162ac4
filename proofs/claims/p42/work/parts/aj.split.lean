/-! the law: a product split by a form that is told -/
theorem txa_of {x : Nat → Nat} {l : List Nat} (h : ∀ k, k < l.length → x k = lfN l k) : TxA x l.length 0 l := fun i v e => by
  have hi := (List.getElem?_eq_some_iff.mp e).1
  rw [lfN_at hi] at e
  rw [Nat.zero_add]
  exact ⟨hi, (h i hi).trans (Option.some.inj e)⟩
section
variable (d : Nat → Nat) (q c : Nat) (A : Nat → Nat → Nat) (kp : zK) (x : Nat → Nat) (tl : Nat × (Nat → Int64))
theorem splits_st (hq : q = 2 ∨ q = 3) {i t n : Nat} (hc : c ≤ 40) (hi : i ≤ 40) (ht : t ≤ 3) (hn : n < 2 ^ 31) (h1 : (fmP x n d q (tb0 (nI t)) 0).1 = true) (h2 : (fmP x n d q (tb0 (nI t)) 0).2.1 = n) : (∃ v, v < nI 0 ∧ ¬ v < mI 3 ∧ st_splits (d, q, c, A, kp, (n, x), tl) (nI i) (nI t) = ((d, q, c, A, kp, (0, x), tl), v)) ∨ (i < c ∧ t < 3 ∧ ∃ a : Nat → Nat, (∀ p, p < 9 → a p < q) ∧ st_splits (d, q, c, A, kp, (n, x), tl) (nI i) (nI t) = ((d, q, c + 1, spA q A c i t a, kp, (0, x), tl), nI (c + 1))) := by
  have hlt := fmP_lt (x := x) (L := n) (d := d) (t := tb0 (nI t)) (k := 0) (show 2 ≤ q by omega)
  have hs : spR (d, q, c, A, kp, (n, x), tl) (nI t) = fmP x n d q (tb0 (nI t)) 0 := rfl
  unfold st_splits
  rw [hs]
  generalize fmP x n d q (tb0 (nI t)) 0 = R at h1 h2 hlt
  rw [if_pos (show ffI R.1 R.2.1 (d, q, c, A, kp, (n, x), tl).2.2.2.2.2.1.1 < nI 0 from (ffI_neg (by omega)).mpr ⟨h1, by rw [h2]; exact Nat.lt_irrefl n⟩)]
  by_cases h : (idB c (nI i) && idB 3 (nI t)) = true
  · rw [if_pos (show (idB (d, q, c, A, kp, (n, x), tl).2.2.1 (nI i) && idB 3 (nI t)) = true from h)]
    rw [Bool.and_eq_true, idB_iff (by omega) (by omega), idB_iff (by omega) (by omega)] at h
    by_cases e2 : c = 40
    · rw [if_pos (show (d, q, c, A, kp, (n, x), tl).2.2.1 = 40 from e2)]
      exact Or.inl ⟨mI 2, by decide, by decide, rfl⟩
    · rw [if_neg (show ¬ (d, q, c, A, kp, (n, x), tl).2.2.1 = 40 from e2), nI_clamp (by omega), nI_clamp (by omega)]
      by_cases e3 : eqB (A (3 * i + t)) R.2.2 = true
      · rw [if_pos (show eqB ((d, q, c, A, kp, (n, x), tl).2.2.2.1 (3 * i + t)) R.2.2 = true from e3)]
        exact Or.inl ⟨mI 3, by decide, by decide, rfl⟩
      · rw [if_neg (show ¬ eqB ((d, q, c, A, kp, (n, x), tl).2.2.2.1 (3 * i + t)) R.2.2 = true from e3)]
        exact Or.inr ⟨h.1, h.2, R.2.2, hlt, rfl⟩
  · rw [if_neg (show ¬ (idB (d, q, c, A, kp, (n, x), tl).2.2.1 (nI i) && idB 3 (nI t)) = true from h)]
    exact Or.inl ⟨mI 1, by decide, by decide, rfl⟩
end
def k_L_441_0 : List zI := [(441, 442, 0, .aload_n 1), (442, 444, 0, .iload 10), (444, 445, 3, .iconst 3), (445, 448, 452, .if_icmp .ne 7), (448, 449, 0, .iconst 0), (449, 452, 454, .goto 5), (452, 454, 0, .iload 10), (454, 456, 0, .iload 7), (456, 458, 14, .bipush 14), (458, 459, 0, .iushr), (459, 462, 0, .invokestatic 76), (462, 464, 0, .astore 14), (464, 465, 0, .aload_n 1), (465, 467, 0, .aload 14), (467, 470, 0, .invokestatic 80), (470, 471, 0, .aload_n 1), (471, 473, 0, .iload 8), (473, 475, 0, .iload 10), (475, 478, 0, .invokevirtual 84), (478, 480, 0, .istore 15), (480, 482, 0, .iload 15), (482, 484, 3, .bipush (-3)), (484, 487, 516, .if_icmp .lt 32), (487, 489, 0, .iload 15), (489, 492, 501, .ifCond .lt 12), (492, 494, 0, .iload 15), (494, 496, 0, .iload 11), (496, 497, 1, .iconst 1), (497, 498, 0, .iadd), (498, 501, 516, .if_icmp .ne 18), (501, 503, 0, .iload 15), (503, 506, 1374, .ifCond .ge 871), (506, 507, 0, .aload_n 1), (507, 508, 4, .iconst 4), (508, 511, 0, .invokevirtual 30), (511, 513, 0, .iload 11), (513, 516, 1374, .if_icmp .eq 861), (516, 517, 0, .iconst 0), (517, 518, 0, .ireturn)]
theorem ok_L_441_0 : ∀ e ∈ k_L_441_0, z_okb cL_law e = true := fun e h => List.all_eq_true.mp (by decide +kernel : k_L_441_0.all (z_okb cL_law) = true) e h
def k_L_441 : List zI := k_L_441_0
theorem ok_L_441 : ∀ e ∈ k_L_441, z_okb cL_law e = true := ok_L_441_0
def M_L_441 (L : Nat) (xs : Nat → Int32) : zM := (k_L_441, [], [(76, 0, 0, 3, 40, 11200, sp_L_form), (80, 0, 0, 2, 0, 0, sp_L_say), (84, 4, 9, 3, 0, 0, sp_X11_splits), (30, 4, 9, 2, 0, 0, sp_X11_count)], ([], [], []), [], [(91, [true, true, false, false, false, false, true, false, false, false, false, false, false, false, false, false, false, false]), (244, [true, true, false, false, false, false, true, true, true, true, true, true, true, true, false, false, false, false]), (278, [true, true, false, false, false, false, true, true, true, true, true, true, true, true, false, false, false, false]), (334, [true, true, false, false, false, false, true, true, true, true, true, true, true, true, false, false, false, false]), (389, [true, true, false, false, false, false, true, true, true, true, true, true, true, true, false, false, false, false]), (441, [true, true, false, false, false, false, true, true, true, true, true, true, true, true, false, false, false, false]), (454, [true, true, false, false, false, false, true, true, true, true, true, true, true, true, false, false, false, false]), (518, [true, true, false, false, false, false, true, true, true, true, true, true, true, true, false, false, false, false]), (559, [true, true, false, false, false, false, true, true, true, true, true, true, true, true, false, false, false, false]), (602, [true, true, false, false, false, false, true, true, true, true, true, true, true, true, false, false, false, false]), (605, [true, true, false, false, false, false, true, true, true, true, true, true, true, true, true, false, false, false]), (691, [true, true, false, false, false, false, true, true, true, true, true, true, true, true, false, false, false, false]), (707, [true, true, false, false, false, false, true, true, true, true, true, true, true, true, false, false, false, false]), (786, [true, true, false, false, false, false, true, true, true, true, true, true, true, true, false, false, false, false]), (833, [true, true, false, false, false, false, true, true, true, true, true, true, true, true, false, false, false, false]), (945, [true, true, false, false, false, false, true, true, true, true, true, true, true, true, false, false, false, false]), (1007, [true, true, false, false, false, false, true, true, true, true, true, true, true, true, false, false, false, false]), (1046, [true, true, false, false, false, false, true, true, true, true, true, true, true, true, true, true, true, false]), (1102, [true, true, false, false, false, false, true, true, true, true, true, true, true, true, false, false, false, true]), (1156, [true, true, false, false, false, false, true, true, true, true, true, true, true, true, false, false, false, false]), (1221, [true, true, false, false, false, false, true, true, true, true, true, true, true, true, false, false, false, false]), (1237, [true, true, false, false, false, false, true, true, true, true, true, true, true, true, false, false, false, false]), (1286, [true, true, false, false, false, false, true, true, true, true, true, true, true, true, false, false, false, false]), (1302, [true, true, false, false, false, false, true, true, true, true, true, true, true, true, false, false, false, false]), (1374, [true, true, false, false, false, false, true, false, false, false, false, false, true, true, false, false, false, false])], 2, false, (true, L, xs), (600104, 7301314, []))
theorem ca_L_441_0 (l : Launch) (L : Nat) (xs : Nat → Int32) : z_cok l RL room_1 (true, L, xs) (76, 0, 0, 3, 40, 11200, sp_L_form) := z_ca0 (c_L_form l) mb_L_form wt_1020 wt_1021 (by decide)
theorem ca_L_441_1 (l : Launch) (L : Nat) (xs : Nat → Int32) : z_cok l RL room_1 (true, L, xs) (80, 0, 0, 2, 0, 0, sp_L_say) := z_ca0 (c_L_say l) mb_L_say wt_953 wt_954 (by decide)
theorem ca_L_441_2 (l : Launch) (L : Nat) (xs : Nat → Int32) : z_cok l RL room_1 (true, L, xs) (84, 4, 9, 3, 0, 0, sp_X11_splits) := z_ca4 (c_X11_splits l) mb_X11_splits ⟨_, rfl, rfl⟩ wt_626 wt_627 wt_628 (by decide)
theorem ca_L_441_3 (l : Launch) (L : Nat) (xs : Nat → Int32) : z_cok l RL room_1 (true, L, xs) (30, 4, 9, 2, 0, 0, sp_X11_count) := z_ca4 (c_X11_count l) mb_X11_count ⟨_, rfl, rfl⟩ wt_858 wt_859 wt_860 (by decide)
theorem O_L_441 (l : Launch) (L : Nat) (xs : Nat → Int32) : z_OK l RL cL_law room_1 (M_L_441 L xs) := ⟨ok_L_441, fun _ h => absurd h List.not_mem_nil, List.forall_mem_cons.mpr ⟨ca_L_441_0 l L xs, List.forall_mem_cons.mpr ⟨ca_L_441_1 l L xs, List.forall_mem_cons.mpr ⟨ca_L_441_2 l L xs, List.forall_mem_cons.mpr ⟨ca_L_441_3 l L xs, fun _ h => absurd h List.not_mem_nil⟩⟩⟩⟩, fun _ h => absurd h List.not_mem_nil, fun _ h => absurd h List.not_mem_nil, fun _ h => absurd h List.not_mem_nil, fun _ h => absurd h List.not_mem_nil, rfl, rfl, fun _ h => absurd h List.not_mem_nil⟩
set_option maxRecDepth 100000 in
theorem act_441 {L : Nat} {xs : Nat → Int32} {Jm : zJ} (hs : lawS M_L_441 L xs Jm) : LAct Jm 441 := by
  intro k i j t c1 c2 W wd w d q c A kp hI hW hi hj ht hc1 hc2 hE
  obtain ⟨hz, hWF, x, tl, hC⟩ := hI
  obtain ⟨G, wi, wl⟩ := w
  dsimp only at hz hC
  have g0 := zG_0 hz
  have h40 : c ≤ 40 := cs_40 (ct_S hC)
  have hq : q = 2 ∨ q = 3 := cs_q23 (ct_S hC)
  have hA : Bd q c A := cs_A (ct_S hC)
  have hd : Dd d := cs_d (ct_S hC)
  have hW729 : W ≤ 729 := Nat.le_trans (Nat.le_of_eq hW) (wr_le d q A c)
  have fin : ∀ (wi2 : Nat → Nat → Int32) (wl2 : Nat → Nat → Int64) (d2 : Nat → Nat) (q2 c' : Nat) (A2 : Nat → Nat → Nat) (kp2 : zK) (x2 : Nat → Nat) (tl2 : Nat × (Nat → Int64)) (f : Nat), CT wi2 wl2 (d2, q2, c', A2, kp2, (0, x2), tl2) → (f = 0 ∨ f = 1 ∧ wr d2 q2 A2 c' = W) → Jm 1374 (alE k W f) [] (G, wi2, wl2) c1 c2 := fun wi2 wl2 d2 q2 c' A2 kp2 x2 tl2 f h hf => hE _ d2 q2 c' A2 kp2 c1 c2 f ⟨hz, hWF, x2, tl2, h⟩ hf (by omega) (by omega)
  unfold alE at fin
  refine hs 400 441 _ _ _ _ _ ?_
  unfold alA
  have h454 : ∀ t', t' = tb0 (nI t) → Jm 454 (alA k wd i j t c W) [.int (nI t'), .ref 0] (G, wi, wl) c1 c2 := by
    intro t' ht'
    have ht3 : t' < 3 := ht' ▸ tb0_lt _
    have hl45 : 45 ≤ G.length := zG_len hz
    refine hs 400 454 _ _ _ _ _ ?_
    unfold alA
    conv => whnf
    repeat ((first | refine ⟨trivial, ?_⟩ | refine ⟨rfl, ?_⟩ | refine ⟨fun hc => absurd hc (by decide), fun _ => ?_⟩ | refine ⟨fun _ => ?_, fun hc => absurd (by decide) hc⟩ | refine ⟨fun _ => ?_, fun hc => absurd hc (by decide)⟩ | refine ⟨fun hc => absurd (by decide) hc, fun _ => ?_⟩ | refine ⟨Or.inr rfl, ?_⟩ | refine ⟨Or.inl rfl, ?_⟩ | refine ⟨fun hq => absurd (by assumption) hq, fun _ => ?_⟩ | refine ⟨fun _ => ?_, fun hq => absurd (by assumption) hq⟩ | refine ⟨fun hq => absurd hq (by assumption), fun _ => ?_⟩ | refine ⟨fun _ => ?_, fun hq => absurd hq (by assumption)⟩ | refine ⟨fun _ => ?_, fun hq => absurd (Eq.refl _) hq⟩ | refine ⟨fun hq => absurd (Eq.refl _) hq, fun _ => ?_⟩); conv => whnf)
    try dsimp only
    refine ⟨⟨by show c1 + 40 ≤ 600104; omega, by show c2 + 11200 ≤ 7301314; omega⟩, by simp [z_wfl, z_wfs, z_rlt, Nat.blt_eq, show 0 < G.length by omega], ?_⟩
    refine ⟨rfl, hz, hWF, _, t', hC, rfl, ht3, fun w2 u v ts e2 hz2 hC2 hu hv hs2 hne hlen hinc => ?_⟩
    have hW2 : WF w2 := e2.2.2 hWF
    obtain ⟨G2, wi2, wl2⟩ := w2
    dsimp only at hz2 hC2 hu hv
    have g2 := zG_0 hz2
    have hln := ttx_len d t' ts
    have hnn : (ttx d t' ts).length ≤ 36 := by omega
    conv => whnf
    repeat ((first | refine ⟨trivial, ?_⟩ | refine ⟨rfl, ?_⟩ | refine ⟨fun hc => absurd hc (by decide), fun _ => ?_⟩ | refine ⟨fun _ => ?_, fun hc => absurd (by decide) hc⟩ | refine ⟨fun _ => ?_, fun hc => absurd hc (by decide)⟩ | refine ⟨fun hc => absurd (by decide) hc, fun _ => ?_⟩ | refine ⟨Or.inr rfl, ?_⟩ | refine ⟨Or.inl rfl, ?_⟩ | refine ⟨fun hq => absurd (by assumption) hq, fun _ => ?_⟩ | refine ⟨fun _ => ?_, fun hq => absurd (by assumption) hq⟩ | refine ⟨fun hq => absurd hq (by assumption), fun _ => ?_⟩ | refine ⟨fun _ => ?_, fun hq => absurd hq (by assumption)⟩ | refine ⟨fun _ => ?_, fun hq => absurd (Eq.refl _) hq⟩ | refine ⟨fun hq => absurd (Eq.refl _) hq, fun _ => ?_⟩); conv => whnf)
    try dsimp only
    refine ⟨hz2, _, v, _, _, hC2, rfl, Nat.le_trans hl45 hu, Nat.le_trans hl45 hv, hs2, by show (ttx d t' ts).length ≤ 150; omega, fun wi3 wl3 x3 hF3 hC3 hx3 => ?_⟩
    have hC3b : CT wi3 wl3 (d, q, c, A, kp, ((ttx d t' ts).length, x3), tl) := hC3
    clear hC3
    have hfm := fmP_ok (q := q) (L := (ttx d t' ts).length) (k := 0) hd ht3 hne hlen hinc (txa_of hx3) (by rw [Nat.zero_add, see_end]; decide) (by rw [Nat.zero_add, see_end]; decide)
    rw [Nat.zero_add] at hfm
    generalize (ttx d t' ts).length = n at hC3b hfm hnn
    subst ht'
    have fin2 : ∀ (wi4 : Nat → Nat → Int32) (wl4 : Nat → Nat → Int64) (c' : Nat) (A2 : Nat → Nat → Nat), CT wi4 wl4 (d, q, c', A2, kp, (0, x3), tl) → wr d q A2 c' = W → Jm 1374 (alE k W 1) [] (G2, wi4, wl4) (c1 + 40) (c2 + 11200) := fun wi4 wl4 c' A2 h hw => hE _ d q c' A2 kp _ _ 1 ⟨hz2, hW2, x3, tl, h⟩ (Or.inr ⟨rfl, hw⟩) (by omega) (by omega)
    unfold alE at fin2
    rcases splits_st d q c A kp x3 tl hq (i := i) (t := t) h40 (by omega) ht (show n < 2 ^ 31 by omega) hfm.1 hfm.2 with ⟨v4, hv1, hv2, e⟩ | ⟨h1, h2, a, ha, e⟩
    · conv => whnf
      repeat ((first | rw [rcv4 g2] | refine ⟨trivial, ?_⟩ | refine ⟨rfl, ?_⟩ | refine ⟨fun hc => absurd hc (by decide), fun _ => ?_⟩ | refine ⟨fun _ => ?_, fun hc => absurd (by decide) hc⟩ | refine ⟨fun _ => ?_, fun hc => absurd hc (by decide)⟩ | refine ⟨fun hc => absurd (by decide) hc, fun _ => ?_⟩ | refine ⟨Or.inr rfl, ?_⟩ | refine ⟨Or.inl rfl, ?_⟩ | refine ⟨fun hq => absurd (by assumption) hq, fun _ => ?_⟩ | refine ⟨fun _ => ?_, fun hq => absurd (by assumption) hq⟩ | refine ⟨fun hq => absurd hq (by assumption), fun _ => ?_⟩ | refine ⟨fun _ => ?_, fun hq => absurd hq (by assumption)⟩ | refine ⟨fun _ => ?_, fun hq => absurd (Eq.refl _) hq⟩ | refine ⟨fun hq => absurd (Eq.refl _) hq, fun _ => ?_⟩); conv => whnf)
      try dsimp only
      refine ⟨hz2, _, hC3b, fun wi4 wl4 hF4 hC4 => ?_⟩
      rw [e] at hC4 ⊢
      conv => whnf
      repeat ((first | rw [rcv4 g2] | refine ⟨trivial, ?_⟩ | refine ⟨rfl, ?_⟩ | refine ⟨fun hc => absurd hc (by decide), fun _ => ?_⟩ | refine ⟨fun _ => ?_, fun hc => absurd (by decide) hc⟩ | refine ⟨fun _ => ?_, fun hc => absurd hc (by decide)⟩ | refine ⟨fun hc => absurd (by decide) hc, fun _ => ?_⟩ | refine ⟨Or.inr rfl, ?_⟩ | refine ⟨Or.inl rfl, ?_⟩ | refine ⟨fun hq => absurd (by assumption) hq, fun _ => ?_⟩ | refine ⟨fun _ => ?_, fun hq => absurd (by assumption) hq⟩ | refine ⟨fun hq => absurd hq (by assumption), fun _ => ?_⟩ | refine ⟨fun _ => ?_, fun hq => absurd hq (by assumption)⟩ | refine ⟨fun _ => ?_, fun hq => absurd (Eq.refl _) hq⟩ | refine ⟨fun hq => absurd (Eq.refl _) hq, fun _ => ?_⟩); conv => whnf)
      try dsimp only
      refine ⟨hz2, _, hC4, fun wi5 wl5 hF5 hC5 => ?_⟩
      rw [cnt4] at hC5 ⊢
      conv => whnf
      repeat ((first | refine ⟨trivial, ?_⟩ | refine ⟨rfl, ?_⟩ | refine ⟨fun hc => absurd hc (by decide), fun _ => ?_⟩ | refine ⟨fun _ => ?_, fun hc => absurd (by decide) hc⟩ | refine ⟨fun _ => ?_, fun hc => absurd hc (by decide)⟩ | refine ⟨fun hc => absurd (by decide) hc, fun _ => ?_⟩ | refine ⟨Or.inr rfl, ?_⟩ | refine ⟨Or.inl rfl, ?_⟩ | refine ⟨fun hq => absurd (by assumption) hq, fun _ => ?_⟩ | refine ⟨fun _ => ?_, fun hq => absurd (by assumption) hq⟩ | refine ⟨fun hq => absurd hq (by assumption), fun _ => ?_⟩ | refine ⟨fun _ => ?_, fun hq => absurd hq (by assumption)⟩ | refine ⟨fun _ => ?_, fun hq => absurd (Eq.refl _) hq⟩ | refine ⟨fun hq => absurd (Eq.refl _) hq, fun _ => ?_⟩); conv => whnf)
      try dsimp only
      exact fin2 wi5 wl5 _ _ hC5 hW.symm
    · have f1 : ¬ nI (c + 1) < mI 3 := by
        intro k
        have k2 : nI (c + 1) < nI 0 := Int32.lt_trans k (by decide)
        exact absurd k2 (nI_nlt (Nat.zero_le _) (by omega))
      have f2 : ¬ nI (c + 1) < nI 0 := nI_nlt (Nat.zero_le _) (by omega)
      have f3 : nI (c + 1) = nI c + nI 1 := (nI_add c 1).symm
      conv => whnf
      repeat ((first | rw [rcv4 g2] | refine ⟨trivial, ?_⟩ | refine ⟨rfl, ?_⟩ | refine ⟨fun hc => absurd hc (by decide), fun _ => ?_⟩ | refine ⟨fun _ => ?_, fun hc => absurd (by decide) hc⟩ | refine ⟨fun _ => ?_, fun hc => absurd hc (by decide)⟩ | refine ⟨fun hc => absurd (by decide) hc, fun _ => ?_⟩ | refine ⟨Or.inr rfl, ?_⟩ | refine ⟨Or.inl rfl, ?_⟩ | refine ⟨fun hq => absurd (by assumption) hq, fun _ => ?_⟩ | refine ⟨fun _ => ?_, fun hq => absurd (by assumption) hq⟩ | refine ⟨fun hq => absurd hq (by assumption), fun _ => ?_⟩ | refine ⟨fun _ => ?_, fun hq => absurd hq (by assumption)⟩ | refine ⟨fun _ => ?_, fun hq => absurd (Eq.refl _) hq⟩ | refine ⟨fun hq => absurd (Eq.refl _) hq, fun _ => ?_⟩); conv => whnf)
      try dsimp only
      refine ⟨hz2, _, hC3b, fun wi4 wl4 hF4 hC4 => ?_⟩
      rw [e] at hC4 ⊢
      conv => whnf
      repeat ((first | refine ⟨trivial, ?_⟩ | refine ⟨rfl, ?_⟩ | refine ⟨fun hc => absurd hc (by decide), fun _ => ?_⟩ | refine ⟨fun _ => ?_, fun hc => absurd (by decide) hc⟩ | refine ⟨fun _ => ?_, fun hc => absurd hc (by decide)⟩ | refine ⟨fun hc => absurd (by decide) hc, fun _ => ?_⟩ | refine ⟨Or.inr rfl, ?_⟩ | refine ⟨Or.inl rfl, ?_⟩ | refine ⟨fun hq => absurd (by assumption) hq, fun _ => ?_⟩ | refine ⟨fun _ => ?_, fun hq => absurd (by assumption) hq⟩ | refine ⟨fun hq => absurd hq (by assumption), fun _ => ?_⟩ | refine ⟨fun _ => ?_, fun hq => absurd hq (by assumption)⟩ | refine ⟨fun _ => ?_, fun hq => absurd (Eq.refl _) hq⟩ | refine ⟨fun hq => absurd (Eq.refl _) hq, fun _ => ?_⟩); conv => whnf)
      try dsimp only
      exact fin2 wi4 wl4 _ _ hC4 ((wr_eqG (sp_eqG hq hA h1 h2 ha)).symm.trans hW.symm)
  unfold alA at h454
  by_cases ht3 : t = 3
  · have f1 : nI t = nI 3 := by rw [ht3]
    conv => whnf
    repeat ((first | refine ⟨trivial, ?_⟩ | refine ⟨rfl, ?_⟩ | refine ⟨fun hc => absurd hc (by decide), fun _ => ?_⟩ | refine ⟨fun _ => ?_, fun hc => absurd (by decide) hc⟩ | refine ⟨fun _ => ?_, fun hc => absurd hc (by decide)⟩ | refine ⟨fun hc => absurd (by decide) hc, fun _ => ?_⟩ | refine ⟨Or.inr rfl, ?_⟩ | refine ⟨Or.inl rfl, ?_⟩ | refine ⟨fun hq => absurd (by assumption) hq, fun _ => ?_⟩ | refine ⟨fun _ => ?_, fun hq => absurd (by assumption) hq⟩ | refine ⟨fun hq => absurd hq (by assumption), fun _ => ?_⟩ | refine ⟨fun _ => ?_, fun hq => absurd hq (by assumption)⟩ | refine ⟨fun _ => ?_, fun hq => absurd (Eq.refl _) hq⟩ | refine ⟨fun hq => absurd (Eq.refl _) hq, fun _ => ?_⟩); conv => whnf)
    try dsimp only
    exact h454 0 (by rw [ht3]; rfl)
  · have f1 : ¬ nI t = nI 3 := fun k => ht3 ((nI_eq (by omega) (by decide)).mp k)
    conv => whnf
    repeat ((first | refine ⟨trivial, ?_⟩ | refine ⟨rfl, ?_⟩ | refine ⟨fun hc => absurd hc (by decide), fun _ => ?_⟩ | refine ⟨fun _ => ?_, fun hc => absurd (by decide) hc⟩ | refine ⟨fun _ => ?_, fun hc => absurd hc (by decide)⟩ | refine ⟨fun hc => absurd (by decide) hc, fun _ => ?_⟩ | refine ⟨Or.inr rfl, ?_⟩ | refine ⟨Or.inl rfl, ?_⟩ | refine ⟨fun hq => absurd (by assumption) hq, fun _ => ?_⟩ | refine ⟨fun _ => ?_, fun hq => absurd (by assumption) hq⟩ | refine ⟨fun hq => absurd hq (by assumption), fun _ => ?_⟩ | refine ⟨fun _ => ?_, fun hq => absurd hq (by assumption)⟩ | refine ⟨fun _ => ?_, fun hq => absurd (Eq.refl _) hq⟩ | refine ⟨fun hq => absurd (Eq.refl _) hq, fun _ => ?_⟩); conv => whnf)
    try dsimp only
    exact h454 t (by
      unfold tb0
      rw [if_pos (idB_of (show t < 3 by omega) (by decide)), nI_clamp (by omega)])

