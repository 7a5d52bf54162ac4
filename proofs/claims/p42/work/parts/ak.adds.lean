/-! the law: a product told and added -/
def SS (T : zT) (o : Nat) (l : List Nat) (w : zW) : Prop := zG w.1 ∧ WF w ∧ CT w.2.1 w.2.2 T ∧ SLx (fun x => x < 45) w o l
theorem ss_form {T : zT} {o u v : Nat} {l r : List Nat} {w w2 : zW} {K : Option Value → zW → Prop} (h : SS T o l w) (e : Ext (fun x => 45 ≤ x ∧ x < w.1.length) w w2) (hz : zG w2.1) (hC : CT w2.2.1 w2.2.2 T) (hu : w.1.length ≤ u) (hv : w.1.length ≤ v) (hs : TL' w2 u v r) (hl : l.length + r.length ≤ 150) (k : ∀ w3, SS T o (l ++ r) w3 → K (some (.ref o)) w3) : sp_J4_append_15ec4 [.ref o, .ref u] w2 K := by
  obtain ⟨hz0, hW0, hC0, hS⟩ := h
  have h45 := zG_len hz
  obtain ⟨vs, N, m0, p1, p2, hO, c1, c3, hN, hV, hn, hf, hF⟩ := hS
  have ho := nth_lt hO
  have hvs := nth_lt hV
  have eo := e.2.1 o ⟨Nat.not_lt.mp p1, ho⟩
  have ev := e.2.1 vs ⟨Nat.not_lt.mp p2, hvs⟩
  have hW2 := e.2.2 hW0
  refine ⟨fun x => x < 45 ∨ x = u ∨ x = v, l.length, r.length, lfN l, lfN r, ⟨vs, N, m0, ?_, ?_, eo.1.trans hO, by rw [eo.2.1]; exact c1, by rw [eo.2.1]; exact c3, hN, ev.1.trans hV, hn, fun k hk => by rw [ev.2.1]; exact hf k hk, fun k hk => by rw [ev.2.1]; exact hF k hk⟩, ?_, hW2, fun w' e' => ⟨v, st_ext hs e' (Or.inr (Or.inl rfl)) (Or.inr (Or.inr rfl))⟩, hl, fun w' e' s' => ?_⟩
  · rintro (q | q | q)
    · exact p1 q
    · omega
    · omega
  · rintro (q | q | q)
    · exact p2 q
    · omega
    · omega
  · rintro x (q | q | q)
    · omega
    · rw [q]; exact nth_lt hs.1
    · rw [q]; exact nth_lt hs.2.2.1
  · exact k w' ⟨ext_zG hz e' (fun x hx => Or.inl hx), e'.2.2 hW2, ext_CT hC e' (fun x hx => Or.inl hx), SLx_cat (s'.less fun x hx => Or.inl hx)⟩
theorem SLx_cat2 {P : Nat → Prop} {w : zW} {o : Nat} {l r : List Nat} {f : Nat → Nat} (h : SB P w o 0 (l.length + r.length) (catF (lfN l) l.length f)) (hf : ∀ k, k < r.length → f k = lfN r k) : SLx P w o (l ++ r) :=
  SLx_cat (SB.cong h rfl (fun k hk => by
    unfold catF
    by_cases e : k < l.length
    · rw [if_pos e, if_pos e]
    · rw [if_neg e, if_neg e, hf _ (by omega)]))
theorem ss_const {T : zT} {o cst : Nat} {l r : List Nat} {f : Nat → Nat} {w : zW} {K : Option Value → zW → Prop} (h : SS T o l w) (hs : ∀ w', StrV w' (.retAddr cst) r.length f) (hf : ∀ k, k < r.length → f k = lfN r k) (hl : l.length + r.length ≤ 150) (k : ∀ w3, SS T o (l ++ r) w3 → K (some (.ref o)) w3) : sp_J4_append_15ec4 [.ref o, .retAddr cst] w K := by
  obtain ⟨hz, hW, hC, hS⟩ := h
  have h45 := zG_len hz
  exact ⟨fun x => x < 45, l.length, r.length, lfN l, f, hS, fun x hx => Nat.lt_of_lt_of_le hx h45, hW, fun w' _ => hs w', hl, fun w' e' s' => k w' ⟨ext_zG hz e' (fun x hx => hx), e'.2.2 hW, ext_CT hC e' (fun x hx => hx), SLx_cat2 s' hf⟩⟩
theorem ss_tos {T : zT} {o : Nat} {l : List Nat} {w : zW} {K : Option Value → zW → Prop} (h : SS T o l w) (k : ∀ w3 u v, zG w3.1 → WF w3 → CT w3.2.1 w3.2.2 T → 45 ≤ u → 45 ≤ v → TL' w3 u v l → K (some (.ref u)) w3) : sp_J4_toString_0e30d [.ref o] w K := by
  obtain ⟨hz, hW, hC, hS⟩ := h
  have h45 := zG_len hz
  exact ⟨fun x => x < 45, l.length, lfN l, hS, hW, fun w' q e' hq s' => k w' _ q (ext_zG hz e' (fun x hx => Nat.lt_of_lt_of_le hx h45)) (e'.2.2 hW) (ext_CT hC e' (fun x hx => Nat.lt_of_lt_of_le hx h45)) h45 (by omega) s'⟩
/-- a StringBuilder's cell, made, and the text in it begun -/
theorem ss_new {T : zT} {G : List zSh} {wi : Nat → Nat → Int32} {wl : Nat → Nat → Int64} (hz : zG G) (hW : WF (G, wi, wl)) (hC : CT wi wl T) : zG (G ++ [(.inl (11, [some none, none, none, none]) : zSh)]) ∧ WF (G ++ [(.inl (11, [some none, none, none, none]) : zSh)], z_row wi G.length (fun _ => 0), wl) ∧ CT (z_row wi G.length (fun _ => 0)) wl T := by
  have h45 := zG_len hz
  refine ⟨?_, wfg_app hW (wfg_nullc rfl), ct_same hC (fun y hy => z_row_ne (by omega)) rfl⟩
  obtain ⟨r, rfl⟩ := hz
  exact ⟨r ++ [(.inl (11, [some none, none, none, none]) : zSh)], by rw [List.append_assoc]⟩
section
variable (d : Nat → Nat) (q c : Nat) (A : Nat → Nat → Nat) (kp : zK) (x : Nat → Nat) (tl : Nat × (Nat → Int64))
theorem adds_st {n : Nat} (hn : n < 2 ^ 31) (h1 : (prP x n d q 0).1 = true) (h2 : (prP x n d q 0).2.1 = n) : (c = 40 ∧ st_adds (d, q, c, A, kp, (n, x), tl) = ((d, q, c, A, kp, (0, x), tl), mI 2)) ∨ (c ≠ 40 ∧ ∃ A2, st_adds (d, q, c, A, kp, (n, x), tl) = ((d, q, c + 1, A2, kp, (0, x), tl), nI (c + 1))) := by
  unfold st_adds
  rw [if_pos (show ffI (prP (d, q, c, A, kp, (n, x), tl).2.2.2.2.2.1.2 (d, q, c, A, kp, (n, x), tl).2.2.2.2.2.1.1 (d, q, c, A, kp, (n, x), tl).1 (d, q, c, A, kp, (n, x), tl).2.1 0).1 (prP (d, q, c, A, kp, (n, x), tl).2.2.2.2.2.1.2 (d, q, c, A, kp, (n, x), tl).2.2.2.2.2.1.1 (d, q, c, A, kp, (n, x), tl).1 (d, q, c, A, kp, (n, x), tl).2.1 0).2.1 (d, q, c, A, kp, (n, x), tl).2.2.2.2.2.1.1 < nI 0 from (ffI_neg (by show (prP x n d q 0).2.1 < _; omega)).mpr ⟨h1, by show ¬ (prP x n d q 0).2.1 < n; omega⟩)]
  by_cases e2 : c = 40
  · rw [if_pos (show (d, q, c, A, kp, (n, x), tl).2.2.1 = 40 from e2)]
    exact Or.inl ⟨e2, rfl⟩
  · rw [if_neg (show ¬ (d, q, c, A, kp, (n, x), tl).2.2.1 = 40 from e2)]
    exact Or.inr ⟨e2, _, rfl⟩
end
def k_L_833_0 : List zI := [(833, 836, 0, .new 27), (836, 837, 0, .dup), (837, 840, 0, .invokespecial 29), (840, 841, 0, .aload_n 1), (841, 842, 0, .iconst 0), (842, 844, 0, .iload 7), (844, 845, 4, .iconst 4), (845, 846, 0, .iushr), (846, 849, 0, .invokestatic 76), (849, 852, 0, .invokevirtual 113), (852, 854, 0, .ldc 116), (854, 857, 0, .invokevirtual 113), (857, 858, 0, .aload_n 1), (858, 859, 1, .iconst 1), (859, 861, 0, .iload 7), (861, 863, 8, .bipush 8), (863, 864, 0, .iushr), (864, 867, 0, .invokestatic 76), (867, 870, 0, .invokevirtual 113), (870, 872, 0, .ldc 116), (872, 875, 0, .invokevirtual 113), (875, 876, 0, .aload_n 1), (876, 877, 2, .iconst 2), (877, 879, 0, .iload 7), (879, 881, 12, .bipush 12), (881, 882, 0, .iushr), (882, 885, 0, .invokestatic 76), (885, 888, 0, .invokevirtual 113), (888, 891, 0, .invokevirtual 41), (891, 893, 0, .astore 14), (893, 894, 0, .aload_n 1), (894, 896, 0, .aload 14), (896, 899, 0, .invokestatic 80), (899, 900, 0, .aload_n 1), (900, 903, 0, .invokevirtual 118), (903, 905, 0, .istore 15), (905, 907, 0, .iload 15), (907, 909, 0, .iload 11), (909, 911, 40, .bipush 40), (911, 914, 921, .if_icmp .ge 10)]
theorem ok_L_833_0 : ∀ e ∈ k_L_833_0, z_okb cL_law e = true := fun e h => List.all_eq_true.mp (by decide +kernel : k_L_833_0.all (z_okb cL_law) = true) e h
def k_L_833_1 : List zI := [(914, 916, 0, .iload 11), (916, 917, 1, .iconst 1), (917, 918, 0, .iadd), (918, 921, 923, .goto 5), (921, 923, 2, .bipush (-2)), (923, 926, 928, .if_icmp .eq 5), (926, 927, 0, .iconst 0), (927, 928, 0, .ireturn), (928, 930, 0, .iload 11), (930, 932, 40, .bipush 40), (932, 935, 939, .if_icmp .ne 7), (935, 936, 1, .iconst 1), (936, 939, 940, .goto 4), (939, 940, 0, .iconst 0), (940, 942, 0, .istore 13), (942, 945, 1374, .goto 432)]
theorem ok_L_833_1 : ∀ e ∈ k_L_833_1, z_okb cL_law e = true := fun e h => List.all_eq_true.mp (by decide +kernel : k_L_833_1.all (z_okb cL_law) = true) e h
def k_L_833 : List zI := k_L_833_0 ++ (k_L_833_1)
theorem ok_L_833 : ∀ e ∈ k_L_833, z_okb cL_law e = true := List.forall_mem_append.mpr ⟨ok_L_833_0, ok_L_833_1⟩
def M_L_833 (L : Nat) (xs : Nat → Int32) : zM := (k_L_833, [], [(29, 1, 0, 1, 1, 17, sp_J4_init_da8c8), (76, 0, 0, 3, 40, 11200, sp_L_form), (113, 4, 11, 2, 1, 300, sp_J4_append_15ec4), (41, 4, 11, 1, 2, 304, sp_J4_toString_0e30d), (80, 0, 0, 2, 0, 0, sp_L_say), (118, 4, 9, 1, 0, 0, sp_X11_adds)], ([], [], [(27, 11, [some none, none, none, none])]), [], [(91, [true, true, false, false, false, false, true, false, false, false, false, false, false, false, false, false, false, false]), (244, [true, true, false, false, false, false, true, true, true, true, true, true, true, true, false, false, false, false]), (278, [true, true, false, false, false, false, true, true, true, true, true, true, true, true, false, false, false, false]), (334, [true, true, false, false, false, false, true, true, true, true, true, true, true, true, false, false, false, false]), (389, [true, true, false, false, false, false, true, true, true, true, true, true, true, true, false, false, false, false]), (441, [true, true, false, false, false, false, true, true, true, true, true, true, true, true, false, false, false, false]), (454, [true, true, false, false, false, false, true, true, true, true, true, true, true, true, false, false, false, false]), (518, [true, true, false, false, false, false, true, true, true, true, true, true, true, true, false, false, false, false]), (559, [true, true, false, false, false, false, true, true, true, true, true, true, true, true, false, false, false, false]), (602, [true, true, false, false, false, false, true, true, true, true, true, true, true, true, false, false, false, false]), (605, [true, true, false, false, false, false, true, true, true, true, true, true, true, true, true, false, false, false]), (691, [true, true, false, false, false, false, true, true, true, true, true, true, true, true, false, false, false, false]), (707, [true, true, false, false, false, false, true, true, true, true, true, true, true, true, false, false, false, false]), (786, [true, true, false, false, false, false, true, true, true, true, true, true, true, true, false, false, false, false]), (833, [true, true, false, false, false, false, true, true, true, true, true, true, true, true, false, false, false, false]), (945, [true, true, false, false, false, false, true, true, true, true, true, true, true, true, false, false, false, false]), (1007, [true, true, false, false, false, false, true, true, true, true, true, true, true, true, false, false, false, false]), (1046, [true, true, false, false, false, false, true, true, true, true, true, true, true, true, true, true, true, false]), (1102, [true, true, false, false, false, false, true, true, true, true, true, true, true, true, false, false, false, true]), (1156, [true, true, false, false, false, false, true, true, true, true, true, true, true, true, false, false, false, false]), (1221, [true, true, false, false, false, false, true, true, true, true, true, true, true, true, false, false, false, false]), (1237, [true, true, false, false, false, false, true, true, true, true, true, true, true, true, false, false, false, false]), (1286, [true, true, false, false, false, false, true, true, true, true, true, true, true, true, false, false, false, false]), (1302, [true, true, false, false, false, false, true, true, true, true, true, true, true, true, false, false, false, false]), (1374, [true, true, false, false, false, false, true, false, false, false, false, false, true, true, false, false, false, false])], 2, false, (true, L, xs), (600104, 7301314, [(116, .retAddr 1)]))
theorem ca_L_833_0 (l : Launch) (L : Nat) (xs : Nat → Int32) : z_cok l RL room_1 (true, L, xs) (29, 1, 0, 1, 1, 17, sp_J4_init_da8c8) := z_ca1 (c_J4_init_da8c8 l) mb_J4_init_da8c8 wt_1025 wt_1026 rfl (by decide)
theorem ca_L_833_1 (l : Launch) (L : Nat) (xs : Nat → Int32) : z_cok l RL room_1 (true, L, xs) (76, 0, 0, 3, 40, 11200, sp_L_form) := z_ca0 (c_L_form l) mb_L_form wt_1020 wt_1021 (by decide)
theorem ca_L_833_2 (l : Launch) (L : Nat) (xs : Nat → Int32) : z_cok l RL room_1 (true, L, xs) (113, 4, 11, 2, 1, 300, sp_J4_append_15ec4) := z_ca4 (c_J4_append_15ec4 l) mb_J4_append_15ec4 ⟨_, rfl, rfl⟩ wt_1262 wt_1236 wt_1237 (by decide)
theorem ca_L_833_3 (l : Launch) (L : Nat) (xs : Nat → Int32) : z_cok l RL room_1 (true, L, xs) (41, 4, 11, 1, 2, 304, sp_J4_toString_0e30d) := z_ca4 (c_J4_toString_0e30d l) mb_J4_toString_0e30d ⟨_, rfl, rfl⟩ wt_1170 wt_1171 wt_1172 (by decide)
theorem ca_L_833_4 (l : Launch) (L : Nat) (xs : Nat → Int32) : z_cok l RL room_1 (true, L, xs) (80, 0, 0, 2, 0, 0, sp_L_say) := z_ca0 (c_L_say l) mb_L_say wt_953 wt_954 (by decide)
theorem ca_L_833_5 (l : Launch) (L : Nat) (xs : Nat → Int32) : z_cok l RL room_1 (true, L, xs) (118, 4, 9, 1, 0, 0, sp_X11_adds) := z_ca4 (c_X11_adds l) mb_X11_adds ⟨_, rfl, rfl⟩ wt_340 wt_341 wt_342 (by decide)
theorem O_L_833 (l : Launch) (L : Nat) (xs : Nat → Int32) : z_OK l RL cL_law room_1 (M_L_833 L xs) := ⟨ok_L_833, fun _ h => absurd h List.not_mem_nil, List.forall_mem_cons.mpr ⟨ca_L_833_0 l L xs, List.forall_mem_cons.mpr ⟨ca_L_833_1 l L xs, List.forall_mem_cons.mpr ⟨ca_L_833_2 l L xs, List.forall_mem_cons.mpr ⟨ca_L_833_3 l L xs, List.forall_mem_cons.mpr ⟨ca_L_833_4 l L xs, List.forall_mem_cons.mpr ⟨ca_L_833_5 l L xs, fun _ h => absurd h List.not_mem_nil⟩⟩⟩⟩⟩⟩, fun _ h => absurd h List.not_mem_nil, fun _ h => absurd h List.not_mem_nil, List.forall_mem_cons.mpr ⟨⟨RJ4, TJ4, 4, tyJ4, rfl, inJ4, tyJ4_ok, wt_1023, wt_1024, wt_45, rfl, nk_J4⟩, fun _ h => absurd h List.not_mem_nil⟩, fun _ h => absurd h List.not_mem_nil, rfl, rfl, List.forall_mem_cons.mpr ⟨⟨rfl, rfl⟩, fun _ h => absurd h List.not_mem_nil⟩⟩
set_option maxRecDepth 100000 in
theorem act_833 {L : Nat} {xs : Nat → Int32} {Jm : zJ} (hs : lawS M_L_833 L xs Jm) : LAct Jm 833 := by
  intro k i j t c1 c2 W wd w d q c A kp hI hW hi hj ht hc1 hc2 hE
  obtain ⟨hz, hWF, x, tl, hC⟩ := hI
  obtain ⟨G, wi, wl⟩ := w
  dsimp only at hz hC
  have g0 := zG_0 hz
  have h40 : c ≤ 40 := cs_40 (ct_S hC)
  have hq : q = 2 ∨ q = 3 := cs_q23 (ct_S hC)
  have hA : Bd q c A := cs_A (ct_S hC)
  have hd : Dd d := cs_d (ct_S hC)
  have hW729 : W ≤ 729 := Nat.le_trans (Nat.le_of_eq hW) (wr_le d q A c)
  have fin : ∀ (wi2 : Nat → Nat → Int32) (wl2 : Nat → Nat → Int64) (d2 : Nat → Nat) (q2 c' : Nat) (A2 : Nat → Nat → Nat) (kp2 : zK) (x2 : Nat → Nat) (tl2 : Nat × (Nat → Int64)) (f : Nat), CT wi2 wl2 (d2, q2, c', A2, kp2, (0, x2), tl2) → (f = 0 ∨ f = 1 ∧ wr d2 q2 A2 c' = W) → Jm 1374 (alE k W f) [] (G, wi2, wl2) c1 c2 := fun wi2 wl2 d2 q2 c' A2 kp2 x2 tl2 f h hf => hE _ d2 q2 c' A2 kp2 c1 c2 f ⟨hz, hWF, x2, tl2, h⟩ hf (by omega) (by omega)
  unfold alE at fin
  refine hs 400 833 _ _ _ _ _ ?_
  unfold alA
  have hl45 : 45 ≤ G.length := zG_len hz
  have hW0 : z_wfg G.length G = true := hWF
  obtain ⟨L0, hL0⟩ : ∃ L0, L0 = G.length := ⟨_, rfl⟩
  have cc1 : ∀ m n : Nat, m ≤ 300 → n ≤ 90000 → c1 + m ≤ 600104 ∧ c2 + n ≤ 7301314 := fun m n _ _ => ⟨by omega, by omega⟩
  have hO0 : z_nth (G ++ [(.inl (11, [some none, none, none, none]) : zSh)]) L0 = some (.inl (11, [some none, none, none, none])) := nth_new hL0
  have hL1 : (G ++ [(.inl (11, [some none, none, none, none]) : zSh)]).length = G.length + 1 := by simp
  obtain ⟨na, nb, nc⟩ := ss_new hz hWF hC
  rw [← hL0] at nb nc
  conv => whnf
  repeat ((first | refine ⟨trivial, ?_⟩ | refine ⟨rfl, ?_⟩ | refine ⟨fun hc => absurd hc (by decide), fun _ => ?_⟩ | refine ⟨fun _ => ?_, fun hc => absurd (by decide) hc⟩ | refine ⟨fun _ => ?_, fun hc => absurd hc (by decide)⟩ | refine ⟨fun hc => absurd (by decide) hc, fun _ => ?_⟩ | refine ⟨Or.inr rfl, ?_⟩ | refine ⟨Or.inl rfl, ?_⟩ | refine ⟨fun hq => absurd (by assumption) hq, fun _ => ?_⟩ | refine ⟨fun _ => ?_, fun hq => absurd (by assumption) hq⟩ | refine ⟨fun hq => absurd hq (by assumption), fun _ => ?_⟩ | refine ⟨fun _ => ?_, fun hq => absurd hq (by assumption)⟩ | refine ⟨fun _ => ?_, fun hq => absurd (Eq.refl _) hq⟩ | refine ⟨fun hq => absurd (Eq.refl _) hq, fun _ => ?_⟩); conv => whnf)
  try dsimp only
  refine ⟨⟨by show c1 + 1 ≤ 600104; omega, by show c2 + 4 ≤ 7301314; omega⟩, by simp [z_wfl, z_wfs, z_rlt, Nat.blt_eq, show 0 < G.length by omega, hW0], ?_⟩
  rw [z_psh_eq, Nat.zero_add, ← hL0]
  conv => whnf
  repeat ((first | refine ⟨trivial, ?_⟩ | refine ⟨rfl, ?_⟩ | refine ⟨fun hc => absurd hc (by decide), fun _ => ?_⟩ | refine ⟨fun _ => ?_, fun hc => absurd (by decide) hc⟩ | refine ⟨fun _ => ?_, fun hc => absurd hc (by decide)⟩ | refine ⟨fun hc => absurd (by decide) hc, fun _ => ?_⟩ | refine ⟨Or.inr rfl, ?_⟩ | refine ⟨Or.inl rfl, ?_⟩ | refine ⟨fun hq => absurd (by assumption) hq, fun _ => ?_⟩ | refine ⟨fun _ => ?_, fun hq => absurd (by assumption) hq⟩ | refine ⟨fun hq => absurd hq (by assumption), fun _ => ?_⟩ | refine ⟨fun _ => ?_, fun hq => absurd hq (by assumption)⟩ | refine ⟨fun _ => ?_, fun hq => absurd (Eq.refl _) hq⟩ | refine ⟨fun hq => absurd (Eq.refl _) hq, fun _ => ?_⟩); conv => whnf)
  try dsimp only
  refine ⟨⟨by show c1 + 1 + 1 ≤ 600104; omega, by show c2 + 4 + 17 ≤ 7301314; omega⟩, by simp [z_wfl, z_wfs, z_rlt, Nat.blt_eq, hL0], ?_⟩
  refine ⟨fun x => x < 45, hO0, by omega, fun x hx => by show x < (G ++ [(.inl (11, [some none, none, none, none]) : zSh)]).length; omega, nb, by simp [z_row, nI_0], fun w1 e1 s1 => ?_⟩
  have S1 : SS (d, q, c, A, kp, (0, x), tl) L0 [] w1 := ⟨ext_zG na e1 (fun x hx => hx), e1.2.2 nb, ext_CT nc e1 (fun x hx => hx), s1⟩
  clear na nb nc e1 s1 hO0 hL1
  have b1 := S1.2.2.2.bel
  conv => whnf
  repeat ((first | refine ⟨trivial, ?_⟩ | refine ⟨rfl, ?_⟩ | refine ⟨fun hc => absurd hc (by decide), fun _ => ?_⟩ | refine ⟨fun _ => ?_, fun hc => absurd (by decide) hc⟩ | refine ⟨fun _ => ?_, fun hc => absurd hc (by decide)⟩ | refine ⟨fun hc => absurd (by decide) hc, fun _ => ?_⟩ | refine ⟨Or.inr rfl, ?_⟩ | refine ⟨Or.inl rfl, ?_⟩ | refine ⟨fun hq => absurd (by assumption) hq, fun _ => ?_⟩ | refine ⟨fun _ => ?_, fun hq => absurd (by assumption) hq⟩ | refine ⟨fun hq => absurd hq (by assumption), fun _ => ?_⟩ | refine ⟨fun _ => ?_, fun hq => absurd hq (by assumption)⟩ | refine ⟨fun _ => ?_, fun hq => absurd (Eq.refl _) hq⟩ | refine ⟨fun hq => absurd (Eq.refl _) hq, fun _ => ?_⟩); conv => whnf)
  try dsimp only
  refine ⟨⟨by show c1 + 1 + 1 + 40 ≤ 600104; omega, by show c2 + 4 + 17 + 11200 ≤ 7301314; omega⟩, by simp [z_wfl, z_wfs, z_rlt, Nat.blt_eq, b1, show 0 < w1.1.length by omega], ?_⟩
  refine ⟨rfl, S1.1, S1.2.1, _, 0, S1.2.2.1, rfl, by decide, fun w2 u v t0 e2 hz2 hC2 hu hv hs2 hne0 hlen0 hinc0 => ?_⟩
  have l0 := ttx_len d 0 t0
  obtain ⟨vs, N, -, -, -, hO2, -⟩ : SB (fun x => x < 45) w2 L0 0 0 (fun _ => 0) := SB.cong (S1.2.2.2.keep e2 (fun x hx h => ⟨Nat.not_lt.mp h, hx⟩)) rfl (fun k hk => absurd hk (Nat.not_lt_zero k))
  obtain ⟨G2, wi2, wl2⟩ := w2
  dsimp only at hO2
  have b2 := nth_lt hO2
  conv => whnf
  repeat ((first | rw [rcv4 hO2] | refine ⟨trivial, ?_⟩ | refine ⟨rfl, ?_⟩ | refine ⟨fun hc => absurd hc (by decide), fun _ => ?_⟩ | refine ⟨fun _ => ?_, fun hc => absurd (by decide) hc⟩ | refine ⟨fun _ => ?_, fun hc => absurd hc (by decide)⟩ | refine ⟨fun hc => absurd (by decide) hc, fun _ => ?_⟩ | refine ⟨Or.inr rfl, ?_⟩ | refine ⟨Or.inl rfl, ?_⟩ | refine ⟨fun hq => absurd (by assumption) hq, fun _ => ?_⟩ | refine ⟨fun _ => ?_, fun hq => absurd (by assumption) hq⟩ | refine ⟨fun hq => absurd hq (by assumption), fun _ => ?_⟩ | refine ⟨fun _ => ?_, fun hq => absurd hq (by assumption)⟩ | refine ⟨fun _ => ?_, fun hq => absurd (Eq.refl _) hq⟩ | refine ⟨fun hq => absurd (Eq.refl _) hq, fun _ => ?_⟩); conv => whnf)
  try dsimp only
  refine ⟨⟨by show c1 + 1 + 1 + 40 + 1 ≤ 600104; omega, by show c2 + 4 + 17 + 11200 + 300 ≤ 7301314; omega⟩, by simp [z_wfl, z_wfs, z_rlt, Nat.blt_eq, show 0 < G2.length by omega], ?_⟩
  refine ss_form S1 e2 hz2 hC2 hu hv hs2 (by show 0 + (ttx d 0 t0).length ≤ 150; omega) (fun w3 S3 => ?_)
  clear e2 hz2 hC2 hu hv hs2 hO2 b2 S1 b1
  have S3 : SS (d, q, c, A, kp, (0, x), tl) L0 (ttx d 0 t0) w3 := S3
  obtain ⟨vs3, N3, -, -, -, hO3, -⟩ := S3.2.2.2
  obtain ⟨G3, wi3, wl3⟩ := w3
  dsimp only at hO3
  have b3 := nth_lt hO3
  conv => whnf
  repeat ((first | rw [rcv4 hO3] | refine ⟨trivial, ?_⟩ | refine ⟨rfl, ?_⟩ | refine ⟨fun hc => absurd hc (by decide), fun _ => ?_⟩ | refine ⟨fun _ => ?_, fun hc => absurd (by decide) hc⟩ | refine ⟨fun _ => ?_, fun hc => absurd hc (by decide)⟩ | refine ⟨fun hc => absurd (by decide) hc, fun _ => ?_⟩ | refine ⟨Or.inr rfl, ?_⟩ | refine ⟨Or.inl rfl, ?_⟩ | refine ⟨fun hq => absurd (by assumption) hq, fun _ => ?_⟩ | refine ⟨fun _ => ?_, fun hq => absurd (by assumption) hq⟩ | refine ⟨fun hq => absurd hq (by assumption), fun _ => ?_⟩ | refine ⟨fun _ => ?_, fun hq => absurd hq (by assumption)⟩ | refine ⟨fun _ => ?_, fun hq => absurd (Eq.refl _) hq⟩ | refine ⟨fun hq => absurd (Eq.refl _) hq, fun _ => ?_⟩); conv => whnf)
  try dsimp only
  refine ⟨⟨by show c1 + 1 + 1 + 40 + 1 + 1 ≤ 600104; omega, by show c2 + 4 + 17 + 11200 + 300 + 300 ≤ 7301314; omega⟩, by simp [z_wfl, z_wfs, z_rlt, Nat.blt_eq, show 0 < G3.length by omega], ?_⟩
  refine ss_const (r := [42]) S3 (fun w' => ⟨rfl, rfl⟩) (fun k hk => by match k, hk with
    | 0, _ => rfl) (by show (ttx d 0 t0).length + 1 ≤ 150; omega) (fun w4 S4 => ?_)
  clear hO3 b3 S3
  have b4 := S4.2.2.2.bel
  conv => whnf
  repeat ((first | refine ⟨trivial, ?_⟩ | refine ⟨rfl, ?_⟩ | refine ⟨fun hc => absurd hc (by decide), fun _ => ?_⟩ | refine ⟨fun _ => ?_, fun hc => absurd (by decide) hc⟩ | refine ⟨fun _ => ?_, fun hc => absurd hc (by decide)⟩ | refine ⟨fun hc => absurd (by decide) hc, fun _ => ?_⟩ | refine ⟨Or.inr rfl, ?_⟩ | refine ⟨Or.inl rfl, ?_⟩ | refine ⟨fun hq => absurd (by assumption) hq, fun _ => ?_⟩ | refine ⟨fun _ => ?_, fun hq => absurd (by assumption) hq⟩ | refine ⟨fun hq => absurd hq (by assumption), fun _ => ?_⟩ | refine ⟨fun _ => ?_, fun hq => absurd hq (by assumption)⟩ | refine ⟨fun _ => ?_, fun hq => absurd (Eq.refl _) hq⟩ | refine ⟨fun hq => absurd (Eq.refl _) hq, fun _ => ?_⟩); conv => whnf)
  try dsimp only
  refine ⟨⟨by show c1 + 1 + 1 + 40 + 1 + 1 + 40 ≤ 600104; omega, by show c2 + 4 + 17 + 11200 + 300 + 300 + 11200 ≤ 7301314; omega⟩, by simp [z_wfl, z_wfs, z_rlt, Nat.blt_eq, b4, show 0 < w4.1.length by omega], ?_⟩
  refine ⟨rfl, S4.1, S4.2.1, _, 1, S4.2.2.1, rfl, by decide, fun w5 u5 v5 t1 e5 hz5 hC5 hu5 hv5 hs5 hne1 hlen1 hinc1 => ?_⟩
  have l1 := ttx_len d 1 t1
  obtain ⟨vs5, N5, -, -, -, hO5, -⟩ := SB.keep S4.2.2.2 e5 (fun x hx h => ⟨Nat.not_lt.mp h, hx⟩)
  obtain ⟨G5, wi5, wl5⟩ := w5
  dsimp only at hO5
  have b5 := nth_lt hO5
  conv => whnf
  repeat ((first | rw [rcv4 hO5] | refine ⟨trivial, ?_⟩ | refine ⟨rfl, ?_⟩ | refine ⟨fun hc => absurd hc (by decide), fun _ => ?_⟩ | refine ⟨fun _ => ?_, fun hc => absurd (by decide) hc⟩ | refine ⟨fun _ => ?_, fun hc => absurd hc (by decide)⟩ | refine ⟨fun hc => absurd (by decide) hc, fun _ => ?_⟩ | refine ⟨Or.inr rfl, ?_⟩ | refine ⟨Or.inl rfl, ?_⟩ | refine ⟨fun hq => absurd (by assumption) hq, fun _ => ?_⟩ | refine ⟨fun _ => ?_, fun hq => absurd (by assumption) hq⟩ | refine ⟨fun hq => absurd hq (by assumption), fun _ => ?_⟩ | refine ⟨fun _ => ?_, fun hq => absurd hq (by assumption)⟩ | refine ⟨fun _ => ?_, fun hq => absurd (Eq.refl _) hq⟩ | refine ⟨fun hq => absurd (Eq.refl _) hq, fun _ => ?_⟩); conv => whnf)
  try dsimp only
  refine ⟨⟨by show c1 + 1 + 1 + 40 + 1 + 1 + 40 + 1 ≤ 600104; omega, by show c2 + 4 + 17 + 11200 + 300 + 300 + 11200 + 300 ≤ 7301314; omega⟩, by simp [z_wfl, z_wfs, z_rlt, Nat.blt_eq, show 0 < G5.length by omega], ?_⟩
  refine ss_form S4 e5 hz5 hC5 hu5 hv5 hs5 (by rw [List.length_append]; show (ttx d 0 t0).length + 1 + (ttx d 1 t1).length ≤ 150; omega) (fun w6 S6 => ?_)
  clear e5 hz5 hC5 hu5 hv5 hs5 hO5 b5 S4 b4
  have S6 : SS (d, q, c, A, kp, (0, x), tl) L0 (ttx d 0 t0 ++ [42] ++ ttx d 1 t1) w6 := S6
  obtain ⟨vs6, N6, -, -, -, hO6, -⟩ := S6.2.2.2
  obtain ⟨G6, wi6, wl6⟩ := w6
  dsimp only at hO6
  have b6 := nth_lt hO6
  conv => whnf
  repeat ((first | rw [rcv4 hO6] | refine ⟨trivial, ?_⟩ | refine ⟨rfl, ?_⟩ | refine ⟨fun hc => absurd hc (by decide), fun _ => ?_⟩ | refine ⟨fun _ => ?_, fun hc => absurd (by decide) hc⟩ | refine ⟨fun _ => ?_, fun hc => absurd hc (by decide)⟩ | refine ⟨fun hc => absurd (by decide) hc, fun _ => ?_⟩ | refine ⟨Or.inr rfl, ?_⟩ | refine ⟨Or.inl rfl, ?_⟩ | refine ⟨fun hq => absurd (by assumption) hq, fun _ => ?_⟩ | refine ⟨fun _ => ?_, fun hq => absurd (by assumption) hq⟩ | refine ⟨fun hq => absurd hq (by assumption), fun _ => ?_⟩ | refine ⟨fun _ => ?_, fun hq => absurd hq (by assumption)⟩ | refine ⟨fun _ => ?_, fun hq => absurd (Eq.refl _) hq⟩ | refine ⟨fun hq => absurd (Eq.refl _) hq, fun _ => ?_⟩); conv => whnf)
  try dsimp only
  refine ⟨⟨by show c1 + 1 + 1 + 40 + 1 + 1 + 40 + 1 + 1 ≤ 600104; omega, by show c2 + 4 + 17 + 11200 + 300 + 300 + 11200 + 300 + 300 ≤ 7301314; omega⟩, by simp [z_wfl, z_wfs, z_rlt, Nat.blt_eq, show 0 < G6.length by omega], ?_⟩
  refine ss_const (r := [42]) S6 (fun w' => ⟨rfl, rfl⟩) (fun k hk => by match k, hk with
    | 0, _ => rfl) (by rw [List.length_append, List.length_append]; show (ttx d 0 t0).length + 1 + (ttx d 1 t1).length + 1 ≤ 150; omega) (fun w7 S7 => ?_)
  clear hO6 b6 S6
  have b7 := S7.2.2.2.bel
  conv => whnf
  repeat ((first | refine ⟨trivial, ?_⟩ | refine ⟨rfl, ?_⟩ | refine ⟨fun hc => absurd hc (by decide), fun _ => ?_⟩ | refine ⟨fun _ => ?_, fun hc => absurd (by decide) hc⟩ | refine ⟨fun _ => ?_, fun hc => absurd hc (by decide)⟩ | refine ⟨fun hc => absurd (by decide) hc, fun _ => ?_⟩ | refine ⟨Or.inr rfl, ?_⟩ | refine ⟨Or.inl rfl, ?_⟩ | refine ⟨fun hq => absurd (by assumption) hq, fun _ => ?_⟩ | refine ⟨fun _ => ?_, fun hq => absurd (by assumption) hq⟩ | refine ⟨fun hq => absurd hq (by assumption), fun _ => ?_⟩ | refine ⟨fun _ => ?_, fun hq => absurd hq (by assumption)⟩ | refine ⟨fun _ => ?_, fun hq => absurd (Eq.refl _) hq⟩ | refine ⟨fun hq => absurd (Eq.refl _) hq, fun _ => ?_⟩); conv => whnf)
  try dsimp only
  refine ⟨⟨by show c1 + 1 + 1 + 40 + 1 + 1 + 40 + 1 + 1 + 40 ≤ 600104; omega, by show c2 + 4 + 17 + 11200 + 300 + 300 + 11200 + 300 + 300 + 11200 ≤ 7301314; omega⟩, by simp [z_wfl, z_wfs, z_rlt, Nat.blt_eq, b7, show 0 < w7.1.length by omega], ?_⟩
  refine ⟨rfl, S7.1, S7.2.1, _, 2, S7.2.2.1, rfl, by decide, fun w8 u8 v8 t2 e8 hz8 hC8 hu8 hv8 hs8 hne2 hlen2 hinc2 => ?_⟩
  have l2 := ttx_len d 2 t2
  obtain ⟨vs8, N8, -, -, -, hO8, -⟩ := SB.keep S7.2.2.2 e8 (fun x hx h => ⟨Nat.not_lt.mp h, hx⟩)
  obtain ⟨G8, wi8, wl8⟩ := w8
  dsimp only at hO8
  have b8 := nth_lt hO8
  conv => whnf
  repeat ((first | rw [rcv4 hO8] | refine ⟨trivial, ?_⟩ | refine ⟨rfl, ?_⟩ | refine ⟨fun hc => absurd hc (by decide), fun _ => ?_⟩ | refine ⟨fun _ => ?_, fun hc => absurd (by decide) hc⟩ | refine ⟨fun _ => ?_, fun hc => absurd hc (by decide)⟩ | refine ⟨fun hc => absurd (by decide) hc, fun _ => ?_⟩ | refine ⟨Or.inr rfl, ?_⟩ | refine ⟨Or.inl rfl, ?_⟩ | refine ⟨fun hq => absurd (by assumption) hq, fun _ => ?_⟩ | refine ⟨fun _ => ?_, fun hq => absurd (by assumption) hq⟩ | refine ⟨fun hq => absurd hq (by assumption), fun _ => ?_⟩ | refine ⟨fun _ => ?_, fun hq => absurd hq (by assumption)⟩ | refine ⟨fun _ => ?_, fun hq => absurd (Eq.refl _) hq⟩ | refine ⟨fun hq => absurd (Eq.refl _) hq, fun _ => ?_⟩); conv => whnf)
  try dsimp only
  refine ⟨⟨by show c1 + 1 + 1 + 40 + 1 + 1 + 40 + 1 + 1 + 40 + 1 ≤ 600104; omega, by show c2 + 4 + 17 + 11200 + 300 + 300 + 11200 + 300 + 300 + 11200 + 300 ≤ 7301314; omega⟩, by simp [z_wfl, z_wfs, z_rlt, Nat.blt_eq, show 0 < G8.length by omega], ?_⟩
  refine ss_form S7 e8 hz8 hC8 hu8 hv8 hs8 (by rw [List.length_append, List.length_append, List.length_append]; show (ttx d 0 t0).length + 1 + (ttx d 1 t1).length + 1 + (ttx d 2 t2).length ≤ 150; omega) (fun w9 S9 => ?_)
  clear e8 hz8 hC8 hu8 hv8 hs8 hO8 b8 S7 b7
  have S9 : SS (d, q, c, A, kp, (0, x), tl) L0 (ttx d 0 t0 ++ [42] ++ ttx d 1 t1 ++ [42] ++ ttx d 2 t2) w9 := S9
  obtain ⟨vs9, N9, -, -, -, hO9, -⟩ := S9.2.2.2
  obtain ⟨G9, wi9, wl9⟩ := w9
  dsimp only at hO9
  have b9 := nth_lt hO9
  conv => whnf
  repeat ((first | rw [rcv4 hO9] | refine ⟨trivial, ?_⟩ | refine ⟨rfl, ?_⟩ | refine ⟨fun hc => absurd hc (by decide), fun _ => ?_⟩ | refine ⟨fun _ => ?_, fun hc => absurd (by decide) hc⟩ | refine ⟨fun _ => ?_, fun hc => absurd hc (by decide)⟩ | refine ⟨fun hc => absurd (by decide) hc, fun _ => ?_⟩ | refine ⟨Or.inr rfl, ?_⟩ | refine ⟨Or.inl rfl, ?_⟩ | refine ⟨fun hq => absurd (by assumption) hq, fun _ => ?_⟩ | refine ⟨fun _ => ?_, fun hq => absurd (by assumption) hq⟩ | refine ⟨fun hq => absurd hq (by assumption), fun _ => ?_⟩ | refine ⟨fun _ => ?_, fun hq => absurd hq (by assumption)⟩ | refine ⟨fun _ => ?_, fun hq => absurd (Eq.refl _) hq⟩ | refine ⟨fun hq => absurd (Eq.refl _) hq, fun _ => ?_⟩); conv => whnf)
  try dsimp only
  refine ⟨⟨by show c1 + 1 + 1 + 40 + 1 + 1 + 40 + 1 + 1 + 40 + 1 + 2 ≤ 600104; omega, by show c2 + 4 + 17 + 11200 + 300 + 300 + 11200 + 300 + 300 + 11200 + 300 + 304 ≤ 7301314; omega⟩, by simp [z_wfl, z_wfs, z_rlt, Nat.blt_eq, show 0 < G9.length by omega], ?_⟩
  refine ss_tos S9 (fun wA uA vA hzA hWA hCA huA hvA hsA => ?_)
  clear S9 hO9 b9
  obtain ⟨GA, wiA, wlA⟩ := wA
  dsimp only at hzA hCA
  have gA := zG_0 hzA
  have eL : (ttx d 0 t0 ++ [42] ++ ttx d 1 t1 ++ [42] ++ ttx d 2 t2).length = (ttx d 0 t0).length + (1 + ((ttx d 1 t1).length + (1 + (ttx d 2 t2).length))) := by
    simp only [List.length_append, List.length_singleton]
    omega
  conv => whnf
  repeat ((first | refine ⟨trivial, ?_⟩ | refine ⟨rfl, ?_⟩ | refine ⟨fun hc => absurd hc (by decide), fun _ => ?_⟩ | refine ⟨fun _ => ?_, fun hc => absurd (by decide) hc⟩ | refine ⟨fun _ => ?_, fun hc => absurd hc (by decide)⟩ | refine ⟨fun hc => absurd (by decide) hc, fun _ => ?_⟩ | refine ⟨Or.inr rfl, ?_⟩ | refine ⟨Or.inl rfl, ?_⟩ | refine ⟨fun hq => absurd (by assumption) hq, fun _ => ?_⟩ | refine ⟨fun _ => ?_, fun hq => absurd (by assumption) hq⟩ | refine ⟨fun hq => absurd hq (by assumption), fun _ => ?_⟩ | refine ⟨fun _ => ?_, fun hq => absurd hq (by assumption)⟩ | refine ⟨fun _ => ?_, fun hq => absurd (Eq.refl _) hq⟩ | refine ⟨fun hq => absurd (Eq.refl _) hq, fun _ => ?_⟩); conv => whnf)
  try dsimp only
  refine ⟨hzA, _, vA, _, _, hCA, rfl, huA, hvA, hsA, by omega, fun wiB wlB x3 hFB hCB hx3 => ?_⟩
  have hCBb : CT wiB wlB (d, q, c, A, kp, ((ttx d 0 t0 ++ [42] ++ ttx d 1 t1 ++ [42] ++ ttx d 2 t2).length, x3), tl) := hCB
  clear hCB
  have hT := txa_of hx3
  have hpr := prP_ok (x := x3) (L := (ttx d 0 t0 ++ [42] ++ ttx d 1 t1 ++ [42] ++ ttx d 2 t2).length) (q := q) hd ⟨hne0, hlen0, hinc0⟩ ⟨hne1, hlen1, hinc1⟩ ⟨hne2, hlen2, hinc2⟩ (by
    have e : ttx d 0 t0 ++ (42 :: (ttx d 1 t1 ++ (42 :: ttx d 2 t2))) = ttx d 0 t0 ++ [42] ++ ttx d 1 t1 ++ [42] ++ ttx d 2 t2 := by simp
    rw [e]
    exact hT) eL
  have hnn : (ttx d 0 t0 ++ [42] ++ ttx d 1 t1 ++ [42] ++ ttx d 2 t2).length ≤ 110 := by omega
  clear eL hT hx3 hsA
  generalize (ttx d 0 t0 ++ [42] ++ ttx d 1 t1 ++ [42] ++ ttx d 2 t2).length = n at hCBb hpr hnn
  have fin2 : ∀ (wi4 : Nat → Nat → Int32) (wl4 : Nat → Nat → Int64) (c' : Nat) (A2 : Nat → Nat → Nat) (f n1 n2 : Nat), CT wi4 wl4 (d, q, c', A2, kp, (0, x3), tl) → (f = 0 ∨ f = 1 ∧ wr d q A2 c' = W) → n1 ≤ c1 + 300 → n2 ≤ c2 + 90000 → Jm 1374 (alE k W f) [] (GA, wi4, wl4) n1 n2 := fun wi4 wl4 c' A2 f n1 n2 h hw b1 b2 => hE _ d q c' A2 kp n1 n2 f ⟨hzA, hWA, x3, tl, h⟩ hw b1 b2
  unfold alE at fin2
  rcases adds_st d q c A kp x3 tl (show n < 2 ^ 31 by omega) hpr.1 hpr.2 with ⟨h4, e⟩ | ⟨h4, A2, e⟩
  · have f1 : ¬ nI c < nI 40 := nI_nlt (by omega) (by omega)
    have f2 : nI c = nI 40 := by rw [h4]
    conv => whnf
    repeat ((first | rw [rcv4 gA] | refine ⟨trivial, ?_⟩ | refine ⟨rfl, ?_⟩ | refine ⟨fun hc => absurd hc (by decide), fun _ => ?_⟩ | refine ⟨fun _ => ?_, fun hc => absurd (by decide) hc⟩ | refine ⟨fun _ => ?_, fun hc => absurd hc (by decide)⟩ | refine ⟨fun hc => absurd (by decide) hc, fun _ => ?_⟩ | refine ⟨Or.inr rfl, ?_⟩ | refine ⟨Or.inl rfl, ?_⟩ | refine ⟨fun hq => absurd (by assumption) hq, fun _ => ?_⟩ | refine ⟨fun _ => ?_, fun hq => absurd (by assumption) hq⟩ | refine ⟨fun hq => absurd hq (by assumption), fun _ => ?_⟩ | refine ⟨fun _ => ?_, fun hq => absurd hq (by assumption)⟩ | refine ⟨fun _ => ?_, fun hq => absurd (Eq.refl _) hq⟩ | refine ⟨fun hq => absurd (Eq.refl _) hq, fun _ => ?_⟩); conv => whnf)
    try dsimp only
    refine ⟨hzA, _, hCBb, fun wi4 wl4 hF4 hC4 => ?_⟩
    rw [e] at hC4 ⊢
    conv => whnf
    repeat ((first | refine ⟨trivial, ?_⟩ | refine ⟨rfl, ?_⟩ | refine ⟨fun hc => absurd hc (by decide), fun _ => ?_⟩ | refine ⟨fun _ => ?_, fun hc => absurd (by decide) hc⟩ | refine ⟨fun _ => ?_, fun hc => absurd hc (by decide)⟩ | refine ⟨fun hc => absurd (by decide) hc, fun _ => ?_⟩ | refine ⟨Or.inr rfl, ?_⟩ | refine ⟨Or.inl rfl, ?_⟩ | refine ⟨fun hq => absurd (by assumption) hq, fun _ => ?_⟩ | refine ⟨fun _ => ?_, fun hq => absurd (by assumption) hq⟩ | refine ⟨fun hq => absurd hq (by assumption), fun _ => ?_⟩ | refine ⟨fun _ => ?_, fun hq => absurd hq (by assumption)⟩ | refine ⟨fun _ => ?_, fun hq => absurd (Eq.refl _) hq⟩ | refine ⟨fun hq => absurd (Eq.refl _) hq, fun _ => ?_⟩); conv => whnf)
    try dsimp only
    exact fin2 wi4 wl4 _ _ 1 _ _ hC4 (Or.inr ⟨rfl, hW.symm⟩) (by omega) (by simp only [List.length_cons, List.length_nil]; omega)
  · have f1 : nI c < nI 40 := nI_lt (by omega) (by decide)
    have f2 : ¬ nI c = nI 40 := fun k => h4 ((nI_eq (by omega) (by decide)).mp k)
    have f3 : nI (c + 1) = nI c + nI 1 := (nI_add c 1).symm
    conv => whnf
    repeat ((first | rw [rcv4 gA] | refine ⟨trivial, ?_⟩ | refine ⟨rfl, ?_⟩ | refine ⟨fun hc => absurd hc (by decide), fun _ => ?_⟩ | refine ⟨fun _ => ?_, fun hc => absurd (by decide) hc⟩ | refine ⟨fun _ => ?_, fun hc => absurd hc (by decide)⟩ | refine ⟨fun hc => absurd (by decide) hc, fun _ => ?_⟩ | refine ⟨Or.inr rfl, ?_⟩ | refine ⟨Or.inl rfl, ?_⟩ | refine ⟨fun hq => absurd (by assumption) hq, fun _ => ?_⟩ | refine ⟨fun _ => ?_, fun hq => absurd (by assumption) hq⟩ | refine ⟨fun hq => absurd hq (by assumption), fun _ => ?_⟩ | refine ⟨fun _ => ?_, fun hq => absurd hq (by assumption)⟩ | refine ⟨fun _ => ?_, fun hq => absurd (Eq.refl _) hq⟩ | refine ⟨fun hq => absurd (Eq.refl _) hq, fun _ => ?_⟩); conv => whnf)
    try dsimp only
    refine ⟨hzA, _, hCBb, fun wi4 wl4 hF4 hC4 => ?_⟩
    rw [e] at hC4 ⊢
    conv => whnf
    repeat ((first | refine ⟨trivial, ?_⟩ | refine ⟨rfl, ?_⟩ | refine ⟨fun hc => absurd hc (by decide), fun _ => ?_⟩ | refine ⟨fun _ => ?_, fun hc => absurd (by decide) hc⟩ | refine ⟨fun _ => ?_, fun hc => absurd hc (by decide)⟩ | refine ⟨fun hc => absurd (by decide) hc, fun _ => ?_⟩ | refine ⟨Or.inr rfl, ?_⟩ | refine ⟨Or.inl rfl, ?_⟩ | refine ⟨fun hq => absurd (by assumption) hq, fun _ => ?_⟩ | refine ⟨fun _ => ?_, fun hq => absurd (by assumption) hq⟩ | refine ⟨fun hq => absurd hq (by assumption), fun _ => ?_⟩ | refine ⟨fun _ => ?_, fun hq => absurd hq (by assumption)⟩ | refine ⟨fun _ => ?_, fun hq => absurd (Eq.refl _) hq⟩ | refine ⟨fun hq => absurd (Eq.refl _) hq, fun _ => ?_⟩); conv => whnf)
    try dsimp only
    exact fin2 wi4 wl4 _ _ 0 _ _ hC4 (Or.inl rfl) (by omega) (by simp only [List.length_cons, List.length_nil]; omega)

