/-! the law's form: a factor's text out of a word -/
def k_L_form_0 : List zI := [(0, 3, 0, .new 27), (3, 4, 0, .dup), (4, 7, 0, .invokespecial 29), (7, 8, 0, .astore_n 3), (8, 9, 0, .aload_n 0), (9, 10, 0, .iload_n 1), (10, 11, 1, .iconst 1), (11, 12, 0, .iadd), (12, 13, 3, .iconst 3), (13, 14, 0, .irem), (14, 17, 0, .invokevirtual 30), (17, 19, 0, .istore 4), (19, 20, 0, .aload_n 0), (20, 21, 0, .iload_n 1), (21, 24, 0, .invokevirtual 30), (24, 26, 0, .iload 4), (26, 27, 0, .imul), (27, 29, 0, .istore 5), (29, 30, 0, .iconst 0), (30, 32, 0, .istore 6), (32, 34, 0, .iload 6), (34, 36, 0, .iload 5), (36, 39, 140, .if_icmp .ge 104), (39, 40, 0, .iload_n 2), (40, 42, 0, .iload 6), (42, 43, 0, .iushr), (43, 44, 1, .iconst 1), (44, 45, 0, .iand), (45, 48, 67, .ifCond .ne 22), (48, 50, 0, .iload 6), (50, 52, 0, .iload 5), (52, 53, 1, .iconst 1), (53, 54, 0, .isub), (54, 57, 134, .if_icmp .lt 80), (57, 58, 0, .aload_n 3), (58, 61, 0, .invokevirtual 33), (61, 64, 67, .ifCond .le 6), (64, 67, 134, .goto 70), (67, 68, 0, .iload_n 2), (68, 70, 0, .iload 6)]
theorem ok_L_form_0 : ∀ e ∈ k_L_form_0, z_okb cL_form e = true := fun e h => List.all_eq_true.mp (by decide +kernel : k_L_form_0.all (z_okb cL_form) = true) e h
def k_L_form_1 : List zI := [(70, 72, 9, .bipush 9), (72, 73, 0, .iadd), (73, 74, 0, .iushr), (74, 75, 1, .iconst 1), (75, 76, 0, .iand), (76, 77, 1, .iconst 1), (77, 80, 90, .if_icmp .ne 13), (80, 81, 0, .aload_n 3), (81, 83, 45, .bipush 45), (83, 86, 0, .invokevirtual 34), (86, 87, 0, .pop), (87, 90, 104, .goto 17), (90, 91, 0, .aload_n 3), (91, 94, 0, .invokevirtual 33), (94, 97, 104, .ifCond .le 10), (97, 98, 0, .aload_n 3), (98, 100, 43, .bipush 43), (100, 103, 0, .invokevirtual 34), (103, 104, 0, .pop), (104, 105, 0, .aload_n 3), (105, 107, 97, .bipush 97), (107, 108, 0, .iload_n 1), (108, 109, 0, .iadd), (109, 110, 0, .i2c), (110, 113, 0, .invokevirtual 34), (113, 115, 0, .iload 6), (115, 117, 0, .iload 4), (117, 118, 0, .idiv), (118, 119, 1, .iconst 1), (119, 120, 0, .iadd), (120, 123, 0, .invokevirtual 38), (123, 125, 0, .iload 6), (125, 127, 0, .iload 4), (127, 128, 0, .irem), (128, 129, 1, .iconst 1), (129, 130, 0, .iadd), (130, 133, 0, .invokevirtual 38), (133, 134, 0, .pop), (134, 137, 1, .iinc 6 1), (137, 140, 32, .goto (-105))]
theorem ok_L_form_1 : ∀ e ∈ k_L_form_1, z_okb cL_form e = true := fun e h => List.all_eq_true.mp (by decide +kernel : k_L_form_1.all (z_okb cL_form) = true) e h
def k_L_form_2 : List zI := [(140, 141, 0, .aload_n 3), (141, 144, 0, .invokevirtual 41), (144, 145, 0, .areturn)]
theorem ok_L_form_2 : ∀ e ∈ k_L_form_2, z_okb cL_form e = true := fun e h => List.all_eq_true.mp (by decide +kernel : k_L_form_2.all (z_okb cL_form) = true) e h
def k_L_form : List zI := k_L_form_0 ++ (k_L_form_1 ++ (k_L_form_2))
theorem ok_L_form : ∀ e ∈ k_L_form, z_okb cL_form e = true := List.forall_mem_append.mpr ⟨ok_L_form_0, List.forall_mem_append.mpr ⟨ok_L_form_1, ok_L_form_2⟩⟩
theorem zG_0 {G : List zSh} (h : zG G) : z_nth G 0 = some (.inl (9, [some (some 1), some (some 4), some (some 6), some (some 9), some (some 12), some (some 15), some (some 18), some (some 19), some (some 31), some (some 38), none])) := by
  obtain ⟨r, rfl⟩ := h
  rfl
theorem ct_Dd {wi : Nat → Nat → Int32} {wl : Nat → Nat → Int64} {T : zT} (h : CT wi wl T) : Dd T.1 := cs_d h.1
theorem cnt_v {T : zT} {t : Nat} (h : t < 14) : (st_count T (nI t)).2 = coA T t := by
  show (if idB 14 (nI t) = true then coA T (nI t).toNatClampNeg else mI 1) = _
  rw [if_pos (idB_of h (by decide)), nI_clamp (by omega)]
theorem cnt_d {T : zT} {t : Nat} (h : t < 3) : (st_count T (nI t)).2 = nI (T.1 t) := by
  rw [cnt_v (by omega)]
  rcases lt3 h with rfl | rfl | rfl <;> rfl
def sp_L_form : zSp := fun av w K => match av with
  | [.ref o, .int a, .int m] => o = 0 ∧ zG w.1 ∧ WF w ∧ ∃ (T : zT) (t : Nat), CT w.2.1 w.2.2 T ∧ a = nI t ∧ t < 3 ∧ ∀ w' u v ts, Ext (fun x => 45 ≤ x ∧ x < w.1.length) w w' → zG w'.1 → CT w'.2.1 w'.2.2 T → w.1.length ≤ u → w.1.length ≤ v → TL' w' u v (ttx T.1 t ts) → ts ≠ [] → ts.length ≤ 9 → inc (pl T.1 t) 0 ts → K (some (.ref u)) w'
  | _ => False
def FI (wB : zW) (L0 : Nat) (d : Nat → Nat) (t i : Nat) (ts : List (Bool × Nat)) (w1 : zW) (c1 c2 : Nat) : Prop := Ext (fun x => x < L0) wB w1 ∧ SLx (fun x => x < L0) w1 L0 (ttx d t ts) ∧ inc (pl d t) 0 ts ∧ (∀ e ∈ ts, e.2 < i) ∧ ts.length ≤ i ∧ (i = pl d t → ts ≠ []) ∧ c1 ≤ 2 + 4 * i ∧ c2 ≤ 21 + 1200 * i
def rm_L_form : Room := { frames := 6, cells := 40, slots := 11200, locals := 137 }
def M_L_form : zM := (k_L_form, [], [(29, 1, 0, 1, 1, 17, sp_J4_init_da8c8), (30, 4, 9, 2, 0, 0, sp_X11_count), (33, 4, 11, 1, 0, 0, sp_J4_length_8abf5), (34, 4, 11, 2, 1, 300, sp_J4_append_cf468), (38, 4, 11, 2, 1, 300, sp_J4_append_bf812), (41, 4, 11, 1, 2, 304, sp_J4_toString_0e30d)], ([], [], [(27, 11, [some none, none, none, none])]), [], [(32, [true, true, true, true, true, true, true]), (67, [true, true, true, true, true, true, true]), (104, [true, true, true, true, true, true, true]), (134, [true, true, true, true, true, true, true])], 4, false, (false, 0, fun _ => 0), (40, 11200, []))
theorem ca_L_form_0 (l : Launch) : z_cok l RL (headSpec (.code yL_form cL_form 7 (some (.object "java/lang/String")) :: zTT) rm_L_form).room (false, 0, fun _ => 0) (29, 1, 0, 1, 1, 17, sp_J4_init_da8c8) := z_ca1 (c_J4_init_da8c8 l) mb_J4_init_da8c8 wt_1025 wt_1026 rfl (by decide)
theorem ca_L_form_1 (l : Launch) : z_cok l RL (headSpec (.code yL_form cL_form 7 (some (.object "java/lang/String")) :: zTT) rm_L_form).room (false, 0, fun _ => 0) (30, 4, 9, 2, 0, 0, sp_X11_count) := z_ca4 (c_X11_count l) mb_X11_count ⟨_, rfl, rfl⟩ wt_858 wt_859 wt_860 (by decide)
theorem ca_L_form_2 (l : Launch) : z_cok l RL (headSpec (.code yL_form cL_form 7 (some (.object "java/lang/String")) :: zTT) rm_L_form).room (false, 0, fun _ => 0) (33, 4, 11, 1, 0, 0, sp_J4_length_8abf5) := z_ca4 (c_J4_length_8abf5 l) mb_J4_length_8abf5 ⟨_, rfl, rfl⟩ wt_1054 wt_1055 wt_1056 (by decide)
theorem ca_L_form_3 (l : Launch) : z_cok l RL (headSpec (.code yL_form cL_form 7 (some (.object "java/lang/String")) :: zTT) rm_L_form).room (false, 0, fun _ => 0) (34, 4, 11, 2, 1, 300, sp_J4_append_cf468) := z_ca4 (c_J4_append_cf468 l) mb_J4_append_cf468 ⟨_, rfl, rfl⟩ wt_1061 wt_1062 wt_1063 (by decide)
theorem ca_L_form_4 (l : Launch) : z_cok l RL (headSpec (.code yL_form cL_form 7 (some (.object "java/lang/String")) :: zTT) rm_L_form).room (false, 0, fun _ => 0) (38, 4, 11, 2, 1, 300, sp_J4_append_bf812) := z_ca4 (c_J4_append_bf812 l) mb_J4_append_bf812 ⟨_, rfl, rfl⟩ wt_1136 wt_1137 wt_1138 (by decide)
theorem ca_L_form_5 (l : Launch) : z_cok l RL (headSpec (.code yL_form cL_form 7 (some (.object "java/lang/String")) :: zTT) rm_L_form).room (false, 0, fun _ => 0) (41, 4, 11, 1, 2, 304, sp_J4_toString_0e30d) := z_ca4 (c_J4_toString_0e30d l) mb_J4_toString_0e30d ⟨_, rfl, rfl⟩ wt_1170 wt_1171 wt_1172 (by decide)
theorem O_L_form (l : Launch) : z_OK l RL cL_form (headSpec (.code yL_form cL_form 7 (some (.object "java/lang/String")) :: zTT) rm_L_form).room M_L_form := ⟨ok_L_form, fun _ h => absurd h List.not_mem_nil, List.forall_mem_cons.mpr ⟨ca_L_form_0 l, List.forall_mem_cons.mpr ⟨ca_L_form_1 l, List.forall_mem_cons.mpr ⟨ca_L_form_2 l, List.forall_mem_cons.mpr ⟨ca_L_form_3 l, List.forall_mem_cons.mpr ⟨ca_L_form_4 l, List.forall_mem_cons.mpr ⟨ca_L_form_5 l, fun _ h => absurd h List.not_mem_nil⟩⟩⟩⟩⟩⟩, fun _ h => absurd h List.not_mem_nil, fun _ h => absurd h List.not_mem_nil, List.forall_mem_cons.mpr ⟨⟨RJ4, TJ4, 4, tyJ4, rfl, inJ4, tyJ4_ok, wt_1023, wt_1024, wt_45, rfl, nk_J4⟩, fun _ h => absurd h List.not_mem_nil⟩, fun _ h => absurd h List.not_mem_nil, rfl, rfl, fun _ h => absurd h List.not_mem_nil⟩
theorem c_L_form (l : Launch) : z_CS l yL_form cL_form 7 (some (.object "java/lang/String")) rm_L_form sp_L_form := by
  refine z_meth (by decide) (Or.inr (Or.inr (Or.inr (Or.inr (Or.inl ⟨rfl, _, rfl, Or.inl ⟨_, rfl⟩⟩))))) (fun h => by cases h) rfl (O_L_form l) ?_
  intro av w K h
  match av, h with
  | [.ref (o : Nat), .int a, .int m], h =>
    obtain ⟨rfl, hz, hW, T, t, hC, rfl, ht, h⟩ := h
    obtain ⟨G, wi, wl⟩ := w
    dsimp only at hz hC h
    have hW0 : z_wfg G.length G = true := hW
    have hl45 : 45 ≤ G.length := zG_len hz
    have hd : Dd T.1 := ct_Dd hC
    obtain ⟨d, hdd⟩ : ∃ d, d = T.1 := ⟨_, rfl⟩
    rw [← hdd] at hd h
    have hd1 := hd t ht
    have hd2 := hd (nx t) (nx_lt t)
    have hpl : pl d t ≤ 9 := by
      have : d t * d (nx t) ≤ 3 * 3 := Nat.mul_le_mul hd1.2 hd2.2
      exact this
    have hpl0 : 0 < pl d t := Nat.mul_pos hd1.1 hd2.1
    obtain ⟨L0, hL0⟩ : ∃ L0, L0 = G.length := ⟨_, rfl⟩
    obtain ⟨lo, hlo⟩ : ∃ lo : Nat → zAL, ∀ i, lo i = [some (.ref 0), some (.int (nI t)), some (.int m), some (.ref L0), some (.int (nI (d (nx t)))), some (.int (nI (pl d t))), some (.int (nI i))] := ⟨_, fun _ => rfl⟩
    have h97 : ∀ t, t < 3 → ((nI 97 + nI t).toUInt32 % 65536).toInt32 = nI (97 + t) := by decide
    refine ⟨Nat.le_of_ble_eq_true rfl, fun Jm hs => ?_⟩
    have main : ∀ wB : zW, 45 ≤ L0 → L0 = G.length → Ext (fun x => 45 ≤ x ∧ x < L0) (G, wi, wl) wB → zG wB.1 → WF wB → L0 ≤ wB.1.length → CT wB.2.1 wB.2.2 T → ∀ c1 c2, FI wB L0 d t 0 [] wB c1 c2 → Jm 32 (lo 0) [] wB c1 c2 := by
      intro wB hL45 hLG hEB hzB hWB hLB hCB c1 c2 hFI
      have loop : ∀ e i, i + e = pl d t → ∀ ts w1 c1 c2, FI wB L0 d t i ts w1 c1 c2 → Jm 32 (lo i) [] w1 c1 c2 := by
        intro e
        induction e with
        | zero =>
          intro i hi ts w1 c1 c2 hF
          obtain ⟨hE, hS, hinc, hlt, hlen, hne, hc1, hc2⟩ := hF
          have hW1 : WF w1 := hE.2.2 hWB
          have hS0 := hS
          obtain ⟨v, N, -, -, -, hO, -⟩ := hS
          obtain ⟨G1, wi1, wl1⟩ := w1
          dsimp only at hO
          have ho : L0 < G1.length := nth_lt hO
          rw [hlo]
          refine hs 400 32 _ _ _ _ _ ?_
          conv => whnf
          repeat ((first | refine ⟨zG_of _, ?_⟩ | refine ⟨trivial, ?_⟩ | refine ⟨rfl, ?_⟩ | refine ⟨fun hc => absurd hc (by decide), fun _ => ?_⟩ | refine ⟨fun _ => ?_, fun hc => absurd (by decide) hc⟩ | refine ⟨fun _ => ?_, fun hc => absurd hc (by decide)⟩ | refine ⟨fun hc => absurd (by decide) hc, fun _ => ?_⟩); conv => whnf)
          try dsimp only
          refine ⟨fun _ => ?_, fun hc => absurd hc (nI_nlt (by omega) (by omega))⟩
          conv => whnf
          repeat ((first | rw [rcv4 hO] | refine ⟨trivial, ?_⟩ | refine ⟨rfl, ?_⟩ | refine ⟨fun hc => absurd hc (by decide), fun _ => ?_⟩ | refine ⟨fun _ => ?_, fun hc => absurd (by decide) hc⟩ | refine ⟨fun _ => ?_, fun hc => absurd hc (by decide)⟩ | refine ⟨fun hc => absurd (by decide) hc, fun _ => ?_⟩ | refine ⟨Or.inr rfl, ?_⟩ | refine ⟨Or.inl rfl, ?_⟩ | refine ⟨fun hq => absurd (by assumption) hq, fun _ => ?_⟩ | refine ⟨fun _ => ?_, fun hq => absurd (by assumption) hq⟩ | refine ⟨fun hq => absurd hq (by assumption), fun _ => ?_⟩ | refine ⟨fun _ => ?_, fun hq => absurd hq (by assumption)⟩); conv => whnf)
          try dsimp only
          refine ⟨⟨by show c1 + 2 ≤ 40; omega, by show c2 + 304 ≤ 11200; omega⟩, by simp [z_wfl, z_wfs, z_rlt, Nat.blt_eq, ho, show 0 < G1.length by omega], ?_⟩
          refine ⟨_, _, _, hS0, hW1, fun w2 q e2 hq s2 => ?_⟩
          conv => whnf
          repeat ((first | refine ⟨zG_of _, ?_⟩ | refine ⟨trivial, ?_⟩ | refine ⟨rfl, ?_⟩ | refine ⟨fun hc => absurd hc (by decide), fun _ => ?_⟩ | refine ⟨fun _ => ?_, fun hc => absurd (by decide) hc⟩ | refine ⟨fun _ => ?_, fun hc => absurd hc (by decide)⟩ | refine ⟨fun hc => absurd (by decide) hc, fun _ => ?_⟩); conv => whnf)
          try dsimp only
          dsimp only at e2 hq s2
          have eA : Ext (fun x => 45 ≤ x ∧ x < L0) (G, wi, wl) w2 := hEB.tr ((hE.less fun x hx => hx.2).tr (e2.less fun x hx => by omega))
          refine h w2 G1.length q ts (eA.less fun x hx => ⟨hx.1, by omega⟩) ?_ ?_ (by omega) (by omega) s2 (hne (by omega)) (by omega) hinc
          · exact ext_zG (ext_zG hzB hE fun x hx => by omega) e2 fun x hx => by show x < G1.length; omega
          · exact ext_CT (ext_CT hCB hE fun x hx => by omega) e2 fun x hx => by show x < G1.length; omega
        | succ e ih =>
          intro i hi
          have hi2 : i < pl d t := by omega
          have j134 : ∀ ts w1 c1 c2, FI wB L0 d t (i + 1) ts w1 c1 c2 → Jm 134 (lo i) [] w1 c1 c2 := by
            intro ts w1 c1 c2 hF
            rw [hlo]
            refine hs 400 134 _ _ _ _ _ ?_
            conv => whnf
            repeat ((first | refine ⟨zG_of _, ?_⟩ | refine ⟨trivial, ?_⟩ | refine ⟨rfl, ?_⟩ | refine ⟨fun hc => absurd hc (by decide), fun _ => ?_⟩ | refine ⟨fun _ => ?_, fun hc => absurd (by decide) hc⟩ | refine ⟨fun _ => ?_, fun hc => absurd hc (by decide)⟩ | refine ⟨fun hc => absurd (by decide) hc, fun _ => ?_⟩); conv => whnf)
            try dsimp only
            rw [nI_add]
            have := ih (i + 1) (by omega) ts w1 c1 c2 hF
            rw [hlo] at this
            exact this
          have j104 : ∀ ts g w1 c1 c2, Ext (fun x => x < L0) wB w1 → SLx (fun x => x < L0) w1 L0 (ttx d t ts ++ sgx ts g) → inc (pl d t) 0 ts → (∀ e ∈ ts, e.2 < i) → ts.length ≤ i → c1 ≤ 2 + 4 * i + 1 → c2 ≤ 21 + 1200 * i + 300 → Jm 104 (lo i) [] w1 c1 c2 := by
            intro ts g w1 c1 c2 hE hS hinc hlt hlen hc1 hc2
            have hW1 : WF w1 := hE.2.2 hWB
            have hB1 : Bel (fun x => x < L0) w1 := fun x hx => Nat.lt_of_lt_of_le hx (Nat.le_trans hLB hE.1)
            have hS0 := hS
            obtain ⟨v, N, -, -, -, hO, -⟩ := hS
            obtain ⟨G1, wi1, wl1⟩ := w1
            dsimp only at hO
            have ho : L0 < G1.length := nth_lt hO
            have hlt2 := ttx_len d t ts
            have hsg : (sgx ts g).length ≤ 1 := by unfold sgx; split; · decide
                                                   split <;> decide
            have hll : (ttx d t ts ++ sgx ts g).length ≤ 37 := by rw [List.length_append]; omega
            rw [hlo]
            refine hs 400 104 _ _ _ _ _ ?_
            conv => whnf
            repeat ((first | rw [rcv4 hO] | refine ⟨trivial, ?_⟩ | refine ⟨rfl, ?_⟩ | refine ⟨fun hc => absurd hc (by decide), fun _ => ?_⟩ | refine ⟨fun _ => ?_, fun hc => absurd (by decide) hc⟩ | refine ⟨fun _ => ?_, fun hc => absurd hc (by decide)⟩ | refine ⟨fun hc => absurd (by decide) hc, fun _ => ?_⟩ | refine ⟨Or.inr rfl, ?_⟩ | refine ⟨Or.inl rfl, ?_⟩ | refine ⟨fun hq => absurd (by assumption) hq, fun _ => ?_⟩ | refine ⟨fun _ => ?_, fun hq => absurd (by assumption) hq⟩ | refine ⟨fun hq => absurd hq (by assumption), fun _ => ?_⟩ | refine ⟨fun _ => ?_, fun hq => absurd hq (by assumption)⟩); conv => whnf)
            try dsimp only
            refine ⟨⟨by show c1 + 1 ≤ 40; omega, by show c2 + 300 ≤ 11200; omega⟩, by simp [z_wfl, z_wfs, z_rlt, Nat.blt_eq, ho, show 0 < G1.length by omega], ?_⟩
            refine ⟨_, _, 97 + t, _, hS0, hB1, hW1, h97 t ht, by omega, by omega, fun w2 e2 s2 => ?_⟩
            have hW2 : WF w2 := e2.2.2 hW1
            have hB2 := hB1.up e2
            have s2 := SLx_put s2
            have s20 := s2
            obtain ⟨v2, N2, -, -, -, hO2, -⟩ := s2
            obtain ⟨G2, wi2, wl2⟩ := w2
            dsimp only at hO2
            have ho2 : L0 < G2.length := nth_lt hO2
            conv => whnf
            repeat ((first | rw [rcv4 hO2] | refine ⟨trivial, ?_⟩ | refine ⟨rfl, ?_⟩ | refine ⟨fun hc => absurd hc (by decide), fun _ => ?_⟩ | refine ⟨fun _ => ?_, fun hc => absurd (by decide) hc⟩ | refine ⟨fun _ => ?_, fun hc => absurd hc (by decide)⟩ | refine ⟨fun hc => absurd (by decide) hc, fun _ => ?_⟩ | refine ⟨Or.inr rfl, ?_⟩ | refine ⟨Or.inl rfl, ?_⟩ | refine ⟨fun hq => absurd (by assumption) hq, fun _ => ?_⟩ | refine ⟨fun _ => ?_, fun hq => absurd (by assumption) hq⟩ | refine ⟨fun hq => absurd hq (by assumption), fun _ => ?_⟩ | refine ⟨fun _ => ?_, fun hq => absurd hq (by assumption)⟩); conv => whnf)
            try dsimp only
            refine ⟨fun hq => absurd (by rw [show (0 : Int32) = nI 0 from nI_0.symm] at hq; exact hq) (fun hq => by have := (nI_eq (by omega) (by decide)).mp hq; omega), ?_⟩
            conv => whnf
            repeat ((first | rw [rcv4 hO2] | refine ⟨trivial, ?_⟩ | refine ⟨rfl, ?_⟩ | refine ⟨fun hc => absurd hc (by decide), fun _ => ?_⟩ | refine ⟨fun _ => ?_, fun hc => absurd (by decide) hc⟩ | refine ⟨fun _ => ?_, fun hc => absurd hc (by decide)⟩ | refine ⟨fun hc => absurd (by decide) hc, fun _ => ?_⟩ | refine ⟨Or.inr rfl, ?_⟩ | refine ⟨Or.inl rfl, ?_⟩ | refine ⟨fun hq => absurd (by assumption) hq, fun _ => ?_⟩ | refine ⟨fun _ => ?_, fun hq => absurd (by assumption) hq⟩ | refine ⟨fun hq => absurd hq (by assumption), fun _ => ?_⟩ | refine ⟨fun _ => ?_, fun hq => absurd hq (by assumption)⟩); conv => whnf)
            try dsimp only
            rw [pk_div (show i < 2 ^ 31 by omega) (show 0 < d (nx t) by omega) (show d (nx t) < 2 ^ 31 by omega), nI_add]
            refine ⟨⟨by show c1 + 1 + 1 ≤ 40; omega, by show c2 + 300 + 300 ≤ 11200; omega⟩, by simp [z_wfl, z_wfs, z_rlt, Nat.blt_eq, ho2, show 0 < G2.length by omega], ?_⟩
            have hr1 : i / d (nx t) < d t := Nat.div_lt_of_lt_mul (by rw [Nat.mul_comm]; exact hi2)
            have hr2 : i % d (nx t) < d (nx t) := Nat.mod_lt _ (by omega)
            refine ⟨_, _, i / d (nx t) + 1, _, s20, hB2, hW2, rfl, by omega, by rw [List.length_append]; show _ + 1 + 1 ≤ 150; omega, fun w3 e3 s3 => ?_⟩
            have hW3 : WF w3 := e3.2.2 hW2
            have hB3 := hB2.up e3
            have s3 := SLx_put s3
            have s30 := s3
            obtain ⟨v3, N3, -, -, -, hO3, -⟩ := s3
            obtain ⟨G3, wi3, wl3⟩ := w3
            dsimp only at hO3
            have ho3 : L0 < G3.length := nth_lt hO3
            conv => whnf
            repeat ((first | rw [rcv4 hO3] | refine ⟨trivial, ?_⟩ | refine ⟨rfl, ?_⟩ | refine ⟨fun hc => absurd hc (by decide), fun _ => ?_⟩ | refine ⟨fun _ => ?_, fun hc => absurd (by decide) hc⟩ | refine ⟨fun _ => ?_, fun hc => absurd hc (by decide)⟩ | refine ⟨fun hc => absurd (by decide) hc, fun _ => ?_⟩ | refine ⟨Or.inr rfl, ?_⟩ | refine ⟨Or.inl rfl, ?_⟩ | refine ⟨fun hq => absurd (by assumption) hq, fun _ => ?_⟩ | refine ⟨fun _ => ?_, fun hq => absurd (by assumption) hq⟩ | refine ⟨fun hq => absurd hq (by assumption), fun _ => ?_⟩ | refine ⟨fun _ => ?_, fun hq => absurd hq (by assumption)⟩); conv => whnf)
            try dsimp only
            refine ⟨fun hq => absurd (by rw [show (0 : Int32) = nI 0 from nI_0.symm] at hq; exact hq) (fun hq => by have := (nI_eq (by omega) (by decide)).mp hq; omega), ?_⟩
            conv => whnf
            repeat ((first | rw [rcv4 hO3] | refine ⟨trivial, ?_⟩ | refine ⟨rfl, ?_⟩ | refine ⟨fun hc => absurd hc (by decide), fun _ => ?_⟩ | refine ⟨fun _ => ?_, fun hc => absurd (by decide) hc⟩ | refine ⟨fun _ => ?_, fun hc => absurd hc (by decide)⟩ | refine ⟨fun hc => absurd (by decide) hc, fun _ => ?_⟩ | refine ⟨Or.inr rfl, ?_⟩ | refine ⟨Or.inl rfl, ?_⟩ | refine ⟨fun hq => absurd (by assumption) hq, fun _ => ?_⟩ | refine ⟨fun _ => ?_, fun hq => absurd (by assumption) hq⟩ | refine ⟨fun hq => absurd hq (by assumption), fun _ => ?_⟩ | refine ⟨fun _ => ?_, fun hq => absurd hq (by assumption)⟩); conv => whnf)
            try dsimp only
            rw [z_remN (show i < 2 ^ 31 by omega) (show 0 < d (nx t) by omega) (show d (nx t) < 2 ^ 31 by omega), nI_add]
            refine ⟨⟨by show c1 + 1 + 1 + 1 ≤ 40; omega, by show c2 + 300 + 300 + 300 ≤ 11200; omega⟩, by simp [z_wfl, z_wfs, z_rlt, Nat.blt_eq, ho3, show 0 < G3.length by omega], ?_⟩
            refine ⟨_, _, i % d (nx t) + 1, _, s30, hB3, hW3, rfl, by omega, by rw [List.length_append, List.length_append]; show _ + 1 + 1 + 1 ≤ 150; omega, fun w4 e4 s4 => ?_⟩
            have s4 := SLx_put s4
            conv => whnf
            repeat ((first | refine ⟨zG_of _, ?_⟩ | refine ⟨trivial, ?_⟩ | refine ⟨rfl, ?_⟩ | refine ⟨fun hc => absurd hc (by decide), fun _ => ?_⟩ | refine ⟨fun _ => ?_, fun hc => absurd (by decide) hc⟩ | refine ⟨fun _ => ?_, fun hc => absurd hc (by decide)⟩ | refine ⟨fun hc => absurd (by decide) hc, fun _ => ?_⟩); conv => whnf)
            try dsimp only
            have := j134 (ts ++ [(g, i)]) w4 (c1 + 1 + 1 + 1) (c2 + 300 + 300 + 300) ⟨hE.tr (e2.tr (e3.tr e4)), ?_, inc_app ts 0 hinc hlt (Nat.zero_le _) hi2, fun e he => ?_, by rw [List.length_append]; show _ + 1 ≤ _; omega, fun _ => by simp, by omega, by omega⟩
            · rw [hlo] at this
              exact this
            · rw [ttx_app]
              have e9 : tmx d t i = [97 + t] ++ [48 + (i / d (nx t) + 1)] ++ [48 + (i % d (nx t) + 1)] := by
                show [97 + t, 49 + i / d (nx t), 49 + i % d (nx t)] = [97 + t, 48 + (i / d (nx t) + 1), 48 + (i % d (nx t) + 1)]
                rw [show 48 + (i / d (nx t) + 1) = 49 + i / d (nx t) by omega, show 48 + (i % d (nx t) + 1) = 49 + i % d (nx t) by omega]
              rw [e9, ← List.append_assoc, ← List.append_assoc]
              exact s4
            · rcases List.mem_append.mp he with he | he
              · have := hlt e he; omega
              · simp only [List.mem_singleton] at he
                subst he
                exact Nat.lt_succ_self i
          have j67 : ∀ ts w1 c1 c2, Ext (fun x => x < L0) wB w1 → SLx (fun x => x < L0) w1 L0 (ttx d t ts) → inc (pl d t) 0 ts → (∀ e ∈ ts, e.2 < i) → ts.length ≤ i → c1 ≤ 2 + 4 * i → c2 ≤ 21 + 1200 * i → Jm 67 (lo i) [] w1 c1 c2 := by
            intro ts w1 c1 c2 hE hS hinc hlt hlen hc1 hc2
            have hW1 : WF w1 := hE.2.2 hWB
            have hB1 : Bel (fun x => x < L0) w1 := fun x hx => Nat.lt_of_lt_of_le hx (Nat.le_trans hLB hE.1)
            have hS0 := hS
            obtain ⟨v, N, -, -, -, hO, -, h3, -⟩ := hS
            obtain ⟨G1, wi1, wl1⟩ := w1
            dsimp only at hO h3
            have ho : L0 < G1.length := nth_lt hO
            have hlt2 := ttx_len d t ts
            rw [hlo]
            refine hs 400 67 _ _ _ _ _ ?_
            conv => whnf
            repeat ((first | refine ⟨zG_of _, ?_⟩ | refine ⟨trivial, ?_⟩ | refine ⟨rfl, ?_⟩ | refine ⟨fun hc => absurd hc (by decide), fun _ => ?_⟩ | refine ⟨fun _ => ?_, fun hc => absurd (by decide) hc⟩ | refine ⟨fun _ => ?_, fun hc => absurd hc (by decide)⟩ | refine ⟨fun hc => absurd (by decide) hc, fun _ => ?_⟩); conv => whnf)
            try dsimp only
            refine ⟨fun hc => ?_, fun hc => ?_⟩
            · conv => whnf
              repeat ((first | rw [rcv4 hO] | rw [rcv11 hO] | rw [hO] | refine ⟨trivial, ?_⟩ | refine ⟨rfl, ?_⟩ | refine ⟨fun hc => absurd hc (by decide), fun _ => ?_⟩ | refine ⟨fun _ => ?_, fun hc => absurd (by decide) hc⟩ | refine ⟨fun _ => ?_, fun hc => absurd hc (by decide)⟩ | refine ⟨fun hc => absurd (by decide) hc, fun _ => ?_⟩ | refine ⟨Or.inr rfl, ?_⟩ | refine ⟨Or.inl rfl, ?_⟩ | refine ⟨fun hq => absurd (by assumption) hq, fun _ => ?_⟩ | refine ⟨fun _ => ?_, fun hq => absurd (by assumption) hq⟩ | refine ⟨fun hq => absurd hq (by assumption), fun _ => ?_⟩ | refine ⟨fun _ => ?_, fun hq => absurd hq (by assumption)⟩); conv => whnf)
              try dsimp only
              rw [h3]
              refine ⟨fun hc3 => ?_, fun hc3 => ?_⟩
              · rw [ltN (by decide) (by omega), ttx_nil] at hc3
                have hts : ts = [] := by
                  match ts, hc3 with
                  | [], _ => rfl
                  | a :: r, hc3 => exact absurd (List.cons_ne_nil a r) hc3
                have := j104 ts false (G1, wi1, wl1) c1 c2 hE (by rw [hts] at hS0 ⊢; exact hS0) hinc hlt hlen (by omega) (by omega)
                rw [hlo] at this
                conv => whnf
                repeat ((first | refine ⟨zG_of _, ?_⟩ | refine ⟨trivial, ?_⟩ | refine ⟨rfl, ?_⟩ | refine ⟨fun hc => absurd hc (by decide), fun _ => ?_⟩ | refine ⟨fun _ => ?_, fun hc => absurd (by decide) hc⟩ | refine ⟨fun _ => ?_, fun hc => absurd hc (by decide)⟩ | refine ⟨fun hc => absurd (by decide) hc, fun _ => ?_⟩); conv => whnf)
                try dsimp only
                exact this
              · rw [ltN (by decide) (by omega), ttx_nil] at hc3
                conv => whnf
                repeat ((first | rw [rcv4 hO] | refine ⟨trivial, ?_⟩ | refine ⟨rfl, ?_⟩ | refine ⟨fun hc => absurd hc (by decide), fun _ => ?_⟩ | refine ⟨fun _ => ?_, fun hc => absurd (by decide) hc⟩ | refine ⟨fun _ => ?_, fun hc => absurd hc (by decide)⟩ | refine ⟨fun hc => absurd (by decide) hc, fun _ => ?_⟩ | refine ⟨Or.inr rfl, ?_⟩ | refine ⟨Or.inl rfl, ?_⟩ | refine ⟨fun hq => absurd (by assumption) hq, fun _ => ?_⟩ | refine ⟨fun _ => ?_, fun hq => absurd (by assumption) hq⟩ | refine ⟨fun hq => absurd hq (by assumption), fun _ => ?_⟩ | refine ⟨fun _ => ?_, fun hq => absurd hq (by assumption)⟩); conv => whnf)
                try dsimp only
                refine ⟨⟨by show c1 + 1 ≤ 40; omega, by show c2 + 300 ≤ 11200; omega⟩, by simp [z_wfl, z_wfs, z_rlt, Nat.blt_eq, ho, show 0 < G1.length by omega], ?_⟩
                refine ⟨_, _, 43, _, hS0, hB1, hW1, rfl, by omega, by omega, fun w2 e2 s2 => ?_⟩
                have s2 := SLx_put s2
                have := j104 ts false w2 (c1 + 1) (c2 + 300) (hE.tr e2) (by unfold sgx; rw [if_neg (by decide), if_neg hc3]; exact s2) hinc hlt hlen (by omega) (by omega)
                rw [hlo] at this
                conv => whnf
                repeat ((first | refine ⟨zG_of _, ?_⟩ | refine ⟨trivial, ?_⟩ | refine ⟨rfl, ?_⟩ | refine ⟨fun hc => absurd hc (by decide), fun _ => ?_⟩ | refine ⟨fun _ => ?_, fun hc => absurd (by decide) hc⟩ | refine ⟨fun _ => ?_, fun hc => absurd hc (by decide)⟩ | refine ⟨fun hc => absurd (by decide) hc, fun _ => ?_⟩); conv => whnf)
                try dsimp only
                exact this
            · conv => whnf
              repeat ((first | rw [rcv4 hO] | refine ⟨trivial, ?_⟩ | refine ⟨rfl, ?_⟩ | refine ⟨fun hc => absurd hc (by decide), fun _ => ?_⟩ | refine ⟨fun _ => ?_, fun hc => absurd (by decide) hc⟩ | refine ⟨fun _ => ?_, fun hc => absurd hc (by decide)⟩ | refine ⟨fun hc => absurd (by decide) hc, fun _ => ?_⟩ | refine ⟨Or.inr rfl, ?_⟩ | refine ⟨Or.inl rfl, ?_⟩ | refine ⟨fun hq => absurd (by assumption) hq, fun _ => ?_⟩ | refine ⟨fun _ => ?_, fun hq => absurd (by assumption) hq⟩ | refine ⟨fun hq => absurd hq (by assumption), fun _ => ?_⟩ | refine ⟨fun _ => ?_, fun hq => absurd hq (by assumption)⟩); conv => whnf)
              try dsimp only
              refine ⟨⟨by show c1 + 1 ≤ 40; omega, by show c2 + 300 ≤ 11200; omega⟩, by simp [z_wfl, z_wfs, z_rlt, Nat.blt_eq, ho, show 0 < G1.length by omega], ?_⟩
              refine ⟨_, _, 45, _, hS0, hB1, hW1, rfl, by omega, by omega, fun w2 e2 s2 => ?_⟩
              have s2 := SLx_put s2
              have := j104 ts true w2 (c1 + 1) (c2 + 300) (hE.tr e2) s2 hinc hlt hlen (by omega) (by omega)
              rw [hlo] at this
              conv => whnf
              repeat ((first | refine ⟨zG_of _, ?_⟩ | refine ⟨trivial, ?_⟩ | refine ⟨rfl, ?_⟩ | refine ⟨fun hc => absurd hc (by decide), fun _ => ?_⟩ | refine ⟨fun _ => ?_, fun hc => absurd (by decide) hc⟩ | refine ⟨fun _ => ?_, fun hc => absurd hc (by decide)⟩ | refine ⟨fun hc => absurd (by decide) hc, fun _ => ?_⟩); conv => whnf)
              try dsimp only
              exact this
          intro ts w1 c1 c2 hF
          obtain ⟨hE, hS, hinc, hlt, hlen, hne, hc1, hc2⟩ := hF
          have hF1 : (i + 1 = pl d t → ts ≠ []) → FI wB L0 d t (i + 1) ts w1 c1 c2 := fun q => ⟨hE, hS, hinc, fun e he => Nat.lt_succ_of_lt (hlt e he), by omega, q, by omega, by omega⟩
          have hS0 := hS
          obtain ⟨v, N, -, -, -, hO, -, h3, -⟩ := hS
          obtain ⟨G1, wi1, wl1⟩ := w1
          dsimp only at hO h3
          have hlt2 := ttx_len d t ts
          have p67 := j67 ts (G1, wi1, wl1) c1 c2 hE hS0 hinc hlt hlen hc1 hc2
          have p134 : (i + 1 = pl d t → ts ≠ []) → _ := fun q => j134 ts (G1, wi1, wl1) c1 c2 (hF1 q)
          rw [hlo] at p67 p134 ⊢
          refine hs 400 32 _ _ _ _ _ ?_
          conv => whnf
          repeat ((first | refine ⟨zG_of _, ?_⟩ | refine ⟨trivial, ?_⟩ | refine ⟨rfl, ?_⟩ | refine ⟨fun hc => absurd hc (by decide), fun _ => ?_⟩ | refine ⟨fun _ => ?_, fun hc => absurd (by decide) hc⟩ | refine ⟨fun _ => ?_, fun hc => absurd hc (by decide)⟩ | refine ⟨fun hc => absurd (by decide) hc, fun _ => ?_⟩); conv => whnf)
          try dsimp only
          refine ⟨fun hc => absurd (nI_lt hi2 (by omega)) hc, fun _ => ?_⟩
          conv => whnf
          repeat ((first | refine ⟨zG_of _, ?_⟩ | refine ⟨trivial, ?_⟩ | refine ⟨rfl, ?_⟩ | refine ⟨fun hc => absurd hc (by decide), fun _ => ?_⟩ | refine ⟨fun _ => ?_, fun hc => absurd (by decide) hc⟩ | refine ⟨fun _ => ?_, fun hc => absurd hc (by decide)⟩ | refine ⟨fun hc => absurd (by decide) hc, fun _ => ?_⟩); conv => whnf)
          try dsimp only
          refine ⟨fun _ => ?_, fun _ => ?_⟩
          · conv => whnf
            repeat ((first | refine ⟨zG_of _, ?_⟩ | refine ⟨trivial, ?_⟩ | refine ⟨rfl, ?_⟩ | refine ⟨fun hc => absurd hc (by decide), fun _ => ?_⟩ | refine ⟨fun _ => ?_, fun hc => absurd (by decide) hc⟩ | refine ⟨fun _ => ?_, fun hc => absurd hc (by decide)⟩ | refine ⟨fun hc => absurd (by decide) hc, fun _ => ?_⟩); conv => whnf)
            try dsimp only
            exact p67
          · conv => whnf
            repeat ((first | refine ⟨zG_of _, ?_⟩ | refine ⟨trivial, ?_⟩ | refine ⟨rfl, ?_⟩ | refine ⟨fun hc => absurd hc (by decide), fun _ => ?_⟩ | refine ⟨fun _ => ?_, fun hc => absurd (by decide) hc⟩ | refine ⟨fun _ => ?_, fun hc => absurd hc (by decide)⟩ | refine ⟨fun hc => absurd (by decide) hc, fun _ => ?_⟩); conv => whnf)
            try dsimp only
            rw [nI_sub (show 1 ≤ pl d t by omega)]
            refine ⟨fun hc => ?_, fun hc => ?_⟩
            · rw [ltN (by omega) (by omega)] at hc
              conv => whnf
              repeat ((first | refine ⟨zG_of _, ?_⟩ | refine ⟨trivial, ?_⟩ | refine ⟨rfl, ?_⟩ | refine ⟨fun hc => absurd hc (by decide), fun _ => ?_⟩ | refine ⟨fun _ => ?_, fun hc => absurd (by decide) hc⟩ | refine ⟨fun _ => ?_, fun hc => absurd hc (by decide)⟩ | refine ⟨fun hc => absurd (by decide) hc, fun _ => ?_⟩); conv => whnf)
              try dsimp only
              exact p134 (fun q => by omega)
            · conv => whnf
              repeat ((first | rw [rcv4 hO] | rw [rcv11 hO] | rw [hO] | refine ⟨trivial, ?_⟩ | refine ⟨rfl, ?_⟩ | refine ⟨fun hc => absurd hc (by decide), fun _ => ?_⟩ | refine ⟨fun _ => ?_, fun hc => absurd (by decide) hc⟩ | refine ⟨fun _ => ?_, fun hc => absurd hc (by decide)⟩ | refine ⟨fun hc => absurd (by decide) hc, fun _ => ?_⟩ | refine ⟨Or.inr rfl, ?_⟩ | refine ⟨Or.inl rfl, ?_⟩ | refine ⟨fun hq => absurd (by assumption) hq, fun _ => ?_⟩ | refine ⟨fun _ => ?_, fun hq => absurd (by assumption) hq⟩ | refine ⟨fun hq => absurd hq (by assumption), fun _ => ?_⟩ | refine ⟨fun _ => ?_, fun hq => absurd hq (by assumption)⟩); conv => whnf)
              try dsimp only
              rw [h3]
              refine ⟨fun _ => ?_, fun hc3 => ?_⟩
              · conv => whnf
                repeat ((first | refine ⟨zG_of _, ?_⟩ | refine ⟨trivial, ?_⟩ | refine ⟨rfl, ?_⟩ | refine ⟨fun hc => absurd hc (by decide), fun _ => ?_⟩ | refine ⟨fun _ => ?_, fun hc => absurd (by decide) hc⟩ | refine ⟨fun _ => ?_, fun hc => absurd hc (by decide)⟩ | refine ⟨fun hc => absurd (by decide) hc, fun _ => ?_⟩); conv => whnf)
                try dsimp only
                exact p67
              · rw [ltN (by decide) (by omega), ttx_nil] at hc3
                conv => whnf
                repeat ((first | refine ⟨zG_of _, ?_⟩ | refine ⟨trivial, ?_⟩ | refine ⟨rfl, ?_⟩ | refine ⟨fun hc => absurd hc (by decide), fun _ => ?_⟩ | refine ⟨fun _ => ?_, fun hc => absurd (by decide) hc⟩ | refine ⟨fun _ => ?_, fun hc => absurd hc (by decide)⟩ | refine ⟨fun hc => absurd (by decide) hc, fun _ => ?_⟩); conv => whnf)
                try dsimp only
                exact p134 (fun _ => hc3)
      exact loop (pl d t) 0 (Nat.zero_add _) [] wB c1 c2 hFI
    have hO0 : z_nth (G ++ [(.inl (11, [some none, none, none, none]) : zSh)]) L0 = some (.inl (11, [some none, none, none, none])) := nth_new hL0
    have hL1 : (G ++ [(.inl (11, [some none, none, none, none]) : zSh)]).length = G.length + 1 := by simp
    refine hs 400 0 _ _ _ _ _ ?_
    conv => whnf
    repeat ((first | refine ⟨zG_of _, ?_⟩ | refine ⟨trivial, ?_⟩ | refine ⟨rfl, ?_⟩ | refine ⟨fun hc => absurd hc (by decide), fun _ => ?_⟩ | refine ⟨fun _ => ?_, fun hc => absurd (by decide) hc⟩ | refine ⟨fun _ => ?_, fun hc => absurd hc (by decide)⟩ | refine ⟨fun hc => absurd (by decide) hc, fun _ => ?_⟩); conv => whnf)
    try dsimp only
    refine ⟨⟨Nat.le_of_ble_eq_true rfl, Nat.le_of_ble_eq_true rfl⟩, by simp [z_wfl, z_wfs, z_rlt, z_arl, Nat.blt_eq, show 0 < G.length by omega, hW0], ?_⟩
    rw [z_psh_eq, Nat.zero_add, ← hL0]
    conv => whnf
    repeat ((first | refine ⟨zG_of _, ?_⟩ | refine ⟨trivial, ?_⟩ | refine ⟨rfl, ?_⟩ | refine ⟨fun hc => absurd hc (by decide), fun _ => ?_⟩ | refine ⟨fun _ => ?_, fun hc => absurd (by decide) hc⟩ | refine ⟨fun _ => ?_, fun hc => absurd hc (by decide)⟩ | refine ⟨fun hc => absurd (by decide) hc, fun _ => ?_⟩); conv => whnf)
    try dsimp only
    refine ⟨⟨Nat.le_of_ble_eq_true rfl, Nat.le_of_ble_eq_true rfl⟩, by simp [z_wfl, z_wfs, z_rlt, z_arl, Nat.blt_eq, hL0], ?_⟩
    have hWa : WF (G ++ [(.inl (11, [some none, none, none, none]) : zSh)], z_row wi L0 (fun _ => 0), wl) := wfg_app hW0 (wfg_nullc rfl)
    have eA : Ext (fun x => x < L0) (G, wi, wl) (G ++ [(.inl (11, [some none, none, none, none]) : zSh)], z_row wi L0 (fun _ => 0), wl) := ⟨by show G.length ≤ (G ++ [(.inl (11, [some none, none, none, none]) : zSh)]).length; omega, fun x hx => ⟨nth_app (by omega), z_row_ne (by omega), rfl⟩, fun _ => hWa⟩
    refine ⟨fun x => x < L0, hO0, Nat.lt_irrefl _, fun x hx => by show x < (G ++ [(.inl (11, [some none, none, none, none]) : zSh)]).length; omega, hWa, by simp [z_row, nI_0], fun w1 e1 s1 => ?_⟩
    have E1 := eA.tr e1
    have hW1 : WF w1 := E1.2.2 hW
    have hz1 : zG w1.1 := ext_zG hz E1 (fun x hx => by omega)
    have hC1 : CT w1.2.1 w1.2.2 T := ext_CT hC E1 (fun x hx => by omega)
    have hb1 := s1.bel
    obtain ⟨G1, wi1, wl1⟩ := w1
    dsimp only at hz1 hC1 hb1
    have g1 := zG_0 hz1
    conv => whnf
    repeat ((first | refine ⟨zG_of _, ?_⟩ | refine ⟨trivial, ?_⟩ | refine ⟨rfl, ?_⟩ | refine ⟨fun hc => absurd hc (by decide), fun _ => ?_⟩ | refine ⟨fun _ => ?_, fun hc => absurd (by decide) hc⟩ | refine ⟨fun _ => ?_, fun hc => absurd hc (by decide)⟩ | refine ⟨fun hc => absurd (by decide) hc, fun _ => ?_⟩); conv => whnf)
    try dsimp only
    refine ⟨by decide, ?_⟩
    conv => whnf
    repeat ((first | rw [rcv4 g1] | refine ⟨trivial, ?_⟩ | refine ⟨rfl, ?_⟩ | refine ⟨fun hc => absurd hc (by decide), fun _ => ?_⟩ | refine ⟨fun _ => ?_, fun hc => absurd (by decide) hc⟩ | refine ⟨fun _ => ?_, fun hc => absurd hc (by decide)⟩ | refine ⟨fun hc => absurd (by decide) hc, fun _ => ?_⟩ | refine ⟨Or.inr rfl, ?_⟩ | refine ⟨Or.inl rfl, ?_⟩ | refine ⟨fun hq => absurd (by assumption) hq, fun _ => ?_⟩ | refine ⟨fun _ => ?_, fun hq => absurd (by assumption) hq⟩ | refine ⟨fun hq => absurd hq (by assumption), fun _ => ?_⟩ | refine ⟨fun _ => ?_, fun hq => absurd hq (by assumption)⟩); conv => whnf)
    try dsimp only
    have hrem : z_rem (nI t + nI 1) (nI 3) = nI (nx t) := by
      rw [nI_add, z_remN (show t + 1 < 2 ^ 31 by omega) (by decide) (by decide)]
      rfl
    rw [hrem]
    refine ⟨hz1, T, hC1, fun wi2 wl2 hF2 hC2 => ?_⟩
    rw [cnt_d (nx_lt t), ← hdd]
    conv => whnf
    repeat ((first | rw [rcv4 g1] | refine ⟨trivial, ?_⟩ | refine ⟨rfl, ?_⟩ | refine ⟨fun hc => absurd hc (by decide), fun _ => ?_⟩ | refine ⟨fun _ => ?_, fun hc => absurd (by decide) hc⟩ | refine ⟨fun _ => ?_, fun hc => absurd hc (by decide)⟩ | refine ⟨fun hc => absurd (by decide) hc, fun _ => ?_⟩ | refine ⟨Or.inr rfl, ?_⟩ | refine ⟨Or.inl rfl, ?_⟩ | refine ⟨fun hq => absurd (by assumption) hq, fun _ => ?_⟩ | refine ⟨fun _ => ?_, fun hq => absurd (by assumption) hq⟩ | refine ⟨fun hq => absurd hq (by assumption), fun _ => ?_⟩ | refine ⟨fun _ => ?_, fun hq => absurd hq (by assumption)⟩); conv => whnf)
    try dsimp only
    refine ⟨hz1, T, hC2, fun wi3 wl3 hF3 hC3 => ?_⟩
    rw [cnt_d ht, ← hdd]
    conv => whnf
    repeat ((first | refine ⟨zG_of _, ?_⟩ | refine ⟨trivial, ?_⟩ | refine ⟨rfl, ?_⟩ | refine ⟨fun hc => absurd hc (by decide), fun _ => ?_⟩ | refine ⟨fun _ => ?_, fun hc => absurd (by decide) hc⟩ | refine ⟨fun _ => ?_, fun hc => absurd hc (by decide)⟩ | refine ⟨fun hc => absurd (by decide) hc, fun _ => ?_⟩); conv => whnf)
    try dsimp only
    rw [pk_mul]
    have hEf : Ext (fun x => 45 ≤ x) (G1, wi1, wl1) (G1, wi3, wl3) := frc_ext (FrC_tr hF2 hF3)
    have := main (G1, wi3, wl3) (by omega) hL0 ((E1.less fun x hx => hx.2).tr (hEf.less fun x hx => hx.1)) hz1 (hEf.2.2 hW1) (by show L0 ≤ G1.length; omega) hC3 2 21 ⟨Ext.rf, s1.keep hEf (fun x _ hx => by omega), trivial, fun _ h => absurd h List.not_mem_nil, Nat.le_refl _, fun q => by omega, by omega, by omega⟩
    rw [hlo] at this
    exact this

