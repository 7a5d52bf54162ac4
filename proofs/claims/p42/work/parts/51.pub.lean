/-! uses; symmetry; groups; spans -/
def usN (A : Nat → Nat → Nat) (t p v c : Nat) : Nat := fb_ct (fun i => A (3 * i + t) p == v) c
def unN (d : Nat → Nat) (A : Nat → Nat → Nat) (t c : Nat) : Nat := pl d t - fb_ct (usB A t c) 9
theorem usB_0 {d : Nat → Nat} {A : Nat → Nat → Nat} {t c : Nat} (h : ZS d c A) (ht : t < 3) {p : Nat} (hp : pl d t ≤ p) (hp9 : p < 9) : ∀ i, i ≤ c → usB A t i p = false
  | 0, _ => rfl
  | i + 1, hi => by
    rw [usB, usB_0 h ht hp hp9 i (by omega), zs_at h (show i < c by omega) ht p hp hp9]
    rfl
theorem us_le {d : Nat → Nat} {A : Nat → Nat → Nat} {t c : Nat} (hd : ∀ t, t < 3 → 1 ≤ d t ∧ d t ≤ 3) (h : ZS d c A) (ht : t < 3) : fb_ct (usB A t c) 9 ≤ pl d t := by
  have p9 := pl_le hd ht
  rw [ct_more p9.2 (fun k h1 h2 => usB_0 h ht h1 h2 c (Nat.le_refl c))]
  exact fb_ct_le _ _
def usX (d : Nat → Nat) (q : Nat) (A : Nat → Nat → Nat) (t p c : Nat) : Nat → Int64 := fun k => if k + 1 < q then lN (usN A t p (k + 1) c) else lN (unN d A t c)
def usS (A : Nat → Nat → Nat) (t p c n : Nat) : Nat := fb_sm (fun k => usN A t p (k + 1) c) n
def st_uses (T : zT) (t p : Int32) : zT × Int32 := if (idB 3 t && idB (pl T.1 t.toNatClampNeg) p) = true then (wTl T (T.2.1, usX T.1 T.2.1 T.2.2.2.1 t.toNatClampNeg p.toNatClampNeg T.2.2.1), nI (usS T.2.2.2.1 t.toNatClampNeg p.toNatClampNeg T.2.2.1 (T.2.1 - 1))) else (T, mI 1)
def sp_X11_uses : zSp := fun av w K => match av with
  | [.ref o, .int t, .int p] => o = 0 ∧ zG w.1 ∧ ∃ T, CT w.2.1 w.2.2 T ∧ ∀ wi' wl', FrC w.2.1 w.2.2 wi' wl' → CT wi' wl' (st_uses T t p).1 → K (some (.int (st_uses T t p).2)) (w.1, wi', wl')
  | _ => False
def asN (q : Nat) (A B : Nat → Nat → Nat) (c : Nat) : Nat := fb_ct (fun i => alB q A i B i) c
def mtN (q : Nat) (A : Nat → Nat → Nat) (c : Nat) (B : Nat → Nat → Nat) (c2 : Nat) : Nat := fb_ct (tkB (fun i k => alB q A i B k) c2 c) c2
def sp_X11_asSpare : zSp := fun av w K => match av with
  | [.ref o] => o = 0 ∧ zG w.1 ∧ ∃ d q c A d2 B, CS w.2.1 6 d q c A ∧ CS w.2.1 12 d2 q c B ∧ ∀ (wi' : Nat → Nat → Int32) (wl' : Nat → Nat → Int64), (∀ y, y ≠ 4 → wi' y = w.2.1 y) → (∀ y, y ≠ 5 → wl' y = w.2.2 y) → TS wi' wl' 1 (upL (fun _ => 0) 0 (lN (asN q A B c))) → K (some (.int (bI (mtN q A c B c = c)))) (w.1, wi', wl')
  | _ => False
def asT (T : zT) (B : Nat → Nat → Nat) : zT × Int32 := (wTl T (1, upL (fun _ => 0) 0 (lN (asN T.2.1 T.2.2.2.1 B T.2.2.1))), bI (mtN T.2.1 T.2.2.2.1 T.2.2.1 B T.2.2.1 = T.2.2.1))
def st_round (T : zT) : zT × Int32 := if T.1 0 = T.1 1 ∧ T.1 1 = T.1 2 then asT T (rlA T.2.2.2.1) else (T, mI 2)
def st_mirrored (T : zT) : zT × Int32 := if T.1 1 = T.1 2 then asT T (mrA T.1 T.2.2.2.1) else (T, mI 2)
def sp_X11_round : zSp := fun av w K => match av with
  | [.ref o] => o = 0 ∧ zG w.1 ∧ ∃ T, CT w.2.1 w.2.2 T ∧ ∀ wi' wl', FrC w.2.1 w.2.2 wi' wl' → CT wi' wl' (st_round T).1 → K (some (.int (st_round T).2)) (w.1, wi', wl')
  | _ => False
def sp_X11_mirrored : zSp := fun av w K => match av with
  | [.ref o] => o = 0 ∧ zG w.1 ∧ ∃ T, CT w.2.1 w.2.2 T ∧ ∀ wi' wl', FrC w.2.1 w.2.2 wi' wl' → CT wi' wl' (st_mirrored T).1 → K (some (.int (st_mirrored T).2)) (w.1, wi', wl')
  | _ => False
/-- groups of products that share a form: how many, the greatest's bits, how many it has -/
def gsS (q : Nat) (A : Nat → Nat → Nat) (t c : Nat) : Nat → Nat × (Nat → Bool) × Nat
  | 0 => (0, fun _ => false, 0)
  | i + 1 => if bs (lkB q A t i) i = 0 ∧ 2 ≤ fb_ct (lkB q A t i) c then ((gsS q A t c i).1 + 1, if (gsS q A t c i).2.2 < fb_ct (lkB q A t i) c then (lkB q A t i, fb_ct (lkB q A t i) c) else (gsS q A t c i).2) else gsS q A t c i
theorem gs_ct (q : Nat) (A : Nat → Nat → Nat) (t c : Nat) : ∀ i, (gsS q A t c i).2.2 = fb_ct (gsS q A t c i).2.1 c ∧ (gsS q A t c i).1 ≤ i
  | 0 => ⟨(fb_ct_zero.mpr (fun _ _ => rfl)).symm, Nat.le_refl 0⟩
  | i + 1 => by
    have ih := gs_ct q A t c i
    rw [gsS]
    split
    · refine ⟨?_, Nat.succ_le_succ ih.2⟩
      dsimp only
      split
      · rfl
      · exact ih.1
    · exact ⟨ih.1, by omega⟩
def st_groups (T : zT) (t : Int32) : zT × Int32 := if idB 3 t = true then (wTl T (2, upL (upL (fun _ => 0) 0 (lN (gsS T.2.1 T.2.2.2.1 t.toNatClampNeg T.2.2.1 T.2.2.1).2.2)) 1 (lN (bs (gsS T.2.1 T.2.2.2.1 t.toNatClampNeg T.2.2.1 T.2.2.1).2.1 T.2.2.1))), nI (gsS T.2.1 T.2.2.2.1 t.toNatClampNeg T.2.2.1 T.2.2.1).1) else (T, mI 1)
def sp_X11_groups : zSp := fun av w K => match av with
  | [.ref o, .int t] => o = 0 ∧ zG w.1 ∧ ∃ T, CT w.2.1 w.2.2 T ∧ ∀ wi' wl', FrC w.2.1 w.2.2 wi' wl' → CT wi' wl' (st_groups T t).1 → K (some (.int (st_groups T t).2)) (w.1, wi', wl')
  | _ => False
def rm_X11_groups : Room := { frames := 4, cells := 0, slots := 0, locals := 91 }
def M_X11_groups : zM := (k_X11_groups, f_X11, [(128, 0, 0, 1, 0, 0, sp_X11_isTable), (326, 4, 5, 3, 0, 0, sp_X6_groupOf), (330, 0, 0, 1, 0, 0, sp_X11_bit), (334, 0, 0, 1, 0, 0, sp_J13_bitCount_95d88), (150, 4, 8, 1, 0, 0, sp_X9_clear), (167, 4, 8, 2, 0, 0, sp_X9_add)], ([], [], []), [], [(16, [true, true, true, true, true, true, false, false, false]), (94, [true, true, true, true, true, true, false, false, false])], 1, false, (false, 0, fun _ => 0), (0, 0, []))
theorem ca_X11_groups_0 (l : Launch) : z_cok l RX11 (headSpec (.code yX11_groups cX11_groups 9 (some .int) :: zTT) rm_X11_groups).room (false, 0, fun _ => 0) (128, 0, 0, 1, 0, 0, sp_X11_isTable) := z_ca0 (c_X11_isTable l) mb_X11_isTable wt_505 wt_506 (by decide)
theorem ca_X11_groups_1 (l : Launch) : z_cok l RX11 (headSpec (.code yX11_groups cX11_groups 9 (some .int) :: zTT) rm_X11_groups).room (false, 0, fun _ => 0) (326, 4, 5, 3, 0, 0, sp_X6_groupOf) := z_ca4 (c_X6_groupOf l) mb_X6_groupOf ⟨_, rfl, rfl⟩ wt_745 wt_746 wt_747 (by decide)
theorem ca_X11_groups_2 (l : Launch) : z_cok l RX11 (headSpec (.code yX11_groups cX11_groups 9 (some .int) :: zTT) rm_X11_groups).room (false, 0, fun _ => 0) (330, 0, 0, 1, 0, 0, sp_X11_bit) := z_ca0 (c_X11_bit l) mb_X11_bit wt_752 wt_750 (by decide)
theorem ca_X11_groups_3 (l : Launch) : z_cok l RX11 (headSpec (.code yX11_groups cX11_groups 9 (some .int) :: zTT) rm_X11_groups).room (false, 0, fun _ => 0) (334, 0, 0, 1, 0, 0, sp_J13_bitCount_95d88) := z_ca0 (c_J13_bitCount_95d88 l) mb_J13_bitCount_95d88 wt_753 wt_754 (by decide)
theorem ca_X11_groups_4 (l : Launch) : z_cok l RX11 (headSpec (.code yX11_groups cX11_groups 9 (some .int) :: zTT) rm_X11_groups).room (false, 0, fun _ => 0) (150, 4, 8, 1, 0, 0, sp_X9_clear) := z_ca4 (c_X9_clear l) mb_X9_clear ⟨_, rfl, rfl⟩ wt_429 wt_430 wt_431 (by decide)
theorem ca_X11_groups_5 (l : Launch) : z_cok l RX11 (headSpec (.code yX11_groups cX11_groups 9 (some .int) :: zTT) rm_X11_groups).room (false, 0, fun _ => 0) (167, 4, 8, 2, 0, 0, sp_X9_add) := z_ca4 (c_X9_add l) mb_X9_add ⟨_, rfl, rfl⟩ wt_469 wt_470 wt_471 (by decide)
theorem O_X11_groups (l : Launch) : z_OK l RX11 cX11_groups (headSpec (.code yX11_groups cX11_groups 9 (some .int) :: zTT) rm_X11_groups).room M_X11_groups := ⟨ok_X11_groups, fo_X11, List.forall_mem_cons.mpr ⟨ca_X11_groups_0 l, List.forall_mem_cons.mpr ⟨ca_X11_groups_1 l, List.forall_mem_cons.mpr ⟨ca_X11_groups_2 l, List.forall_mem_cons.mpr ⟨ca_X11_groups_3 l, List.forall_mem_cons.mpr ⟨ca_X11_groups_4 l, List.forall_mem_cons.mpr ⟨ca_X11_groups_5 l, fun _ h => absurd h List.not_mem_nil⟩⟩⟩⟩⟩⟩, fun _ h => absurd h List.not_mem_nil, fun _ h => absurd h List.not_mem_nil, fun _ h => absurd h List.not_mem_nil, fun _ h => absurd h List.not_mem_nil, rfl, rfl, fun _ h => absurd h List.not_mem_nil⟩
theorem c_X11_groups (l : Launch) : z_CS l yX11_groups cX11_groups 9 (some .int) rm_X11_groups sp_X11_groups := by
  refine z_meth (by decide) (Or.inr (Or.inl ⟨rfl, rfl⟩)) (fun h => by cases h) rfl (O_X11_groups l) ?_
  intro av w K h
  match av, h with
  | [.ref o, .int t], h =>
    obtain ⟨rfl, ⟨r, hG⟩, ⟨d, q, c, A, kp, tx, tl⟩, hC, h⟩ := h
    obtain ⟨G, wi, wl⟩ := w
    subst hG
    try dsimp only at h hC
    unfold st_groups wTl at h
    dsimp only at h
    have hS := ct_S hC
    have h40 := cs_40 hS
    refine ⟨Nat.le_of_ble_eq_true rfl, fun Jm hs => ?_⟩
    refine hs 400 0 _ _ _ _ _ ?_
    conv => whnf
    repeat ((first | refine ⟨zG_of _, ?_⟩ | refine ⟨trivial, ?_⟩ | refine ⟨rfl, ?_⟩ | refine ⟨fun hc => absurd hc (by decide), fun _ => ?_⟩ | refine ⟨fun _ => ?_, fun hc => absurd (by decide) hc⟩ | refine ⟨fun _ => ?_, fun hc => absurd hc (by decide)⟩ | refine ⟨fun hc => absurd (by decide) hc, fun _ => ?_⟩); conv => whnf)
    try dsimp only
    rw [isT_B, bI_0, Classical.not_not]
    refine ⟨fun h1 => ?_, fun h1 => ?_⟩
    · rw [if_pos h1] at h
      obtain ⟨t', ht, rfl⟩ := idB_N h1 (by omega)
      rw [nc_N (by omega)] at h
      have gc := gs_ct q A t' c
      generalize hg : gsS q A t' c = g at h gc
      have loop := up_ind (P := fun i => Jm 16 [some (.ref 0), some (.int (nI t')), some (.int (nI (g i).1)), some (.long (lN (bs (g i).2.1 c))), none, some (.int (nI i)), none, none, none] [] (GC ++ r, wi, wl) 0 0) c (fun i hi ih => by
        refine hs 400 16 _ _ _ _ _ ?_
        have bg := bcL_N (g i).2.1 (n := c) (by omega)
        have gl := fb_ct_le (g i).2.1 c
        conv => whnf
        repeat ((first | refine ⟨zG_of _, ?_⟩ | refine ⟨trivial, ?_⟩ | refine ⟨rfl, ?_⟩ | refine ⟨fun hc => absurd hc (by decide), fun _ => ?_⟩ | refine ⟨fun _ => ?_, fun hc => absurd (by decide) hc⟩ | refine ⟨fun _ => ?_, fun hc => absurd hc (by decide)⟩ | refine ⟨fun hc => absurd (by decide) hc, fun _ => ?_⟩); conv => whnf)
        try dsimp only
        rw [cs_c hS, ltN (by omega) (by omega)]
        refine ⟨fun hc => ?_, fun hc => ?_⟩
        · obtain hin : i = c := by omega
          rw [hin] at bg gl ⊢
          conv => whnf
          repeat ((first | refine ⟨zG_of _, ?_⟩ | refine ⟨trivial, ?_⟩ | refine ⟨rfl, ?_⟩ | refine ⟨fun hc => absurd hc (by decide), fun _ => ?_⟩ | refine ⟨fun _ => ?_, fun hc => absurd (by decide) hc⟩ | refine ⟨fun _ => ?_, fun hc => absurd hc (by decide)⟩ | refine ⟨fun hc => absurd (by decide) hc, fun _ => ?_⟩); conv => whnf)
          try dsimp only
          intro wi1 hF1 hT1
          conv => whnf
          repeat ((first | refine ⟨zG_of _, ?_⟩ | refine ⟨trivial, ?_⟩ | refine ⟨rfl, ?_⟩ | refine ⟨fun hc => absurd hc (by decide), fun _ => ?_⟩ | refine ⟨fun _ => ?_, fun hc => absurd (by decide) hc⟩ | refine ⟨fun _ => ?_, fun hc => absurd hc (by decide)⟩ | refine ⟨fun hc => absurd (by decide) hc, fun _ => ?_⟩); conv => whnf)
          try dsimp only
          rw [bg, ← (gc c).1, nI_l (by rw [(gc c).1]; omega)]
          refine ⟨0, _, hT1, by decide, fun wi2 wl2 hF2 hL2 hT2 => ?_⟩
          conv => whnf
          repeat ((first | refine ⟨zG_of _, ?_⟩ | refine ⟨trivial, ?_⟩ | refine ⟨rfl, ?_⟩ | refine ⟨fun hc => absurd hc (by decide), fun _ => ?_⟩ | refine ⟨fun _ => ?_, fun hc => absurd (by decide) hc⟩ | refine ⟨fun _ => ?_, fun hc => absurd hc (by decide)⟩ | refine ⟨fun hc => absurd (by decide) hc, fun _ => ?_⟩); conv => whnf)
          try dsimp only
          refine ⟨1, _, hT2, by decide, fun wi3 wl3 hF3 hL3 hT3 => ?_⟩
          conv => whnf
          repeat ((first | refine ⟨zG_of _, ?_⟩ | refine ⟨trivial, ?_⟩ | refine ⟨rfl, ?_⟩ | refine ⟨fun hc => absurd hc (by decide), fun _ => ?_⟩ | refine ⟨fun _ => ?_, fun hc => absurd (by decide) hc⟩ | refine ⟨fun _ => ?_, fun hc => absurd hc (by decide)⟩ | refine ⟨fun hc => absurd (by decide) hc, fun _ => ?_⟩); conv => whnf)
          try dsimp only
          exact h wi3 wl3 (fun y hy => ⟨by rw [hF3 y (by omega), hF2 y (by omega), hF1 y (by omega)], by rw [hL3 y (by omega), hL2 y (by omega)]⟩) (ct_told hC (fun y hy => by rw [hF3 y hy, hF2 y hy, hF1 y hy]) hT3)
        · have ihn := ih hc
          have eg : g (i + 1) = gsS q A t' c (i + 1) := by rw [← hg]
          rw [gsS, hg] at eg
          have bi := bcL_N (lkB q A t' i) (n := c) (by omega)
          have il := fb_ct_le (lkB q A t' i) c
          have skip : ¬ (bs (lkB q A t' i) i = 0 ∧ 2 ≤ fb_ct (lkB q A t' i) c) → Jm 94 [some (.ref 0), some (.int (nI t')), some (.int (nI (g i).1)), some (.long (lN (bs (g i).2.1 c))), none, some (.int (nI i)), none, none, none] [] (GC ++ r, wi, wl) 0 0 := fun hn => by
            rw [if_neg hn] at eg
            rw [eg] at ihn
            refine hs 400 94 _ _ _ _ _ ?_
            conv => whnf
            repeat ((first | refine ⟨zG_of _, ?_⟩ | refine ⟨trivial, ?_⟩ | refine ⟨rfl, ?_⟩ | refine ⟨fun hc => absurd hc (by decide), fun _ => ?_⟩ | refine ⟨fun _ => ?_, fun hc => absurd (by decide) hc⟩ | refine ⟨fun _ => ?_, fun hc => absurd hc (by decide)⟩ | refine ⟨fun hc => absurd (by decide) hc, fun _ => ?_⟩); conv => whnf)
            try dsimp only
            rw [nI_add]
            exact ihn
          conv => whnf
          repeat ((first | refine ⟨zG_of _, ?_⟩ | refine ⟨trivial, ?_⟩ | refine ⟨rfl, ?_⟩ | refine ⟨fun hc => absurd hc (by decide), fun _ => ?_⟩ | refine ⟨fun _ => ?_, fun hc => absurd (by decide) hc⟩ | refine ⟨fun _ => ?_, fun hc => absurd hc (by decide)⟩ | refine ⟨fun hc => absurd (by decide) hc, fun _ => ?_⟩); conv => whnf)
          try dsimp only
          refine ⟨d, q, c, A, i, t', hS, rfl, hc, rfl, ht, ?_⟩
          have e : lN (bs (lkB q A t' i) c) &&& (bitF (nI i) - lN 1) = lN (bs (lkB q A t' i) i) := by
            rw [bit_N (by omega), lN_sub (Nat.two_pow_pos i), fb_maskL, bs_mod (by omega)]
          have l2 := bs_lt63 (lkB q A t' i) (show i ≤ 40 by omega)
          have en : lg_cmp (lN (bs (lkB q A t' i) i)) (lN 0) = nI 0 ↔ bs (lkB q A t' i) i = 0 := by
            rw [show (nI 0 : Int32) = 0 from rfl, lg_cmp_eq, fb_lN_inj (by omega) (by decide)]
          conv => whnf
          repeat ((first | refine ⟨zG_of _, ?_⟩ | refine ⟨trivial, ?_⟩ | refine ⟨rfl, ?_⟩ | refine ⟨fun hc => absurd hc (by decide), fun _ => ?_⟩ | refine ⟨fun _ => ?_, fun hc => absurd (by decide) hc⟩ | refine ⟨fun _ => ?_, fun hc => absurd hc (by decide)⟩ | refine ⟨fun hc => absurd (by decide) hc, fun _ => ?_⟩); conv => whnf)
          try dsimp only
          rw [e, en]
          refine ⟨fun hz => ?_, fun hz => ?_⟩
          · conv => whnf
            repeat ((first | refine ⟨zG_of _, ?_⟩ | refine ⟨trivial, ?_⟩ | refine ⟨rfl, ?_⟩ | refine ⟨fun hc => absurd hc (by decide), fun _ => ?_⟩ | refine ⟨fun _ => ?_, fun hc => absurd (by decide) hc⟩ | refine ⟨fun _ => ?_, fun hc => absurd hc (by decide)⟩ | refine ⟨fun hc => absurd (by decide) hc, fun _ => ?_⟩); conv => whnf)
            try dsimp only
            exact skip (fun z => hz z.1)
          · conv => whnf
            repeat ((first | refine ⟨zG_of _, ?_⟩ | refine ⟨trivial, ?_⟩ | refine ⟨rfl, ?_⟩ | refine ⟨fun hc => absurd hc (by decide), fun _ => ?_⟩ | refine ⟨fun _ => ?_, fun hc => absurd (by decide) hc⟩ | refine ⟨fun _ => ?_, fun hc => absurd hc (by decide)⟩ | refine ⟨fun hc => absurd (by decide) hc, fun _ => ?_⟩); conv => whnf)
            try dsimp only
            rw [bi, ltN (by omega) (by omega)]
            refine ⟨fun h2 => ?_, fun h2 => ?_⟩
            · conv => whnf
              repeat ((first | refine ⟨zG_of _, ?_⟩ | refine ⟨trivial, ?_⟩ | refine ⟨rfl, ?_⟩ | refine ⟨fun hc => absurd hc (by decide), fun _ => ?_⟩ | refine ⟨fun _ => ?_, fun hc => absurd (by decide) hc⟩ | refine ⟨fun _ => ?_, fun hc => absurd hc (by decide)⟩ | refine ⟨fun hc => absurd (by decide) hc, fun _ => ?_⟩); conv => whnf)
              try dsimp only
              exact skip (fun z => by omega)
            · rw [if_pos ⟨hz, by omega⟩] at eg
              conv => whnf
              repeat ((first | refine ⟨zG_of _, ?_⟩ | refine ⟨trivial, ?_⟩ | refine ⟨rfl, ?_⟩ | refine ⟨fun hc => absurd hc (by decide), fun _ => ?_⟩ | refine ⟨fun _ => ?_, fun hc => absurd (by decide) hc⟩ | refine ⟨fun _ => ?_, fun hc => absurd hc (by decide)⟩ | refine ⟨fun hc => absurd (by decide) hc, fun _ => ?_⟩); conv => whnf)
              try dsimp only
              rw [bi, bg, ltN (by omega) (by omega)]
              refine ⟨fun h3 => ?_, fun h3 => ?_⟩
              · rw [if_neg (by rw [(gc i).1]; exact h3)] at eg
                rw [eg] at ihn
                conv => whnf
                repeat ((first | refine ⟨zG_of _, ?_⟩ | refine ⟨trivial, ?_⟩ | refine ⟨rfl, ?_⟩ | refine ⟨fun hc => absurd hc (by decide), fun _ => ?_⟩ | refine ⟨fun _ => ?_, fun hc => absurd (by decide) hc⟩ | refine ⟨fun _ => ?_, fun hc => absurd hc (by decide)⟩ | refine ⟨fun hc => absurd (by decide) hc, fun _ => ?_⟩); conv => whnf)
                try dsimp only
                refine hs 400 94 _ _ _ _ _ ?_
                conv => whnf
                repeat ((first | refine ⟨zG_of _, ?_⟩ | refine ⟨trivial, ?_⟩ | refine ⟨rfl, ?_⟩ | refine ⟨fun hc => absurd hc (by decide), fun _ => ?_⟩ | refine ⟨fun _ => ?_, fun hc => absurd (by decide) hc⟩ | refine ⟨fun _ => ?_, fun hc => absurd hc (by decide)⟩ | refine ⟨fun hc => absurd (by decide) hc, fun _ => ?_⟩); conv => whnf)
                try dsimp only
                rw [nI_add, nI_add]
                exact ihn
              · rw [if_pos (by rw [(gc i).1]; exact h3)] at eg
                rw [eg] at ihn
                conv => whnf
                repeat ((first | refine ⟨zG_of _, ?_⟩ | refine ⟨trivial, ?_⟩ | refine ⟨rfl, ?_⟩ | refine ⟨fun hc => absurd hc (by decide), fun _ => ?_⟩ | refine ⟨fun _ => ?_, fun hc => absurd (by decide) hc⟩ | refine ⟨fun _ => ?_, fun hc => absurd hc (by decide)⟩ | refine ⟨fun hc => absurd (by decide) hc, fun _ => ?_⟩); conv => whnf)
                try dsimp only
                refine hs 400 94 _ _ _ _ _ ?_
                conv => whnf
                repeat ((first | refine ⟨zG_of _, ?_⟩ | refine ⟨trivial, ?_⟩ | refine ⟨rfl, ?_⟩ | refine ⟨fun hc => absurd hc (by decide), fun _ => ?_⟩ | refine ⟨fun _ => ?_, fun hc => absurd (by decide) hc⟩ | refine ⟨fun _ => ?_, fun hc => absurd hc (by decide)⟩ | refine ⟨fun hc => absurd (by decide) hc, fun _ => ?_⟩); conv => whnf)
                try dsimp only
                rw [nI_add, nI_add]
                exact ihn)
      have l0 := loop 0 (Nat.zero_le _)
      have e0 : bs (g 0).2.1 c = 0 := bs_0.mpr (fun j _ => by rw [← hg]; rfl)
      have e1 : (g 0).1 = 0 := by rw [← hg]; rfl
      rw [e0, e1] at l0
      conv => whnf
      repeat ((first | refine ⟨zG_of _, ?_⟩ | refine ⟨trivial, ?_⟩ | refine ⟨rfl, ?_⟩ | refine ⟨fun hc => absurd hc (by decide), fun _ => ?_⟩ | refine ⟨fun _ => ?_, fun hc => absurd (by decide) hc⟩ | refine ⟨fun _ => ?_, fun hc => absurd hc (by decide)⟩ | refine ⟨fun hc => absurd (by decide) hc, fun _ => ?_⟩); conv => whnf)
      try dsimp only
      exact l0
    · rw [if_neg h1] at h
      exact ⟨trivial, h wi wl (FrC_refl _ _) hC⟩
def spS (q : Nat) (A : Nat → Nat → Nat) (t : Nat) : Nat → zB4
  | 0 => b0
  | i + 1 => if bkB q (spS q A t i) (A (3 * i + t)) = true then bkS q (spS q A t i) (A (3 * i + t)) else spS q A t i
def spF (q : Nat) (A : Nat → Nat → Nat) (t i : Nat) : Bool := bkB q (spS q A t i) (A (3 * i + t))
def st_spans (T : zT) (t : Int32) : zT × Int32 := if idB 3 t = true then (wTl T (1, upL (fun _ => 0) 0 (lN (bs (spF T.2.1 T.2.2.2.1 t.toNatClampNeg) T.2.2.1))), nI (spS T.2.1 T.2.2.2.1 t.toNatClampNeg T.2.2.1).1) else (T, mI 1)
def sp_X11_spans : zSp := fun av w K => match av with
  | [.ref o, .int t] => o = 0 ∧ zG w.1 ∧ ∃ T, CT w.2.1 w.2.2 T ∧ ∀ wi' wl', FrC w.2.1 w.2.2 wi' wl' → CT wi' wl' (st_spans T t).1 → K (some (.int (st_spans T t).2)) (w.1, wi', wl')
  | _ => False
def rm_X11_spans : Room := { frames := 4, cells := 0, slots := 0, locals := 96 }
def M_X11_spans : zM := (k_X11_spans, f_X11, [(128, 0, 0, 1, 0, 0, sp_X11_isTable), (339, 4, 0, 2, 0, 0, sp_X0_start), (131, 4, 5, 3, 0, 0, sp_X6_formAt), (342, 4, 0, 2, 0, 0, sp_X0_take), (330, 0, 0, 1, 0, 0, sp_X11_bit), (150, 4, 8, 1, 0, 0, sp_X9_clear), (167, 4, 8, 2, 0, 0, sp_X9_add)], ([], [], []), [], [(28, [true, true, true, true, true])], 1, false, (false, 0, fun _ => 0), (0, 0, []))
theorem ca_X11_spans_0 (l : Launch) : z_cok l RX11 (headSpec (.code yX11_spans cX11_spans 5 (some .int) :: zTT) rm_X11_spans).room (false, 0, fun _ => 0) (128, 0, 0, 1, 0, 0, sp_X11_isTable) := z_ca0 (c_X11_isTable l) mb_X11_isTable wt_505 wt_506 (by decide)
theorem ca_X11_spans_1 (l : Launch) : z_cok l RX11 (headSpec (.code yX11_spans cX11_spans 5 (some .int) :: zTT) rm_X11_spans).room (false, 0, fun _ => 0) (339, 4, 0, 2, 0, 0, sp_X0_start) := z_ca4 (c_X0_start l) mb_X0_start ⟨_, rfl, rfl⟩ wt_763 wt_587 wt_588 (by decide)
theorem ca_X11_spans_2 (l : Launch) : z_cok l RX11 (headSpec (.code yX11_spans cX11_spans 5 (some .int) :: zTT) rm_X11_spans).room (false, 0, fun _ => 0) (131, 4, 5, 3, 0, 0, sp_X6_formAt) := z_ca4 (c_X6_formAt l) mb_X6_formAt ⟨_, rfl, rfl⟩ wt_634 wt_408 wt_409 (by decide)
theorem ca_X11_spans_3 (l : Launch) : z_cok l RX11 (headSpec (.code yX11_spans cX11_spans 5 (some .int) :: zTT) rm_X11_spans).room (false, 0, fun _ => 0) (342, 4, 0, 2, 0, 0, sp_X0_take) := z_ca4 (c_X0_take l) mb_X0_take ⟨_, rfl, rfl⟩ wt_764 wt_594 wt_595 (by decide)
theorem ca_X11_spans_4 (l : Launch) : z_cok l RX11 (headSpec (.code yX11_spans cX11_spans 5 (some .int) :: zTT) rm_X11_spans).room (false, 0, fun _ => 0) (330, 0, 0, 1, 0, 0, sp_X11_bit) := z_ca0 (c_X11_bit l) mb_X11_bit wt_752 wt_750 (by decide)
theorem ca_X11_spans_5 (l : Launch) : z_cok l RX11 (headSpec (.code yX11_spans cX11_spans 5 (some .int) :: zTT) rm_X11_spans).room (false, 0, fun _ => 0) (150, 4, 8, 1, 0, 0, sp_X9_clear) := z_ca4 (c_X9_clear l) mb_X9_clear ⟨_, rfl, rfl⟩ wt_429 wt_430 wt_431 (by decide)
theorem ca_X11_spans_6 (l : Launch) : z_cok l RX11 (headSpec (.code yX11_spans cX11_spans 5 (some .int) :: zTT) rm_X11_spans).room (false, 0, fun _ => 0) (167, 4, 8, 2, 0, 0, sp_X9_add) := z_ca4 (c_X9_add l) mb_X9_add ⟨_, rfl, rfl⟩ wt_469 wt_470 wt_471 (by decide)
theorem O_X11_spans (l : Launch) : z_OK l RX11 cX11_spans (headSpec (.code yX11_spans cX11_spans 5 (some .int) :: zTT) rm_X11_spans).room M_X11_spans := ⟨ok_X11_spans, fo_X11, List.forall_mem_cons.mpr ⟨ca_X11_spans_0 l, List.forall_mem_cons.mpr ⟨ca_X11_spans_1 l, List.forall_mem_cons.mpr ⟨ca_X11_spans_2 l, List.forall_mem_cons.mpr ⟨ca_X11_spans_3 l, List.forall_mem_cons.mpr ⟨ca_X11_spans_4 l, List.forall_mem_cons.mpr ⟨ca_X11_spans_5 l, List.forall_mem_cons.mpr ⟨ca_X11_spans_6 l, fun _ h => absurd h List.not_mem_nil⟩⟩⟩⟩⟩⟩⟩, fun _ h => absurd h List.not_mem_nil, fun _ h => absurd h List.not_mem_nil, fun _ h => absurd h List.not_mem_nil, fun _ h => absurd h List.not_mem_nil, rfl, rfl, fun _ h => absurd h List.not_mem_nil⟩
theorem c_X11_spans (l : Launch) : z_CS l yX11_spans cX11_spans 5 (some .int) rm_X11_spans sp_X11_spans := by
  refine z_meth (by decide) (Or.inr (Or.inl ⟨rfl, rfl⟩)) (fun h => by cases h) rfl (O_X11_spans l) ?_
  intro av w K h
  match av, h with
  | [.ref o, .int t], h =>
    obtain ⟨rfl, ⟨r, hG⟩, ⟨d, q, c, A, kp, tx, tl⟩, hC, h⟩ := h
    obtain ⟨G, wi, wl⟩ := w
    subst hG
    try dsimp only at h hC
    unfold st_spans wTl at h
    dsimp only at h
    have hS := ct_S hC
    have h40 := cs_40 hS
    refine ⟨Nat.le_of_ble_eq_true rfl, fun Jm hs => ?_⟩
    refine hs 400 0 _ _ _ _ _ ?_
    conv => whnf
    repeat ((first | refine ⟨zG_of _, ?_⟩ | refine ⟨trivial, ?_⟩ | refine ⟨rfl, ?_⟩ | refine ⟨fun hc => absurd hc (by decide), fun _ => ?_⟩ | refine ⟨fun _ => ?_, fun hc => absurd (by decide) hc⟩ | refine ⟨fun _ => ?_, fun hc => absurd hc (by decide)⟩ | refine ⟨fun hc => absurd (by decide) hc, fun _ => ?_⟩); conv => whnf)
    try dsimp only
    rw [isT_B, bI_0, Classical.not_not]
    refine ⟨fun h1 => ?_, fun h1 => ?_⟩
    · rw [if_pos h1] at h
      obtain ⟨t', ht, rfl⟩ := idB_N h1 (by omega)
      rw [nc_N (by omega)] at h
      have loop := up_ind (P := fun i => ∀ wi' : Nat → Nat → Int32, F4 31 wi wi' → BS wi' 31 q (spS q A t' i) → Jm 28 [some (.ref 0), some (.int (nI t')), some (.long (lN (bs (spF q A t') i))), none, some (.int (nI i))] [] (GC ++ r, wi', wl) 0 0) c (fun i hi ih => by
        intro wi' hF hB
        have hX : CT wi' wl (d, q, c, A, kp, tx, tl) := ct_same hC (fun y hy => hF y (by omega) (by omega) (by omega) (by omega)) rfl
        have hS' := ct_S hX
        refine hs 400 28 _ _ _ _ _ ?_
        conv => whnf
        repeat ((first | refine ⟨zG_of _, ?_⟩ | refine ⟨trivial, ?_⟩ | refine ⟨rfl, ?_⟩ | refine ⟨fun hc => absurd hc (by decide), fun _ => ?_⟩ | refine ⟨fun _ => ?_, fun hc => absurd (by decide) hc⟩ | refine ⟨fun _ => ?_, fun hc => absurd hc (by decide)⟩ | refine ⟨fun hc => absurd (by decide) hc, fun _ => ?_⟩); conv => whnf)
        try dsimp only
        rw [cs_c hS', ltN (by omega) (by omega)]
        refine ⟨fun hc => ?_, fun hc => ?_⟩
        · obtain hin : i = c := by omega
          rw [hin] at hB ⊢
          conv => whnf
          repeat ((first | refine ⟨zG_of _, ?_⟩ | refine ⟨trivial, ?_⟩ | refine ⟨rfl, ?_⟩ | refine ⟨fun hc => absurd hc (by decide), fun _ => ?_⟩ | refine ⟨fun _ => ?_, fun hc => absurd (by decide) hc⟩ | refine ⟨fun _ => ?_, fun hc => absurd hc (by decide)⟩ | refine ⟨fun hc => absurd (by decide) hc, fun _ => ?_⟩); conv => whnf)
          try dsimp only
          intro wi1 hF1 hT1
          conv => whnf
          repeat ((first | refine ⟨zG_of _, ?_⟩ | refine ⟨trivial, ?_⟩ | refine ⟨rfl, ?_⟩ | refine ⟨fun hc => absurd hc (by decide), fun _ => ?_⟩ | refine ⟨fun _ => ?_, fun hc => absurd (by decide) hc⟩ | refine ⟨fun _ => ?_, fun hc => absurd hc (by decide)⟩ | refine ⟨fun hc => absurd (by decide) hc, fun _ => ?_⟩); conv => whnf)
          try dsimp only
          refine ⟨0, _, hT1, by decide, fun wi2 wl2 hF2 hL2 hT2 => ?_⟩
          have e31 : wi2 31 4 = nI (spS q A t' c).1 := by rw [hF2 31 (by decide), hF1 31 (by decide)]; exact hB.1.2
          have h := h wi2 wl2 (fun y hy => ⟨by rw [hF2 y (by omega), hF1 y (by omega), hF y (by omega) (by omega) (by omega) (by omega)], hL2 y (by omega)⟩) (ct_told hX (fun y hy => by rw [hF2 y hy, hF1 y hy]) hT2)
          rw [← e31] at h
          conv => whnf
          repeat ((first | refine ⟨zG_of _, ?_⟩ | refine ⟨trivial, ?_⟩ | refine ⟨rfl, ?_⟩ | refine ⟨fun hc => absurd hc (by decide), fun _ => ?_⟩ | refine ⟨fun _ => ?_, fun hc => absurd (by decide) hc⟩ | refine ⟨fun _ => ?_, fun hc => absurd hc (by decide)⟩ | refine ⟨fun hc => absurd (by decide) hc, fun _ => ?_⟩); conv => whnf)
          try dsimp only
          exact h
        · have ihn := ih hc
          conv => whnf
          repeat ((first | refine ⟨zG_of _, ?_⟩ | refine ⟨trivial, ?_⟩ | refine ⟨rfl, ?_⟩ | refine ⟨fun hc => absurd hc (by decide), fun _ => ?_⟩ | refine ⟨fun _ => ?_, fun hc => absurd (by decide) hc⟩ | refine ⟨fun _ => ?_, fun hc => absurd hc (by decide)⟩ | refine ⟨fun hc => absurd (by decide) hc, fun _ => ?_⟩); conv => whnf)
          try dsimp only
          refine ⟨Or.inr rfl, zG_of _, q, _, A (3 * i + t'), hB, fm_S hS' hc ht, cs_A hS _ (by omega), fun hb wi1 hF1 hB1 => ?_, fun hb wi1 hF1 hB1 => ?_⟩
          · have e1 : spS q A t' (i + 1) = spS q A t' i := if_neg hb
            have e2 : bs (spF q A t') (i + 1) = bs (spF q A t') i := bs_f hb
            rw [e1, e2] at ihn
            conv => whnf
            repeat ((first | refine ⟨zG_of _, ?_⟩ | refine ⟨trivial, ?_⟩ | refine ⟨rfl, ?_⟩ | refine ⟨fun hc => absurd hc (by decide), fun _ => ?_⟩ | refine ⟨fun _ => ?_, fun hc => absurd (by decide) hc⟩ | refine ⟨fun _ => ?_, fun hc => absurd hc (by decide)⟩ | refine ⟨fun hc => absurd (by decide) hc, fun _ => ?_⟩); conv => whnf)
            try dsimp only
            rw [nI_add]
            exact ihn wi1 (fun y g1 g2 g3 g4 => by rw [hF1 y g1 g2 g3 g4, hF y g1 g2 g3 g4]) hB1
          · have e1 : spS q A t' (i + 1) = bkS q (spS q A t' i) (A (3 * i + t')) := if_pos hb
            have e2 : bs (spF q A t') (i + 1) = bs (spF q A t') i ||| 2 ^ i := bs_t hb
            rw [e1, e2, ← fb_orL, ← bit_N (by omega)] at ihn
            conv => whnf
            repeat ((first | refine ⟨zG_of _, ?_⟩ | refine ⟨trivial, ?_⟩ | refine ⟨rfl, ?_⟩ | refine ⟨fun hc => absurd hc (by decide), fun _ => ?_⟩ | refine ⟨fun _ => ?_, fun hc => absurd (by decide) hc⟩ | refine ⟨fun _ => ?_, fun hc => absurd hc (by decide)⟩ | refine ⟨fun hc => absurd (by decide) hc, fun _ => ?_⟩); conv => whnf)
            try dsimp only
            rw [nI_add]
            exact ihn wi1 (fun y g1 g2 g3 g4 => by rw [hF1 y g1 g2 g3 g4, hF y g1 g2 g3 g4]) hB1)
      conv => whnf
      repeat ((first | refine ⟨zG_of _, ?_⟩ | refine ⟨trivial, ?_⟩ | refine ⟨rfl, ?_⟩ | refine ⟨fun hc => absurd hc (by decide), fun _ => ?_⟩ | refine ⟨fun _ => ?_, fun hc => absurd (by decide) hc⟩ | refine ⟨fun _ => ?_, fun hc => absurd hc (by decide)⟩ | refine ⟨fun hc => absurd (by decide) hc, fun _ => ?_⟩); conv => whnf)
      try dsimp only
      refine ⟨Or.inr rfl, zG_of _, q, cs_q hS, cs_q23 hS, fun wi1 hF1 hB1 => ?_⟩
      conv => whnf
      repeat ((first | refine ⟨zG_of _, ?_⟩ | refine ⟨trivial, ?_⟩ | refine ⟨rfl, ?_⟩ | refine ⟨fun hc => absurd hc (by decide), fun _ => ?_⟩ | refine ⟨fun _ => ?_, fun hc => absurd (by decide) hc⟩ | refine ⟨fun _ => ?_, fun hc => absurd hc (by decide)⟩ | refine ⟨fun hc => absurd (by decide) hc, fun _ => ?_⟩); conv => whnf)
      try dsimp only
      exact loop 0 (Nat.zero_le _) wi1 (fun y g1 _ _ _ => hF1 y g1) hB1
    · rw [if_neg h1] at h
      exact ⟨trivial, h wi wl (FrC_refl _ _) hC⟩

