/-! the reference: spans -/
theorem sp_bv {q : Nat} (hq : q = 2 ∨ q = 3) {d : Nat → Nat} {c t : Nat} {A : Nat → Nat → Nat} (hd : ∀ t, t < 3 → 1 ≤ d t ∧ d t ≤ 3) (ht : t < 3) (hA : ∀ k, k < 3 * c → ∀ p, p < 9 → A k p < q) (hZ : ZS d c A) : ∀ i, i ≤ c → BV q (pl d t) (spS q A t i)
  | 0, _ => BV_0 q (pl d t)
  | i + 1, hi => by
    have ih := sp_bv hq hd ht hA hZ i (by omega)
    have p9 := (pl_le hd ht).2
    have ha := hA (3 * i + t) (by omega)
    have hz := zs_at hZ (show i < c by omega) ht
    rw [spS]
    split
    · rename_i h
      exact BV_s hq p9 ih ha hz ((bk_not hq p9 ih ha hz).mp h)
    · exact ih
theorem sp_stop {q : Nat} (hq : q = 2 ∨ q = 3) {d : Nat → Nat} {c t : Nat} {A : Nat → Nat → Nat} (hd : ∀ t, t < 3 → 1 ≤ d t ∧ d t ≤ 3) (ht : t < 3) (hA : ∀ k, k < 3 * c → ∀ p, p < 9 → A k p < q) (hZ : ZS d c A) {i : Nat} (hfull : (spS q A t i).1 = pl d t) : ∀ k, i + k ≤ c → spS q A t (i + k) = spS q A t i ∧ bs (spF q A t) (i + k) = bs (spF q A t) i
  | 0, _ => ⟨rfl, rfl⟩
  | k + 1, hk => by
    have ih := sp_stop hq hd ht hA hZ hfull k (by omega)
    have p9 := (pl_le hd ht).2
    have ha := hA (3 * (i + k) + t) (by omega)
    have hz := zs_at hZ (show i + k < c by omega) ht
    have bv := sp_bv hq hd ht hA hZ (i + k) (by omega)
    have n : ¬ bkB q (spS q A t (i + k)) (A (3 * (i + k) + t)) = true := fun z => (bk_not hq p9 bv ha hz).mp z (BV_full hq p9 bv (by rw [ih.1]; exact hfull) ha hz)
    have e1 : spS q A t (i + k + 1) = spS q A t (i + k) := if_neg n
    have e2 : bs (spF q A t) (i + k + 1) = bs (spF q A t) (i + k) := bs_f n
    exact ⟨e1.trans ih.1, e2.trans ih.2⟩
theorem mt_o {wi wi' : Nat → Nat → Int32} {wl : Nat → Nat → Int64} {T : zT} (h : MT wi wl T) (h1 : ∀ y, y ≠ 45 → y ≠ 59 → wi' y = wi y) (h2 : ∀ j, j ≠ 29 → wi' 45 j = wi 45 j) : MT wi' wl T := mt_same h (fun i hi => h2 i (by omega)) (fun y hy => h1 y (by omega) (by omega)) rfl
def sp_X12_spans : zSp := fun av w K => match av with
  | [.ref o, .int t] => o = 45 ∧ zH w.1 ∧ ∃ T, MT w.2.1 w.2.2 T ∧ ZT T ∧ ∀ wi' wl', FrM w.2.1 w.2.2 wi' wl' → MT wi' wl' (st_spans T t).1 → K (some (.int (st_spans T t).2)) (w.1, wi', wl')
  | _ => False
def rm_X12_spans : Room := { frames := 2, cells := 0, slots := 0, locals := 49 }
def M_X12_spans : zM := (k_X12_spans, f_X12, [(170, 0, 0, 1, 0, 0, sp_X12_isTable), (96, 4, 10, 2, 0, 0, sp_X12_placesOf), (339, 4, 10, 3, 0, 0, sp_X12_frees), (192, 4, 10, 2, 0, 0, sp_X12_tell)], ([], [], []), [], [(24, [true, true, true, true, true])], 1, false, (false, 0, fun _ => 0), (0, 0))
theorem ca_X12_spans_0 (l : Launch) : z_cok l RX12 (headSpec (.code yX12_spans cX12_spans 5 (some .int) :: zTT) rm_X12_spans).room (170, 0, 0, 1, 0, 0, sp_X12_isTable) := z_ca0 (c_X12_isTable l) mb_X12_isTable wt_1338 wt_1339 (by decide)
theorem ca_X12_spans_1 (l : Launch) : z_cok l RX12 (headSpec (.code yX12_spans cX12_spans 5 (some .int) :: zTT) rm_X12_spans).room (96, 4, 10, 2, 0, 0, sp_X12_placesOf) := z_ca4 (c_X12_placesOf l) mb_X12_placesOf ⟨_, rfl, rfl⟩ wt_1349 wt_1351 wt_45 (by decide)
theorem ca_X12_spans_2 (l : Launch) : z_cok l RX12 (headSpec (.code yX12_spans cX12_spans 5 (some .int) :: zTT) rm_X12_spans).room (339, 4, 10, 3, 0, 0, sp_X12_frees) := z_ca4 (c_X12_frees l) mb_X12_frees ⟨_, rfl, rfl⟩ wt_1612 wt_1614 wt_82 (by decide)
theorem ca_X12_spans_3 (l : Launch) : z_cok l RX12 (headSpec (.code yX12_spans cX12_spans 5 (some .int) :: zTT) rm_X12_spans).room (192, 4, 10, 2, 0, 0, sp_X12_tell) := z_ca4 (c_X12_tell l) mb_X12_tell ⟨_, rfl, rfl⟩ wt_1369 wt_1371 wt_49 (by decide)
theorem O_X12_spans (l : Launch) : z_OK l RX12 cX12_spans (headSpec (.code yX12_spans cX12_spans 5 (some .int) :: zTT) rm_X12_spans).room M_X12_spans := ⟨ok_X12_spans, fo_X12, List.forall_mem_cons.mpr ⟨ca_X12_spans_0 l, List.forall_mem_cons.mpr ⟨ca_X12_spans_1 l, List.forall_mem_cons.mpr ⟨ca_X12_spans_2 l, List.forall_mem_cons.mpr ⟨ca_X12_spans_3 l, fun _ h => absurd h List.not_mem_nil⟩⟩⟩⟩, fun _ h => absurd h List.not_mem_nil, fun _ h => absurd h List.not_mem_nil, fun _ h => absurd h List.not_mem_nil, fun _ h => absurd h List.not_mem_nil, rfl, rfl⟩
theorem c_X12_spans (l : Launch) : z_CS l yX12_spans cX12_spans 5 (some .int) rm_X12_spans sp_X12_spans := by
  refine z_meth (by decide) (Or.inr (Or.inl ⟨rfl, rfl⟩)) (fun h => by cases h) rfl (O_X12_spans l) ?_
  intro av w K h
  match av, h with
  | [.ref o, .int t], h =>
    obtain ⟨rfl, ⟨r, hG⟩, ⟨d, q, c, A, kp, tx, tl⟩, hC, hZ, h⟩ := h
    obtain ⟨G, wi, wl⟩ := w
    subst hG
    try dsimp only at h hC hZ
    have hC := mt_fld (i := 11) (v := nI 0) hC (by decide)
    have hF0 : FrM wi wl (z_up wi 45 11 (nI 0)) wl := fm_fld
    refine ⟨Nat.le_of_ble_eq_true rfl, fun Jm hs => ?_⟩
    unfold st_spans wTl at h
    dsimp only at h
    refine hs 400 0 _ _ _ _ _ ?_
    conv => whnf
    repeat ((first | refine ⟨zH_of _, ?_⟩ | refine ⟨trivial, ?_⟩ | refine ⟨rfl, ?_⟩ | refine ⟨fun hc => absurd hc (by decide), fun _ => ?_⟩ | refine ⟨fun _ => ?_, fun hc => absurd (by decide) hc⟩ | refine ⟨fun _ => ?_, fun hc => absurd hc (by decide)⟩ | refine ⟨fun hc => absurd (by decide) hc, fun _ => ?_⟩); conv => whnf)
    try dsimp only
    generalize z_up wi 45 11 (nI 0) = wi0 at *
    have hS := mt_S hC
    have h40 := ms_40 hS
    have q23 := ms_q23 hS
    have hd := ms_hd hS
    have hZ1 : ZS d c A := hZ.1
    rw [bI_0, Classical.not_not]
    refine ⟨fun h1 => ?_, fun h1 => ?_⟩
    case refine_2 =>
      rw [if_neg h1] at h
      exact ⟨trivial, h wi0 wl hF0 hC⟩
    rw [if_pos h1] at h
    obtain ⟨t', ht, rfl⟩ := idB_N h1 (by omega)
    rw [nc_N (by omega)] at h
    have p9 := pl_le hd ht
    have bv := sp_bv q23 hd ht (ms_A hS) hZ1
    have loop := up_ind (P := fun i => ∀ wi' : Nat → Nat → Int32, (∀ y, y ≠ 45 → y ≠ 59 → wi' y = wi0 y) → (∀ j, j ≠ 29 → wi' 45 j = wi0 45 j) → BM wi' q (spS q A t' i) → Jm 24 [some (.ref 45), some (.int (nI t')), some (.long (lN (bs (spF q A t') i))), none, some (.int (nI i))] [] (GC ++ (GM ++ r), wi', wl) 0 0) c (fun i hi ih => by
      intro wi' hF hI hB
      have hX := mt_o hC hF hI
      have hS' := mt_S hX
      have bl := BV_le (bv i hi)
      have fin : spS q A t' c = spS q A t' i → bs (spF q A t') c = bs (spF q A t') i → Jm 24 [some (.ref 45), some (.int (nI t')), some (.long (lN (bs (spF q A t') i))), none, some (.int (nI i))] [] (GC ++ (GM ++ r), wi', wl) 0 0 → True := fun _ _ _ => trivial
      have out : spS q A t' c = spS q A t' i → bs (spF q A t') c = bs (spF q A t') i → ∀ (wi1 : Nat → Nat → Int32), TF wi' wl wi1 wl → TM wi1 wl 0 (fun _ => 0) → wi1 45 29 = wi' 45 29 → ∀ wi2 wl2, (∀ y, y ≠ 45 → wi2 y = wi1 y) → (∀ j, j ≠ 10 → wi2 45 j = wi1 45 j) → (∀ y, y ≠ 51 → wl2 y = wl y) → TM wi2 wl2 (0 + 1) (upL (fun _ => 0) 0 (lN (bs (spF q A t') i))) → K (some (.int (wi2 45 29))) (GC ++ (GM ++ r), wi2, wl2) := fun e1 e2 wi1 T1 M1 k29 wi2 wl2 a1 a2 a3 M2 => by
        have T2 := tf_trans T1 (tf_tell a1 a2 a3)
        rw [e1, e2] at h
        have h := h wi2 wl2 (FrM_trans hF0 (FrM_trans (fun y hy => ⟨hF y (by omega) (by omega), rfl⟩) (tf_fr T2))) (tf_mt T2 hX M2)
        rw [a2 29 (by decide), k29, hB.1]
        exact h
      refine hs 400 24 _ _ _ _ _ ?_
      conv => whnf
      repeat ((first | refine ⟨zH_of _, ?_⟩ | refine ⟨trivial, ?_⟩ | refine ⟨rfl, ?_⟩ | refine ⟨fun hc => absurd hc (by decide), fun _ => ?_⟩ | refine ⟨fun _ => ?_, fun hc => absurd (by decide) hc⟩ | refine ⟨fun _ => ?_, fun hc => absurd hc (by decide)⟩ | refine ⟨fun hc => absurd (by decide) hc, fun _ => ?_⟩); conv => whnf)
      try dsimp only
      rw [ms_c hS', ltN (by omega) (by omega)]
      refine ⟨fun hc => ?_, fun hc => ?_⟩
      · obtain hin : i = c := by omega
        have out := out (by rw [hin]) (by rw [hin]) (z_up wi' 45 10 (nI 0)) (tf_fld (by decide)) tm_0 (z_up_nei (by decide))
        have M1 : TM (z_up wi' 45 10 (nI 0)) wl 0 (fun _ => 0) := tm_0
        conv => whnf
        repeat ((first | refine ⟨zH_of _, ?_⟩ | refine ⟨trivial, ?_⟩ | refine ⟨rfl, ?_⟩ | refine ⟨fun hc => absurd hc (by decide), fun _ => ?_⟩ | refine ⟨fun _ => ?_, fun hc => absurd (by decide) hc⟩ | refine ⟨fun _ => ?_, fun hc => absurd hc (by decide)⟩ | refine ⟨fun hc => absurd (by decide) hc, fun _ => ?_⟩); conv => whnf)
        try dsimp only
        generalize z_up wi' 45 10 (nI 0) = wi1 at *
        refine ⟨0, _, M1, by decide, fun wi2 wl2 a1 a2 a3 M2 => ?_⟩
        conv => whnf
        repeat ((first | refine ⟨zH_of _, ?_⟩ | refine ⟨trivial, ?_⟩ | refine ⟨rfl, ?_⟩ | refine ⟨fun hc => absurd hc (by decide), fun _ => ?_⟩ | refine ⟨fun _ => ?_, fun hc => absurd (by decide) hc⟩ | refine ⟨fun _ => ?_, fun hc => absurd hc (by decide)⟩ | refine ⟨fun hc => absurd (by decide) hc, fun _ => ?_⟩); conv => whnf)
        try dsimp only
        exact out wi2 wl2 a1 a2 a3 M2
      · have ih := ih hc
        conv => whnf
        repeat ((first | refine ⟨zH_of _, ?_⟩ | refine ⟨trivial, ?_⟩ | refine ⟨rfl, ?_⟩ | refine ⟨fun hc => absurd hc (by decide), fun _ => ?_⟩ | refine ⟨fun _ => ?_, fun hc => absurd (by decide) hc⟩ | refine ⟨fun _ => ?_, fun hc => absurd hc (by decide)⟩ | refine ⟨fun hc => absurd (by decide) hc, fun _ => ?_⟩); conv => whnf)
        try dsimp only
        refine ⟨t', rfl, ht, ?_⟩
        rw [mpl hS' ht]
        conv => whnf
        repeat ((first | refine ⟨zH_of _, ?_⟩ | refine ⟨trivial, ?_⟩ | refine ⟨rfl, ?_⟩ | refine ⟨fun hc => absurd hc (by decide), fun _ => ?_⟩ | refine ⟨fun _ => ?_, fun hc => absurd (by decide) hc⟩ | refine ⟨fun _ => ?_, fun hc => absurd hc (by decide)⟩ | refine ⟨fun hc => absurd (by decide) hc, fun _ => ?_⟩); conv => whnf)
        try dsimp only
        rw [hB.1, ltN (by omega) (by omega)]
        refine ⟨fun hf => ?_, fun hf => ?_⟩
        · have st := sp_stop q23 hd ht (ms_A hS) hZ1 (i := i) (by omega) (c - i) (by omega)
          rw [show i + (c - i) = c by omega] at st
          have out := out st.1 st.2 (z_up wi' 45 10 (nI 0)) (tf_fld (by decide)) tm_0 (z_up_nei (by decide))
          have M1 : TM (z_up wi' 45 10 (nI 0)) wl 0 (fun _ => 0) := tm_0
          conv => whnf
          repeat ((first | refine ⟨zH_of _, ?_⟩ | refine ⟨trivial, ?_⟩ | refine ⟨rfl, ?_⟩ | refine ⟨fun hc => absurd hc (by decide), fun _ => ?_⟩ | refine ⟨fun _ => ?_, fun hc => absurd (by decide) hc⟩ | refine ⟨fun _ => ?_, fun hc => absurd hc (by decide)⟩ | refine ⟨fun hc => absurd (by decide) hc, fun _ => ?_⟩); conv => whnf)
          try dsimp only
          generalize z_up wi' 45 10 (nI 0) = wi1 at *
          refine ⟨0, _, M1, by decide, fun wi2 wl2 a1 a2 a3 M2 => ?_⟩
          conv => whnf
          repeat ((first | refine ⟨zH_of _, ?_⟩ | refine ⟨trivial, ?_⟩ | refine ⟨rfl, ?_⟩ | refine ⟨fun hc => absurd hc (by decide), fun _ => ?_⟩ | refine ⟨fun _ => ?_, fun hc => absurd (by decide) hc⟩ | refine ⟨fun _ => ?_, fun hc => absurd hc (by decide)⟩ | refine ⟨fun hc => absurd (by decide) hc, fun _ => ?_⟩); conv => whnf)
          try dsimp only
          exact out wi2 wl2 a1 a2 a3 M2
        · have bk := bk_not q23 p9.2 (bv i hi) (ms_A hS (3 * i + t') (by omega)) (zs_at hZ1 hc ht)
          conv => whnf
          repeat ((first | refine ⟨zH_of _, ?_⟩ | refine ⟨trivial, ?_⟩ | refine ⟨rfl, ?_⟩ | refine ⟨fun hc => absurd hc (by decide), fun _ => ?_⟩ | refine ⟨fun _ => ?_, fun hc => absurd (by decide) hc⟩ | refine ⟨fun _ => ?_, fun hc => absurd hc (by decide)⟩ | refine ⟨fun hc => absurd (by decide) hc, fun _ => ?_⟩); conv => whnf)
          try dsimp only
          refine ⟨d, q, c, A, i, t', spS q A t' i, hS', rfl, hc, rfl, ht, hB, by omega, fun hz wi1 hF1 hB1 => ?_, fun hz wi1 hF1 hI1 hB1 => ?_⟩
          · have n : ¬ bkB q (spS q A t' i) (A (3 * i + t')) = true := fun z => bk.mp z hz
            have e1 : spS q A t' (i + 1) = spS q A t' i := if_neg n
            have e2 : bs (spF q A t') (i + 1) = bs (spF q A t') i := bs_f n
            rw [e1, e2] at ih
            conv => whnf
            repeat ((first | refine ⟨zH_of _, ?_⟩ | refine ⟨trivial, ?_⟩ | refine ⟨rfl, ?_⟩ | refine ⟨fun hc => absurd hc (by decide), fun _ => ?_⟩ | refine ⟨fun _ => ?_, fun hc => absurd (by decide) hc⟩ | refine ⟨fun _ => ?_, fun hc => absurd hc (by decide)⟩ | refine ⟨fun hc => absurd (by decide) hc, fun _ => ?_⟩); conv => whnf)
            try dsimp only
            rw [fb_orL, Nat.or_zero, nI_add]
            exact ih wi1 (fun y g1 g2 => by rw [hF1 y g2, hF y g1 g2]) (fun j hj => by rw [hF1 45 (by decide), hI j hj]) hB1
          · have n := bk.mpr hz
            have e1 : spS q A t' (i + 1) = bkS q (spS q A t' i) (A (3 * i + t')) := if_pos n
            have e2 : bs (spF q A t') (i + 1) = bs (spF q A t') i ||| 2 ^ i := bs_t n
            rw [e1, e2, ← fb_orL, ← bit_N (by omega)] at ih
            conv => whnf
            repeat ((first | refine ⟨zH_of _, ?_⟩ | refine ⟨trivial, ?_⟩ | refine ⟨rfl, ?_⟩ | refine ⟨fun hc => absurd hc (by decide), fun _ => ?_⟩ | refine ⟨fun _ => ?_, fun hc => absurd (by decide) hc⟩ | refine ⟨fun _ => ?_, fun hc => absurd hc (by decide)⟩ | refine ⟨fun hc => absurd (by decide) hc, fun _ => ?_⟩); conv => whnf)
            try dsimp only
            rw [nI_add]
            exact ih wi1 (fun y g1 g2 => by rw [hF1 y g1 g2, hF y g1 g2]) (fun j hj => by rw [hI1 j hj, hI j hj]) hB1)
    have l0 := loop 0 (Nat.zero_le _) (z_up wi0 45 29 (nI 0)) (fun y g1 _ => z_up_ne g1) (fun j hj => z_up_nei hj) ⟨z_up_eq, Nat.zero_le _, fun k hk => absurd hk (Nat.not_lt_zero k)⟩
    conv => whnf
    repeat ((first | refine ⟨zH_of _, ?_⟩ | refine ⟨trivial, ?_⟩ | refine ⟨rfl, ?_⟩ | refine ⟨fun hc => absurd hc (by decide), fun _ => ?_⟩ | refine ⟨fun _ => ?_, fun hc => absurd (by decide) hc⟩ | refine ⟨fun _ => ?_, fun hc => absurd hc (by decide)⟩ | refine ⟨fun hc => absurd (by decide) hc, fun _ => ?_⟩); conv => whnf)
    try dsimp only
    exact l0

