/-! the reference: tables read, multiplied -/
theorem nuL_lt {x : Nat → Nat} {L q : Nat} (hq : 0 < q) : ∀ m s, (nuL x L q m).2.2 s < q
  | 0, _ => hq
  | m + 1, s => by
    have ih := nuL_lt (x := x) (L := L) hq m
    rw [nuL]
    generalize (if m = 0 then (nuL x L q m).2.1 else (nuL x L q m).2.1 + 1) = k
    split
    · split
      · exact ih s
      · split
        · rename_i h
          show setp _ m _ s < q
          unfold setp
          split
          · omega
          · exact ih s
        · exact ih s
    · exact ih s
def FTb (wi wi' : Nat → Nat → Int32) : Prop := (∀ y, y ≠ 45 → y ≠ 53 → wi' y = wi y) ∧ ∀ i, i ≠ 13 → i ≠ 14 → wi' 45 i = wi 45 i
theorem ftb_refl {wi : Nat → Nat → Int32} : FTb wi wi := ⟨fun _ _ _ => rfl, fun _ _ _ => rfl⟩
theorem ftb_trans {wi wi' wi2 : Nat → Nat → Int32} (h : FTb wi wi') (h2 : FTb wi' wi2) : FTb wi wi2 := ⟨fun y g1 g2 => (h2.1 y g1 g2).trans (h.1 y g1 g2), fun i g1 g2 => (h2.2 i g1 g2).trans (h.2 i g1 g2)⟩
theorem ftb_13 {wi : Nat → Nat → Int32} {v : Int32} : FTb wi (z_up wi 45 13 v) := ⟨fun y g1 _ => z_up_ne g1, fun i g1 _ => z_up_nei g1⟩
theorem ftb_14 {wi : Nat → Nat → Int32} {v : Int32} : FTb wi (z_up wi 45 14 v) := ⟨fun y g1 _ => z_up_ne g1, fun i _ g1 => z_up_nei g1⟩
theorem ftb_53 {wi : Nat → Nat → Int32} {j : Nat} {v : Int32} : FTb wi (z_up wi 53 j v) := ⟨fun y _ g1 => z_up_ne g1, fun i _ _ => by rw [z_up_ne (by decide)]⟩
def TbP (wi' : Nat → Nat → Int32) (L n : Nat) (R : Bool × Nat × (Nat → Nat)) : Prop := (ffI R.1 R.2.1 L = mI 1 ∧ wi' 45 14 = mI 1 ∧ ∀ s, s < n → wi' 53 s = nI (R.2.2 s)) ∨ ∃ k', ffI R.1 R.2.1 L = nI k' ∧ wi' 45 14 = nI k' ∧ k' ≤ 400
def sp_X12_readTables : zSp := fun av w K => match av with
  | [.ref o, .int n] => o = 45 ∧ zH w.1 ∧ ∃ L x q n', XR w.2.1 L x 0 ∧ w.2.1 45 14 = mI 1 ∧ w.2.1 45 1 = nI q ∧ (q = 2 ∨ q = 3) ∧ n = nI n' ∧ n' ≤ 18 ∧ ∀ wi', FTb w.2.1 wi' → TbP wi' L n' (nuL x L q n') → K none (w.1, wi', w.2.2)
  | _ => False
def rm_X12_readTables : Room := { frames := 3, cells := 0, slots := 0, locals := 62 }
def M_X12_readTables : zM := (k_X12_readTables, f_X12, [(133, 4, 10, 2, 0, 0, sp_X12_expect), (122, 4, 10, 1, 0, 0, sp_X12_sees), (80, 0, 0, 3, 0, 0, sp_X12_in), (130, 4, 10, 2, 0, 0, sp_X12_fault), (157, 4, 10, 1, 0, 0, sp_X12_ends)], ([], [], []), [], [(2, [true, true, true, false]), (17, [true, true, true, false])], 0, false, (false, 0, fun _ => 0), (0, 0))
theorem ca_X12_readTables_0 (l : Launch) : z_cok l RX12 (headSpec (.code yX12_readTables cX12_readTables 4 none :: zTT) rm_X12_readTables).room (133, 4, 10, 2, 0, 0, sp_X12_expect) := z_ca4 (c_X12_expect l) mb_X12_expect ⟨_, rfl, rfl⟩ wt_1274 wt_1276 wt_31 (by decide)
theorem ca_X12_readTables_1 (l : Launch) : z_cok l RX12 (headSpec (.code yX12_readTables cX12_readTables 4 none :: zTT) rm_X12_readTables).room (122, 4, 10, 1, 0, 0, sp_X12_sees) := z_ca4 (c_X12_sees l) mb_X12_sees ⟨_, rfl, rfl⟩ wt_1282 wt_1284 wt_33 (by decide)
theorem ca_X12_readTables_2 (l : Launch) : z_cok l RX12 (headSpec (.code yX12_readTables cX12_readTables 4 none :: zTT) rm_X12_readTables).room (80, 0, 0, 3, 0, 0, sp_X12_in) := z_ca0 (c_X12_in l) mb_X12_in wt_1253 wt_1254 (by decide)
theorem ca_X12_readTables_3 (l : Launch) : z_cok l RX12 (headSpec (.code yX12_readTables cX12_readTables 4 none :: zTT) rm_X12_readTables).room (130, 4, 10, 2, 0, 0, sp_X12_fault) := z_ca4 (c_X12_fault l) mb_X12_fault ⟨_, rfl, rfl⟩ wt_1286 wt_1288 wt_34 (by decide)
theorem ca_X12_readTables_4 (l : Launch) : z_cok l RX12 (headSpec (.code yX12_readTables cX12_readTables 4 none :: zTT) rm_X12_readTables).room (157, 4, 10, 1, 0, 0, sp_X12_ends) := z_ca4 (c_X12_ends l) mb_X12_ends ⟨_, rfl, rfl⟩ wt_1310 wt_1312 wt_40 (by decide)
theorem O_X12_readTables (l : Launch) : z_OK l RX12 cX12_readTables (headSpec (.code yX12_readTables cX12_readTables 4 none :: zTT) rm_X12_readTables).room M_X12_readTables := ⟨ok_X12_readTables, fo_X12, List.forall_mem_cons.mpr ⟨ca_X12_readTables_0 l, List.forall_mem_cons.mpr ⟨ca_X12_readTables_1 l, List.forall_mem_cons.mpr ⟨ca_X12_readTables_2 l, List.forall_mem_cons.mpr ⟨ca_X12_readTables_3 l, List.forall_mem_cons.mpr ⟨ca_X12_readTables_4 l, fun _ h => absurd h List.not_mem_nil⟩⟩⟩⟩⟩, fun _ h => absurd h List.not_mem_nil, fun _ h => absurd h List.not_mem_nil, fun _ h => absurd h List.not_mem_nil, fun _ h => absurd h List.not_mem_nil, rfl, rfl⟩
theorem c_X12_readTables (l : Launch) : z_CS l yX12_readTables cX12_readTables 4 none rm_X12_readTables sp_X12_readTables := by
  refine z_meth (by decide) (Or.inl ⟨rfl, rfl⟩) (fun h => by cases h) rfl (O_X12_readTables l) ?_
  intro av w K h
  match av, h with
  | [.ref o, .int n], h =>
    obtain ⟨rfl, ⟨r, hG⟩, L, x, q, n', hX, hw, hq, q23, rfl, hn, h⟩ := h
    obtain ⟨G, wi, wl⟩ := w
    subst hG
    try dsimp only at h hX hw hq
    have hL := hX.2.2.1
    generalize hR : nuL x L q n' = R at h
    refine ⟨Nat.le_of_ble_eq_true rfl, fun Jm hs => ?_⟩
    have wrong : ∀ (t : Nat) (wi1 : Nat → Nat → Int32) (k1 k2 : Nat), t < n' → FTb wi wi1 → XR wi1 L x k1 → wi1 45 14 = nI k2 → k2 ≤ 400 → ffI R.1 R.2.1 L = nI k2 → Jm 17 [some (.ref 45), some (.int (nI n')), some (.int (nI t)), none] [] (GC ++ (GM ++ r), wi1, wl) 0 0 := fun t wi1 k1 k2 ht hF hX1 hw1 hk he => by
      have n1 : nI k2 ≠ mI 1 := nI_m1 (by omega)
      have h := h wi1 hF (Or.inr ⟨k2, he, hw1, hk⟩)
      refine hs 400 17 _ _ _ _ _ ?_
      conv => whnf
      repeat ((first | refine ⟨zH_of _, ?_⟩ | refine ⟨trivial, ?_⟩ | refine ⟨rfl, ?_⟩ | refine ⟨fun hc => absurd hc (by decide), fun _ => ?_⟩ | refine ⟨fun _ => ?_, fun hc => absurd (by decide) hc⟩ | refine ⟨fun _ => ?_, fun hc => absurd hc (by decide)⟩ | refine ⟨fun hc => absurd (by decide) hc, fun _ => ?_⟩); conv => whnf)
      try dsimp only
      refine ⟨L, x, k1, hX1, ?_⟩
      conv => whnf
      repeat ((first | refine ⟨zH_of _, ?_⟩ | refine ⟨trivial, ?_⟩ | refine ⟨rfl, ?_⟩ | refine ⟨fun hc => absurd hc (by decide), fun _ => ?_⟩ | refine ⟨fun _ => ?_, fun hc => absurd (by decide) hc⟩ | refine ⟨fun _ => ?_, fun hc => absurd hc (by decide)⟩ | refine ⟨fun hc => absurd (by decide) hc, fun _ => ?_⟩); conv => whnf)
      try dsimp only
      refine ⟨fun _ => ?_, fun _ => ?_⟩
      · conv => whnf
        repeat ((first | refine ⟨zH_of _, ?_⟩ | refine ⟨trivial, ?_⟩ | refine ⟨rfl, ?_⟩ | refine ⟨fun hc => absurd hc (by decide), fun _ => ?_⟩ | refine ⟨fun _ => ?_, fun hc => absurd (by decide) hc⟩ | refine ⟨fun _ => ?_, fun hc => absurd hc (by decide)⟩ | refine ⟨fun hc => absurd (by decide) hc, fun _ => ?_⟩); conv => whnf)
        try dsimp only
        exact ⟨fun z => absurd (hw1.symm.trans z) n1, fun _ => h⟩
      · conv => whnf
        repeat ((first | refine ⟨zH_of _, ?_⟩ | refine ⟨trivial, ?_⟩ | refine ⟨rfl, ?_⟩ | refine ⟨fun hc => absurd hc (by decide), fun _ => ?_⟩ | refine ⟨fun _ => ?_, fun hc => absurd (by decide) hc⟩ | refine ⟨fun _ => ?_, fun hc => absurd hc (by decide)⟩ | refine ⟨fun hc => absurd (by decide) hc, fun _ => ?_⟩); conv => whnf)
        try dsimp only
        refine ⟨fun z => absurd (hw1.symm.trans z) n1, fun _ => ?_⟩
        conv => whnf
        repeat ((first | refine ⟨zH_of _, ?_⟩ | refine ⟨trivial, ?_⟩ | refine ⟨rfl, ?_⟩ | refine ⟨fun hc => absurd hc (by decide), fun _ => ?_⟩ | refine ⟨fun _ => ?_, fun hc => absurd (by decide) hc⟩ | refine ⟨fun _ => ?_, fun hc => absurd hc (by decide)⟩ | refine ⟨fun hc => absurd (by decide) hc, fun _ => ?_⟩); conv => whnf)
        try dsimp only
        exact ⟨fun z => absurd (hw1.symm.trans z) n1, fun _ => h⟩
    have ffF : ∀ {k : Nat} {N : Nat → Nat}, R = (false, k, N) → ffI R.1 R.2.1 L = nI k := fun e => by
      rw [e]
      unfold ffI
      rw [if_neg (fun z => Bool.false_ne_true z.1)]
    have loop := up_ind (P := fun t => ∀ (wi' : Nat → Nat → Int32), FTb wi wi' → (nuL x L q t).1 = true → XR wi' L x (nuL x L q t).2.1 → wi' 45 14 = mI 1 → (∀ s, s < t → wi' 53 s = nI ((nuL x L q t).2.2 s)) → Jm 2 [some (.ref 45), some (.int (nI n')), some (.int (nI t)), none] [] (GC ++ (GM ++ r), wi', wl) 0 0) n' (fun t ht ih => by
      intro wi' hF hok hX' hw' hN
      refine hs 400 2 _ _ _ _ _ ?_
      conv => whnf
      repeat ((first | refine ⟨zH_of _, ?_⟩ | refine ⟨trivial, ?_⟩ | refine ⟨rfl, ?_⟩ | refine ⟨fun hc => absurd hc (by decide), fun _ => ?_⟩ | refine ⟨fun _ => ?_, fun hc => absurd (by decide) hc⟩ | refine ⟨fun _ => ?_, fun hc => absurd hc (by decide)⟩ | refine ⟨fun hc => absurd (by decide) hc, fun _ => ?_⟩); conv => whnf)
      try dsimp only
      rw [ltN (by omega) (by omega)]
      refine ⟨fun hc => ?_, fun hc => ?_⟩
      · obtain rfl : t = n' := by omega
        rw [hR] at hok hX' hN
        have kL := hX'.2.2.2.1
        have ef := ff_rest R.2.1 L
        rw [← hok] at ef
        conv => whnf
        repeat ((first | refine ⟨zH_of _, ?_⟩ | refine ⟨trivial, ?_⟩ | refine ⟨rfl, ?_⟩ | refine ⟨fun hc => absurd hc (by decide), fun _ => ?_⟩ | refine ⟨fun _ => ?_, fun hc => absurd (by decide) hc⟩ | refine ⟨fun _ => ?_, fun hc => absurd hc (by decide)⟩ | refine ⟨fun hc => absurd (by decide) hc, fun _ => ?_⟩); conv => whnf)
        try dsimp only
        refine ⟨L, x, R.2.1, hX', hw', fun hk => ?_, fun hk => ?_⟩
        · rw [if_pos hk] at ef
          exact h _ (ftb_trans hF ftb_14) (Or.inr ⟨_, ef, z_up_eq, by omega⟩)
        · rw [if_neg hk] at ef
          exact h _ hF (Or.inl ⟨ef, hw', hN⟩)
      · have ih := ih hc
        have fail : ∀ {k : Nat} {N : Nat → Nat}, nuL x L q (t + 1) = (false, k, N) → R = (false, k, N) := fun e => by
          have k := nuL_fail x L q (t := t + 1) (by rw [e]; exact Bool.false_ne_true) (n' - (t + 1))
          rw [show t + 1 + (n' - (t + 1)) = n' by omega, e] at k
          rw [← hR, k]
        rw [nuL, if_pos hok] at ih fail
        generalize nuL x L q t = S at *
        have read : ∀ (wi1 : Nat → Nat → Int32) (k' : Nat), FTb wi wi1 → XR wi1 L x k' → wi1 45 14 = mI 1 → (∀ s, s < t → wi1 53 s = nI (S.2.2 s)) → (∀ {k : Nat} {N : Nat → Nat}, (if 48 ≤ see x L k' ∧ see x L k' < 48 + q then (true, k' + 1, setp S.2.2 t (see x L k' - 48)) else (false, k', S.2.2)) = (false, k, N) → R = (false, k, N)) → (∀ (wi' : Nat → Nat → Int32), FTb wi wi' → (if 48 ≤ see x L k' ∧ see x L k' < 48 + q then (true, k' + 1, setp S.2.2 t (see x L k' - 48)) else (false, k', S.2.2)).1 = true → XR wi' L x (if 48 ≤ see x L k' ∧ see x L k' < 48 + q then (true, k' + 1, setp S.2.2 t (see x L k' - 48)) else (false, k', S.2.2)).2.1 → wi' 45 14 = mI 1 → (∀ s, s < t + 1 → wi' 53 s = nI ((if 48 ≤ see x L k' ∧ see x L k' < 48 + q then (true, k' + 1, setp S.2.2 t (see x L k' - 48)) else (false, k', S.2.2)).2.2 s)) → Jm 2 [some (.ref 45), some (.int (nI n')), some (.int (nI (t + 1))), none] [] (GC ++ (GM ++ r), wi', wl) 0 0) → Jm 17 [some (.ref 45), some (.int (nI n')), some (.int (nI t)), none] [] (GC ++ (GM ++ r), wi1, wl) 0 0 := fun wi1 k' hF1 hX1 hw1 hN1 kf kk => by
          have kL := hX1.2.2.2.1
          have eq : wi1 45 1 = nI q := by rw [hF1.2 1 (by decide) (by decide)]; exact hq
          refine hs 400 17 _ _ _ _ _ ?_
          conv => whnf
          repeat ((first | refine ⟨zH_of _, ?_⟩ | refine ⟨trivial, ?_⟩ | refine ⟨rfl, ?_⟩ | refine ⟨fun hc => absurd hc (by decide), fun _ => ?_⟩ | refine ⟨fun _ => ?_, fun hc => absurd (by decide) hc⟩ | refine ⟨fun _ => ?_, fun hc => absurd hc (by decide)⟩ | refine ⟨fun hc => absurd (by decide) hc, fun _ => ?_⟩); conv => whnf)
          try dsimp only
          refine ⟨L, x, k', hX1, ?_⟩
          conv => whnf
          repeat ((first | refine ⟨zH_of _, ?_⟩ | refine ⟨trivial, ?_⟩ | refine ⟨rfl, ?_⟩ | refine ⟨fun hc => absurd hc (by decide), fun _ => ?_⟩ | refine ⟨fun _ => ?_, fun hc => absurd (by decide) hc⟩ | refine ⟨fun _ => ?_, fun hc => absurd hc (by decide)⟩ | refine ⟨fun hc => absurd (by decide) hc, fun _ => ?_⟩); conv => whnf)
          try dsimp only
          rw [eq, pk_sub (by omega), nI_l (by omega), show lN 0 = lN 0 from rfl, in_rg (by decide) (by omega), bI_0, Classical.not_not, xr_dig hX1 (by decide) (by omega)]
          refine ⟨fun hd => ?_, fun hd => ?_⟩
          · have hd : 48 ≤ see x L k' ∧ see x L k' < 48 + q := by omega
            have hkL : k' < L := xr_in (c := see x L k') (by omega) rfl
            rw [if_pos hd] at kk
            conv => whnf
            repeat ((first | refine ⟨zH_of _, ?_⟩ | refine ⟨trivial, ?_⟩ | refine ⟨rfl, ?_⟩ | refine ⟨fun hc => absurd hc (by decide), fun _ => ?_⟩ | refine ⟨fun _ => ?_, fun hc => absurd (by decide) hc⟩ | refine ⟨fun _ => ?_, fun hc => absurd hc (by decide)⟩ | refine ⟨fun hc => absurd (by decide) hc, fun _ => ?_⟩); conv => whnf)
            try dsimp only
            refine ⟨fun _ => ?_, fun z => absurd hw1 z⟩
            conv => whnf
            repeat ((first | refine ⟨zH_of _, ?_⟩ | refine ⟨trivial, ?_⟩ | refine ⟨rfl, ?_⟩ | refine ⟨fun hc => absurd hc (by decide), fun _ => ?_⟩ | refine ⟨fun _ => ?_, fun hc => absurd (by decide) hc⟩ | refine ⟨fun _ => ?_, fun hc => absurd hc (by decide)⟩ | refine ⟨fun hc => absurd (by decide) hc, fun _ => ?_⟩); conv => whnf)
            try dsimp only
            refine ⟨vp_in_nI (show t < 18 by omega) (by decide), ?_⟩
            conv => whnf
            repeat ((first | refine ⟨zH_of _, ?_⟩ | refine ⟨trivial, ?_⟩ | refine ⟨rfl, ?_⟩ | refine ⟨fun hc => absurd hc (by decide), fun _ => ?_⟩ | refine ⟨fun _ => ?_, fun hc => absurd (by decide) hc⟩ | refine ⟨fun _ => ?_, fun hc => absurd hc (by decide)⟩ | refine ⟨fun hc => absurd (by decide) hc, fun _ => ?_⟩); conv => whnf)
            try dsimp only
            rw [nI_clamp (by omega), xr_val hd.1 hkL, z_up_ne (show (45 : Nat) ≠ 53 by decide), hX1.2.1, nI_add, nI_add]
            refine kk _ (ftb_trans hF1 (ftb_trans ftb_53 ftb_13)) rfl (xr_adv (xr_fr hX1 (by rw [z_up_ne (by decide)]) (by rw [z_up_ne (by decide)]) (z_up_ne (by decide))) hkL) (by rw [z_up_nei (by decide), z_up_ne (by decide)]; exact hw1) (fun s hs => ?_)
            show z_up (z_up wi1 53 t _) 45 13 _ 53 s = nI (setp S.2.2 t _ s)
            rw [z_up_ne (by decide)]
            unfold setp
            by_cases e : s = t
            · rw [e, z_up_eq, if_pos rfl]
            · rw [z_up_nei e, if_neg e]
              exact hN1 s (by omega)
          · have hd : ¬ (48 ≤ see x L k' ∧ see x L k' < 48 + q) := by omega
            rw [if_neg hd] at kf
            have ef := ffF (kf rfl)
            conv => whnf
            repeat ((first | refine ⟨zH_of _, ?_⟩ | refine ⟨trivial, ?_⟩ | refine ⟨rfl, ?_⟩ | refine ⟨fun hc => absurd hc (by decide), fun _ => ?_⟩ | refine ⟨fun _ => ?_, fun hc => absurd (by decide) hc⟩ | refine ⟨fun _ => ?_, fun hc => absurd hc (by decide)⟩ | refine ⟨fun hc => absurd (by decide) hc, fun _ => ?_⟩); conv => whnf)
            try dsimp only
            rw [hX1.2.1]
            refine ⟨fun _ => ?_, fun z => absurd hw1 z⟩
            have h := h _ (ftb_trans hF1 ftb_14) (Or.inr ⟨k', ef, z_up_eq, by omega⟩)
            conv => whnf
            repeat ((first | refine ⟨zH_of _, ?_⟩ | refine ⟨trivial, ?_⟩ | refine ⟨rfl, ?_⟩ | refine ⟨fun hc => absurd hc (by decide), fun _ => ?_⟩ | refine ⟨fun _ => ?_, fun hc => absurd (by decide) hc⟩ | refine ⟨fun _ => ?_, fun hc => absurd hc (by decide)⟩ | refine ⟨fun hc => absurd (by decide) hc, fun _ => ?_⟩); conv => whnf)
            try dsimp only
            refine ⟨fun z => absurd (z_up_eq.symm.trans z) (nI_m1 (by omega)), fun _ => h⟩
        conv => whnf
        repeat ((first | refine ⟨zH_of _, ?_⟩ | refine ⟨trivial, ?_⟩ | refine ⟨rfl, ?_⟩ | refine ⟨fun hc => absurd hc (by decide), fun _ => ?_⟩ | refine ⟨fun _ => ?_, fun hc => absurd (by decide) hc⟩ | refine ⟨fun _ => ?_, fun hc => absurd hc (by decide)⟩ | refine ⟨fun hc => absurd (by decide) hc, fun _ => ?_⟩); conv => whnf)
        try dsimp only
        refine ⟨fun h0 => ?_, fun h0 => ?_⟩
        · have h0 : t = 0 := by
            rcases Nat.eq_zero_or_pos t with g | g
            · exact g
            · exact absurd (nI_lt g (by omega)) h0
          rw [if_neg (fun z => z.1 h0), if_pos h0] at ih
          rw [if_neg (fun z => z.1 h0), if_pos h0] at fail
          exact read wi' _ hF hX' hw' hN fail ih
        · have h0 : 0 < t := by
            rw [ltN (by decide) (by omega)] at h0
            exact h0
          have kL := hX'.2.2.2.1
          conv => whnf
          repeat ((first | refine ⟨zH_of _, ?_⟩ | refine ⟨trivial, ?_⟩ | refine ⟨rfl, ?_⟩ | refine ⟨fun hc => absurd hc (by decide), fun _ => ?_⟩ | refine ⟨fun _ => ?_, fun hc => absurd (by decide) hc⟩ | refine ⟨fun _ => ?_, fun hc => absurd hc (by decide)⟩ | refine ⟨fun hc => absurd (by decide) hc, fun _ => ?_⟩); conv => whnf)
          try dsimp only
          refine ⟨L, x, S.2.1, 44, hX', rfl, by decide, fun z => absurd hw' z, fun _ he => ?_, fun _ he => ?_⟩
          · rw [if_pos ⟨by omega, he⟩] at fail
            conv => whnf
            repeat ((first | refine ⟨zH_of _, ?_⟩ | refine ⟨trivial, ?_⟩ | refine ⟨rfl, ?_⟩ | refine ⟨fun hc => absurd hc (by decide), fun _ => ?_⟩ | refine ⟨fun _ => ?_, fun hc => absurd (by decide) hc⟩ | refine ⟨fun _ => ?_, fun hc => absurd hc (by decide)⟩ | refine ⟨fun hc => absurd (by decide) hc, fun _ => ?_⟩); conv => whnf)
            try dsimp only
            exact wrong t _ S.2.1 S.2.1 hc (ftb_trans hF ftb_14) (xr_up hX' (by decide) (by decide)) z_up_eq (by omega) (ffF (fail rfl))
          · rw [if_neg (fun z => z.2 he), if_neg (show ¬ t = 0 by omega)] at ih
            rw [if_neg (fun z => z.2 he), if_neg (show ¬ t = 0 by omega)] at fail
            conv => whnf
            repeat ((first | refine ⟨zH_of _, ?_⟩ | refine ⟨trivial, ?_⟩ | refine ⟨rfl, ?_⟩ | refine ⟨fun hc => absurd hc (by decide), fun _ => ?_⟩ | refine ⟨fun _ => ?_, fun hc => absurd (by decide) hc⟩ | refine ⟨fun _ => ?_, fun hc => absurd hc (by decide)⟩ | refine ⟨fun hc => absurd (by decide) hc, fun _ => ?_⟩); conv => whnf)
            try dsimp only
            exact read _ _ (ftb_trans hF ftb_13) (xr_adv hX' (xr_in (by decide) he)) (by rw [z_up_nei (by decide)]; exact hw') (fun s hs => by rw [z_up_ne (by decide)]; exact hN s hs) fail ih)
    exact hs 400 0 _ _ _ _ _ (loop 0 (Nat.zero_le _) wi ftb_refl rfl hX hw (fun s hs => absurd hs (Nat.not_lt_zero s)))
def sp_X12_madeOf : zSp := fun av w K => match av with
  | [.ref o, .int i, .int t, .int s] => o = 45 ∧ zH w.1 ∧ ∃ d q c A i' t' s' N, MS w.2.1 d q c A ∧ i = nI i' ∧ i' < c ∧ t = nI t' ∧ t' < 3 ∧ s = nI s' ∧ s' + pl d t' ≤ 18 ∧ (∀ p, p < pl d t' → w.2.1 53 (s' + p) = nI (N (s' + p))) ∧ K (some (.int (nI (weN (A (3 * i' + t')) N s' (pl d t'))))) w
  | _ => False
def rm_X12_madeOf : Room := { frames := 2, cells := 0, slots := 0, locals := 42 }
def M_X12_madeOf : zM := (k_X12_madeOf, f_X12, [(96, 4, 10, 2, 0, 0, sp_X12_placesOf), (107, 0, 0, 3, 0, 0, sp_X12_at)], ([], [], []), [], [(6, [true, true, true, true, true, true])], 1, false, (false, 0, fun _ => 0), (0, 0))
theorem ca_X12_madeOf_0 (l : Launch) : z_cok l RX12 (headSpec (.code yX12_madeOf cX12_madeOf 6 (some .int) :: zTT) rm_X12_madeOf).room (96, 4, 10, 2, 0, 0, sp_X12_placesOf) := z_ca4 (c_X12_placesOf l) mb_X12_placesOf ⟨_, rfl, rfl⟩ wt_1349 wt_1351 wt_45 (by decide)
theorem ca_X12_madeOf_1 (l : Launch) : z_cok l RX12 (headSpec (.code yX12_madeOf cX12_madeOf 6 (some .int) :: zTT) rm_X12_madeOf).room (107, 0, 0, 3, 0, 0, sp_X12_at) := z_ca0 (c_X12_at l) mb_X12_at wt_1136 wt_1137 (by decide)
theorem O_X12_madeOf (l : Launch) : z_OK l RX12 cX12_madeOf (headSpec (.code yX12_madeOf cX12_madeOf 6 (some .int) :: zTT) rm_X12_madeOf).room M_X12_madeOf := ⟨ok_X12_madeOf, fo_X12, List.forall_mem_cons.mpr ⟨ca_X12_madeOf_0 l, List.forall_mem_cons.mpr ⟨ca_X12_madeOf_1 l, fun _ h => absurd h List.not_mem_nil⟩⟩, fun _ h => absurd h List.not_mem_nil, fun _ h => absurd h List.not_mem_nil, fun _ h => absurd h List.not_mem_nil, fun _ h => absurd h List.not_mem_nil, rfl, rfl⟩
theorem c_X12_madeOf (l : Launch) : z_CS l yX12_madeOf cX12_madeOf 6 (some .int) rm_X12_madeOf sp_X12_madeOf := by
  refine z_meth (by decide) (Or.inr (Or.inl ⟨rfl, rfl⟩)) (fun h => by cases h) rfl (O_X12_madeOf l) ?_
  intro av w K h
  match av, h with
  | [.ref o, .int i, .int t, .int s], h =>
    obtain ⟨rfl, ⟨r, hG⟩, d, q, c, A, i', t', s', N, hS, rfl, hi, rfl, ht, rfl, hs18, hN, h⟩ := h
    obtain ⟨G, wi, wl⟩ := w
    subst hG
    try dsimp only at h hS hN
    have h40 := ms_40 hS
    have p9 := pl_le (ms_hd hS) ht
    refine ⟨Nat.le_of_ble_eq_true rfl, fun Jm hs => ?_⟩
    have loop := up_ind (P := fun p => Jm 6 [some (.ref 45), some (.int (nI i')), some (.int (nI t')), some (.int (nI s')), some (.int (nI (weN (A (3 * i' + t')) N s' p))), some (.int (nI p))] [] (GC ++ (GM ++ r), wi, wl) 0 0) (pl d t') (fun p hp ih => by
      refine hs 400 6 _ _ _ _ _ ?_
      conv => whnf
      repeat ((first | refine ⟨zH_of _, ?_⟩ | refine ⟨trivial, ?_⟩ | refine ⟨rfl, ?_⟩ | refine ⟨fun hc => absurd hc (by decide), fun _ => ?_⟩ | refine ⟨fun _ => ?_, fun hc => absurd (by decide) hc⟩ | refine ⟨fun _ => ?_, fun hc => absurd hc (by decide)⟩ | refine ⟨fun hc => absurd (by decide) hc, fun _ => ?_⟩); conv => whnf)
      try dsimp only
      refine ⟨t', rfl, ht, ?_⟩
      rw [mpl hS ht]
      conv => whnf
      repeat ((first | refine ⟨zH_of _, ?_⟩ | refine ⟨trivial, ?_⟩ | refine ⟨rfl, ?_⟩ | refine ⟨fun hc => absurd hc (by decide), fun _ => ?_⟩ | refine ⟨fun _ => ?_, fun hc => absurd (by decide) hc⟩ | refine ⟨fun _ => ?_, fun hc => absurd hc (by decide)⟩ | refine ⟨fun hc => absurd (by decide) hc, fun _ => ?_⟩); conv => whnf)
      try dsimp only
      rw [ltN (by omega) (by omega)]
      refine ⟨fun hc => ?_, fun hc => ?_⟩
      · obtain hin : p = pl d t' := by omega
        rw [hin]
        exact ⟨trivial, h⟩
      · have ih := ih hc
        have e : weN (A (3 * i' + t')) N s' (p + 1) = weN (A (3 * i' + t')) N s' p + A (3 * i' + t') p * N (s' + p) := rfl
        rw [e] at ih
        conv => whnf
        repeat ((first | refine ⟨zH_of _, ?_⟩ | refine ⟨trivial, ?_⟩ | refine ⟨rfl, ?_⟩ | refine ⟨fun hc => absurd hc (by decide), fun _ => ?_⟩ | refine ⟨fun _ => ?_, fun hc => absurd (by decide) hc⟩ | refine ⟨fun _ => ?_, fun hc => absurd hc (by decide)⟩ | refine ⟨fun hc => absurd (by decide) hc, fun _ => ?_⟩); conv => whnf)
        try dsimp only
        rw [at_N]
        refine ⟨vp_in_nI (show 27 * i' + 9 * t' + p < 1080 by omega) (by decide), ?_⟩
        conv => whnf
        repeat ((first | refine ⟨zH_of _, ?_⟩ | refine ⟨trivial, ?_⟩ | refine ⟨rfl, ?_⟩ | refine ⟨fun hc => absurd hc (by decide), fun _ => ?_⟩ | refine ⟨fun _ => ?_, fun hc => absurd (by decide) hc⟩ | refine ⟨fun _ => ?_, fun hc => absurd hc (by decide)⟩ | refine ⟨fun hc => absurd (by decide) hc, fun _ => ?_⟩); conv => whnf)
        try dsimp only
        rw [nI_add (a := s')]
        refine ⟨vp_in_nI (show s' + p < 18 by omega) (by decide), ?_⟩
        conv => whnf
        repeat ((first | refine ⟨zH_of _, ?_⟩ | refine ⟨trivial, ?_⟩ | refine ⟨rfl, ?_⟩ | refine ⟨fun hc => absurd hc (by decide), fun _ => ?_⟩ | refine ⟨fun _ => ?_, fun hc => absurd (by decide) hc⟩ | refine ⟨fun _ => ?_, fun hc => absurd hc (by decide)⟩ | refine ⟨fun hc => absurd (by decide) hc, fun _ => ?_⟩); conv => whnf)
        try dsimp only
        rw [nI_clamp (n := 27 * i' + 9 * t' + p) (by omega), nI_clamp (n := s' + p) (by omega), ms_at hS hi ht (by omega), hN p hc, pk_mul, nI_add, nI_add]
        exact ih)
    exact hs 400 0 _ _ _ _ _ (loop 0 (Nat.zero_le _))

