/-! the reference: products read -/
def rm_X12_begin : Room := { frames := 0, cells := 0, slots := 0, locals := 0 }
def M_X12_begin : zM := (k_X12_begin, f_X12, [], ([], [], []), [], [], 0, false, (false, 0, fun _ => 0), (0, 0))
theorem O_X12_begin (l : Launch) : z_OK l RX12 cX12_begin (headSpec (.code yX12_begin cX12_begin 1 none :: zTT) rm_X12_begin).room M_X12_begin := ⟨ok_X12_begin, fo_X12, fun _ h => absurd h List.not_mem_nil, fun _ h => absurd h List.not_mem_nil, fun _ h => absurd h List.not_mem_nil, fun _ h => absurd h List.not_mem_nil, fun _ h => absurd h List.not_mem_nil, rfl, rfl⟩
def sp_X12_begin : zSp := z_au M_X12_begin 1
theorem c_X12_begin (l : Launch) : z_CS l yX12_begin cX12_begin 1 none rm_X12_begin sp_X12_begin := by
  refine z_meth (by decide) (Or.inl ⟨rfl, rfl⟩) (fun h => by cases h) rfl (O_X12_begin l) ?_
  intro av w K h
  exact z_au_ok rfl h
def rm_X12_told : Room := { frames := 0, cells := 0, slots := 0, locals := 0 }
def M_X12_told : zM := (k_X12_told, f_X12, [], ([], [], []), [], [], 1, false, (false, 0, fun _ => 0), (0, 0))
theorem O_X12_told (l : Launch) : z_OK l RX12 cX12_told (headSpec (.code yX12_told cX12_told 1 (some .int) :: zTT) rm_X12_told).room M_X12_told := ⟨ok_X12_told, fo_X12, fun _ h => absurd h List.not_mem_nil, fun _ h => absurd h List.not_mem_nil, fun _ h => absurd h List.not_mem_nil, fun _ h => absurd h List.not_mem_nil, fun _ h => absurd h List.not_mem_nil, rfl, rfl⟩
def sp_X12_told : zSp := z_au M_X12_told 1
theorem c_X12_told (l : Launch) : z_CS l yX12_told cX12_told 1 (some .int) rm_X12_told sp_X12_told := by
  refine z_meth (by decide) (Or.inr (Or.inl ⟨rfl, rfl⟩)) (fun h => by cases h) rfl (O_X12_told l) ?_
  intro av w K h
  exact z_au_ok rfl h
theorem prL_lt {x : Nat → Nat} {L : Nat} {d : Nat → Nat} {q k : Nat} (hq : 2 ≤ q) : ∀ n t p, p < 9 → (prL x L d q k n).2.2 t p < q
  | 0, _, _, _ => by show 0 < q; omega
  | n + 1, t, p, hp => by
    have ih := prL_lt (x := x) (L := L) (d := d) (k := k) hq n
    rw [prL]
    split
    · split
      · show upA _ n _ t p < q
        unfold upA
        split
        · exact fmP_lt hq p hp
        · exact ih t p hp
      · exact ih t p hp
    · exact ih t p hp
def FPm (m : Nat) (wi wi' : Nat → Nat → Int32) : Prop := (∀ y, y ≠ 45 → y ≠ 52 → wi' y = wi y) ∧ (∀ i, i ≠ 13 → i ≠ 14 → i ≠ 16 → wi' 45 i = wi 45 i) ∧ ∀ j, j < 27 * m → wi' 52 j = wi 52 j
theorem fpm_refl {m : Nat} {wi : Nat → Nat → Int32} : FPm m wi wi := ⟨fun _ _ _ => rfl, fun _ _ _ _ => rfl, fun _ _ => rfl⟩
theorem fpm_trans {m : Nat} {wi wi' wi2 : Nat → Nat → Int32} (h : FPm m wi wi') (h2 : FPm m wi' wi2) : FPm m wi wi2 := ⟨fun y g1 g2 => (h2.1 y g1 g2).trans (h.1 y g1 g2), fun i g1 g2 g3 => (h2.2.1 i g1 g2 g3).trans (h.2.1 i g1 g2 g3), fun j hj => (h2.2.2 j hj).trans (h.2.2 j hj)⟩
theorem fpm_13 {m : Nat} {wi : Nat → Nat → Int32} {v : Int32} : FPm m wi (z_up wi 45 13 v) := ⟨fun y g1 _ => z_up_ne g1, fun i g1 _ _ => z_up_nei g1, fun j _ => by rw [z_up_ne (by decide)]⟩
theorem fpm_14 {m : Nat} {wi : Nat → Nat → Int32} {v : Int32} : FPm m wi (z_up wi 45 14 v) := ⟨fun y g1 _ => z_up_ne g1, fun i _ g1 _ => z_up_nei g1, fun j _ => by rw [z_up_ne (by decide)]⟩
theorem fpm_16 {m : Nat} {wi : Nat → Nat → Int32} {v : Int32} : FPm m wi (z_up wi 45 16 v) := ⟨fun y g1 _ => z_up_ne g1, fun i _ _ g1 => z_up_nei g1, fun j _ => by rw [z_up_ne (by decide)]⟩
theorem fpm_f {m F : Nat} {wi wi' : Nat → Nat → Int32} (h : FTm F wi wi') (hF : 27 * m ≤ F) : FPm m wi wi' := ⟨h.1, fun i g1 g2 _ => h.2.1 i g1 g2, fun j hj => h.2.2 j (Or.inl (by omega))⟩
/-- the state behind t forms of product m -/
def RpI (wi' : Nat → Nat → Int32) (L : Nat) (x : Nat → Nat) (m t : Nat) (R : Bool × Nat × (Nat → Nat → Nat)) : Prop := (R.1 = true ∧ XR wi' L x R.2.1 ∧ wi' 45 14 = mI 1 ∧ ∀ s, s < t → RA wi' 52 (27 * m + 9 * s) (R.2.2 s)) ∨ (¬ R.1 = true ∧ wi' 45 14 = nI R.2.1 ∧ R.2.1 ≤ 400 ∧ ∃ k2, XR wi' L x k2)
def sp_X12_readProduct : zSp := fun av w K => match av with
  | [.ref o] => o = 45 ∧ zH w.1 ∧ ∃ L x k d q m, XR w.2.1 L x k ∧ w.2.1 45 14 = mI 1 ∧ (∀ t, t < 3 → w.2.1 46 t = nI (d t)) ∧ (∀ t, t < 3 → 1 ≤ d t ∧ d t ≤ 3) ∧ w.2.1 45 1 = nI q ∧ (q = 2 ∨ q = 3) ∧ w.2.1 45 16 = nI m ∧ m < 40 ∧ ∀ wi', FPm m w.2.1 wi' → wi' 45 16 = nI (m + 1) → RpI wi' L x m 3 (prP x L d q k) → K none (w.1, wi', w.2.2)
  | _ => False
def rm_X12_readProduct : Room := { frames := 5, cells := 0, slots := 0, locals := 112 }
def M_X12_readProduct : zM := (k_X12_readProduct, f_X12, [(133, 4, 10, 2, 0, 0, sp_X12_expect), (147, 4, 10, 3, 0, 0, sp_X12_readForm)], ([], [], []), [], [(2, [true, true]), (17, [true, true])], 0, false, (false, 0, fun _ => 0), (0, 0))
theorem ca_X12_readProduct_0 (l : Launch) : z_cok l RX12 (headSpec (.code yX12_readProduct cX12_readProduct 2 none :: zTT) rm_X12_readProduct).room (133, 4, 10, 2, 0, 0, sp_X12_expect) := z_ca4 (c_X12_expect l) mb_X12_expect ⟨_, rfl, rfl⟩ wt_1274 wt_1276 wt_31 (by decide)
theorem ca_X12_readProduct_1 (l : Launch) : z_cok l RX12 (headSpec (.code yX12_readProduct cX12_readProduct 2 none :: zTT) rm_X12_readProduct).room (147, 4, 10, 3, 0, 0, sp_X12_readForm) := z_ca4 (c_X12_readForm l) mb_X12_readForm ⟨_, rfl, rfl⟩ wt_1290 wt_1292 wt_35 (by decide)
theorem O_X12_readProduct (l : Launch) : z_OK l RX12 cX12_readProduct (headSpec (.code yX12_readProduct cX12_readProduct 2 none :: zTT) rm_X12_readProduct).room M_X12_readProduct := ⟨ok_X12_readProduct, fo_X12, List.forall_mem_cons.mpr ⟨ca_X12_readProduct_0 l, List.forall_mem_cons.mpr ⟨ca_X12_readProduct_1 l, fun _ h => absurd h List.not_mem_nil⟩⟩, fun _ h => absurd h List.not_mem_nil, fun _ h => absurd h List.not_mem_nil, fun _ h => absurd h List.not_mem_nil, fun _ h => absurd h List.not_mem_nil, rfl, rfl⟩
theorem c_X12_readProduct (l : Launch) : z_CS l yX12_readProduct cX12_readProduct 2 none rm_X12_readProduct sp_X12_readProduct := by
  refine z_meth (by decide) (Or.inl ⟨rfl, rfl⟩) (fun h => by cases h) rfl (O_X12_readProduct l) ?_
  intro av w K h
  match av, h with
  | [.ref o], h =>
    obtain ⟨rfl, ⟨r, hG⟩, L, x, k, d, q, m, hX, hw, hd, hd3, hq, q23, h16, hm, h⟩ := h
    obtain ⟨G, wi, wl⟩ := w
    subst hG
    try dsimp only at h hX hw hd hq h16
    have hL := hX.2.2.1
    unfold prP at h
    refine ⟨Nat.le_of_ble_eq_true rfl, fun Jm hs => ?_⟩
    have loop := up_ind (P := fun t => ∀ wi' : Nat → Nat → Int32, FPm m wi wi' → wi' 45 16 = nI m → RpI wi' L x m t (prL x L d q k t) → Jm 2 [some (.ref 45), some (.int (nI t))] [] (GC ++ (GM ++ r), wi', wl) 0 0) 3 (fun t ht ih => by
      intro wi' hF' h16' hP
      refine hs 400 2 _ _ _ _ _ ?_
      conv => whnf
      repeat ((first | refine ⟨zH_of _, ?_⟩ | refine ⟨trivial, ?_⟩ | refine ⟨rfl, ?_⟩ | refine ⟨fun hc => absurd hc (by decide), fun _ => ?_⟩ | refine ⟨fun _ => ?_, fun hc => absurd (by decide) hc⟩ | refine ⟨fun _ => ?_, fun hc => absurd hc (by decide)⟩ | refine ⟨fun hc => absurd (by decide) hc, fun _ => ?_⟩); conv => whnf)
      try dsimp only
      rw [ltN (by omega) (by omega)]
      refine ⟨fun hc => ?_, fun hc => ?_⟩
      · obtain rfl : t = 3 := by omega
        conv => whnf
        repeat ((first | refine ⟨zH_of _, ?_⟩ | refine ⟨trivial, ?_⟩ | refine ⟨rfl, ?_⟩ | refine ⟨fun hc => absurd hc (by decide), fun _ => ?_⟩ | refine ⟨fun _ => ?_, fun hc => absurd (by decide) hc⟩ | refine ⟨fun _ => ?_, fun hc => absurd hc (by decide)⟩ | refine ⟨fun hc => absurd (by decide) hc, fun _ => ?_⟩); conv => whnf)
        try dsimp only
        rw [h16', nI_add]
        refine h _ (fpm_trans hF' fpm_16) z_up_eq ?_
        rcases hP with ⟨p1, p2, p3, p4⟩ | ⟨p1, p2, p3, k2, p4⟩
        · exact Or.inl ⟨p1, xr_up p2 (by decide) (by decide), by rw [z_up_nei (by decide)]; exact p3, fun s hs => ra_fr (p4 s hs) (z_up_ne (by decide))⟩
        · exact Or.inr ⟨p1, by rw [z_up_nei (by decide)]; exact p2, p3, k2, xr_up p4 (by decide) (by decide)⟩
      · have ih := ih hc
        rw [prL] at ih
        -- what stands at 17: nothing wrong, at k'
        have read : ∀ (wi1 : Nat → Nat → Int32) (k' : Nat), FPm m wi wi1 → wi1 45 16 = nI m → XR wi1 L x k' → wi1 45 14 = mI 1 → (∀ s, s < t → RA wi1 52 (27 * m + 9 * s) ((prL x L d q k t).2.2 s)) → (∀ wi2 : Nat → Nat → Int32, FPm m wi wi2 → wi2 45 16 = nI m → RpI wi2 L x m (t + 1) ((fmP x L d q t k').1, (fmP x L d q t k').2.1, upA (prL x L d q k t).2.2 t (fmP x L d q t k').2.2) → Jm 2 [some (.ref 45), some (.int (nI (t + 1)))] [] (GC ++ (GM ++ r), wi2, wl) 0 0) → Jm 17 [some (.ref 45), some (.int (nI t))] [] (GC ++ (GM ++ r), wi1, wl) 0 0 := fun wi1 k' hF1 h161 hX1 hw1 hA1 kk => by
          refine hs 400 17 _ _ _ _ _ ?_
          conv => whnf
          repeat ((first | refine ⟨zH_of _, ?_⟩ | refine ⟨trivial, ?_⟩ | refine ⟨rfl, ?_⟩ | refine ⟨fun hc => absurd hc (by decide), fun _ => ?_⟩ | refine ⟨fun _ => ?_, fun hc => absurd (by decide) hc⟩ | refine ⟨fun _ => ?_, fun hc => absurd hc (by decide)⟩ | refine ⟨fun hc => absurd (by decide) hc, fun _ => ?_⟩); conv => whnf)
          try dsimp only
          refine ⟨fun z => absurd hw1 z, fun _ => ?_⟩
          conv => whnf
          repeat ((first | refine ⟨zH_of _, ?_⟩ | refine ⟨trivial, ?_⟩ | refine ⟨rfl, ?_⟩ | refine ⟨fun hc => absurd hc (by decide), fun _ => ?_⟩ | refine ⟨fun _ => ?_, fun hc => absurd (by decide) hc⟩ | refine ⟨fun _ => ?_, fun hc => absurd hc (by decide)⟩ | refine ⟨fun hc => absurd (by decide) hc, fun _ => ?_⟩); conv => whnf)
          try dsimp only
          rw [h161, pk_mul, pk_mul, nI_add]
          refine ⟨L, x, k', d, q, 27 * m + 9 * t, t, hX1, hw1, fun t ht => by rw [hF1.1 46 (by decide) (by decide)]; exact hd t ht, hd3, by rw [hF1.2.1 1 (by decide) (by decide) (by decide)]; exact hq, q23, rfl, by omega, rfl, hc, fun wi2 hF2 hP2 => ?_⟩
          conv => whnf
          repeat ((first | refine ⟨zH_of _, ?_⟩ | refine ⟨trivial, ?_⟩ | refine ⟨rfl, ?_⟩ | refine ⟨fun hc => absurd hc (by decide), fun _ => ?_⟩ | refine ⟨fun _ => ?_, fun hc => absurd (by decide) hc⟩ | refine ⟨fun _ => ?_, fun hc => absurd hc (by decide)⟩ | refine ⟨fun hc => absurd (by decide) hc, fun _ => ?_⟩); conv => whnf)
          try dsimp only
          rw [nI_add]
          refine kk wi2 (fpm_trans hF1 (fpm_f hF2 (by omega))) (by rw [hF2.2.1 16 (by decide) (by decide)]; exact h161) ?_
          rcases hP2 with ⟨p1, p2, p3, p4⟩ | ⟨p1, p2, p3, p4⟩
          · refine Or.inl ⟨p1, p2, p3, fun s hs => ?_⟩
            show RA wi2 52 (27 * m + 9 * s) (upA (prL x L d q k t).2.2 t (fmP x L d q t k').2.2 s)
            unfold upA
            by_cases e : s = t
            · rw [if_pos e, e]
              exact p4
            · rw [if_neg e]
              intro p hp
              rw [hF2.2.2 _ (Or.inl (by omega))]
              exact hA1 s (by omega) p hp
          · exact Or.inr ⟨p1, p2, p3, p4⟩
        have wrong : ∀ wi1 : Nat → Nat → Int32, ¬ wi1 45 14 = mI 1 → Jm 2 [some (.ref 45), some (.int (nI (t + 1)))] [] (GC ++ (GM ++ r), wi1, wl) 0 0 → Jm 17 [some (.ref 45), some (.int (nI t))] [] (GC ++ (GM ++ r), wi1, wl) 0 0 := fun wi1 hw1 kk => by
          refine hs 400 17 _ _ _ _ _ ?_
          conv => whnf
          repeat ((first | refine ⟨zH_of _, ?_⟩ | refine ⟨trivial, ?_⟩ | refine ⟨rfl, ?_⟩ | refine ⟨fun hc => absurd hc (by decide), fun _ => ?_⟩ | refine ⟨fun _ => ?_, fun hc => absurd (by decide) hc⟩ | refine ⟨fun _ => ?_, fun hc => absurd hc (by decide)⟩ | refine ⟨fun hc => absurd (by decide) hc, fun _ => ?_⟩); conv => whnf)
          try dsimp only
          refine ⟨fun _ => ?_, fun z => absurd z hw1⟩
          conv => whnf
          repeat ((first | refine ⟨zH_of _, ?_⟩ | refine ⟨trivial, ?_⟩ | refine ⟨rfl, ?_⟩ | refine ⟨fun hc => absurd hc (by decide), fun _ => ?_⟩ | refine ⟨fun _ => ?_, fun hc => absurd (by decide) hc⟩ | refine ⟨fun _ => ?_, fun hc => absurd hc (by decide)⟩ | refine ⟨fun hc => absurd (by decide) hc, fun _ => ?_⟩); conv => whnf)
          try dsimp only
          rw [nI_add]
          exact kk
        conv => whnf
        repeat ((first | refine ⟨zH_of _, ?_⟩ | refine ⟨trivial, ?_⟩ | refine ⟨rfl, ?_⟩ | refine ⟨fun hc => absurd hc (by decide), fun _ => ?_⟩ | refine ⟨fun _ => ?_, fun hc => absurd (by decide) hc⟩ | refine ⟨fun _ => ?_, fun hc => absurd hc (by decide)⟩ | refine ⟨fun hc => absurd (by decide) hc, fun _ => ?_⟩); conv => whnf)
        try dsimp only
        rcases hP with ⟨p1, p2, p3, p4⟩ | ⟨p1, p2, p3, k2, p4⟩
        · rw [if_pos p1] at ih
          refine ⟨fun h0 => ?_, fun h0 => ?_⟩
          · have h0 : t = 0 := by
              rcases Nat.eq_zero_or_pos t with g | g
              · exact g
              · exact absurd (nI_lt g (by omega)) h0
            rw [if_pos (Or.inl h0), if_pos h0] at ih
            exact read wi' _ hF' h16' p2 p3 p4 ih
          · have h0 : 0 < t := by
              rw [ltN (by decide) (by omega)] at h0
              exact h0
            conv => whnf
            repeat ((first | refine ⟨zH_of _, ?_⟩ | refine ⟨trivial, ?_⟩ | refine ⟨rfl, ?_⟩ | refine ⟨fun hc => absurd hc (by decide), fun _ => ?_⟩ | refine ⟨fun _ => ?_, fun hc => absurd (by decide) hc⟩ | refine ⟨fun _ => ?_, fun hc => absurd hc (by decide)⟩ | refine ⟨fun hc => absurd (by decide) hc, fun _ => ?_⟩); conv => whnf)
            try dsimp only
            refine ⟨L, x, (prL x L d q k t).2.1, 42, p2, rfl, by decide, fun z => absurd p3 z, fun _ he => ?_, fun _ he => ?_⟩
            · rw [if_neg (fun z => by rcases z with z | z; omega; exact he z)] at ih
              have w1 : z_up wi' 45 14 (nI (prL x L d q k t).2.1) 45 14 = nI (prL x L d q k t).2.1 := z_up_eq
              have kL := p2.2.2.2.1
              conv => whnf
              repeat ((first | refine ⟨zH_of _, ?_⟩ | refine ⟨trivial, ?_⟩ | refine ⟨rfl, ?_⟩ | refine ⟨fun hc => absurd hc (by decide), fun _ => ?_⟩ | refine ⟨fun _ => ?_, fun hc => absurd (by decide) hc⟩ | refine ⟨fun _ => ?_, fun hc => absurd hc (by decide)⟩ | refine ⟨fun hc => absurd (by decide) hc, fun _ => ?_⟩); conv => whnf)
              try dsimp only
              refine wrong _ (fun z => nI_m1 (by omega) (w1.symm.trans z)) (ih _ (fpm_trans hF' fpm_14) (by rw [z_up_nei (by decide)]; exact h16') (Or.inr ⟨Bool.false_ne_true, w1, by show (prL x L d q k t).2.1 ≤ 400; omega, _, xr_up p2 (by decide) (by decide)⟩))
            · rw [if_pos (Or.inr he), if_neg (by omega)] at ih
              conv => whnf
              repeat ((first | refine ⟨zH_of _, ?_⟩ | refine ⟨trivial, ?_⟩ | refine ⟨rfl, ?_⟩ | refine ⟨fun hc => absurd hc (by decide), fun _ => ?_⟩ | refine ⟨fun _ => ?_, fun hc => absurd (by decide) hc⟩ | refine ⟨fun _ => ?_, fun hc => absurd hc (by decide)⟩ | refine ⟨fun hc => absurd (by decide) hc, fun _ => ?_⟩); conv => whnf)
              try dsimp only
              exact read _ _ (fpm_trans hF' fpm_13) (by rw [z_up_nei (by decide)]; exact h16') (xr_adv p2 (xr_in (by decide) he)) (by rw [z_up_nei (by decide)]; exact p3) (fun s hs => ra_fr (p4 s hs) (z_up_ne (by decide))) ih
        · rw [if_neg p1] at ih
          have n1 : ¬ wi' 45 14 = mI 1 := fun z => nI_m1 (by omega) (p2.symm.trans z)
          have ih := ih wi' hF' h16' (Or.inr ⟨p1, p2, p3, k2, p4⟩)
          refine ⟨fun h0 => ?_, fun h0 => ?_⟩
          · exact wrong wi' n1 ih
          · conv => whnf
            repeat ((first | refine ⟨zH_of _, ?_⟩ | refine ⟨trivial, ?_⟩ | refine ⟨rfl, ?_⟩ | refine ⟨fun hc => absurd hc (by decide), fun _ => ?_⟩ | refine ⟨fun _ => ?_, fun hc => absurd (by decide) hc⟩ | refine ⟨fun _ => ?_, fun hc => absurd hc (by decide)⟩ | refine ⟨fun hc => absurd (by decide) hc, fun _ => ?_⟩); conv => whnf)
            try dsimp only
            refine ⟨L, x, k2, 42, p4, rfl, by decide, fun _ => ?_, fun z => absurd z n1, fun z => absurd z n1⟩
            conv => whnf
            repeat ((first | refine ⟨zH_of _, ?_⟩ | refine ⟨trivial, ?_⟩ | refine ⟨rfl, ?_⟩ | refine ⟨fun hc => absurd hc (by decide), fun _ => ?_⟩ | refine ⟨fun _ => ?_, fun hc => absurd (by decide) hc⟩ | refine ⟨fun _ => ?_, fun hc => absurd hc (by decide)⟩ | refine ⟨fun hc => absurd (by decide) hc, fun _ => ?_⟩); conv => whnf)
            try dsimp only
            exact wrong wi' n1 ih)
    exact hs 400 0 _ _ _ _ _ (loop 0 (Nat.zero_le _) wi fpm_refl h16 (Or.inl ⟨rfl, hX, hw, fun s hs => absurd hs (Nat.not_lt_zero s)⟩))

