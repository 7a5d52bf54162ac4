def F4 (o : Nat) (wi wi' : Nat → Nat → Int32) : Prop := ∀ y, y ≠ o → y ≠ o + 2 → y ≠ o + 4 → y ≠ o + 6 → wi' y = wi y
def sp_X0_take : zSp := fun av w K => match av with
  | [.ref o, .int x] => (o = 20 ∨ o = 31) ∧ zG w.1 ∧ ∃ q B a, BS w.2.1 o q B ∧ x = pk a ∧ (∀ p, p < 9 → a p < q) ∧ (¬ bkB q B a = true → ∀ wi' : Nat → Nat → Int32, F4 o w.2.1 wi' → BS wi' o q B → K (some (.int (nI 0))) (w.1, wi', w.2.2)) ∧ (bkB q B a = true → ∀ wi' : Nat → Nat → Int32, F4 o w.2.1 wi' → BS wi' o q (bkS q B a) → K (some (.int (nI 1))) (w.1, wi', w.2.2))
  | _ => False
def rm_X0_take : Room := { frames := 3, cells := 0, slots := 0, locals := 73 }
def M_X0_take : zM := (k_X0_take, f_X0, [(33, 4, 0, 2, 0, 0, sp_X0_reduce), (39, 0, 0, 1, 0, 0, sp_X0_firstPlace), (43, 0, 0, 2, 0, 0, sp_X2_numberAt), (49, 0, 0, 2, 0, 0, sp_X2_times), (52, 4, 2, 3, 0, 0, sp_X3_put), (56, 0, 0, 3, 0, 0, sp_X2_with), (63, 0, 0, 3, 0, 0, sp_X2_less)], ([], [], []), [], [], 2, false, (false, 0, fun _ => 0), (0, 0, []))
theorem ca_X0_take_0 (l : Launch) : z_cok l RX0 (headSpec (.code yX0_take cX0_take 4 (some .boolean) :: zTT) rm_X0_take).room (false, 0, fun _ => 0) (33, 4, 0, 2, 0, 0, sp_X0_reduce) := z_ca4 (c_X0_reduce l) mb_X0_reduce ⟨_, rfl, rfl⟩ wt_597 wt_599 wt_11 (by decide)
theorem ca_X0_take_1 (l : Launch) : z_cok l RX0 (headSpec (.code yX0_take cX0_take 4 (some .boolean) :: zTT) rm_X0_take).room (false, 0, fun _ => 0) (39, 0, 0, 1, 0, 0, sp_X0_firstPlace) := z_ca0 (c_X0_firstPlace l) mb_X0_firstPlace wt_606 wt_607 (by decide)
theorem ca_X0_take_2 (l : Launch) : z_cok l RX0 (headSpec (.code yX0_take cX0_take 4 (some .boolean) :: zTT) rm_X0_take).room (false, 0, fun _ => 0) (43, 0, 0, 2, 0, 0, sp_X2_numberAt) := z_ca0 (c_X2_numberAt l) mb_X2_numberAt wt_602 wt_390 (by decide)
theorem ca_X0_take_3 (l : Launch) : z_cok l RX0 (headSpec (.code yX0_take cX0_take 4 (some .boolean) :: zTT) rm_X0_take).room (false, 0, fun _ => 0) (49, 0, 0, 2, 0, 0, sp_X2_times) := z_ca0 (c_X2_times l) mb_X2_times wt_603 wt_516 (by decide)
theorem ca_X0_take_4 (l : Launch) : z_cok l RX0 (headSpec (.code yX0_take cX0_take 4 (some .boolean) :: zTT) rm_X0_take).room (false, 0, fun _ => 0) (52, 4, 2, 3, 0, 0, sp_X3_put) := z_ca4 (c_X3_put l) mb_X3_put ⟨_, rfl, rfl⟩ wt_609 wt_293 wt_294 (by decide)
theorem ca_X0_take_5 (l : Launch) : z_cok l RX0 (headSpec (.code yX0_take cX0_take 4 (some .boolean) :: zTT) rm_X0_take).room (false, 0, fun _ => 0) (56, 0, 0, 3, 0, 0, sp_X2_with) := z_ca0 (c_X2_with l) mb_X2_with wt_610 wt_297 (by decide)
theorem ca_X0_take_6 (l : Launch) : z_cok l RX0 (headSpec (.code yX0_take cX0_take 4 (some .boolean) :: zTT) rm_X0_take).room (false, 0, fun _ => 0) (63, 0, 0, 3, 0, 0, sp_X2_less) := z_ca0 (c_X2_less l) mb_X2_less wt_604 wt_532 (by decide)
theorem O_X0_take (l : Launch) : z_OK l RX0 cX0_take (headSpec (.code yX0_take cX0_take 4 (some .boolean) :: zTT) rm_X0_take).room M_X0_take := ⟨ok_X0_take, fo_X0, List.forall_mem_cons.mpr ⟨ca_X0_take_0 l, List.forall_mem_cons.mpr ⟨ca_X0_take_1 l, List.forall_mem_cons.mpr ⟨ca_X0_take_2 l, List.forall_mem_cons.mpr ⟨ca_X0_take_3 l, List.forall_mem_cons.mpr ⟨ca_X0_take_4 l, List.forall_mem_cons.mpr ⟨ca_X0_take_5 l, List.forall_mem_cons.mpr ⟨ca_X0_take_6 l, fun _ h => absurd h List.not_mem_nil⟩⟩⟩⟩⟩⟩⟩, fun _ h => absurd h List.not_mem_nil, fun _ h => absurd h List.not_mem_nil, fun _ h => absurd h List.not_mem_nil, fun _ h => absurd h List.not_mem_nil, rfl, rfl, fun _ h => absurd h List.not_mem_nil⟩
theorem c_X0_take (l : Launch) : z_CS l yX0_take cX0_take 4 (some .boolean) rm_X0_take sp_X0_take := by
  refine z_meth (by decide) (Or.inr (Or.inr (Or.inl ⟨rfl, rfl⟩))) (fun h => by cases h) rfl (O_X0_take l) ?_
  intro av w K h
  match av, h with
  | [.ref o, .int x], h =>
    obtain ⟨ho, ⟨r, hG⟩, q, B, a, hB, rfl, ha, h0, h1⟩ := h
    obtain ⟨G, wi, wl⟩ := w
    subst hG
    try dsimp only at h0 h1 hB
    have hq := hB.2.1
    have h9 := hB.2.2.1
    have lt := rdB_lt hq B ha B.1
    have r3 : ∀ p, p < 9 → rest q B a p < 3 := lt3_of hq lt.1
    rcases ho with rfl | rfl
    · refine ⟨Nat.le_of_ble_eq_true rfl, fun Jm hs => hs 400 0 _ _ _ _ _ ?_⟩
      conv => whnf
      repeat ((first | refine ⟨zG_of _, ?_⟩ | refine ⟨trivial, ?_⟩ | refine ⟨rfl, ?_⟩ | refine ⟨fun hc => absurd hc (by decide), fun _ => ?_⟩ | refine ⟨fun _ => ?_, fun hc => absurd (by decide) hc⟩ | refine ⟨fun _ => ?_, fun hc => absurd hc (by decide)⟩ | refine ⟨fun hc => absurd (by decide) hc, fun _ => ?_⟩); conv => whnf)
      try dsimp only
      refine ⟨by first | exact Or.inl rfl | exact Or.inr rfl, zG_of _, q, B, a, hB, rfl, ha, fun wi1 hF1 hB1 h5 h6 => ?_⟩
      have h0 := fun z => h0 z wi1 (fun y g1 _ _ _ => hF1 y g1) hB1
      conv => whnf
      repeat ((first | refine ⟨zG_of _, ?_⟩ | refine ⟨trivial, ?_⟩ | refine ⟨rfl, ?_⟩ | refine ⟨fun hc => absurd hc (by decide), fun _ => ?_⟩ | refine ⟨fun _ => ?_, fun hc => absurd (by decide) hc⟩ | refine ⟨fun _ => ?_, fun hc => absurd hc (by decide)⟩ | refine ⟨fun hc => absurd (by decide) hc, fun _ => ?_⟩); conv => whnf)
      try dsimp only
      rw [h5, zB_pk r3]
      refine ⟨fun hz => ?_, fun hz => ?_⟩
      · exact ⟨Or.inl rfl, h0 (by simp [bkB, hz])⟩
      · conv => whnf
        repeat ((first | refine ⟨zG_of _, ?_⟩ | refine ⟨trivial, ?_⟩ | refine ⟨rfl, ?_⟩ | refine ⟨fun hc => absurd hc (by decide), fun _ => ?_⟩ | refine ⟨fun _ => ?_, fun hc => absurd (by decide) hc⟩ | refine ⟨fun _ => ?_, fun hc => absurd hc (by decide)⟩ | refine ⟨fun hc => absurd (by decide) hc, fun _ => ?_⟩); conv => whnf)
        try dsimp only
        rw [hB1.1.2, ltN (by omega) (by omega)]
        refine ⟨fun hn => ?_, fun hn => ⟨Or.inl rfl, h0 (by simp [bkB]; intro _; omega)⟩⟩
        have h1 := h1 (by simp [bkB, hn]; simpa using hz)
        have fl := fp_lt (rest q B a)
        have fr := lt.1 _ fl
        generalize hR : rest q B a = R at *
        generalize hP : parts q B a = Q at *
        have ltR : ∀ p, p < 9 → R p < q := by rw [← hR]; exact lt.1
        have ltQ : ∀ p, p < 9 → Q p < q := by rw [← hP]; exact lt.2
        have fR := ltR _ fl
        conv => whnf
        repeat ((first | refine ⟨zG_of _, ?_⟩ | refine ⟨trivial, ?_⟩ | refine ⟨rfl, ?_⟩ | refine ⟨fun hc => absurd hc (by decide), fun _ => ?_⟩ | refine ⟨fun _ => ?_, fun hc => absurd (by decide) hc⟩ | refine ⟨fun _ => ?_, fun hc => absurd hc (by decide)⟩ | refine ⟨fun hc => absurd (by decide) hc, fun _ => ?_⟩); conv => whnf)
        try dsimp only
        refine ⟨R, h5, r3, ?_⟩
        have en : fnum (wi1 20 5) (nI (fp R)) = nI (R (fp R)) := by rw [h5]; exact fnum_pk r3 fl
        conv => whnf
        repeat ((first | refine ⟨zG_of _, ?_⟩ | refine ⟨trivial, ?_⟩ | refine ⟨rfl, ?_⟩ | refine ⟨fun hc => absurd hc (by decide), fun _ => ?_⟩ | refine ⟨fun _ => ?_, fun hc => absurd (by decide) hc⟩ | refine ⟨fun _ => ?_, fun hc => absurd hc (by decide)⟩ | refine ⟨fun hc => absurd (by decide) hc, fun _ => ?_⟩); conv => whnf)
        try dsimp only
        rw [en]
        have w2 : putF wi1 22 9 (wi1 20 4) (ftimes (nI (R (fp R))) (wi1 20 5)) = z_up wi1 22 B.1 (pk (fMul q (R (fp R)) R)) := by
          rw [hB1.1.2, h5, putF_in hn (by decide), ftimes_pk hq fR ltR]
          rfl
        rw [w2, z_up_ne (show (20 : Nat) ≠ 22 by decide)]
        have w4 : putF (z_up wi1 22 B.1 (pk (fMul q (R (fp R)) R))) 24 9 (wi1 20 4) (ftimes (nI (R (fp R))) (fless (fwith (nI 0) (wi1 20 4) (nI 1)) (wi1 20 6) (wi1 20 3))) = z_up (z_up wi1 22 B.1 (pk (fMul q (R (fp R)) R))) 24 B.1 (pk (fMul q (R (fp R)) (fSub q (un B.1) Q))) := by
          rw [hB1.1.2, h6, hB1.1.1, putF_in hn (by decide), fwith_un hn, fless_pk hq (fun p _ => un_lt hq _ p) ltQ, ftimes_pk hq fR (fun p _ => Nat.mod_lt _ (by omega))]
          rfl
        rw [w4, z_up_ne (show (20 : Nat) ≠ 24 by decide), z_up_ne (show (20 : Nat) ≠ 22 by decide)]
        have w6 : putF (z_up (z_up wi1 22 B.1 (pk (fMul q (R (fp R)) R))) 24 B.1 (pk (fMul q (R (fp R)) (fSub q (un B.1) Q)))) 26 9 (wi1 20 4) (nI (fp R)) = z_up (z_up (z_up wi1 22 B.1 (pk (fMul q (R (fp R)) R))) 24 B.1 (pk (fMul q (R (fp R)) (fSub q (un B.1) Q)))) 26 B.1 (nI (fp R)) := by
          rw [hB1.1.2, putF_in hn (by decide)]
        rw [w6, z_up_ne (show (20 : Nat) ≠ 26 by decide), z_up_ne (show (20 : Nat) ≠ 24 by decide), z_up_ne (show (20 : Nat) ≠ 22 by decide), hB1.1.2, nI_add]
        refine ⟨Or.inr rfl, h1 _ (fun y g1 g2 g3 g4 => by rw [z_up_ne g1, z_up_ne g4, z_up_ne g3, z_up_ne g2, hF1 y g1]) ⟨⟨?_, z_up_eq⟩, hq, ?_, fun k hk => ?_⟩⟩
        · rw [z_up_nei (by decide), z_up_ne (by decide), z_up_ne (by decide), z_up_ne (by decide)]
          exact hB1.1.1
        · show B.1 + 1 ≤ 9
          omega
        · have hk : k < B.1 + 1 := hk
          rw [z_up_ne (show (20 + 2 : Nat) ≠ 20 by decide), z_up_ne (show (20 + 2 : Nat) ≠ 26 by decide), z_up_ne (show (20 + 2 : Nat) ≠ 24 by decide), z_up_ne (show (20 + 4 : Nat) ≠ 20 by decide), z_up_ne (show (20 + 4 : Nat) ≠ 26 by decide), z_up_ne (show (20 + 6 : Nat) ≠ 20 by decide)]
          unfold bkS upA setp
          rw [hR, hP]
          dsimp only
          by_cases e : k = B.1
          · subst e
            rw [z_up_eq, z_up_eq, z_up_eq, if_pos rfl, if_pos rfl, if_pos rfl]
            exact ⟨rfl, rfl, rfl, fl, fun p _ => fMul_lt hq _ _ p, fun p _ => fMul_lt hq _ _ p⟩
          · rw [z_up_nei e, z_up_nei e, z_up_nei e, if_neg e, if_neg e, if_neg e]
            rw [z_up_ne (show (20 + 4 : Nat) ≠ 22 by decide), z_up_ne (show (20 + 6 : Nat) ≠ 24 by decide), z_up_ne (show (20 + 6 : Nat) ≠ 22 by decide)]
            exact hB1.2.2.2 k (by omega)
    · refine ⟨Nat.le_of_ble_eq_true rfl, fun Jm hs => hs 400 0 _ _ _ _ _ ?_⟩
      conv => whnf
      repeat ((first | refine ⟨zG_of _, ?_⟩ | refine ⟨trivial, ?_⟩ | refine ⟨rfl, ?_⟩ | refine ⟨fun hc => absurd hc (by decide), fun _ => ?_⟩ | refine ⟨fun _ => ?_, fun hc => absurd (by decide) hc⟩ | refine ⟨fun _ => ?_, fun hc => absurd hc (by decide)⟩ | refine ⟨fun hc => absurd (by decide) hc, fun _ => ?_⟩); conv => whnf)
      try dsimp only
      refine ⟨by first | exact Or.inl rfl | exact Or.inr rfl, zG_of _, q, B, a, hB, rfl, ha, fun wi1 hF1 hB1 h5 h6 => ?_⟩
      have h0 := fun z => h0 z wi1 (fun y g1 _ _ _ => hF1 y g1) hB1
      conv => whnf
      repeat ((first | refine ⟨zG_of _, ?_⟩ | refine ⟨trivial, ?_⟩ | refine ⟨rfl, ?_⟩ | refine ⟨fun hc => absurd hc (by decide), fun _ => ?_⟩ | refine ⟨fun _ => ?_, fun hc => absurd (by decide) hc⟩ | refine ⟨fun _ => ?_, fun hc => absurd hc (by decide)⟩ | refine ⟨fun hc => absurd (by decide) hc, fun _ => ?_⟩); conv => whnf)
      try dsimp only
      rw [h5, zB_pk r3]
      refine ⟨fun hz => ?_, fun hz => ?_⟩
      · exact ⟨Or.inl rfl, h0 (by simp [bkB, hz])⟩
      · conv => whnf
        repeat ((first | refine ⟨zG_of _, ?_⟩ | refine ⟨trivial, ?_⟩ | refine ⟨rfl, ?_⟩ | refine ⟨fun hc => absurd hc (by decide), fun _ => ?_⟩ | refine ⟨fun _ => ?_, fun hc => absurd (by decide) hc⟩ | refine ⟨fun _ => ?_, fun hc => absurd hc (by decide)⟩ | refine ⟨fun hc => absurd (by decide) hc, fun _ => ?_⟩); conv => whnf)
        try dsimp only
        rw [hB1.1.2, ltN (by omega) (by omega)]
        refine ⟨fun hn => ?_, fun hn => ⟨Or.inl rfl, h0 (by simp [bkB]; intro _; omega)⟩⟩
        have h1 := h1 (by simp [bkB, hn]; simpa using hz)
        have fl := fp_lt (rest q B a)
        have fr := lt.1 _ fl
        generalize hR : rest q B a = R at *
        generalize hP : parts q B a = Q at *
        have ltR : ∀ p, p < 9 → R p < q := by rw [← hR]; exact lt.1
        have ltQ : ∀ p, p < 9 → Q p < q := by rw [← hP]; exact lt.2
        have fR := ltR _ fl
        conv => whnf
        repeat ((first | refine ⟨zG_of _, ?_⟩ | refine ⟨trivial, ?_⟩ | refine ⟨rfl, ?_⟩ | refine ⟨fun hc => absurd hc (by decide), fun _ => ?_⟩ | refine ⟨fun _ => ?_, fun hc => absurd (by decide) hc⟩ | refine ⟨fun _ => ?_, fun hc => absurd hc (by decide)⟩ | refine ⟨fun hc => absurd (by decide) hc, fun _ => ?_⟩); conv => whnf)
        try dsimp only
        refine ⟨R, h5, r3, ?_⟩
        have en : fnum (wi1 31 5) (nI (fp R)) = nI (R (fp R)) := by rw [h5]; exact fnum_pk r3 fl
        conv => whnf
        repeat ((first | refine ⟨zG_of _, ?_⟩ | refine ⟨trivial, ?_⟩ | refine ⟨rfl, ?_⟩ | refine ⟨fun hc => absurd hc (by decide), fun _ => ?_⟩ | refine ⟨fun _ => ?_, fun hc => absurd (by decide) hc⟩ | refine ⟨fun _ => ?_, fun hc => absurd hc (by decide)⟩ | refine ⟨fun hc => absurd (by decide) hc, fun _ => ?_⟩); conv => whnf)
        try dsimp only
        rw [en]
        have w2 : putF wi1 33 9 (wi1 31 4) (ftimes (nI (R (fp R))) (wi1 31 5)) = z_up wi1 33 B.1 (pk (fMul q (R (fp R)) R)) := by
          rw [hB1.1.2, h5, putF_in hn (by decide), ftimes_pk hq fR ltR]
          rfl
        rw [w2, z_up_ne (show (31 : Nat) ≠ 33 by decide)]
        have w4 : putF (z_up wi1 33 B.1 (pk (fMul q (R (fp R)) R))) 35 9 (wi1 31 4) (ftimes (nI (R (fp R))) (fless (fwith (nI 0) (wi1 31 4) (nI 1)) (wi1 31 6) (wi1 31 3))) = z_up (z_up wi1 33 B.1 (pk (fMul q (R (fp R)) R))) 35 B.1 (pk (fMul q (R (fp R)) (fSub q (un B.1) Q))) := by
          rw [hB1.1.2, h6, hB1.1.1, putF_in hn (by decide), fwith_un hn, fless_pk hq (fun p _ => un_lt hq _ p) ltQ, ftimes_pk hq fR (fun p _ => Nat.mod_lt _ (by omega))]
          rfl
        rw [w4, z_up_ne (show (31 : Nat) ≠ 35 by decide), z_up_ne (show (31 : Nat) ≠ 33 by decide)]
        have w6 : putF (z_up (z_up wi1 33 B.1 (pk (fMul q (R (fp R)) R))) 35 B.1 (pk (fMul q (R (fp R)) (fSub q (un B.1) Q)))) 37 9 (wi1 31 4) (nI (fp R)) = z_up (z_up (z_up wi1 33 B.1 (pk (fMul q (R (fp R)) R))) 35 B.1 (pk (fMul q (R (fp R)) (fSub q (un B.1) Q)))) 37 B.1 (nI (fp R)) := by
          rw [hB1.1.2, putF_in hn (by decide)]
        rw [w6, z_up_ne (show (31 : Nat) ≠ 37 by decide), z_up_ne (show (31 : Nat) ≠ 35 by decide), z_up_ne (show (31 : Nat) ≠ 33 by decide), hB1.1.2, nI_add]
        refine ⟨Or.inr rfl, h1 _ (fun y g1 g2 g3 g4 => by rw [z_up_ne g1, z_up_ne g4, z_up_ne g3, z_up_ne g2, hF1 y g1]) ⟨⟨?_, z_up_eq⟩, hq, ?_, fun k hk => ?_⟩⟩
        · rw [z_up_nei (by decide), z_up_ne (by decide), z_up_ne (by decide), z_up_ne (by decide)]
          exact hB1.1.1
        · show B.1 + 1 ≤ 9
          omega
        · have hk : k < B.1 + 1 := hk
          rw [z_up_ne (show (31 + 2 : Nat) ≠ 31 by decide), z_up_ne (show (31 + 2 : Nat) ≠ 37 by decide), z_up_ne (show (31 + 2 : Nat) ≠ 35 by decide), z_up_ne (show (31 + 4 : Nat) ≠ 31 by decide), z_up_ne (show (31 + 4 : Nat) ≠ 37 by decide), z_up_ne (show (31 + 6 : Nat) ≠ 31 by decide)]
          unfold bkS upA setp
          rw [hR, hP]
          dsimp only
          by_cases e : k = B.1
          · subst e
            rw [z_up_eq, z_up_eq, z_up_eq, if_pos rfl, if_pos rfl, if_pos rfl]
            exact ⟨rfl, rfl, rfl, fl, fun p _ => fMul_lt hq _ _ p, fun p _ => fMul_lt hq _ _ p⟩
          · rw [z_up_nei e, z_up_nei e, z_up_nei e, if_neg e, if_neg e, if_neg e]
            rw [z_up_ne (show (31 + 4 : Nat) ≠ 33 by decide), z_up_ne (show (31 + 6 : Nat) ≠ 35 by decide), z_up_ne (show (31 + 6 : Nat) ≠ 33 by decide)]
            exact hB1.2.2.2 k (by omega)
def sp_X0_isSum : zSp := fun av w K => match av with
  | [.ref o, .int x] => (o = 20 ∨ o = 31) ∧ zG w.1 ∧ ∃ q B a, BS w.2.1 o q B ∧ x = pk a ∧ (∀ p, p < 9 → a p < q) ∧ ∀ wi' : Nat → Nat → Int32, (∀ y, y ≠ o → wi' y = w.2.1 y) → BS wi' o q B → wi' o 6 = pk (parts q B a) → K (some (.int (bI (zB (rest q B a) = true)))) (w.1, wi', w.2.2)
  | _ => False
def rm_X0_isSum : Room := { frames := 3, cells := 0, slots := 0, locals := 73 }
def M_X0_isSum : zM := (k_X0_isSum, f_X0, [(33, 4, 0, 2, 0, 0, sp_X0_reduce)], ([], [], []), [], [], 2, false, (false, 0, fun _ => 0), (0, 0, []))
theorem ca_X0_isSum_0 (l : Launch) : z_cok l RX0 (headSpec (.code yX0_isSum cX0_isSum 2 (some .boolean) :: zTT) rm_X0_isSum).room (false, 0, fun _ => 0) (33, 4, 0, 2, 0, 0, sp_X0_reduce) := z_ca4 (c_X0_reduce l) mb_X0_reduce ⟨_, rfl, rfl⟩ wt_597 wt_599 wt_11 (by decide)
theorem O_X0_isSum (l : Launch) : z_OK l RX0 cX0_isSum (headSpec (.code yX0_isSum cX0_isSum 2 (some .boolean) :: zTT) rm_X0_isSum).room M_X0_isSum := ⟨ok_X0_isSum, fo_X0, List.forall_mem_cons.mpr ⟨ca_X0_isSum_0 l, fun _ h => absurd h List.not_mem_nil⟩, fun _ h => absurd h List.not_mem_nil, fun _ h => absurd h List.not_mem_nil, fun _ h => absurd h List.not_mem_nil, fun _ h => absurd h List.not_mem_nil, rfl, rfl, fun _ h => absurd h List.not_mem_nil⟩
theorem c_X0_isSum (l : Launch) : z_CS l yX0_isSum cX0_isSum 2 (some .boolean) rm_X0_isSum sp_X0_isSum := by
  refine z_meth (by decide) (Or.inr (Or.inr (Or.inl ⟨rfl, rfl⟩))) (fun h => by cases h) rfl (O_X0_isSum l) ?_
  intro av w K h
  match av, h with
  | [.ref o, .int x], h =>
    obtain ⟨ho, ⟨r, hG⟩, q, B, a, hB, rfl, ha, h⟩ := h
    obtain ⟨G, wi, wl⟩ := w
    subst hG
    try dsimp only at h hB
    have hq := hB.2.1
    have lt := rdB_lt hq B ha B.1
    have r3 : ∀ p, p < 9 → rest q B a p < 3 := lt3_of hq lt.1
    rcases ho with rfl | rfl
    · refine ⟨Nat.le_of_ble_eq_true rfl, fun Jm hs => hs 400 0 _ _ _ _ _ ?_⟩
      conv => whnf
      repeat ((first | refine ⟨zG_of _, ?_⟩ | refine ⟨trivial, ?_⟩ | refine ⟨rfl, ?_⟩ | refine ⟨fun hc => absurd hc (by decide), fun _ => ?_⟩ | refine ⟨fun _ => ?_, fun hc => absurd (by decide) hc⟩ | refine ⟨fun _ => ?_, fun hc => absurd hc (by decide)⟩ | refine ⟨fun hc => absurd (by decide) hc, fun _ => ?_⟩); conv => whnf)
      try dsimp only
      refine ⟨by first | exact Or.inl rfl | exact Or.inr rfl, zG_of _, q, B, a, hB, rfl, ha, fun wi1 hF1 hB1 h5 h6 => ?_⟩
      have h := h wi1 hF1 hB1 h6
      conv => whnf
      repeat ((first | refine ⟨zG_of _, ?_⟩ | refine ⟨trivial, ?_⟩ | refine ⟨rfl, ?_⟩ | refine ⟨fun hc => absurd hc (by decide), fun _ => ?_⟩ | refine ⟨fun _ => ?_, fun hc => absurd (by decide) hc⟩ | refine ⟨fun _ => ?_, fun hc => absurd hc (by decide)⟩ | refine ⟨fun hc => absurd (by decide) hc, fun _ => ?_⟩); conv => whnf)
      try dsimp only
      rw [h5, zB_pk r3]
      refine ⟨fun hz => ?_, fun hz => ?_⟩
      · rw [bI_f hz] at h
        exact ⟨Or.inl rfl, h⟩
      · rw [bI_t hz] at h
        exact ⟨Or.inr rfl, h⟩
    · refine ⟨Nat.le_of_ble_eq_true rfl, fun Jm hs => hs 400 0 _ _ _ _ _ ?_⟩
      conv => whnf
      repeat ((first | refine ⟨zG_of _, ?_⟩ | refine ⟨trivial, ?_⟩ | refine ⟨rfl, ?_⟩ | refine ⟨fun hc => absurd hc (by decide), fun _ => ?_⟩ | refine ⟨fun _ => ?_, fun hc => absurd (by decide) hc⟩ | refine ⟨fun _ => ?_, fun hc => absurd hc (by decide)⟩ | refine ⟨fun hc => absurd (by decide) hc, fun _ => ?_⟩); conv => whnf)
      try dsimp only
      refine ⟨by first | exact Or.inl rfl | exact Or.inr rfl, zG_of _, q, B, a, hB, rfl, ha, fun wi1 hF1 hB1 h5 h6 => ?_⟩
      have h := h wi1 hF1 hB1 h6
      conv => whnf
      repeat ((first | refine ⟨zG_of _, ?_⟩ | refine ⟨trivial, ?_⟩ | refine ⟨rfl, ?_⟩ | refine ⟨fun hc => absurd hc (by decide), fun _ => ?_⟩ | refine ⟨fun _ => ?_, fun hc => absurd (by decide) hc⟩ | refine ⟨fun _ => ?_, fun hc => absurd hc (by decide)⟩ | refine ⟨fun hc => absurd (by decide) hc, fun _ => ?_⟩); conv => whnf)
      try dsimp only
      rw [h5, zB_pk r3]
      refine ⟨fun hz => ?_, fun hz => ?_⟩
      · rw [bI_f hz] at h
        exact ⟨Or.inl rfl, h⟩
      · rw [bI_t hz] at h
        exact ⟨Or.inr rfl, h⟩

