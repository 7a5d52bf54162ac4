/-! products shed -/
def scB (q : Nat) (A : Nat → Nat → Nat) (w j k : Nat) : Bool := !hzB A k && lkB q A w j k
def scF (q : Nat) (A : Nat → Nat → Nat) (w u j k : Nat) : Nat → Nat := fMul q (likeN q (A (3 * j + w)) (A (3 * k + w))) (A (3 * k + u))
/-- what is taken of the first k products, for a product j -/
def saL (q : Nat) (A : Nat → Nat → Nat) (w u j : Nat) : Nat → zB4 × (Nat → Nat)
  | 0 => (b0, fun _ => 0)
  | k + 1 => if scB q A w j k = true ∧ bkB q (saL q A w u j k).1 (scF q A w u j k) = true then (bkS q (saL q A w u j k).1 (scF q A w u j k), setp (saL q A w u j k).2 (saL q A w u j k).1.1 k) else saL q A w u j k
def FB (wi wi' : Nat → Nat → Int32) : Prop := ∀ y, ¬ (20 ≤ y ∧ y ≤ 28) → wi' y = wi y
theorem FB_refl (wi : Nat → Nat → Int32) : FB wi wi := fun _ _ => rfl
theorem FB_trans {wi wi' wi2 : Nat → Nat → Int32} (h : FB wi wi') (h2 : FB wi' wi2) : FB wi wi2 := fun y hy => (h2 y hy).trans (h y hy)
theorem FB_4 {wi wi' : Nat → Nat → Int32} (h : F4 20 wi wi') : FB wi wi' := fun y hy => h y (by omega) (by omega) (by omega) (by omega)
theorem saL_T (q : Nat) (A : Nat → Nat → Nat) (w u j : Nat) : ∀ k, ∀ m, m < (saL q A w u j k).1.1 → (saL q A w u j k).2 m < k
  | 0, m, h => absurd h (Nat.not_lt_zero m)
  | k + 1, m, h => by
    have ih := saL_T q A w u j k m
    rw [saL] at h ⊢
    split at h
    · rename_i hc
      rw [if_pos hc]
      unfold setp
      dsimp only
      split
      · omega
      · have h : m < (saL q A w u j k).1.1 + 1 := h
        have := ih (by omega)
        omega
    · rename_i hc
      rw [if_neg hc]
      have := ih h
      omega
def sp_X7_isSumOfAhead : zSp := fun av w K => match av with
  | [.ref o, .ref o2, .int t, .int u, .int j] => o = 19 ∧ o2 = 6 ∧ zG w.1 ∧ ∃ d q c A t' u' j', CS w.2.1 6 d q c A ∧ t = nI t' ∧ t' < 3 ∧ u = nI u' ∧ u' < 3 ∧ j = nI j' ∧ j' < c ∧ ∀ wi' : Nat → Nat → Int32, FB w.2.1 wi' → BS wi' 20 q (saL q A t' u' j' j').1 → (∀ k, k < (saL q A t' u' j' j').1.1 → wi' 28 k = nI ((saL q A t' u' j' j').2 k)) → wi' 20 6 = pk (parts q (saL q A t' u' j' j').1 (A (3 * j' + u'))) → K (some (.int (bI (zB (rest q (saL q A t' u' j' j').1 (A (3 * j' + u'))) = true)))) (w.1, wi', w.2.2)
  | _ => False
def rm_X7_isSumOfAhead : Room := { frames := 4, cells := 0, slots := 0, locals := 96 }
def M_X7_isSumOfAhead : zM := (k_X7_isSumOfAhead, f_X7, [(65, 4, 0, 2, 0, 0, sp_X0_start), (40, 4, 5, 2, 0, 0, sp_X6_hasZero), (68, 4, 5, 4, 0, 0, sp_X6_likeBy), (72, 4, 5, 3, 0, 0, sp_X6_formAt), (76, 0, 0, 2, 0, 0, sp_X2_times), (81, 4, 0, 2, 0, 0, sp_X0_take), (58, 4, 2, 3, 0, 0, sp_X3_put), (85, 4, 0, 2, 0, 0, sp_X0_isSum)], ([], [], []), [], [(14, [true, true, true, true, true, true, false]), (43, [true, true, true, true, true, true, false]), (90, [true, true, true, true, true, true, false])], 2, false, (false, 0, fun _ => 0), (0, 0, []))
theorem ca_X7_isSumOfAhead_0 (l : Launch) : z_cok l RX7 (headSpec (.code yX7_isSumOfAhead cX7_isSumOfAhead 7 (some .boolean) :: zTT) rm_X7_isSumOfAhead).room (false, 0, fun _ => 0) (65, 4, 0, 2, 0, 0, sp_X0_start) := z_ca4 (c_X0_start l) mb_X0_start ⟨_, rfl, rfl⟩ wt_586 wt_587 wt_588 (by decide)
theorem ca_X7_isSumOfAhead_1 (l : Launch) : z_cok l RX7 (headSpec (.code yX7_isSumOfAhead cX7_isSumOfAhead 7 (some .boolean) :: zTT) rm_X7_isSumOfAhead).room (false, 0, fun _ => 0) (40, 4, 5, 2, 0, 0, sp_X6_hasZero) := z_ca4 (c_X6_hasZero l) mb_X6_hasZero ⟨_, rfl, rfl⟩ wt_581 wt_540 wt_541 (by decide)
theorem ca_X7_isSumOfAhead_2 (l : Launch) : z_cok l RX7 (headSpec (.code yX7_isSumOfAhead cX7_isSumOfAhead 7 (some .boolean) :: zTT) rm_X7_isSumOfAhead).room (false, 0, fun _ => 0) (68, 4, 5, 4, 0, 0, sp_X6_likeBy) := z_ca4 (c_X6_likeBy l) mb_X6_likeBy ⟨_, rfl, rfl⟩ wt_590 wt_509 wt_510 (by decide)
theorem ca_X7_isSumOfAhead_3 (l : Launch) : z_cok l RX7 (headSpec (.code yX7_isSumOfAhead cX7_isSumOfAhead 7 (some .boolean) :: zTT) rm_X7_isSumOfAhead).room (false, 0, fun _ => 0) (72, 4, 5, 3, 0, 0, sp_X6_formAt) := z_ca4 (c_X6_formAt l) mb_X6_formAt ⟨_, rfl, rfl⟩ wt_591 wt_408 wt_409 (by decide)
theorem ca_X7_isSumOfAhead_4 (l : Launch) : z_cok l RX7 (headSpec (.code yX7_isSumOfAhead cX7_isSumOfAhead 7 (some .boolean) :: zTT) rm_X7_isSumOfAhead).room (false, 0, fun _ => 0) (76, 0, 0, 2, 0, 0, sp_X2_times) := z_ca0 (c_X2_times l) mb_X2_times wt_592 wt_516 (by decide)
theorem ca_X7_isSumOfAhead_5 (l : Launch) : z_cok l RX7 (headSpec (.code yX7_isSumOfAhead cX7_isSumOfAhead 7 (some .boolean) :: zTT) rm_X7_isSumOfAhead).room (false, 0, fun _ => 0) (81, 4, 0, 2, 0, 0, sp_X0_take) := z_ca4 (c_X0_take l) mb_X0_take ⟨_, rfl, rfl⟩ wt_593 wt_594 wt_595 (by decide)
theorem ca_X7_isSumOfAhead_6 (l : Launch) : z_cok l RX7 (headSpec (.code yX7_isSumOfAhead cX7_isSumOfAhead 7 (some .boolean) :: zTT) rm_X7_isSumOfAhead).room (false, 0, fun _ => 0) (58, 4, 2, 3, 0, 0, sp_X3_put) := z_ca4 (c_X3_put l) mb_X3_put ⟨_, rfl, rfl⟩ wt_611 wt_293 wt_294 (by decide)
theorem ca_X7_isSumOfAhead_7 (l : Launch) : z_cok l RX7 (headSpec (.code yX7_isSumOfAhead cX7_isSumOfAhead 7 (some .boolean) :: zTT) rm_X7_isSumOfAhead).room (false, 0, fun _ => 0) (85, 4, 0, 2, 0, 0, sp_X0_isSum) := z_ca4 (c_X0_isSum l) mb_X0_isSum ⟨_, rfl, rfl⟩ wt_612 wt_613 wt_614 (by decide)
theorem O_X7_isSumOfAhead (l : Launch) : z_OK l RX7 cX7_isSumOfAhead (headSpec (.code yX7_isSumOfAhead cX7_isSumOfAhead 7 (some .boolean) :: zTT) rm_X7_isSumOfAhead).room M_X7_isSumOfAhead := ⟨ok_X7_isSumOfAhead, fo_X7, List.forall_mem_cons.mpr ⟨ca_X7_isSumOfAhead_0 l, List.forall_mem_cons.mpr ⟨ca_X7_isSumOfAhead_1 l, List.forall_mem_cons.mpr ⟨ca_X7_isSumOfAhead_2 l, List.forall_mem_cons.mpr ⟨ca_X7_isSumOfAhead_3 l, List.forall_mem_cons.mpr ⟨ca_X7_isSumOfAhead_4 l, List.forall_mem_cons.mpr ⟨ca_X7_isSumOfAhead_5 l, List.forall_mem_cons.mpr ⟨ca_X7_isSumOfAhead_6 l, List.forall_mem_cons.mpr ⟨ca_X7_isSumOfAhead_7 l, fun _ h => absurd h List.not_mem_nil⟩⟩⟩⟩⟩⟩⟩⟩, fun _ h => absurd h List.not_mem_nil, fun _ h => absurd h List.not_mem_nil, fun _ h => absurd h List.not_mem_nil, fun _ h => absurd h List.not_mem_nil, rfl, rfl, fun _ h => absurd h List.not_mem_nil⟩
theorem c_X7_isSumOfAhead (l : Launch) : z_CS l yX7_isSumOfAhead cX7_isSumOfAhead 7 (some .boolean) rm_X7_isSumOfAhead sp_X7_isSumOfAhead := by
  refine z_meth (by decide) (Or.inr (Or.inr (Or.inl ⟨rfl, rfl⟩))) (fun h => by cases h) rfl (O_X7_isSumOfAhead l) ?_
  intro av w K h
  match av, h with
  | [.ref o, .ref o2, .int t, .int u, .int j], h =>
    obtain ⟨rfl, rfl, ⟨r, hG⟩, d, q, c, A, t', u', j', hS, rfl, ht, rfl, hu, rfl, hj, h⟩ := h
    obtain ⟨G, wi, wl⟩ := w
    subst hG
    try dsimp only at h hS
    have h40 := cs_40 hS
    have q23 := cs_q23 hS
    refine ⟨Nat.le_of_ble_eq_true rfl, fun Jm hs => ?_⟩
    have loop := up_ind (P := fun k => ∀ wi' : Nat → Nat → Int32, FB wi wi' → BS wi' 20 q (saL q A t' u' j' k).1 → (∀ m, m < (saL q A t' u' j' k).1.1 → wi' 28 m = nI ((saL q A t' u' j' k).2 m)) → Jm 14 [some (.ref 19), some (.ref 6), some (.int (nI t')), some (.int (nI u')), some (.int (nI j')), some (.int (nI k)), none] [] (GC ++ r, wi', wl) 0 0) j' (fun k hk ih => by
      intro wi' hF hB hT
      have hS' : CS wi' 6 d q c A := cs_fr hS (hF 6 (by omega)) (hF 8 (by omega))
      refine hs 400 14 _ _ _ _ _ ?_
      conv => whnf
      repeat ((first | refine ⟨zG_of _, ?_⟩ | refine ⟨trivial, ?_⟩ | refine ⟨rfl, ?_⟩ | refine ⟨fun hc => absurd hc (by decide), fun _ => ?_⟩ | refine ⟨fun _ => ?_, fun hc => absurd (by decide) hc⟩ | refine ⟨fun _ => ?_, fun hc => absurd hc (by decide)⟩ | refine ⟨fun hc => absurd (by decide) hc, fun _ => ?_⟩); conv => whnf)
      try dsimp only
      rw [ltN (by omega) (by omega)]
      refine ⟨fun hc => ?_, fun hc => ?_⟩
      · obtain hkn : k = j' := by omega
        subst hkn
        conv => whnf
        repeat ((first | refine ⟨zG_of _, ?_⟩ | refine ⟨trivial, ?_⟩ | refine ⟨rfl, ?_⟩ | refine ⟨fun hc => absurd hc (by decide), fun _ => ?_⟩ | refine ⟨fun _ => ?_, fun hc => absurd (by decide) hc⟩ | refine ⟨fun _ => ?_, fun hc => absurd hc (by decide)⟩ | refine ⟨fun hc => absurd (by decide) hc, fun _ => ?_⟩); conv => whnf)
        try dsimp only
        refine ⟨Or.inl rfl, zG_of _, q, _, A (3 * k + u'), hB, fm_S hS' hj hu, cs_A hS _ (by omega), fun wi1 hF1 hB1 h6 => ?_⟩
        have h := h wi1 (FB_trans hF (fun y hy => hF1 y (show y ≠ 20 by omega))) hB1 (fun m hm => by rw [hF1 28 (by decide)]; exact hT m hm) h6
        exact ⟨bI_or, h⟩
      · have ihn := ih hc
        have skip : ¬ (scB q A t' j' k = true ∧ bkB q (saL q A t' u' j' k).1 (scF q A t' u' j' k) = true) → ∀ wi1 : Nat → Nat → Int32, FB wi wi1 → BS wi1 20 q (saL q A t' u' j' k).1 → (∀ m, m < (saL q A t' u' j' k).1.1 → wi1 28 m = nI ((saL q A t' u' j' k).2 m)) → Jm 14 [some (.ref 19), some (.ref 6), some (.int (nI t')), some (.int (nI u')), some (.int (nI j')), some (.int (nI (k + 1))), none] [] (GC ++ r, wi1, wl) 0 0 := fun hn => by
          rw [saL, if_neg hn] at ihn
          exact ihn
        have kc : k < c := by omega
        have e0 := lk_S hS' hj kc ht
        have a0 := likeN_lt q (A (3 * j' + t')) (A (3 * k + t'))
        have a1 := likeN_lt_q q23 (A (3 * j' + t')) (A (3 * k + t'))
        conv => whnf
        repeat ((first | refine ⟨zG_of _, ?_⟩ | refine ⟨trivial, ?_⟩ | refine ⟨rfl, ?_⟩ | refine ⟨fun hc => absurd hc (by decide), fun _ => ?_⟩ | refine ⟨fun _ => ?_, fun hc => absurd (by decide) hc⟩ | refine ⟨fun _ => ?_, fun hc => absurd hc (by decide)⟩ | refine ⟨fun hc => absurd (by decide) hc, fun _ => ?_⟩); conv => whnf)
        try dsimp only
        rw [hz_S hS' kc]
        refine ⟨fun hz => ?_, fun hz => ?_⟩
        · rw [bI_0] at hz
          conv => whnf
          repeat ((first | refine ⟨zG_of _, ?_⟩ | refine ⟨trivial, ?_⟩ | refine ⟨rfl, ?_⟩ | refine ⟨fun hc => absurd hc (by decide), fun _ => ?_⟩ | refine ⟨fun _ => ?_, fun hc => absurd (by decide) hc⟩ | refine ⟨fun _ => ?_, fun hc => absurd hc (by decide)⟩ | refine ⟨fun hc => absurd (by decide) hc, fun _ => ?_⟩); conv => whnf)
          try dsimp only
          refine hs 400 43 _ _ _ _ _ ?_
          conv => whnf
          repeat ((first | refine ⟨zG_of _, ?_⟩ | refine ⟨trivial, ?_⟩ | refine ⟨rfl, ?_⟩ | refine ⟨fun hc => absurd hc (by decide), fun _ => ?_⟩ | refine ⟨fun _ => ?_, fun hc => absurd (by decide) hc⟩ | refine ⟨fun _ => ?_, fun hc => absurd hc (by decide)⟩ | refine ⟨fun hc => absurd (by decide) hc, fun _ => ?_⟩); conv => whnf)
          try dsimp only
          refine ⟨fun hq => ?_, fun hq => ?_⟩
          · have hq : ¬ nI 0 < nI (likeN q (A (3 * j' + t')) (A (3 * k + t'))) := fun z => hq (by have z2 := z; rw [← e0] at z2; exact z2)
            rw [ltN (by omega) (by omega)] at hq
            conv => whnf
            repeat ((first | refine ⟨zG_of _, ?_⟩ | refine ⟨trivial, ?_⟩ | refine ⟨rfl, ?_⟩ | refine ⟨fun hc => absurd hc (by decide), fun _ => ?_⟩ | refine ⟨fun _ => ?_, fun hc => absurd (by decide) hc⟩ | refine ⟨fun _ => ?_, fun hc => absurd hc (by decide)⟩ | refine ⟨fun hc => absurd (by decide) hc, fun _ => ?_⟩); conv => whnf)
            try dsimp only
            refine hs 400 90 _ _ _ _ _ ?_
            conv => whnf
            repeat ((first | refine ⟨zG_of _, ?_⟩ | refine ⟨trivial, ?_⟩ | refine ⟨rfl, ?_⟩ | refine ⟨fun hc => absurd hc (by decide), fun _ => ?_⟩ | refine ⟨fun _ => ?_, fun hc => absurd (by decide) hc⟩ | refine ⟨fun _ => ?_, fun hc => absurd hc (by decide)⟩ | refine ⟨fun hc => absurd (by decide) hc, fun _ => ?_⟩); conv => whnf)
            try dsimp only
            rw [nI_add]
            refine skip (fun z => ?_) wi' hF hB hT
            have z1 := z.1
            simp [scB, lkB, show likeN q (A (3 * j' + t')) (A (3 * k + t')) = 0 by omega] at z1
          · have hq : nI 0 < nI (likeN q (A (3 * j' + t')) (A (3 * k + t'))) := by rw [← e0]; exact hq
            rw [ltN (by omega) (by omega)] at hq
            have hsc : scB q A t' j' k = true := by
              simp [scB, lkB]
              exact ⟨by simpa using hz, by omega⟩
            have hv : ftimes (flike (fmF wi' 6 (nI j') (nI t')) (fmF wi' 6 (nI k) (nI t')) (wi' 6 4)) (fmF wi' 6 (nI k) (nI u')) = pk (scF q A t' u' j' k) := by
              rw [e0]
              exact vMul hS' a1 kc hu
            conv => whnf
            repeat ((first | refine ⟨zG_of _, ?_⟩ | refine ⟨trivial, ?_⟩ | refine ⟨rfl, ?_⟩ | refine ⟨fun hc => absurd hc (by decide), fun _ => ?_⟩ | refine ⟨fun _ => ?_, fun hc => absurd (by decide) hc⟩ | refine ⟨fun _ => ?_, fun hc => absurd hc (by decide)⟩ | refine ⟨fun hc => absurd (by decide) hc, fun _ => ?_⟩); conv => whnf)
            try dsimp only
            refine ⟨Or.inl rfl, zG_of _, q, _, scF q A t' u' j' k, hB, hv, fun p _ => fMul_lt q23 _ _ p, fun hb wi1 hF1 hB1 => ?_, fun hb wi1 hF1 hB1 => ?_⟩
            · conv => whnf
              repeat ((first | refine ⟨zG_of _, ?_⟩ | refine ⟨trivial, ?_⟩ | refine ⟨rfl, ?_⟩ | refine ⟨fun hc => absurd hc (by decide), fun _ => ?_⟩ | refine ⟨fun _ => ?_, fun hc => absurd (by decide) hc⟩ | refine ⟨fun _ => ?_, fun hc => absurd hc (by decide)⟩ | refine ⟨fun hc => absurd (by decide) hc, fun _ => ?_⟩); conv => whnf)
              try dsimp only
              refine hs 400 90 _ _ _ _ _ ?_
              conv => whnf
              repeat ((first | refine ⟨zG_of _, ?_⟩ | refine ⟨trivial, ?_⟩ | refine ⟨rfl, ?_⟩ | refine ⟨fun hc => absurd hc (by decide), fun _ => ?_⟩ | refine ⟨fun _ => ?_, fun hc => absurd (by decide) hc⟩ | refine ⟨fun _ => ?_, fun hc => absurd hc (by decide)⟩ | refine ⟨fun hc => absurd (by decide) hc, fun _ => ?_⟩); conv => whnf)
              try dsimp only
              rw [nI_add]
              exact skip (fun z => hb z.2) wi1 (FB_trans hF (FB_4 hF1)) hB1 (fun m hm => by rw [hF1 28 (by decide) (by decide) (by decide) (by decide)]; exact hT m hm)
            · rw [saL, if_pos ⟨hsc, hb⟩] at ihn
              have b9 := hB1.2.2.1
              have e2 : putF wi1 28 9 (wi1 20 4 - nI 1) (nI k) = z_up wi1 28 (saL q A t' u' j' k).1.1 (nI k) := by
                rw [hB1.1.2, pk_sub (by show 1 ≤ _ + 1; omega)]
                exact putF_in (show (saL q A t' u' j' k).1.1 < 9 from b9) (by decide)
              conv => whnf
              repeat ((first | refine ⟨zG_of _, ?_⟩ | refine ⟨trivial, ?_⟩ | refine ⟨rfl, ?_⟩ | refine ⟨fun hc => absurd hc (by decide), fun _ => ?_⟩ | refine ⟨fun _ => ?_, fun hc => absurd (by decide) hc⟩ | refine ⟨fun _ => ?_, fun hc => absurd hc (by decide)⟩ | refine ⟨fun hc => absurd (by decide) hc, fun _ => ?_⟩); conv => whnf)
              try dsimp only
              rw [e2]
              refine hs 400 90 _ _ _ _ _ ?_
              conv => whnf
              repeat ((first | refine ⟨zG_of _, ?_⟩ | refine ⟨trivial, ?_⟩ | refine ⟨rfl, ?_⟩ | refine ⟨fun hc => absurd hc (by decide), fun _ => ?_⟩ | refine ⟨fun _ => ?_, fun hc => absurd (by decide) hc⟩ | refine ⟨fun _ => ?_, fun hc => absurd hc (by decide)⟩ | refine ⟨fun hc => absurd (by decide) hc, fun _ => ?_⟩); conv => whnf)
              try dsimp only
              rw [nI_add]
              refine ihn _ (fun y hy => by rw [z_up_ne (by omega), hF1 y (by omega) (by omega) (by omega) (by omega), hF y hy]) ?_ (fun m hm => ?_)
              · refine ⟨⟨?_, ?_⟩, hB1.2.1, hB1.2.2.1, fun m hm => ?_⟩
                · rw [z_up_ne (by decide)]; exact hB1.1.1
                · rw [z_up_ne (by decide)]; exact hB1.1.2
                · rw [z_up_ne (by decide), z_up_ne (by decide), z_up_ne (by decide)]
                  exact hB1.2.2.2 m hm
              · unfold setp
                dsimp only
                have hm : m < (saL q A t' u' j' k).1.1 + 1 := hm
                by_cases e : m = (saL q A t' u' j' k).1.1
                · subst e
                  rw [z_up_eq, if_pos rfl]
                · rw [z_up_nei e, if_neg e, hF1 28 (by decide) (by decide) (by decide) (by decide)]
                  exact hT m (by omega)
        · rw [bI_0, Classical.not_not] at hz
          conv => whnf
          repeat ((first | refine ⟨zG_of _, ?_⟩ | refine ⟨trivial, ?_⟩ | refine ⟨rfl, ?_⟩ | refine ⟨fun hc => absurd hc (by decide), fun _ => ?_⟩ | refine ⟨fun _ => ?_, fun hc => absurd (by decide) hc⟩ | refine ⟨fun _ => ?_, fun hc => absurd hc (by decide)⟩ | refine ⟨fun hc => absurd (by decide) hc, fun _ => ?_⟩); conv => whnf)
          try dsimp only
          refine hs 400 43 _ _ _ _ _ ?_
          conv => whnf
          repeat ((first | refine ⟨zG_of _, ?_⟩ | refine ⟨trivial, ?_⟩ | refine ⟨rfl, ?_⟩ | refine ⟨fun hc => absurd hc (by decide), fun _ => ?_⟩ | refine ⟨fun _ => ?_, fun hc => absurd (by decide) hc⟩ | refine ⟨fun _ => ?_, fun hc => absurd hc (by decide)⟩ | refine ⟨fun hc => absurd (by decide) hc, fun _ => ?_⟩); conv => whnf)
          try dsimp only
          refine hs 400 90 _ _ _ _ _ ?_
          conv => whnf
          repeat ((first | refine ⟨zG_of _, ?_⟩ | refine ⟨trivial, ?_⟩ | refine ⟨rfl, ?_⟩ | refine ⟨fun hc => absurd hc (by decide), fun _ => ?_⟩ | refine ⟨fun _ => ?_, fun hc => absurd (by decide) hc⟩ | refine ⟨fun _ => ?_, fun hc => absurd hc (by decide)⟩ | refine ⟨fun hc => absurd (by decide) hc, fun _ => ?_⟩); conv => whnf)
          try dsimp only
          rw [nI_add]
          refine skip (fun z => ?_) wi' hF hB hT
          have z1 := z.1
          simp [scB, hz] at z1)
    refine hs 400 0 _ _ _ _ _ ?_
    conv => whnf
    repeat ((first | refine ⟨zG_of _, ?_⟩ | refine ⟨trivial, ?_⟩ | refine ⟨rfl, ?_⟩ | refine ⟨fun hc => absurd hc (by decide), fun _ => ?_⟩ | refine ⟨fun _ => ?_, fun hc => absurd (by decide) hc⟩ | refine ⟨fun _ => ?_, fun hc => absurd hc (by decide)⟩ | refine ⟨fun hc => absurd (by decide) hc, fun _ => ?_⟩); conv => whnf)
    try dsimp only
    refine ⟨Or.inl rfl, zG_of _, q, cs_q hS, q23, fun wi1 hF1 hB1 => ?_⟩
    conv => whnf
    repeat ((first | refine ⟨zG_of _, ?_⟩ | refine ⟨trivial, ?_⟩ | refine ⟨rfl, ?_⟩ | refine ⟨fun hc => absurd hc (by decide), fun _ => ?_⟩ | refine ⟨fun _ => ?_, fun hc => absurd (by decide) hc⟩ | refine ⟨fun _ => ?_, fun hc => absurd hc (by decide)⟩ | refine ⟨fun hc => absurd (by decide) hc, fun _ => ?_⟩); conv => whnf)
    try dsimp only
    exact loop 0 (Nat.zero_le _) wi1 (fun y hy => hF1 y (show y ≠ 20 by omega)) hB1 (fun m hm => absurd hm (Nat.not_lt_zero m))
def shX (q : Nat) (A : Nat → Nat → Nat) (v j : Nat) (T Q : Nat → Nat) : Nat → (Nat → Nat → Nat)
  | 0 => A
  | k + 1 => upA (shX q A v j T Q k) (3 * T k + v) (fAdd q (shX q A v j T Q k (3 * T k + v)) (fMul q (Q k) (shX q A v j T Q k (3 * j + v))))
def sp_X7_share : zSp := fun av w K => match av with
  | [.ref o, .ref o2, .int v, .int j] => o = 19 ∧ o2 = 6 ∧ zG w.1 ∧ ∃ d q c A v' j' n T Q, CS w.2.1 6 d q c A ∧ v = nI v' ∧ v' < 3 ∧ j = nI j' ∧ j' < c ∧ w.2.1 20 4 = nI n ∧ n ≤ 9 ∧ w.2.1 20 6 = pk Q ∧ (∀ p, p < 9 → Q p < q) ∧ (∀ k, k < n → w.2.1 28 k = nI (T k) ∧ T k < c) ∧ ∀ wi' : Nat → Nat → Int32, Fr 6 8 w.2.1 wi' → CS wi' 6 d q c (shX q A v' j' T Q n) → K none (w.1, wi', w.2.2)
  | _ => False
def rm_X7_share : Room := { frames := 2, cells := 0, slots := 0, locals := 45 }
def M_X7_share : zM := (k_X7_share, f_X7, [(91, 0, 0, 2, 0, 0, sp_X2_numberAt), (72, 4, 5, 3, 0, 0, sp_X6_formAt), (76, 0, 0, 2, 0, 0, sp_X2_times), (55, 4, 2, 2, 0, 0, sp_X3_at), (94, 0, 0, 3, 0, 0, sp_X2_sum), (97, 4, 5, 4, 0, 0, sp_X6_setForm)], ([], [], []), [], [(3, [true, true, true, true, true, false, false])], 0, false, (false, 0, fun _ => 0), (0, 0, []))
theorem ca_X7_share_0 (l : Launch) : z_cok l RX7 (headSpec (.code yX7_share cX7_share 7 none :: zTT) rm_X7_share).room (false, 0, fun _ => 0) (91, 0, 0, 2, 0, 0, sp_X2_numberAt) := z_ca0 (c_X2_numberAt l) mb_X2_numberAt wt_620 wt_390 (by decide)
theorem ca_X7_share_1 (l : Launch) : z_cok l RX7 (headSpec (.code yX7_share cX7_share 7 none :: zTT) rm_X7_share).room (false, 0, fun _ => 0) (72, 4, 5, 3, 0, 0, sp_X6_formAt) := z_ca4 (c_X6_formAt l) mb_X6_formAt ⟨_, rfl, rfl⟩ wt_591 wt_408 wt_409 (by decide)
theorem ca_X7_share_2 (l : Launch) : z_cok l RX7 (headSpec (.code yX7_share cX7_share 7 none :: zTT) rm_X7_share).room (false, 0, fun _ => 0) (76, 0, 0, 2, 0, 0, sp_X2_times) := z_ca0 (c_X2_times l) mb_X2_times wt_592 wt_516 (by decide)
theorem ca_X7_share_3 (l : Launch) : z_cok l RX7 (headSpec (.code yX7_share cX7_share 7 none :: zTT) rm_X7_share).room (false, 0, fun _ => 0) (55, 4, 2, 2, 0, 0, sp_X3_at) := z_ca4 (c_X3_at l) mb_X3_at ⟨_, rfl, rfl⟩ wt_621 wt_366 wt_367 (by decide)
theorem ca_X7_share_4 (l : Launch) : z_cok l RX7 (headSpec (.code yX7_share cX7_share 7 none :: zTT) rm_X7_share).room (false, 0, fun _ => 0) (94, 0, 0, 3, 0, 0, sp_X2_sum) := z_ca0 (c_X2_sum l) mb_X2_sum wt_622 wt_529 (by decide)
theorem ca_X7_share_5 (l : Launch) : z_cok l RX7 (headSpec (.code yX7_share cX7_share 7 none :: zTT) rm_X7_share).room (false, 0, fun _ => 0) (97, 4, 5, 4, 0, 0, sp_X6_setForm) := z_ca4 (c_X6_setForm l) mb_X6_setForm ⟨_, rfl, rfl⟩ wt_623 wt_289 wt_290 (by decide)
theorem O_X7_share (l : Launch) : z_OK l RX7 cX7_share (headSpec (.code yX7_share cX7_share 7 none :: zTT) rm_X7_share).room M_X7_share := ⟨ok_X7_share, fo_X7, List.forall_mem_cons.mpr ⟨ca_X7_share_0 l, List.forall_mem_cons.mpr ⟨ca_X7_share_1 l, List.forall_mem_cons.mpr ⟨ca_X7_share_2 l, List.forall_mem_cons.mpr ⟨ca_X7_share_3 l, List.forall_mem_cons.mpr ⟨ca_X7_share_4 l, List.forall_mem_cons.mpr ⟨ca_X7_share_5 l, fun _ h => absurd h List.not_mem_nil⟩⟩⟩⟩⟩⟩, fun _ h => absurd h List.not_mem_nil, fun _ h => absurd h List.not_mem_nil, fun _ h => absurd h List.not_mem_nil, fun _ h => absurd h List.not_mem_nil, rfl, rfl, fun _ h => absurd h List.not_mem_nil⟩
theorem c_X7_share (l : Launch) : z_CS l yX7_share cX7_share 7 none rm_X7_share sp_X7_share := by
  refine z_meth (by decide) (Or.inl ⟨rfl, rfl⟩) (fun h => by cases h) rfl (O_X7_share l) ?_
  intro av w K h
  match av, h with
  | [.ref o, .ref o2, .int v, .int j], h =>
    obtain ⟨rfl, rfl, ⟨r, hG⟩, d, q, c, A, v', j', n, T, Q, hS, rfl, hv, rfl, hj, hn, hn9, hQ, hQq, hT, h⟩ := h
    obtain ⟨G, wi, wl⟩ := w
    subst hG
    try dsimp only at h hS hn hQ hT
    have h40 := cs_40 hS
    have q23 := cs_q23 hS
    refine ⟨Nat.le_of_ble_eq_true rfl, fun Jm hs => ?_⟩
    have loop := up_ind (P := fun k => ∀ wi' : Nat → Nat → Int32, Fr 6 8 wi wi' → CS wi' 6 d q c (shX q A v' j' T Q k) → Jm 3 [some (.ref 19), some (.ref 6), some (.int (nI v')), some (.int (nI j')), some (.int (nI k)), none, none] [] (GC ++ r, wi', wl) 0 0) n (fun k hk ih => by
      intro wi' hF hS'
      have n20 : wi' 20 = wi 20 := hF 20 (by decide) (by decide)
      have n28 : wi' 28 = wi 28 := hF 28 (by decide) (by decide)
      refine hs 400 3 _ _ _ _ _ ?_
      conv => whnf
      repeat ((first | refine ⟨zG_of _, ?_⟩ | refine ⟨trivial, ?_⟩ | refine ⟨rfl, ?_⟩ | refine ⟨fun hc => absurd hc (by decide), fun _ => ?_⟩ | refine ⟨fun _ => ?_, fun hc => absurd (by decide) hc⟩ | refine ⟨fun _ => ?_, fun hc => absurd hc (by decide)⟩ | refine ⟨fun hc => absurd (by decide) hc, fun _ => ?_⟩); conv => whnf)
      try dsimp only
      rw [n20, hn, ltN (by omega) (by omega)]
      refine ⟨fun hc => ?_, fun hc => ?_⟩
      · obtain hkn : k = n := by omega
        subst hkn
        exact h wi' hF hS'
      · have ihn := ih hc
        have hTk := hT k hc
        have hQk := hQq k (by omega)
        have e1 : fnum (wi' 20 6) (nI k) = nI (Q k) := by
          rw [n20, hQ]
          exact fnum_pk (lt3_of q23 hQq) (by omega)
        have e2 : atF (wi' 28) 9 (nI k) = nI (T k) := by
          rw [atF_in (by omega) (by decide), n28]
          exact hTk.1
        have hval : fsum (fmF wi' 6 (nI (T k)) (nI v')) (ftimes (nI (Q k)) (fmF wi' 6 (nI j') (nI v'))) (wi' 6 4) = pk (fAdd q (shX q A v' j' T Q k (3 * T k + v')) (fMul q (Q k) (shX q A v' j' T Q k (3 * j' + v')))) := by
          rw [vMul hS' hQk hj hv, fm_S hS' hTk.2 hv, cs_q hS']
          exact fsum_pk q23 (cs_A hS' _ (by omega)) (fun p _ => fMul_lt q23 _ _ p)
        conv => whnf
        repeat ((first | refine ⟨zG_of _, ?_⟩ | refine ⟨trivial, ?_⟩ | refine ⟨rfl, ?_⟩ | refine ⟨fun hc => absurd hc (by decide), fun _ => ?_⟩ | refine ⟨fun _ => ?_, fun hc => absurd (by decide) hc⟩ | refine ⟨fun _ => ?_, fun hc => absurd hc (by decide)⟩ | refine ⟨fun hc => absurd (by decide) hc, fun _ => ?_⟩); conv => whnf)
        try dsimp only
        rw [e1, e2]
        refine ⟨Or.inl rfl, zG_of _, T k, v', rfl, by omega, rfl, hv, fun wi1 e3 => ?_⟩
        have k1 := cs_set hS' hTk.2 hv hval (fun p _ => fAdd_lt q23 _ _ p) e3
        conv => whnf
        repeat ((first | refine ⟨zG_of _, ?_⟩ | refine ⟨trivial, ?_⟩ | refine ⟨rfl, ?_⟩ | refine ⟨fun hc => absurd hc (by decide), fun _ => ?_⟩ | refine ⟨fun _ => ?_, fun hc => absurd (by decide) hc⟩ | refine ⟨fun _ => ?_, fun hc => absurd hc (by decide)⟩ | refine ⟨fun hc => absurd (by decide) hc, fun _ => ?_⟩); conv => whnf)
        try dsimp only
        rw [nI_add]
        exact ihn wi1 (Fr_trans hF k1.2) k1.1)
    exact hs 400 0 _ _ _ _ _ (loop 0 (Nat.zero_le _) wi (Fr_refl _ _ _) hS)

