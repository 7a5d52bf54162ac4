/-! forms, products read -/
def fmL (x : Nat → Nat) (L : Nat) (d : Nat → Nat) (q t : Nat) : Nat → Nat → Nat → (Nat → Nat) → Bool × Nat × (Nat → Nat)
  | 0, _, k, a => (false, k, a)
  | m + 1, n, k, a =>
    if (tmP x L d t n k a).1 = true then
      if see x L (tmP x L d t n k a).2.1 = 43 then fmL x L d q t m 1 ((tmP x L d t n k a).2.1 + 1) (tmP x L d t n k a).2.2
      else if see x L (tmP x L d t n k a).2.1 = 45 then fmL x L d q t m (q - 1) ((tmP x L d t n k a).2.1 + 1) (tmP x L d t n k a).2.2
      else (true, (tmP x L d t n k a).2.1, (tmP x L d t n k a).2.2)
    else (false, (tmP x L d t n k a).2.1, (tmP x L d t n k a).2.2)
def fmP (x : Nat → Nat) (L : Nat) (d : Nat → Nat) (q t k : Nat) : Bool × Nat × (Nat → Nat) := if see x L k = 45 then fmL x L d q t 400 (q - 1) (k + 1) (fun _ => 0) else fmL x L d q t 400 1 k (fun _ => 0)
theorem tm_lt {x : Nat → Nat} {L : Nat} {d : Nat → Nat} {t n k q : Nat} {a : Nat → Nat} (ha : ∀ p, p < 9 → a p < q) (hn : n < q) : ∀ p, p < 9 → (tmP x L d t n k a).2.2 p < q := by
  unfold tmP
  split
  · split
    · split
      · split
        · exact setp_lt ha hn
        · exact ha
      · exact ha
    · exact ha
  · exact ha
theorem fmL_lt {x : Nat → Nat} {L : Nat} {d : Nat → Nat} {q t : Nat} (hq : 2 ≤ q) : ∀ (m n k : Nat) (a : Nat → Nat), (∀ p, p < 9 → a p < q) → n < q → ∀ p, p < 9 → (fmL x L d q t m n k a).2.2 p < q
  | 0, _, _, _, ha, _ => ha
  | m + 1, n, k, a, ha, hn => by
    have h1 := tm_lt (x := x) (L := L) (d := d) (t := t) (k := k) ha hn
    rw [fmL]
    split
    · split
      · exact fmL_lt hq m 1 _ _ h1 (by omega)
      · split
        · exact fmL_lt hq m (q - 1) _ _ h1 (by omega)
        · exact h1
    · exact h1
theorem fmP_lt {x : Nat → Nat} {L : Nat} {d : Nat → Nat} {q t k : Nat} (hq : 2 ≤ q) : ∀ p, p < 9 → (fmP x L d q t k).2.2 p < q := by
  unfold fmP
  split
  · exact fmL_lt hq _ _ _ _ (fun _ _ => by omega) (by omega)
  · exact fmL_lt hq _ _ _ _ (fun _ _ => by omega) (by omega)
def sp_X8_takeForm : zSp := fun av w K => match av with
  | [.ref o, .ref o2, .int t] => o = 1 ∧ (o2 = 6 ∨ o2 = 12) ∧ zG w.1 ∧ ∃ L x k d q c A t', TX w.2.1 L x k ∧ CS w.2.1 o2 d q c A ∧ t = nI t' ∧ t' < 3 ∧ ∀ wi' : Nat → Nat → Int32, F1 w.2.1 wi' → TX wi' L x (fmP x L d q t' k).2.1 → wi' 1 3 = pk (fmP x L d q t' k).2.2 → K (some (.int (bI ((fmP x L d q t' k).1 = true)))) (w.1, wi', w.2.2)
  | _ => False
def rm_X8_takeForm : Room := { frames := 3, cells := 0, slots := 0, locals := 68 }
def M_X8_takeForm : zM := (k_X8_takeForm, f_X8, [(35, 4, 7, 2, 0, 0, sp_X8_take), (72, 4, 7, 4, 0, 0, sp_X8_takeTerm)], ([], [], []), [], [(28, [true, true, true, true, true])], 2, false, (false, 0, fun _ => 0), (0, 0, []))
theorem ca_X8_takeForm_0 (l : Launch) : z_cok l RX8 (headSpec (.code yX8_takeForm cX8_takeForm 5 (some .boolean) :: zTT) rm_X8_takeForm).room (false, 0, fun _ => 0) (35, 4, 7, 2, 0, 0, sp_X8_take) := z_ca4 (c_X8_take l) mb_X8_take ⟨_, rfl, rfl⟩ wt_357 wt_359 wt_2 (by decide)
theorem ca_X8_takeForm_1 (l : Launch) : z_cok l RX8 (headSpec (.code yX8_takeForm cX8_takeForm 5 (some .boolean) :: zTT) rm_X8_takeForm).room (false, 0, fun _ => 0) (72, 4, 7, 4, 0, 0, sp_X8_takeTerm) := z_ca4 (c_X8_takeTerm l) mb_X8_takeTerm ⟨_, rfl, rfl⟩ wt_373 wt_375 wt_5 (by decide)
theorem O_X8_takeForm (l : Launch) : z_OK l RX8 cX8_takeForm (headSpec (.code yX8_takeForm cX8_takeForm 5 (some .boolean) :: zTT) rm_X8_takeForm).room M_X8_takeForm := ⟨ok_X8_takeForm, fo_X8, List.forall_mem_cons.mpr ⟨ca_X8_takeForm_0 l, List.forall_mem_cons.mpr ⟨ca_X8_takeForm_1 l, fun _ h => absurd h List.not_mem_nil⟩⟩, fun _ h => absurd h List.not_mem_nil, fun _ h => absurd h List.not_mem_nil, fun _ h => absurd h List.not_mem_nil, fun _ h => absurd h List.not_mem_nil, rfl, rfl, fun _ h => absurd h List.not_mem_nil⟩
theorem c_X8_takeForm (l : Launch) : z_CS l yX8_takeForm cX8_takeForm 5 (some .boolean) rm_X8_takeForm sp_X8_takeForm := by
  refine z_meth (by decide) (Or.inr (Or.inr (Or.inl ⟨rfl, rfl⟩))) (fun h => by cases h) rfl (O_X8_takeForm l) ?_
  intro av w K h
  match av, h with
  | [.ref o, .ref o2, .int t], h =>
    obtain ⟨rfl, ho, ⟨r, hG⟩, L, x, k, d, q, c, A, t', hT, hS, rfl, ht, h⟩ := h
    obtain ⟨G, wi, wl⟩ := w
    subst hG
    try dsimp only at h hT hS
    have q23 := cs_q23 hS
    rcases ho with rfl | rfl
    · refine ⟨Nat.le_of_ble_eq_true rfl, fun Jm hs => ?_⟩
      generalize hR : fmP x L d q t' k = R at h
      have loop := up_ind (P := fun m => ∀ (wi' : Nat → Nat → Int32) (n k' : Nat) (a : Nat → Nat), F1 wi wi' → TX wi' L x k' → wi' 1 3 = pk a → (∀ p, p < 9 → a p < q) → n < q → fmL x L d q t' (400 - m) n k' a = R → Jm 28 [some (.ref 1), some (.ref 6), some (.int (nI t')), some (.int (nI n)), some (.int (nI m))] [] (GC ++ r, wi', wl) 0 0) 400 (fun m hm ih => by
        intro wi' n k' a hF hT' hf ha hn hR'
        refine hs 400 28 _ _ _ _ _ ?_
        conv => whnf
        repeat ((first | refine ⟨zG_of _, ?_⟩ | refine ⟨trivial, ?_⟩ | refine ⟨rfl, ?_⟩ | refine ⟨fun hc => absurd hc (by decide), fun _ => ?_⟩ | refine ⟨fun _ => ?_, fun hc => absurd (by decide) hc⟩ | refine ⟨fun _ => ?_, fun hc => absurd hc (by decide)⟩ | refine ⟨fun hc => absurd (by decide) hc, fun _ => ?_⟩); conv => whnf)
        try dsimp only
        rw [ltN (by omega) (by omega)]
        refine ⟨fun hc => ?_, fun hc => ?_⟩
        · obtain rfl : m = 400 := by omega
          have e : (false, k', a) = R := hR'
          subst e
          exact ⟨Or.inl rfl, h wi' hF hT' hf⟩
        · have ihn := ih hc
          have hS' : CS wi' 6 d q c A := cs_fr hS (hF _ (by decide)) (hF _ (by decide))
          rw [show 400 - m = 400 - (m + 1) + 1 by omega, fmL] at hR'
          have tlt := tm_lt (x := x) (L := L) (d := d) (t := t') (k := k') ha hn
          conv => whnf
          repeat ((first | refine ⟨zG_of _, ?_⟩ | refine ⟨trivial, ?_⟩ | refine ⟨rfl, ?_⟩ | refine ⟨fun hc => absurd hc (by decide), fun _ => ?_⟩ | refine ⟨fun _ => ?_, fun hc => absurd (by decide) hc⟩ | refine ⟨fun _ => ?_, fun hc => absurd hc (by decide)⟩ | refine ⟨fun hc => absurd (by decide) hc, fun _ => ?_⟩); conv => whnf)
          try dsimp only
          refine ⟨by first | exact Or.inl rfl | exact Or.inr rfl, zG_of _, L, x, k', a, d, q, c, A, t', n, hT', hS', hf, lt3_of q23 ha, rfl, ht, rfl, by omega, fun wi1 hF1 hT1 hf1 => ?_⟩
          generalize hM : tmP x L d t' n k' a = M at *
          conv => whnf
          repeat ((first | refine ⟨zG_of _, ?_⟩ | refine ⟨trivial, ?_⟩ | refine ⟨rfl, ?_⟩ | refine ⟨fun hc => absurd hc (by decide), fun _ => ?_⟩ | refine ⟨fun _ => ?_, fun hc => absurd (by decide) hc⟩ | refine ⟨fun _ => ?_, fun hc => absurd hc (by decide)⟩ | refine ⟨fun hc => absurd (by decide) hc, fun _ => ?_⟩); conv => whnf)
          try dsimp only
          refine ⟨fun hz => ?_, fun hz => ?_⟩
          · have hz : M.1 = true := Classical.not_not.mp (fun z => hz (bI_f z))
            rw [if_pos hz] at hR'
            conv => whnf
            repeat ((first | refine ⟨zG_of _, ?_⟩ | refine ⟨trivial, ?_⟩ | refine ⟨rfl, ?_⟩ | refine ⟨fun hc => absurd hc (by decide), fun _ => ?_⟩ | refine ⟨fun _ => ?_, fun hc => absurd (by decide) hc⟩ | refine ⟨fun _ => ?_, fun hc => absurd hc (by decide)⟩ | refine ⟨fun hc => absurd (by decide) hc, fun _ => ?_⟩); conv => whnf)
            try dsimp only
            refine ⟨L, x, _, 43, hT1, rfl, by decide, fun h43 => ?_, fun h43 wi2 hF2 hT2 hf2 => ?_⟩
            · rw [if_neg h43] at hR'
              conv => whnf
              repeat ((first | refine ⟨zG_of _, ?_⟩ | refine ⟨trivial, ?_⟩ | refine ⟨rfl, ?_⟩ | refine ⟨fun hc => absurd hc (by decide), fun _ => ?_⟩ | refine ⟨fun _ => ?_, fun hc => absurd (by decide) hc⟩ | refine ⟨fun _ => ?_, fun hc => absurd hc (by decide)⟩ | refine ⟨fun hc => absurd (by decide) hc, fun _ => ?_⟩); conv => whnf)
              try dsimp only
              refine ⟨L, x, _, 45, hT1, rfl, by decide, fun h45 => ?_, fun h45 wi2 hF2 hT2 hf2 => ?_⟩
              · rw [if_neg h45] at hR'
                subst hR'
                conv => whnf
                repeat ((first | refine ⟨zG_of _, ?_⟩ | refine ⟨trivial, ?_⟩ | refine ⟨rfl, ?_⟩ | refine ⟨fun hc => absurd hc (by decide), fun _ => ?_⟩ | refine ⟨fun _ => ?_, fun hc => absurd (by decide) hc⟩ | refine ⟨fun _ => ?_, fun hc => absurd hc (by decide)⟩ | refine ⟨fun hc => absurd (by decide) hc, fun _ => ?_⟩); conv => whnf)
                try dsimp only
                exact ⟨Or.inr rfl, h wi1 (F1_trans hF hF1) hT1 hf1⟩
              · rw [if_pos h45] at hR'
                have eq : wi2 6 4 - nI 1 = nI (q - 1) := by
                  rw [hF2 _ (by decide), hF1 _ (by decide), cs_q hS', pk_sub (by omega)]
                conv => whnf
                repeat ((first | refine ⟨zG_of _, ?_⟩ | refine ⟨trivial, ?_⟩ | refine ⟨rfl, ?_⟩ | refine ⟨fun hc => absurd hc (by decide), fun _ => ?_⟩ | refine ⟨fun _ => ?_, fun hc => absurd (by decide) hc⟩ | refine ⟨fun _ => ?_, fun hc => absurd hc (by decide)⟩ | refine ⟨fun hc => absurd (by decide) hc, fun _ => ?_⟩); conv => whnf)
                try dsimp only
                rw [eq, nI_add]
                exact ihn wi2 (q - 1) _ _ (F1_trans hF (F1_trans hF1 hF2)) hT2 (hf2.trans hf1) tlt (by omega) hR'
            · rw [if_pos h43] at hR'
              conv => whnf
              repeat ((first | refine ⟨zG_of _, ?_⟩ | refine ⟨trivial, ?_⟩ | refine ⟨rfl, ?_⟩ | refine ⟨fun hc => absurd hc (by decide), fun _ => ?_⟩ | refine ⟨fun _ => ?_, fun hc => absurd (by decide) hc⟩ | refine ⟨fun _ => ?_, fun hc => absurd hc (by decide)⟩ | refine ⟨fun hc => absurd (by decide) hc, fun _ => ?_⟩); conv => whnf)
              try dsimp only
              rw [nI_add]
              exact ihn wi2 1 _ _ (F1_trans hF (F1_trans hF1 hF2)) hT2 (hf2.trans hf1) tlt (by omega) hR'
          · have hz : ¬ M.1 = true := fun z => absurd ((bI_t z).symm.trans hz) (by decide)
            rw [if_neg hz] at hR'
            subst hR'
            exact ⟨Or.inl rfl, h wi1 (F1_trans hF hF1) hT1 hf1⟩)
      refine hs 400 0 _ _ _ _ _ ?_
      unfold fmP at hR
      conv => whnf
      repeat ((first | refine ⟨zG_of _, ?_⟩ | refine ⟨trivial, ?_⟩ | refine ⟨rfl, ?_⟩ | refine ⟨fun hc => absurd hc (by decide), fun _ => ?_⟩ | refine ⟨fun _ => ?_, fun hc => absurd (by decide) hc⟩ | refine ⟨fun _ => ?_, fun hc => absurd hc (by decide)⟩ | refine ⟨fun hc => absurd (by decide) hc, fun _ => ?_⟩); conv => whnf)
      try dsimp only
      refine ⟨L, x, k, 45, tx_form hT _, rfl, by decide, fun h45 => ?_, fun h45 wi1 hF1 hT1 hf1 => ?_⟩
      · rw [if_neg h45] at hR
        conv => whnf
        repeat ((first | refine ⟨zG_of _, ?_⟩ | refine ⟨trivial, ?_⟩ | refine ⟨rfl, ?_⟩ | refine ⟨fun hc => absurd hc (by decide), fun _ => ?_⟩ | refine ⟨fun _ => ?_, fun hc => absurd (by decide) hc⟩ | refine ⟨fun _ => ?_, fun hc => absurd hc (by decide)⟩ | refine ⟨fun hc => absurd (by decide) hc, fun _ => ?_⟩); conv => whnf)
        try dsimp only
        exact loop 0 (Nat.zero_le _) _ 1 k (fun _ => 0) F1_up (tx_form hT _) (by rw [z_up_eq, pk_zero]) (fun _ _ => by show 0 < q; omega) (by omega) hR
      · rw [if_pos h45] at hR
        have hF : F1 wi wi1 := F1_trans F1_up hF1
        have eq : wi1 6 4 - nI 1 = nI (q - 1) := by
          rw [hF _ (by decide), cs_q hS, pk_sub (by omega)]
        conv => whnf
        repeat ((first | refine ⟨zG_of _, ?_⟩ | refine ⟨trivial, ?_⟩ | refine ⟨rfl, ?_⟩ | refine ⟨fun hc => absurd hc (by decide), fun _ => ?_⟩ | refine ⟨fun _ => ?_, fun hc => absurd (by decide) hc⟩ | refine ⟨fun _ => ?_, fun hc => absurd hc (by decide)⟩ | refine ⟨fun hc => absurd (by decide) hc, fun _ => ?_⟩); conv => whnf)
        try dsimp only
        rw [eq]
        exact loop 0 (Nat.zero_le _) wi1 (q - 1) (k + 1) (fun _ => 0) hF hT1 (by rw [hf1, z_up_eq, pk_zero]) (fun _ _ => by show 0 < q; omega) (by omega) hR
    · refine ⟨Nat.le_of_ble_eq_true rfl, fun Jm hs => ?_⟩
      generalize hR : fmP x L d q t' k = R at h
      have loop := up_ind (P := fun m => ∀ (wi' : Nat → Nat → Int32) (n k' : Nat) (a : Nat → Nat), F1 wi wi' → TX wi' L x k' → wi' 1 3 = pk a → (∀ p, p < 9 → a p < q) → n < q → fmL x L d q t' (400 - m) n k' a = R → Jm 28 [some (.ref 1), some (.ref 12), some (.int (nI t')), some (.int (nI n)), some (.int (nI m))] [] (GC ++ r, wi', wl) 0 0) 400 (fun m hm ih => by
        intro wi' n k' a hF hT' hf ha hn hR'
        refine hs 400 28 _ _ _ _ _ ?_
        conv => whnf
        repeat ((first | refine ⟨zG_of _, ?_⟩ | refine ⟨trivial, ?_⟩ | refine ⟨rfl, ?_⟩ | refine ⟨fun hc => absurd hc (by decide), fun _ => ?_⟩ | refine ⟨fun _ => ?_, fun hc => absurd (by decide) hc⟩ | refine ⟨fun _ => ?_, fun hc => absurd hc (by decide)⟩ | refine ⟨fun hc => absurd (by decide) hc, fun _ => ?_⟩); conv => whnf)
        try dsimp only
        rw [ltN (by omega) (by omega)]
        refine ⟨fun hc => ?_, fun hc => ?_⟩
        · obtain rfl : m = 400 := by omega
          have e : (false, k', a) = R := hR'
          subst e
          exact ⟨Or.inl rfl, h wi' hF hT' hf⟩
        · have ihn := ih hc
          have hS' : CS wi' 12 d q c A := cs_fr hS (hF _ (by decide)) (hF _ (by decide))
          rw [show 400 - m = 400 - (m + 1) + 1 by omega, fmL] at hR'
          have tlt := tm_lt (x := x) (L := L) (d := d) (t := t') (k := k') ha hn
          conv => whnf
          repeat ((first | refine ⟨zG_of _, ?_⟩ | refine ⟨trivial, ?_⟩ | refine ⟨rfl, ?_⟩ | refine ⟨fun hc => absurd hc (by decide), fun _ => ?_⟩ | refine ⟨fun _ => ?_, fun hc => absurd (by decide) hc⟩ | refine ⟨fun _ => ?_, fun hc => absurd hc (by decide)⟩ | refine ⟨fun hc => absurd (by decide) hc, fun _ => ?_⟩); conv => whnf)
          try dsimp only
          refine ⟨by first | exact Or.inl rfl | exact Or.inr rfl, zG_of _, L, x, k', a, d, q, c, A, t', n, hT', hS', hf, lt3_of q23 ha, rfl, ht, rfl, by omega, fun wi1 hF1 hT1 hf1 => ?_⟩
          generalize hM : tmP x L d t' n k' a = M at *
          conv => whnf
          repeat ((first | refine ⟨zG_of _, ?_⟩ | refine ⟨trivial, ?_⟩ | refine ⟨rfl, ?_⟩ | refine ⟨fun hc => absurd hc (by decide), fun _ => ?_⟩ | refine ⟨fun _ => ?_, fun hc => absurd (by decide) hc⟩ | refine ⟨fun _ => ?_, fun hc => absurd hc (by decide)⟩ | refine ⟨fun hc => absurd (by decide) hc, fun _ => ?_⟩); conv => whnf)
          try dsimp only
          refine ⟨fun hz => ?_, fun hz => ?_⟩
          · have hz : M.1 = true := Classical.not_not.mp (fun z => hz (bI_f z))
            rw [if_pos hz] at hR'
            conv => whnf
            repeat ((first | refine ⟨zG_of _, ?_⟩ | refine ⟨trivial, ?_⟩ | refine ⟨rfl, ?_⟩ | refine ⟨fun hc => absurd hc (by decide), fun _ => ?_⟩ | refine ⟨fun _ => ?_, fun hc => absurd (by decide) hc⟩ | refine ⟨fun _ => ?_, fun hc => absurd hc (by decide)⟩ | refine ⟨fun hc => absurd (by decide) hc, fun _ => ?_⟩); conv => whnf)
            try dsimp only
            refine ⟨L, x, _, 43, hT1, rfl, by decide, fun h43 => ?_, fun h43 wi2 hF2 hT2 hf2 => ?_⟩
            · rw [if_neg h43] at hR'
              conv => whnf
              repeat ((first | refine ⟨zG_of _, ?_⟩ | refine ⟨trivial, ?_⟩ | refine ⟨rfl, ?_⟩ | refine ⟨fun hc => absurd hc (by decide), fun _ => ?_⟩ | refine ⟨fun _ => ?_, fun hc => absurd (by decide) hc⟩ | refine ⟨fun _ => ?_, fun hc => absurd hc (by decide)⟩ | refine ⟨fun hc => absurd (by decide) hc, fun _ => ?_⟩); conv => whnf)
              try dsimp only
              refine ⟨L, x, _, 45, hT1, rfl, by decide, fun h45 => ?_, fun h45 wi2 hF2 hT2 hf2 => ?_⟩
              · rw [if_neg h45] at hR'
                subst hR'
                conv => whnf
                repeat ((first | refine ⟨zG_of _, ?_⟩ | refine ⟨trivial, ?_⟩ | refine ⟨rfl, ?_⟩ | refine ⟨fun hc => absurd hc (by decide), fun _ => ?_⟩ | refine ⟨fun _ => ?_, fun hc => absurd (by decide) hc⟩ | refine ⟨fun _ => ?_, fun hc => absurd hc (by decide)⟩ | refine ⟨fun hc => absurd (by decide) hc, fun _ => ?_⟩); conv => whnf)
                try dsimp only
                exact ⟨Or.inr rfl, h wi1 (F1_trans hF hF1) hT1 hf1⟩
              · rw [if_pos h45] at hR'
                have eq : wi2 12 4 - nI 1 = nI (q - 1) := by
                  rw [hF2 _ (by decide), hF1 _ (by decide), cs_q hS', pk_sub (by omega)]
                conv => whnf
                repeat ((first | refine ⟨zG_of _, ?_⟩ | refine ⟨trivial, ?_⟩ | refine ⟨rfl, ?_⟩ | refine ⟨fun hc => absurd hc (by decide), fun _ => ?_⟩ | refine ⟨fun _ => ?_, fun hc => absurd (by decide) hc⟩ | refine ⟨fun _ => ?_, fun hc => absurd hc (by decide)⟩ | refine ⟨fun hc => absurd (by decide) hc, fun _ => ?_⟩); conv => whnf)
                try dsimp only
                rw [eq, nI_add]
                exact ihn wi2 (q - 1) _ _ (F1_trans hF (F1_trans hF1 hF2)) hT2 (hf2.trans hf1) tlt (by omega) hR'
            · rw [if_pos h43] at hR'
              conv => whnf
              repeat ((first | refine ⟨zG_of _, ?_⟩ | refine ⟨trivial, ?_⟩ | refine ⟨rfl, ?_⟩ | refine ⟨fun hc => absurd hc (by decide), fun _ => ?_⟩ | refine ⟨fun _ => ?_, fun hc => absurd (by decide) hc⟩ | refine ⟨fun _ => ?_, fun hc => absurd hc (by decide)⟩ | refine ⟨fun hc => absurd (by decide) hc, fun _ => ?_⟩); conv => whnf)
              try dsimp only
              rw [nI_add]
              exact ihn wi2 1 _ _ (F1_trans hF (F1_trans hF1 hF2)) hT2 (hf2.trans hf1) tlt (by omega) hR'
          · have hz : ¬ M.1 = true := fun z => absurd ((bI_t z).symm.trans hz) (by decide)
            rw [if_neg hz] at hR'
            subst hR'
            exact ⟨Or.inl rfl, h wi1 (F1_trans hF hF1) hT1 hf1⟩)
      refine hs 400 0 _ _ _ _ _ ?_
      unfold fmP at hR
      conv => whnf
      repeat ((first | refine ⟨zG_of _, ?_⟩ | refine ⟨trivial, ?_⟩ | refine ⟨rfl, ?_⟩ | refine ⟨fun hc => absurd hc (by decide), fun _ => ?_⟩ | refine ⟨fun _ => ?_, fun hc => absurd (by decide) hc⟩ | refine ⟨fun _ => ?_, fun hc => absurd hc (by decide)⟩ | refine ⟨fun hc => absurd (by decide) hc, fun _ => ?_⟩); conv => whnf)
      try dsimp only
      refine ⟨L, x, k, 45, tx_form hT _, rfl, by decide, fun h45 => ?_, fun h45 wi1 hF1 hT1 hf1 => ?_⟩
      · rw [if_neg h45] at hR
        conv => whnf
        repeat ((first | refine ⟨zG_of _, ?_⟩ | refine ⟨trivial, ?_⟩ | refine ⟨rfl, ?_⟩ | refine ⟨fun hc => absurd hc (by decide), fun _ => ?_⟩ | refine ⟨fun _ => ?_, fun hc => absurd (by decide) hc⟩ | refine ⟨fun _ => ?_, fun hc => absurd hc (by decide)⟩ | refine ⟨fun hc => absurd (by decide) hc, fun _ => ?_⟩); conv => whnf)
        try dsimp only
        exact loop 0 (Nat.zero_le _) _ 1 k (fun _ => 0) F1_up (tx_form hT _) (by rw [z_up_eq, pk_zero]) (fun _ _ => by show 0 < q; omega) (by omega) hR
      · rw [if_pos h45] at hR
        have hF : F1 wi wi1 := F1_trans F1_up hF1
        have eq : wi1 12 4 - nI 1 = nI (q - 1) := by
          rw [hF _ (by decide), cs_q hS, pk_sub (by omega)]
        conv => whnf
        repeat ((first | refine ⟨zG_of _, ?_⟩ | refine ⟨trivial, ?_⟩ | refine ⟨rfl, ?_⟩ | refine ⟨fun hc => absurd hc (by decide), fun _ => ?_⟩ | refine ⟨fun _ => ?_, fun hc => absurd (by decide) hc⟩ | refine ⟨fun _ => ?_, fun hc => absurd hc (by decide)⟩ | refine ⟨fun hc => absurd (by decide) hc, fun _ => ?_⟩); conv => whnf)
        try dsimp only
        rw [eq]
        exact loop 0 (Nat.zero_le _) wi1 (q - 1) (k + 1) (fun _ => 0) hF hT1 (by rw [hf1, z_up_eq, pk_zero]) (fun _ _ => by show 0 < q; omega) (by omega) hR
/-- a product's forms -/
def prL (x : Nat → Nat) (L : Nat) (d : Nat → Nat) (q k : Nat) : Nat → Bool × Nat × (Nat → Nat → Nat)
  | 0 => (true, k, fun _ _ => 0)
  | t + 1 =>
    if (prL x L d q k t).1 = true then
      if t = 0 ∨ see x L (prL x L d q k t).2.1 = 42 then
        ((fmP x L d q t (if t = 0 then (prL x L d q k t).2.1 else (prL x L d q k t).2.1 + 1)).1, (fmP x L d q t (if t = 0 then (prL x L d q k t).2.1 else (prL x L d q k t).2.1 + 1)).2.1, upA (prL x L d q k t).2.2 t (fmP x L d q t (if t = 0 then (prL x L d q k t).2.1 else (prL x L d q k t).2.1 + 1)).2.2)
      else (false, (prL x L d q k t).2.1, (prL x L d q k t).2.2)
    else prL x L d q k t
def prP (x : Nat → Nat) (L : Nat) (d : Nat → Nat) (q k : Nat) : Bool × Nat × (Nat → Nat → Nat) := prL x L d q k 3
def ndA (A : Nat → Nat → Nat) (c : Nat) (B : Nat → Nat → Nat) : Nat → Nat → Nat := fun k => if k < 3 * c then A k else B (k - 3 * c)
/-- the text's cell, a scheme's cells, alone change -/
def FT (wi wi' : Nat → Nat → Int32) : Prop := ∀ y, y ≠ 1 → y ≠ 12 → y ≠ 14 → wi' y = wi y
theorem FT_refl (wi : Nat → Nat → Int32) : FT wi wi := fun _ _ _ _ => rfl
theorem FT_1 {wi wi' wi2 : Nat → Nat → Int32} (h : FT wi wi') (h2 : F1 wi' wi2) : FT wi wi2 := fun y h1 h3 h4 => (h2 y h1).trans (h y h1 h3 h4)
theorem FT_2 {wi wi' wi2 : Nat → Nat → Int32} (h : FT wi wi') (h2 : Fr 12 14 wi' wi2) : FT wi wi2 := fun y h1 h3 h4 => (h2 y h3 h4).trans (h y h1 h3 h4)
theorem FT_trans {wi wi' wi2 : Nat → Nat → Int32} (h : FT wi wi') (h2 : FT wi' wi2) : FT wi wi2 := fun y h1 h3 h4 => (h2 y h1 h3 h4).trans (h y h1 h3 h4)
theorem tx_fr {wi wi' : Nat → Nat → Int32} {L : Nat} {x : Nat → Nat} {k : Nat} (h : TX wi L x k) (h1 : wi' 1 = wi 1) (h3 : wi' 3 = wi 3) : TX wi' L x k := by
  unfold TX at *
  rw [h1, h3]
  exact h
theorem prL_fail (x : Nat → Nat) (L : Nat) (d : Nat → Nat) (q k : Nat) {t : Nat} (h : ¬ (prL x L d q k t).1 = true) : ∀ m, prL x L d q k (t + m) = prL x L d q k t
  | 0 => rfl
  | m + 1 => by
    have ih := prL_fail x L d q k h m
    rw [← Nat.add_assoc, prL, ih, if_neg h]
def sp_X8_takeProduct : zSp := fun av w K => match av with
  | [.ref o, .ref o2] => o = 1 ∧ o2 = 12 ∧ zG w.1 ∧ ∃ L x k d q c A, TX w.2.1 L x k ∧ CS w.2.1 12 d q c A ∧ c < 40 ∧ (¬ (prP x L d q k).1 = true → ∀ wi' : Nat → Nat → Int32, FT w.2.1 wi' → TX wi' L x (prP x L d q k).2.1 → K (some (.int (nI 0))) (w.1, wi', w.2.2)) ∧ ((prP x L d q k).1 = true → ∀ wi' : Nat → Nat → Int32, FT w.2.1 wi' → TX wi' L x (prP x L d q k).2.1 → CS wi' 12 d q (c + 1) (ndA A c (prP x L d q k).2.2) → K (some (.int (nI 1))) (w.1, wi', w.2.2))
  | _ => False
def rm_X8_takeProduct : Room := { frames := 4, cells := 0, slots := 0, locals := 92 }
def M_X8_takeProduct : zM := (k_X8_takeProduct, f_X8, [(53, 4, 5, 1, 0, 0, sp_X6_addZero), (35, 4, 7, 2, 0, 0, sp_X8_take), (43, 4, 7, 3, 0, 0, sp_X8_takeForm), (65, 4, 5, 4, 0, 0, sp_X6_setForm)], ([], [], []), [], [(11, [true, true, true]), (29, [true, true, true])], 2, false, (false, 0, fun _ => 0), (0, 0, []))
theorem ca_X8_takeProduct_0 (l : Launch) : z_cok l RX8 (headSpec (.code yX8_takeProduct cX8_takeProduct 3 (some .boolean) :: zTT) rm_X8_takeProduct).room (false, 0, fun _ => 0) (53, 4, 5, 1, 0, 0, sp_X6_addZero) := z_ca4 (c_X6_addZero l) mb_X6_addZero ⟨_, rfl, rfl⟩ wt_356 wt_281 wt_282 (by decide)
theorem ca_X8_takeProduct_1 (l : Launch) : z_cok l RX8 (headSpec (.code yX8_takeProduct cX8_takeProduct 3 (some .boolean) :: zTT) rm_X8_takeProduct).room (false, 0, fun _ => 0) (35, 4, 7, 2, 0, 0, sp_X8_take) := z_ca4 (c_X8_take l) mb_X8_take ⟨_, rfl, rfl⟩ wt_357 wt_359 wt_2 (by decide)
theorem ca_X8_takeProduct_2 (l : Launch) : z_cok l RX8 (headSpec (.code yX8_takeProduct cX8_takeProduct 3 (some .boolean) :: zTT) rm_X8_takeProduct).room (false, 0, fun _ => 0) (43, 4, 7, 3, 0, 0, sp_X8_takeForm) := z_ca4 (c_X8_takeForm l) mb_X8_takeForm ⟨_, rfl, rfl⟩ wt_369 wt_371 wt_4 (by decide)
theorem ca_X8_takeProduct_3 (l : Launch) : z_cok l RX8 (headSpec (.code yX8_takeProduct cX8_takeProduct 3 (some .boolean) :: zTT) rm_X8_takeProduct).room (false, 0, fun _ => 0) (65, 4, 5, 4, 0, 0, sp_X6_setForm) := z_ca4 (c_X6_setForm l) mb_X6_setForm ⟨_, rfl, rfl⟩ wt_393 wt_289 wt_290 (by decide)
theorem O_X8_takeProduct (l : Launch) : z_OK l RX8 cX8_takeProduct (headSpec (.code yX8_takeProduct cX8_takeProduct 3 (some .boolean) :: zTT) rm_X8_takeProduct).room M_X8_takeProduct := ⟨ok_X8_takeProduct, fo_X8, List.forall_mem_cons.mpr ⟨ca_X8_takeProduct_0 l, List.forall_mem_cons.mpr ⟨ca_X8_takeProduct_1 l, List.forall_mem_cons.mpr ⟨ca_X8_takeProduct_2 l, List.forall_mem_cons.mpr ⟨ca_X8_takeProduct_3 l, fun _ h => absurd h List.not_mem_nil⟩⟩⟩⟩, fun _ h => absurd h List.not_mem_nil, fun _ h => absurd h List.not_mem_nil, fun _ h => absurd h List.not_mem_nil, fun _ h => absurd h List.not_mem_nil, rfl, rfl, fun _ h => absurd h List.not_mem_nil⟩
theorem c_X8_takeProduct (l : Launch) : z_CS l yX8_takeProduct cX8_takeProduct 3 (some .boolean) rm_X8_takeProduct sp_X8_takeProduct := by
  refine z_meth (by decide) (Or.inr (Or.inr (Or.inl ⟨rfl, rfl⟩))) (fun h => by cases h) rfl (O_X8_takeProduct l) ?_
  intro av w K h
  match av, h with
  | [.ref o, .ref o2], h =>
    obtain ⟨rfl, rfl, ⟨r, hG⟩, L, x, k, d, q, c, A, hT, hS, hc, h0, h1⟩ := h
    obtain ⟨G, wi, wl⟩ := w
    subst hG
    try dsimp only at h0 h1 hT hS
    have q23 := cs_q23 hS
    unfold prP at h0 h1
    refine ⟨Nat.le_of_ble_eq_true rfl, fun Jm hs => ?_⟩
    have loop := up_ind (P := fun t => ∀ (wi' : Nat → Nat → Int32), FT wi wi' → TX wi' L x (prL x L d q k t).2.1 → (prL x L d q k t).1 = true → CS wi' 12 d q (c + 1) (ndA A c (prL x L d q k t).2.2) → Jm 11 [some (.ref 1), some (.ref 12), some (.int (nI t))] [] (GC ++ r, wi', wl) 0 0) 3 (fun t ht ih => by
      intro wi' hF hT' hok hS'
      refine hs 400 11 _ _ _ _ _ ?_
      conv => whnf
      repeat ((first | refine ⟨zG_of _, ?_⟩ | refine ⟨trivial, ?_⟩ | refine ⟨rfl, ?_⟩ | refine ⟨fun hc => absurd hc (by decide), fun _ => ?_⟩ | refine ⟨fun _ => ?_, fun hc => absurd (by decide) hc⟩ | refine ⟨fun _ => ?_, fun hc => absurd hc (by decide)⟩ | refine ⟨fun hc => absurd (by decide) hc, fun _ => ?_⟩); conv => whnf)
      try dsimp only
      rw [ltN (by omega) (by omega)]
      refine ⟨fun hc2 => ?_, fun hc2 => ?_⟩
      · obtain rfl : t = 3 := by omega
        exact ⟨Or.inr rfl, h1 hok wi' hF hT' hS'⟩
      · have ihn := ih hc2
        have form : ∀ (wi1 : Nat → Nat → Int32) (m : Nat), FT wi wi1 → TX wi1 L x m → CS wi1 12 d q (c + 1) (ndA A c (prL x L d q k t).2.2) → prL x L d q k (t + 1) = ((fmP x L d q t m).1, (fmP x L d q t m).2.1, upA (prL x L d q k t).2.2 t (fmP x L d q t m).2.2) → Jm 29 [some (.ref 1), some (.ref 12), some (.int (nI t))] [] (GC ++ r, wi1, wl) 0 0 := by
          intro wi1 m hF1 hT1 hS1 he
          refine hs 400 29 _ _ _ _ _ ?_
          conv => whnf
          repeat ((first | refine ⟨zG_of _, ?_⟩ | refine ⟨trivial, ?_⟩ | refine ⟨rfl, ?_⟩ | refine ⟨fun hc => absurd hc (by decide), fun _ => ?_⟩ | refine ⟨fun _ => ?_, fun hc => absurd (by decide) hc⟩ | refine ⟨fun _ => ?_, fun hc => absurd hc (by decide)⟩ | refine ⟨fun hc => absurd (by decide) hc, fun _ => ?_⟩); conv => whnf)
          try dsimp only
          refine ⟨Or.inr rfl, zG_of _, L, x, m, d, q, c + 1, _, t, hT1, hS1, rfl, hc2, fun wi2 hF2 hT2 hf2 => ?_⟩
          have flt := fmP_lt (x := x) (L := L) (d := d) (t := t) (k := m) (show 2 ≤ q by omega)
          generalize hM : fmP x L d q t m = M at *
          conv => whnf
          repeat ((first | refine ⟨zG_of _, ?_⟩ | refine ⟨trivial, ?_⟩ | refine ⟨rfl, ?_⟩ | refine ⟨fun hc => absurd hc (by decide), fun _ => ?_⟩ | refine ⟨fun _ => ?_, fun hc => absurd (by decide) hc⟩ | refine ⟨fun _ => ?_, fun hc => absurd hc (by decide)⟩ | refine ⟨fun hc => absurd (by decide) hc, fun _ => ?_⟩); conv => whnf)
          try dsimp only
          refine ⟨fun hz => ?_, fun hz => ?_⟩
          · have hz : M.1 = true := Classical.not_not.mp (fun z => hz (bI_f z))
            have hS2 : CS wi2 12 d q (c + 1) _ := cs_fr hS1 (hF2 _ (by decide)) (hF2 _ (by decide))
            conv => whnf
            repeat ((first | refine ⟨zG_of _, ?_⟩ | refine ⟨trivial, ?_⟩ | refine ⟨rfl, ?_⟩ | refine ⟨fun hc => absurd hc (by decide), fun _ => ?_⟩ | refine ⟨fun _ => ?_, fun hc => absurd (by decide) hc⟩ | refine ⟨fun _ => ?_, fun hc => absurd hc (by decide)⟩ | refine ⟨fun hc => absurd (by decide) hc, fun _ => ?_⟩); conv => whnf)
            try dsimp only
            refine ⟨Or.inr rfl, zG_of _, c, t, by rw [cs_c hS2, pk_sub (by omega)]; rfl, hc, rfl, hc2, fun wi3 e3 => ?_⟩
            have k3 := cs_set hS2 (show c < c + 1 by omega) hc2 hf2 flt e3
            have ee : ∀ B, upA (ndA A c B) (3 * c + t) M.2.2 = ndA A c (upA B t M.2.2) := fun B => by
              funext j
              unfold upA ndA
              dsimp only
              by_cases e1 : j = 3 * c + t
              · rw [if_pos e1, if_neg (by omega), if_pos (by omega)]
              · rw [if_neg e1]
                by_cases e2 : j < 3 * c
                · rw [if_pos e2, if_pos e2]
                · rw [if_neg e2, if_neg e2, if_neg (by omega)]
            rw [ee] at k3
            conv => whnf
            repeat ((first | refine ⟨zG_of _, ?_⟩ | refine ⟨trivial, ?_⟩ | refine ⟨rfl, ?_⟩ | refine ⟨fun hc => absurd hc (by decide), fun _ => ?_⟩ | refine ⟨fun _ => ?_, fun hc => absurd (by decide) hc⟩ | refine ⟨fun _ => ?_, fun hc => absurd hc (by decide)⟩ | refine ⟨fun hc => absurd (by decide) hc, fun _ => ?_⟩); conv => whnf)
            try dsimp only
            rw [nI_add]
            have ih2 := ihn wi3
            rw [he] at ih2
            exact ih2 (FT_2 (FT_1 hF1 hF2) k3.2) (tx_fr hT2 (k3.2 _ (by decide) (by decide)) (k3.2 _ (by decide) (by decide))) hz k3.1
          · have hz : ¬ M.1 = true := fun z => absurd ((bI_t z).symm.trans hz) (by decide)
            have ef : prL x L d q k 3 = (M.1, M.2.1, upA (prL x L d q k t).2.2 t M.2.2) := by
              rw [← he, show 3 = t + 1 + (2 - t) by omega]
              exact prL_fail x L d q k (by rw [he]; exact hz) _
            rw [ef] at h0
            exact ⟨Or.inl rfl, h0 hz wi2 (FT_1 hF1 hF2) hT2⟩
        conv => whnf
        repeat ((first | refine ⟨zG_of _, ?_⟩ | refine ⟨trivial, ?_⟩ | refine ⟨rfl, ?_⟩ | refine ⟨fun hc => absurd hc (by decide), fun _ => ?_⟩ | refine ⟨fun _ => ?_, fun hc => absurd (by decide) hc⟩ | refine ⟨fun _ => ?_, fun hc => absurd hc (by decide)⟩ | refine ⟨fun hc => absurd (by decide) hc, fun _ => ?_⟩); conv => whnf)
        try dsimp only
        rw [ltN (by omega) (by omega)]
        refine ⟨fun hq => ?_, fun hq => ?_⟩
        · obtain rfl : t = 0 := by omega
          conv => whnf
          repeat ((first | refine ⟨zG_of _, ?_⟩ | refine ⟨trivial, ?_⟩ | refine ⟨rfl, ?_⟩ | refine ⟨fun hc => absurd hc (by decide), fun _ => ?_⟩ | refine ⟨fun _ => ?_, fun hc => absurd (by decide) hc⟩ | refine ⟨fun _ => ?_, fun hc => absurd hc (by decide)⟩ | refine ⟨fun hc => absurd (by decide) hc, fun _ => ?_⟩); conv => whnf)
          try dsimp only
          exact form wi' k hF hT' hS' (by simp [prL])
        · have ht0 : ¬ t = 0 := by omega
          conv => whnf
          repeat ((first | refine ⟨zG_of _, ?_⟩ | refine ⟨trivial, ?_⟩ | refine ⟨rfl, ?_⟩ | refine ⟨fun hc => absurd hc (by decide), fun _ => ?_⟩ | refine ⟨fun _ => ?_, fun hc => absurd (by decide) hc⟩ | refine ⟨fun _ => ?_, fun hc => absurd hc (by decide)⟩ | refine ⟨fun hc => absurd (by decide) hc, fun _ => ?_⟩); conv => whnf)
          try dsimp only
          refine ⟨L, x, _, 42, hT', rfl, by decide, fun h42 => ?_, fun h42 wi1 hF1 hT1 hf1 => ?_⟩
          · have he : prL x L d q k (t + 1) = (false, (prL x L d q k t).2.1, (prL x L d q k t).2.2) := by
              rw [prL, if_pos hok, if_neg (fun z => z.elim ht0 h42)]
            have ef : prL x L d q k 3 = (false, (prL x L d q k t).2.1, (prL x L d q k t).2.2) := by
              rw [← he, show 3 = t + 1 + (2 - t) by omega]
              exact prL_fail x L d q k (by rw [he]; exact Bool.false_ne_true) _
            rw [ef] at h0
            conv => whnf
            repeat ((first | refine ⟨zG_of _, ?_⟩ | refine ⟨trivial, ?_⟩ | refine ⟨rfl, ?_⟩ | refine ⟨fun hc => absurd hc (by decide), fun _ => ?_⟩ | refine ⟨fun _ => ?_, fun hc => absurd (by decide) hc⟩ | refine ⟨fun _ => ?_, fun hc => absurd hc (by decide)⟩ | refine ⟨fun hc => absurd (by decide) hc, fun _ => ?_⟩); conv => whnf)
            try dsimp only
            exact ⟨Or.inl rfl, h0 Bool.false_ne_true wi' hF hT'⟩
          · conv => whnf
            repeat ((first | refine ⟨zG_of _, ?_⟩ | refine ⟨trivial, ?_⟩ | refine ⟨rfl, ?_⟩ | refine ⟨fun hc => absurd hc (by decide), fun _ => ?_⟩ | refine ⟨fun _ => ?_, fun hc => absurd (by decide) hc⟩ | refine ⟨fun _ => ?_, fun hc => absurd hc (by decide)⟩ | refine ⟨fun hc => absurd (by decide) hc, fun _ => ?_⟩); conv => whnf)
            try dsimp only
            refine form wi1 _ (FT_1 hF hF1) hT1 (cs_fr hS' (hF1 _ (by decide)) (hF1 _ (by decide))) ?_
            rw [prL, if_pos hok, if_pos (Or.inr h42)]
            simp only [if_neg ht0])
    refine hs 400 0 _ _ _ _ _ ?_
    conv => whnf
    repeat ((first | refine ⟨zG_of _, ?_⟩ | refine ⟨trivial, ?_⟩ | refine ⟨rfl, ?_⟩ | refine ⟨fun hc => absurd hc (by decide), fun _ => ?_⟩ | refine ⟨fun _ => ?_, fun hc => absurd (by decide) hc⟩ | refine ⟨fun _ => ?_, fun hc => absurd hc (by decide)⟩ | refine ⟨fun hc => absurd (by decide) hc, fun _ => ?_⟩); conv => whnf)
    try dsimp only
    refine ⟨Or.inr rfl, zG_of _, d, q, c, A, hS, fun z => absurd z (by omega), fun _ wi1 hF1 hS1 => ?_⟩
    conv => whnf
    repeat ((first | refine ⟨zG_of _, ?_⟩ | refine ⟨trivial, ?_⟩ | refine ⟨rfl, ?_⟩ | refine ⟨fun hc => absurd hc (by decide), fun _ => ?_⟩ | refine ⟨fun _ => ?_, fun hc => absurd (by decide) hc⟩ | refine ⟨fun _ => ?_, fun hc => absurd hc (by decide)⟩ | refine ⟨fun hc => absurd (by decide) hc, fun _ => ?_⟩); conv => whnf)
    try dsimp only
    refine loop 0 (Nat.zero_le _) wi1 (FT_2 (FT_refl _) hF1) (tx_fr hT (hF1 _ (by decide) (by decide)) (hF1 _ (by decide) (by decide))) rfl (cs_congr hS1 (fun k _ p _ => ?_))
    unfold zA ndA
    split
    · rfl
    · rfl

