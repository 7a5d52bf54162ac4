/-! matches, each of the others for one alone; whether a scheme is right -/
def tkB (g : Nat → Nat → Bool) (cb : Nat) : Nat → Nat → Bool
  | 0, _ => false
  | i + 1, k => tkB g cb i k || k == fi (fun j => !tkB g cb i j && g i j) cb
def sp_X6_matches : zSp := fun av w K => match av with
  | [.ref o, .ref o2] => o = 6 ∧ zG w.1 ∧ (o2 = 9 ∨ o2 = 12) ∧ ∃ d q c A d2 c2 B, CS w.2.1 6 d q c A ∧ CS w.2.1 o2 d2 q c2 B ∧ K (some (.int (nI (fb_ct (tkB (fun i k => alB q A i B k) c2 c) c2)))) w
  | _ => False
def rm_X6_matches : Room := { frames := 3, cells := 0, slots := 0, locals := 68 }
def M_X6_matches : zM := (k_X6_matches, f_X6, [(126, 2, 0, 1, 0, 0, sp_X11_bit), (130, 4, 5, 4, 0, 0, sp_X6_isLike), (134, 0, 0, 1, 0, 0, sp_J13_bitCount_95d88)], ([], [], []), [], [(5, [true, true, true, true, true, false]), (17, [true, true, true, true, true, true])], 1, false, (false, 0, fun _ => 0), (0, 0, []))
theorem ca_X6_matches_0 (l : Launch) : z_cok l RX6 (headSpec (.code yX6_matches cX6_matches 6 (some .int) :: zTT) rm_X6_matches).room (false, 0, fun _ => 0) (126, 2, 0, 1, 0, 0, sp_X11_bit) := z_ca2 (host := "FewProducts") (c_X11_bit l) mb_X11_bit (by decide +kernel) wt_750 (by decide)
theorem ca_X6_matches_1 (l : Launch) : z_cok l RX6 (headSpec (.code yX6_matches cX6_matches 6 (some .int) :: zTT) rm_X6_matches).room (false, 0, fun _ => 0) (130, 4, 5, 4, 0, 0, sp_X6_isLike) := z_ca4 (c_X6_isLike l) mb_X6_isLike ⟨_, rfl, rfl⟩ wt_781 wt_782 wt_783 (by decide)
theorem ca_X6_matches_2 (l : Launch) : z_cok l RX6 (headSpec (.code yX6_matches cX6_matches 6 (some .int) :: zTT) rm_X6_matches).room (false, 0, fun _ => 0) (134, 0, 0, 1, 0, 0, sp_J13_bitCount_95d88) := z_ca0 (c_J13_bitCount_95d88 l) mb_J13_bitCount_95d88 wt_785 wt_754 (by decide)
theorem O_X6_matches (l : Launch) : z_OK l RX6 cX6_matches (headSpec (.code yX6_matches cX6_matches 6 (some .int) :: zTT) rm_X6_matches).room M_X6_matches := ⟨ok_X6_matches, fo_X6, List.forall_mem_cons.mpr ⟨ca_X6_matches_0 l, List.forall_mem_cons.mpr ⟨ca_X6_matches_1 l, List.forall_mem_cons.mpr ⟨ca_X6_matches_2 l, fun _ h => absurd h List.not_mem_nil⟩⟩⟩, fun _ h => absurd h List.not_mem_nil, fun _ h => absurd h List.not_mem_nil, fun _ h => absurd h List.not_mem_nil, fun _ h => absurd h List.not_mem_nil, rfl, rfl, fun _ h => absurd h List.not_mem_nil⟩
theorem c_X6_matches (l : Launch) : z_CS l yX6_matches cX6_matches 6 (some .int) rm_X6_matches sp_X6_matches := by
  refine z_meth (by decide) (Or.inr (Or.inl ⟨rfl, rfl⟩)) (fun h => by cases h) rfl (O_X6_matches l) ?_
  intro av w K h
  match av, h with
  | [.ref o, .ref o2], h =>
    obtain ⟨rfl, ⟨r, hG⟩, ho, d, q, c, A, d2, c2, B, hS, hS2, h⟩ := h
    obtain ⟨G, wi, wl⟩ := w
    subst hG
    try dsimp only at h hS hS2
    have h40 := cs_40 hS
    have h41 := cs_40 hS2
    generalize hg : (fun i k => alB q A i B k) = g at h
    rcases ho with rfl | rfl
    · refine ⟨Nat.le_of_ble_eq_true rfl, fun Jm hs => ?_⟩
      have loop := up_ind (P := fun i => Jm 5 [some (.ref 6), some (.ref 9), some (.long (lN (bs (tkB g c2 i) c2))), none, some (.int (nI i)), none] [] (GC ++ r, wi, wl) 0 0) c (fun i hi ih => by
        refine hs 400 5 _ _ _ _ _ ?_
        conv => whnf
        repeat ((first | refine ⟨zG_of _, ?_⟩ | refine ⟨trivial, ?_⟩ | refine ⟨rfl, ?_⟩ | refine ⟨fun hc => absurd hc (by decide), fun _ => ?_⟩ | refine ⟨fun _ => ?_, fun hc => absurd (by decide) hc⟩ | refine ⟨fun _ => ?_, fun hc => absurd hc (by decide)⟩ | refine ⟨fun hc => absurd (by decide) hc, fun _ => ?_⟩); conv => whnf)
        try dsimp only
        rw [cs_c hS, ltN (by omega) (by omega)]
        refine ⟨fun hc => ?_, fun hc => ?_⟩
        · obtain rfl : i = c := by omega
          have e := bcL_N (tkB g c2 i) (n := c2) (by omega)
          rw [← e] at h
          conv => whnf
          repeat ((first | refine ⟨zG_of _, ?_⟩ | refine ⟨trivial, ?_⟩ | refine ⟨rfl, ?_⟩ | refine ⟨fun hc => absurd hc (by decide), fun _ => ?_⟩ | refine ⟨fun _ => ?_, fun hc => absurd (by decide) hc⟩ | refine ⟨fun _ => ?_, fun hc => absurd hc (by decide)⟩ | refine ⟨fun hc => absurd (by decide) hc, fun _ => ?_⟩); conv => whnf)
          try dsimp only
          exact h
        · have ih := ih hc
          have l40 := bs_lt63 (tkB g c2 i) h41
          have inner := up_ind (P := fun k => (∀ j, j < k → ¬ (!tkB g c2 i j && g i j) = true) → Jm 17 [some (.ref 6), some (.ref 9), some (.long (lN (bs (tkB g c2 i) c2))), none, some (.int (nI i)), some (.int (nI k))] [] (GC ++ r, wi, wl) 0 0) c2 (fun k hk ihk hno => by
            refine hs 400 17 _ _ _ _ _ ?_
            conv => whnf
            repeat ((first | refine ⟨zG_of _, ?_⟩ | refine ⟨trivial, ?_⟩ | refine ⟨rfl, ?_⟩ | refine ⟨fun hc => absurd hc (by decide), fun _ => ?_⟩ | refine ⟨fun _ => ?_, fun hc => absurd (by decide) hc⟩ | refine ⟨fun _ => ?_, fun hc => absurd hc (by decide)⟩ | refine ⟨fun hc => absurd (by decide) hc, fun _ => ?_⟩); conv => whnf)
            try dsimp only
            rw [cs_c hS2, ltN (by omega) (by omega)]
            refine ⟨fun hc2 => ?_, fun hc2 => ?_⟩
            · obtain rfl : k = c2 := by omega
              have e : bs (tkB g k (i + 1)) k = bs (tkB g k i) k := bs_congr (fun j hj => by
                show (tkB g k i j || j == fi (fun j => !tkB g k i j && g i j) k) = _
                rw [fi_none hno]
                have : (j == k) = false := by simp; omega
                rw [this, Bool.or_false])
              rw [e] at ih
              conv => whnf
              repeat ((first | refine ⟨zG_of _, ?_⟩ | refine ⟨trivial, ?_⟩ | refine ⟨rfl, ?_⟩ | refine ⟨fun hc => absurd hc (by decide), fun _ => ?_⟩ | refine ⟨fun _ => ?_, fun hc => absurd (by decide) hc⟩ | refine ⟨fun _ => ?_, fun hc => absurd hc (by decide)⟩ | refine ⟨fun hc => absurd (by decide) hc, fun _ => ?_⟩); conv => whnf)
              try dsimp only
              rw [nI_add]
              exact ih
            · have ihk := ihk hc2
              have next : ¬ (!tkB g c2 i k && g i k) = true → Jm 17 [some (.ref 6), some (.ref 9), some (.long (lN (bs (tkB g c2 i) c2))), none, some (.int (nI i)), some (.int (nI (k + 1)))] [] (GC ++ r, wi, wl) 0 0 := fun q => ihk (fun j hj => by
                rcases Nat.lt_or_ge j k with h1 | h1
                · exact hno j h1
                · obtain rfl : j = k := by omega
                  exact q)
              have e : lg_cmp (lN (bs (tkB g c2 i) c2) &&& bitF (nI k)) (lN 0) = nI 0 ↔ tkB g c2 i k = false := by
                rw [bit_N (by omega), show (nI 0 : Int32) = 0 from rfl, lg_cmp_eq, show (lN 0 : Int64) = 0 from rfl, fb_bitL (by omega), bs_bit]
                simp [hc2]
              conv => whnf
              repeat ((first | refine ⟨zG_of _, ?_⟩ | refine ⟨trivial, ?_⟩ | refine ⟨rfl, ?_⟩ | refine ⟨fun hc => absurd hc (by decide), fun _ => ?_⟩ | refine ⟨fun _ => ?_, fun hc => absurd (by decide) hc⟩ | refine ⟨fun _ => ?_, fun hc => absurd hc (by decide)⟩ | refine ⟨fun hc => absurd (by decide) hc, fun _ => ?_⟩); conv => whnf)
              try dsimp only
              rw [e]
              refine ⟨fun hz => ?_, fun hz => ?_⟩
              · conv => whnf
                repeat ((first | refine ⟨zG_of _, ?_⟩ | refine ⟨trivial, ?_⟩ | refine ⟨rfl, ?_⟩ | refine ⟨fun hc => absurd hc (by decide), fun _ => ?_⟩ | refine ⟨fun _ => ?_, fun hc => absurd (by decide) hc⟩ | refine ⟨fun _ => ?_, fun hc => absurd hc (by decide)⟩ | refine ⟨fun hc => absurd (by decide) hc, fun _ => ?_⟩); conv => whnf)
                try dsimp only
                rw [nI_add]
                exact next (by simp [hz])
              · conv => whnf
                repeat ((first | refine ⟨zG_of _, ?_⟩ | refine ⟨trivial, ?_⟩ | refine ⟨rfl, ?_⟩ | refine ⟨fun hc => absurd hc (by decide), fun _ => ?_⟩ | refine ⟨fun _ => ?_, fun hc => absurd (by decide) hc⟩ | refine ⟨fun _ => ?_, fun hc => absurd hc (by decide)⟩ | refine ⟨fun hc => absurd (by decide) hc, fun _ => ?_⟩); conv => whnf)
                try dsimp only
                refine ⟨(by first | exact Or.inl rfl | exact Or.inr rfl), d, q, c, A, d2, c2, B, i, k, hS, hS2, rfl, hc, rfl, hc2, ?_⟩
                conv => whnf
                repeat ((first | refine ⟨zG_of _, ?_⟩ | refine ⟨trivial, ?_⟩ | refine ⟨rfl, ?_⟩ | refine ⟨fun hc => absurd hc (by decide), fun _ => ?_⟩ | refine ⟨fun _ => ?_, fun hc => absurd (by decide) hc⟩ | refine ⟨fun _ => ?_, fun hc => absurd hc (by decide)⟩ | refine ⟨fun hc => absurd (by decide) hc, fun _ => ?_⟩); conv => whnf)
                try dsimp only
                refine ⟨fun hz2 => ?_, fun hz2 => ?_⟩
                · rw [bI_0] at hz2
                  conv => whnf
                  repeat ((first | refine ⟨zG_of _, ?_⟩ | refine ⟨trivial, ?_⟩ | refine ⟨rfl, ?_⟩ | refine ⟨fun hc => absurd hc (by decide), fun _ => ?_⟩ | refine ⟨fun _ => ?_, fun hc => absurd (by decide) hc⟩ | refine ⟨fun _ => ?_, fun hc => absurd hc (by decide)⟩ | refine ⟨fun hc => absurd (by decide) hc, fun _ => ?_⟩); conv => whnf)
                  try dsimp only
                  rw [nI_add]
                  have hz3 : ¬ g i k = true := by rw [← hg]; exact hz2
                  exact next (by simpa [hz] using hz3)
                · rw [bI_0, Classical.not_not] at hz2
                  have hg2 : g i k = true := by rw [← hg]; exact hz2
                  have e2 : bs (tkB g c2 (i + 1)) c2 = bs (tkB g c2 i) c2 ||| 2 ^ k := by
                    rw [← bs_or1 hc2]
                    refine bs_congr (fun j _ => ?_)
                    show (tkB g c2 i j || j == fi (fun j => !tkB g c2 i j && g i j) c2) = _
                    rw [fi_at hc2 (by simp [hz, hg2]) hno]
                  rw [e2, ← fb_orL, ← bit_N (by omega)] at ih
                  conv => whnf
                  repeat ((first | refine ⟨zG_of _, ?_⟩ | refine ⟨trivial, ?_⟩ | refine ⟨rfl, ?_⟩ | refine ⟨fun hc => absurd hc (by decide), fun _ => ?_⟩ | refine ⟨fun _ => ?_, fun hc => absurd (by decide) hc⟩ | refine ⟨fun _ => ?_, fun hc => absurd hc (by decide)⟩ | refine ⟨fun hc => absurd (by decide) hc, fun _ => ?_⟩); conv => whnf)
                  try dsimp only
                  rw [nI_add]
                  exact ih)
          conv => whnf
          repeat ((first | refine ⟨zG_of _, ?_⟩ | refine ⟨trivial, ?_⟩ | refine ⟨rfl, ?_⟩ | refine ⟨fun hc => absurd hc (by decide), fun _ => ?_⟩ | refine ⟨fun _ => ?_, fun hc => absurd (by decide) hc⟩ | refine ⟨fun _ => ?_, fun hc => absurd hc (by decide)⟩ | refine ⟨fun hc => absurd (by decide) hc, fun _ => ?_⟩); conv => whnf)
          try dsimp only
          exact inner 0 (Nat.zero_le _) (fun j hj => absurd hj (Nat.not_lt_zero j)))
      have l0 := loop 0 (Nat.zero_le _)
      simp only [show bs (tkB g c2 0) c2 = 0 from bs_0.mpr (fun j _ => rfl)] at l0
      exact hs 400 0 _ _ _ _ _ l0
    · refine ⟨Nat.le_of_ble_eq_true rfl, fun Jm hs => ?_⟩
      have loop := up_ind (P := fun i => Jm 5 [some (.ref 6), some (.ref 12), some (.long (lN (bs (tkB g c2 i) c2))), none, some (.int (nI i)), none] [] (GC ++ r, wi, wl) 0 0) c (fun i hi ih => by
        refine hs 400 5 _ _ _ _ _ ?_
        conv => whnf
        repeat ((first | refine ⟨zG_of _, ?_⟩ | refine ⟨trivial, ?_⟩ | refine ⟨rfl, ?_⟩ | refine ⟨fun hc => absurd hc (by decide), fun _ => ?_⟩ | refine ⟨fun _ => ?_, fun hc => absurd (by decide) hc⟩ | refine ⟨fun _ => ?_, fun hc => absurd hc (by decide)⟩ | refine ⟨fun hc => absurd (by decide) hc, fun _ => ?_⟩); conv => whnf)
        try dsimp only
        rw [cs_c hS, ltN (by omega) (by omega)]
        refine ⟨fun hc => ?_, fun hc => ?_⟩
        · obtain rfl : i = c := by omega
          have e := bcL_N (tkB g c2 i) (n := c2) (by omega)
          rw [← e] at h
          conv => whnf
          repeat ((first | refine ⟨zG_of _, ?_⟩ | refine ⟨trivial, ?_⟩ | refine ⟨rfl, ?_⟩ | refine ⟨fun hc => absurd hc (by decide), fun _ => ?_⟩ | refine ⟨fun _ => ?_, fun hc => absurd (by decide) hc⟩ | refine ⟨fun _ => ?_, fun hc => absurd hc (by decide)⟩ | refine ⟨fun hc => absurd (by decide) hc, fun _ => ?_⟩); conv => whnf)
          try dsimp only
          exact h
        · have ih := ih hc
          have l40 := bs_lt63 (tkB g c2 i) h41
          have inner := up_ind (P := fun k => (∀ j, j < k → ¬ (!tkB g c2 i j && g i j) = true) → Jm 17 [some (.ref 6), some (.ref 12), some (.long (lN (bs (tkB g c2 i) c2))), none, some (.int (nI i)), some (.int (nI k))] [] (GC ++ r, wi, wl) 0 0) c2 (fun k hk ihk hno => by
            refine hs 400 17 _ _ _ _ _ ?_
            conv => whnf
            repeat ((first | refine ⟨zG_of _, ?_⟩ | refine ⟨trivial, ?_⟩ | refine ⟨rfl, ?_⟩ | refine ⟨fun hc => absurd hc (by decide), fun _ => ?_⟩ | refine ⟨fun _ => ?_, fun hc => absurd (by decide) hc⟩ | refine ⟨fun _ => ?_, fun hc => absurd hc (by decide)⟩ | refine ⟨fun hc => absurd (by decide) hc, fun _ => ?_⟩); conv => whnf)
            try dsimp only
            rw [cs_c hS2, ltN (by omega) (by omega)]
            refine ⟨fun hc2 => ?_, fun hc2 => ?_⟩
            · obtain rfl : k = c2 := by omega
              have e : bs (tkB g k (i + 1)) k = bs (tkB g k i) k := bs_congr (fun j hj => by
                show (tkB g k i j || j == fi (fun j => !tkB g k i j && g i j) k) = _
                rw [fi_none hno]
                have : (j == k) = false := by simp; omega
                rw [this, Bool.or_false])
              rw [e] at ih
              conv => whnf
              repeat ((first | refine ⟨zG_of _, ?_⟩ | refine ⟨trivial, ?_⟩ | refine ⟨rfl, ?_⟩ | refine ⟨fun hc => absurd hc (by decide), fun _ => ?_⟩ | refine ⟨fun _ => ?_, fun hc => absurd (by decide) hc⟩ | refine ⟨fun _ => ?_, fun hc => absurd hc (by decide)⟩ | refine ⟨fun hc => absurd (by decide) hc, fun _ => ?_⟩); conv => whnf)
              try dsimp only
              rw [nI_add]
              exact ih
            · have ihk := ihk hc2
              have next : ¬ (!tkB g c2 i k && g i k) = true → Jm 17 [some (.ref 6), some (.ref 12), some (.long (lN (bs (tkB g c2 i) c2))), none, some (.int (nI i)), some (.int (nI (k + 1)))] [] (GC ++ r, wi, wl) 0 0 := fun q => ihk (fun j hj => by
                rcases Nat.lt_or_ge j k with h1 | h1
                · exact hno j h1
                · obtain rfl : j = k := by omega
                  exact q)
              have e : lg_cmp (lN (bs (tkB g c2 i) c2) &&& bitF (nI k)) (lN 0) = nI 0 ↔ tkB g c2 i k = false := by
                rw [bit_N (by omega), show (nI 0 : Int32) = 0 from rfl, lg_cmp_eq, show (lN 0 : Int64) = 0 from rfl, fb_bitL (by omega), bs_bit]
                simp [hc2]
              conv => whnf
              repeat ((first | refine ⟨zG_of _, ?_⟩ | refine ⟨trivial, ?_⟩ | refine ⟨rfl, ?_⟩ | refine ⟨fun hc => absurd hc (by decide), fun _ => ?_⟩ | refine ⟨fun _ => ?_, fun hc => absurd (by decide) hc⟩ | refine ⟨fun _ => ?_, fun hc => absurd hc (by decide)⟩ | refine ⟨fun hc => absurd (by decide) hc, fun _ => ?_⟩); conv => whnf)
              try dsimp only
              rw [e]
              refine ⟨fun hz => ?_, fun hz => ?_⟩
              · conv => whnf
                repeat ((first | refine ⟨zG_of _, ?_⟩ | refine ⟨trivial, ?_⟩ | refine ⟨rfl, ?_⟩ | refine ⟨fun hc => absurd hc (by decide), fun _ => ?_⟩ | refine ⟨fun _ => ?_, fun hc => absurd (by decide) hc⟩ | refine ⟨fun _ => ?_, fun hc => absurd hc (by decide)⟩ | refine ⟨fun hc => absurd (by decide) hc, fun _ => ?_⟩); conv => whnf)
                try dsimp only
                rw [nI_add]
                exact next (by simp [hz])
              · conv => whnf
                repeat ((first | refine ⟨zG_of _, ?_⟩ | refine ⟨trivial, ?_⟩ | refine ⟨rfl, ?_⟩ | refine ⟨fun hc => absurd hc (by decide), fun _ => ?_⟩ | refine ⟨fun _ => ?_, fun hc => absurd (by decide) hc⟩ | refine ⟨fun _ => ?_, fun hc => absurd hc (by decide)⟩ | refine ⟨fun hc => absurd (by decide) hc, fun _ => ?_⟩); conv => whnf)
                try dsimp only
                refine ⟨(by first | exact Or.inl rfl | exact Or.inr rfl), d, q, c, A, d2, c2, B, i, k, hS, hS2, rfl, hc, rfl, hc2, ?_⟩
                conv => whnf
                repeat ((first | refine ⟨zG_of _, ?_⟩ | refine ⟨trivial, ?_⟩ | refine ⟨rfl, ?_⟩ | refine ⟨fun hc => absurd hc (by decide), fun _ => ?_⟩ | refine ⟨fun _ => ?_, fun hc => absurd (by decide) hc⟩ | refine ⟨fun _ => ?_, fun hc => absurd hc (by decide)⟩ | refine ⟨fun hc => absurd (by decide) hc, fun _ => ?_⟩); conv => whnf)
                try dsimp only
                refine ⟨fun hz2 => ?_, fun hz2 => ?_⟩
                · rw [bI_0] at hz2
                  conv => whnf
                  repeat ((first | refine ⟨zG_of _, ?_⟩ | refine ⟨trivial, ?_⟩ | refine ⟨rfl, ?_⟩ | refine ⟨fun hc => absurd hc (by decide), fun _ => ?_⟩ | refine ⟨fun _ => ?_, fun hc => absurd (by decide) hc⟩ | refine ⟨fun _ => ?_, fun hc => absurd hc (by decide)⟩ | refine ⟨fun hc => absurd (by decide) hc, fun _ => ?_⟩); conv => whnf)
                  try dsimp only
                  rw [nI_add]
                  have hz3 : ¬ g i k = true := by rw [← hg]; exact hz2
                  exact next (by simpa [hz] using hz3)
                · rw [bI_0, Classical.not_not] at hz2
                  have hg2 : g i k = true := by rw [← hg]; exact hz2
                  have e2 : bs (tkB g c2 (i + 1)) c2 = bs (tkB g c2 i) c2 ||| 2 ^ k := by
                    rw [← bs_or1 hc2]
                    refine bs_congr (fun j _ => ?_)
                    show (tkB g c2 i j || j == fi (fun j => !tkB g c2 i j && g i j) c2) = _
                    rw [fi_at hc2 (by simp [hz, hg2]) hno]
                  rw [e2, ← fb_orL, ← bit_N (by omega)] at ih
                  conv => whnf
                  repeat ((first | refine ⟨zG_of _, ?_⟩ | refine ⟨trivial, ?_⟩ | refine ⟨rfl, ?_⟩ | refine ⟨fun hc => absurd hc (by decide), fun _ => ?_⟩ | refine ⟨fun _ => ?_, fun hc => absurd (by decide) hc⟩ | refine ⟨fun _ => ?_, fun hc => absurd hc (by decide)⟩ | refine ⟨fun hc => absurd (by decide) hc, fun _ => ?_⟩); conv => whnf)
                  try dsimp only
                  rw [nI_add]
                  exact ih)
          conv => whnf
          repeat ((first | refine ⟨zG_of _, ?_⟩ | refine ⟨trivial, ?_⟩ | refine ⟨rfl, ?_⟩ | refine ⟨fun hc => absurd hc (by decide), fun _ => ?_⟩ | refine ⟨fun _ => ?_, fun hc => absurd (by decide) hc⟩ | refine ⟨fun _ => ?_, fun hc => absurd hc (by decide)⟩ | refine ⟨fun hc => absurd (by decide) hc, fun _ => ?_⟩); conv => whnf)
          try dsimp only
          exact inner 0 (Nat.zero_le _) (fun j hj => absurd hj (Nat.not_lt_zero j)))
      have l0 := loop 0 (Nat.zero_le _)
      simp only [show bs (tkB g c2 0) c2 = 0 from bs_0.mpr (fun j _ => rfl)] at l0
      exact hs 400 0 _ _ _ _ _ l0
def rtB (d : Nat → Nat) (q : Nat) (A : Nat → Nat → Nat) (c : Nat) : Bool := decide (∀ x : Nat, x < pl d 0 → ∀ y : Nat, y < pl d 1 → ∀ z : Nat, z < pl d 2 → gvN A c x y z % q = ndN d x y z)
theorem ndN_le (d : Nat → Nat) (x y z : Nat) : ndN d x y z ≤ 1 := by
  unfold ndN
  split <;> omega
def sp_X6_isRight : zSp := fun av w K => match av with
  | [.ref o] => o = 6 ∧ zG w.1 ∧ ∃ d q c A, CS w.2.1 6 d q c A ∧ K (some (.int (bI (rtB d q A c = true)))) w
  | _ => False
def rm_X6_isRight : Room := { frames := 4, cells := 0, slots := 0, locals := 88 }
def M_X6_isRight : zM := (k_X6_isRight, f_X6, [(82, 4, 5, 2, 0, 0, sp_X6_places), (106, 4, 5, 4, 0, 0, sp_X6_givenAt), (109, 4, 5, 4, 0, 0, sp_X6_neededAt)], ([], [], []), [], [(2, [true, true, false, false]), (13, [true, true, true, false]), (24, [true, true, true, true])], 2, false, (false, 0, fun _ => 0), (0, 0, []))
theorem ca_X6_isRight_0 (l : Launch) : z_cok l RX6 (headSpec (.code yX6_isRight cX6_isRight 4 (some .boolean) :: zTT) rm_X6_isRight).room (false, 0, fun _ => 0) (82, 4, 5, 2, 0, 0, sp_X6_places) := z_ca4 (c_X6_places l) mb_X6_places ⟨_, rfl, rfl⟩ wt_802 wt_434 wt_435 (by decide)
theorem ca_X6_isRight_1 (l : Launch) : z_cok l RX6 (headSpec (.code yX6_isRight cX6_isRight 4 (some .boolean) :: zTT) rm_X6_isRight).room (false, 0, fun _ => 0) (106, 4, 5, 4, 0, 0, sp_X6_givenAt) := z_ca4 (c_X6_givenAt l) mb_X6_givenAt ⟨_, rfl, rfl⟩ wt_803 wt_439 wt_440 (by decide)
theorem ca_X6_isRight_2 (l : Launch) : z_cok l RX6 (headSpec (.code yX6_isRight cX6_isRight 4 (some .boolean) :: zTT) rm_X6_isRight).room (false, 0, fun _ => 0) (109, 4, 5, 4, 0, 0, sp_X6_neededAt) := z_ca4 (c_X6_neededAt l) mb_X6_neededAt ⟨_, rfl, rfl⟩ wt_804 wt_450 wt_451 (by decide)
theorem O_X6_isRight (l : Launch) : z_OK l RX6 cX6_isRight (headSpec (.code yX6_isRight cX6_isRight 4 (some .boolean) :: zTT) rm_X6_isRight).room M_X6_isRight := ⟨ok_X6_isRight, fo_X6, List.forall_mem_cons.mpr ⟨ca_X6_isRight_0 l, List.forall_mem_cons.mpr ⟨ca_X6_isRight_1 l, List.forall_mem_cons.mpr ⟨ca_X6_isRight_2 l, fun _ h => absurd h List.not_mem_nil⟩⟩⟩, fun _ h => absurd h List.not_mem_nil, fun _ h => absurd h List.not_mem_nil, fun _ h => absurd h List.not_mem_nil, fun _ h => absurd h List.not_mem_nil, rfl, rfl, fun _ h => absurd h List.not_mem_nil⟩
theorem c_X6_isRight (l : Launch) : z_CS l yX6_isRight cX6_isRight 4 (some .boolean) rm_X6_isRight sp_X6_isRight := by
  refine z_meth (by decide) (Or.inr (Or.inr (Or.inl ⟨rfl, rfl⟩))) (fun h => by cases h) rfl (O_X6_isRight l) ?_
  intro av w K h
  match av, h with
  | [.ref o], h =>
    obtain ⟨rfl, ⟨r, hG⟩, d, q, c, A, hS, h⟩ := h
    obtain ⟨G, wi, wl⟩ := w
    subst hG
    try dsimp only at h hS
    have h40 := cs_40 hS
    have q23 := cs_q23 hS
    have p0 := pl_le (cs_d hS) (t := 0) (by decide)
    have p1 := pl_le (cs_d hS) (t := 1) (by decide)
    have p2 := pl_le (cs_d hS) (t := 2) (by decide)
    have f0 : plF wi 6 (nI 0) = nI (pl d 0) := pl_S hS (by decide)
    have f1 : plF wi 6 (nI 1) = nI (pl d 1) := pl_S hS (by decide)
    have f2 : plF wi 6 (nI 2) = nI (pl d 2) := pl_S hS (by decide)
    refine ⟨Nat.le_of_ble_eq_true rfl, fun Jm hs => ?_⟩
    have loop := up_ind (P := fun x => (∀ x', x' < x → ∀ y, y < pl d 1 → ∀ z, z < pl d 2 → gvN A c x' y z % q = ndN d x' y z) → Jm 2 [some (.ref 6), some (.int (nI x)), none, none] [] (GC ++ r, wi, wl) 0 0) (pl d 0) (fun x hx ihx hox => by
      refine hs 400 2 _ _ _ _ _ ?_
      conv => whnf
      repeat ((first | refine ⟨zG_of _, ?_⟩ | refine ⟨trivial, ?_⟩ | refine ⟨rfl, ?_⟩ | refine ⟨fun hc => absurd hc (by decide), fun _ => ?_⟩ | refine ⟨fun _ => ?_, fun hc => absurd (by decide) hc⟩ | refine ⟨fun _ => ?_, fun hc => absurd hc (by decide)⟩ | refine ⟨fun hc => absurd (by decide) hc, fun _ => ?_⟩); conv => whnf)
      try dsimp only
      have e := ltN (i := x) (n := pl d 0) (by omega) (by omega)
      rw [← f0] at e
      refine ⟨fun hc => ?_, fun hc => ?_⟩
      · have hc : ¬ x < pl d 0 := fun k => hc (e.mpr k)
        obtain rfl : x = pl d 0 := by omega
        rw [bI_t (by rw [rtB, decide_eq_true_iff]; exact hox)] at h
        exact ⟨Or.inr rfl, h⟩
      · have hc := e.mp hc
        have ihx := ihx hc
        have loopy := up_ind (P := fun y => (∀ y', y' < y → ∀ z, z < pl d 2 → gvN A c x y' z % q = ndN d x y' z) → Jm 13 [some (.ref 6), some (.int (nI x)), some (.int (nI y)), none] [] (GC ++ r, wi, wl) 0 0) (pl d 1) (fun y hy ihy hoy => by
          refine hs 400 13 _ _ _ _ _ ?_
          conv => whnf
          repeat ((first | refine ⟨zG_of _, ?_⟩ | refine ⟨trivial, ?_⟩ | refine ⟨rfl, ?_⟩ | refine ⟨fun hc => absurd hc (by decide), fun _ => ?_⟩ | refine ⟨fun _ => ?_, fun hc => absurd (by decide) hc⟩ | refine ⟨fun _ => ?_, fun hc => absurd hc (by decide)⟩ | refine ⟨fun hc => absurd (by decide) hc, fun _ => ?_⟩); conv => whnf)
          try dsimp only
          have e := ltN (i := y) (n := pl d 1) (by omega) (by omega)
          rw [← f1] at e
          refine ⟨fun hc2 => ?_, fun hc2 => ?_⟩
          · have hc2 : ¬ y < pl d 1 := fun k => hc2 (e.mpr k)
            obtain rfl : y = pl d 1 := by omega
            conv => whnf
            repeat ((first | refine ⟨zG_of _, ?_⟩ | refine ⟨trivial, ?_⟩ | refine ⟨rfl, ?_⟩ | refine ⟨fun hc => absurd hc (by decide), fun _ => ?_⟩ | refine ⟨fun _ => ?_, fun hc => absurd (by decide) hc⟩ | refine ⟨fun _ => ?_, fun hc => absurd hc (by decide)⟩ | refine ⟨fun hc => absurd (by decide) hc, fun _ => ?_⟩); conv => whnf)
            try dsimp only
            rw [nI_add]
            refine ihx (fun x' h1 => ?_)
            rcases Nat.lt_or_ge x' x with h2 | h2
            · exact hox x' h2
            · obtain rfl : x' = x := by omega
              exact hoy
          · have hc2 := e.mp hc2
            have ihy := ihy hc2
            have loopz := up_ind (P := fun z => (∀ z', z' < z → gvN A c x y z' % q = ndN d x y z') → Jm 24 [some (.ref 6), some (.int (nI x)), some (.int (nI y)), some (.int (nI z))] [] (GC ++ r, wi, wl) 0 0) (pl d 2) (fun z hz ihz hoz => by
              refine hs 400 24 _ _ _ _ _ ?_
              conv => whnf
              repeat ((first | refine ⟨zG_of _, ?_⟩ | refine ⟨trivial, ?_⟩ | refine ⟨rfl, ?_⟩ | refine ⟨fun hc => absurd hc (by decide), fun _ => ?_⟩ | refine ⟨fun _ => ?_, fun hc => absurd (by decide) hc⟩ | refine ⟨fun _ => ?_, fun hc => absurd hc (by decide)⟩ | refine ⟨fun hc => absurd (by decide) hc, fun _ => ?_⟩); conv => whnf)
              try dsimp only
              have e := ltN (i := z) (n := pl d 2) (by omega) (by omega)
              rw [← f2] at e
              refine ⟨fun hc3 => ?_, fun hc3 => ?_⟩
              · have hc3 : ¬ z < pl d 2 := fun k => hc3 (e.mpr k)
                obtain rfl : z = pl d 2 := by omega
                conv => whnf
                repeat ((first | refine ⟨zG_of _, ?_⟩ | refine ⟨trivial, ?_⟩ | refine ⟨rfl, ?_⟩ | refine ⟨fun hc => absurd hc (by decide), fun _ => ?_⟩ | refine ⟨fun _ => ?_, fun hc => absurd (by decide) hc⟩ | refine ⟨fun _ => ?_, fun hc => absurd hc (by decide)⟩ | refine ⟨fun hc => absurd (by decide) hc, fun _ => ?_⟩); conv => whnf)
                try dsimp only
                rw [nI_add]
                refine ihy (fun y' h1 => ?_)
                rcases Nat.lt_or_ge y' y with h2 | h2
                · exact hoy y' h2
                · obtain rfl : y' = y := by omega
                  exact hoz
              · have hc3 := e.mp hc3
                have ihz := ihz hc3
                have e2 := need_S hS (show x < 9 by omega) (show y < 9 by omega) (show z < 9 by omega)
                have e3 := ndN_le d x y z
                have e4 : gvN A c x y z % q < q := Nat.mod_lt _ (by omega)
                conv => whnf
                repeat ((first | refine ⟨zG_of _, ?_⟩ | refine ⟨trivial, ?_⟩ | refine ⟨rfl, ?_⟩ | refine ⟨fun hc => absurd hc (by decide), fun _ => ?_⟩ | refine ⟨fun _ => ?_, fun hc => absurd (by decide) hc⟩ | refine ⟨fun _ => ?_, fun hc => absurd hc (by decide)⟩ | refine ⟨fun hc => absurd (by decide) hc, fun _ => ?_⟩); conv => whnf)
                try dsimp only
                refine ⟨Or.inl rfl, zG_of _, d, q, c, A, x, y, z, hS, rfl, by omega, rfl, by omega, rfl, by omega, ?_⟩
                conv => whnf
                repeat ((first | refine ⟨zG_of _, ?_⟩ | refine ⟨trivial, ?_⟩ | refine ⟨rfl, ?_⟩ | refine ⟨fun hc => absurd hc (by decide), fun _ => ?_⟩ | refine ⟨fun _ => ?_, fun hc => absurd (by decide) hc⟩ | refine ⟨fun _ => ?_, fun hc => absurd hc (by decide)⟩ | refine ⟨fun hc => absurd (by decide) hc, fun _ => ?_⟩); conv => whnf)
                try dsimp only
                rw [e2, nI_eq (by omega) (by omega)]
                refine ⟨fun hq => ?_, fun hq => ?_⟩
                · conv => whnf
                  repeat ((first | refine ⟨zG_of _, ?_⟩ | refine ⟨trivial, ?_⟩ | refine ⟨rfl, ?_⟩ | refine ⟨fun hc => absurd hc (by decide), fun _ => ?_⟩ | refine ⟨fun _ => ?_, fun hc => absurd (by decide) hc⟩ | refine ⟨fun _ => ?_, fun hc => absurd hc (by decide)⟩ | refine ⟨fun hc => absurd (by decide) hc, fun _ => ?_⟩); conv => whnf)
                  try dsimp only
                  rw [nI_add]
                  refine ihz (fun z' h1 => ?_)
                  rcases Nat.lt_or_ge z' z with h2 | h2
                  · exact hoz z' h2
                  · obtain rfl : z' = z := by omega
                    exact hq
                · rw [bI_f (by rw [rtB, decide_eq_true_iff]; exact fun k => hq (k x hc y hc2 z hc3))] at h
                  exact ⟨Or.inl rfl, h⟩)
            conv => whnf
            repeat ((first | refine ⟨zG_of _, ?_⟩ | refine ⟨trivial, ?_⟩ | refine ⟨rfl, ?_⟩ | refine ⟨fun hc => absurd hc (by decide), fun _ => ?_⟩ | refine ⟨fun _ => ?_, fun hc => absurd (by decide) hc⟩ | refine ⟨fun _ => ?_, fun hc => absurd hc (by decide)⟩ | refine ⟨fun hc => absurd (by decide) hc, fun _ => ?_⟩); conv => whnf)
            try dsimp only
            exact loopz 0 (Nat.zero_le _) (fun j hj => absurd hj (Nat.not_lt_zero j)))
        conv => whnf
        repeat ((first | refine ⟨zG_of _, ?_⟩ | refine ⟨trivial, ?_⟩ | refine ⟨rfl, ?_⟩ | refine ⟨fun hc => absurd hc (by decide), fun _ => ?_⟩ | refine ⟨fun _ => ?_, fun hc => absurd (by decide) hc⟩ | refine ⟨fun _ => ?_, fun hc => absurd hc (by decide)⟩ | refine ⟨fun hc => absurd (by decide) hc, fun _ => ?_⟩); conv => whnf)
        try dsimp only
        exact loopy 0 (Nat.zero_le _) (fun j hj => absurd hj (Nat.not_lt_zero j)))
    exact hs 400 0 _ _ _ _ _ (loop 0 (Nat.zero_le _) (fun j hj => absurd hj (Nat.not_lt_zero j)))

