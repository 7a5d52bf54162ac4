/-! the reference: partners of products; the scheme mirrored -/
theorem tk_ct (g : Nat → Nat → Bool) (cb i : Nat) : fb_ct (tkB g cb (i + 1)) cb = fb_ct (tkB g cb i) cb + (if fi (fun j => !tkB g cb i j && g i j) cb < cb then 1 else 0) := by
  by_cases h : fi (fun j => !tkB g cb i j && g i j) cb < cb
  · have k := (fi_lt h).1
    rw [if_pos h]
    have e : fb_ct (tkB g cb (i + 1)) cb = fb_ct (fun k => if k = fi (fun j => !tkB g cb i j && g i j) cb then true else tkB g cb i k) cb := fb_ct_cong (fun j _ => by
      show (tkB g cb i j || j == fi (fun j => !tkB g cb i j && g i j) cb) = _
      by_cases z : j = fi (fun j => !tkB g cb i j && g i j) cb
      · rw [if_pos z]
        simp [z]
      · rw [if_neg z]
        simp [z])
    have u := fb_ct_upd (tkB g cb i) true h
    rw [e]
    simp only [Bool.and_eq_true, Bool.not_eq_true'] at k
    rw [k.1] at u
    simpa using u
  · rw [if_neg h]
    exact fb_ct_cong (fun j hj => by
      show (tkB g cb i j || j == fi (fun j => !tkB g cb i j && g i j) cb) = _
      have := fi_le (fun j => !tkB g cb i j && g i j) cb
      have z : (j == fi (fun j => !tkB g cb i j && g i j) cb) = false := by simp; omega
      rw [z, Bool.or_false])
theorem tk_le (g : Nat → Nat → Bool) (cb : Nat) : ∀ i, fb_ct (tkB g cb i) cb ≤ i
  | 0 => by
    rw [show fb_ct (tkB g cb 0) cb = 0 from fb_ct_zero.mpr (fun _ _ => rfl)]
    exact Nat.le_refl 0
  | i + 1 => by
    have := tk_le g cb i
    rw [tk_ct]
    split <;> omega
theorem nar_b0 : vp_nar .boolean (nI 0) = nI 0 := by decide
theorem nar_b1 : vp_nar .boolean (nI 1) = nI 1 := by decide
def sp_X12_without : zSp := fun av w K => match av with
  | [.ref o, .ref o1, .int a, .ref o2, .int b] => o = 45 ∧ zH w.1 ∧ o1 = 47 ∧ (o2 = 57 ∨ o2 = 49) ∧ ∃ d q c A c2 B, MS w.2.1 d q c A ∧ a = nI c ∧ b = nI c2 ∧ c2 ≤ 40 ∧ RW w.2.1 o2 (27 * c2) B ∧ (∀ k, k < 3 * c2 → ∀ p, p < 9 → B k p < q) ∧ ∀ wi' : Nat → Nat → Int32, (∀ y, y ≠ 58 → wi' y = w.2.1 y) → K (some (.int (nI (c - fb_ct (tkB (fun i k => alB q A i B k) c2 c) c2)))) (w.1, wi', w.2.2)
  | _ => False
def rm_X12_without : Room := { frames := 3, cells := 0, slots := 0, locals := 75 }
def M_X12_without : zM := (k_X12_without, f_X12, [(273, 4, 10, 5, 0, 0, sp_X12_areLike)], ([], [], []), [], [(3, [true, true, true, true, true, true, false, false]), (30, [true, true, true, true, true, true, true, false]), (39, [true, true, true, true, true, true, true, true])], 1, false, (false, 0, fun _ => 0), (0, 0))
theorem ca_X12_without_0 (l : Launch) : z_cok l RX12 (headSpec (.code yX12_without cX12_without 8 (some .int) :: zTT) rm_X12_without).room (273, 4, 10, 5, 0, 0, sp_X12_areLike) := z_ca4 (c_X12_areLike l) mb_X12_areLike ⟨_, rfl, rfl⟩ wt_1499 wt_1501 wt_69 (by decide)
theorem O_X12_without (l : Launch) : z_OK l RX12 cX12_without (headSpec (.code yX12_without cX12_without 8 (some .int) :: zTT) rm_X12_without).room M_X12_without := ⟨ok_X12_without, fo_X12, List.forall_mem_cons.mpr ⟨ca_X12_without_0 l, fun _ h => absurd h List.not_mem_nil⟩, fun _ h => absurd h List.not_mem_nil, fun _ h => absurd h List.not_mem_nil, fun _ h => absurd h List.not_mem_nil, fun _ h => absurd h List.not_mem_nil, rfl, rfl⟩
theorem c_X12_without (l : Launch) : z_CS l yX12_without cX12_without 8 (some .int) rm_X12_without sp_X12_without := by
  refine z_meth (by decide) (Or.inr (Or.inl ⟨rfl, rfl⟩)) (fun h => by cases h) rfl (O_X12_without l) ?_
  intro av w K h
  match av, h with
  | [.ref o, .ref o1, .int a, .ref o2, .int b], h =>
    obtain ⟨rfl, ⟨r, hG⟩, rfl, ho, d, q, c, A, c2, B, hS, rfl, rfl, hc2, hB, hb, h⟩ := h
    obtain ⟨G, wi, wl⟩ := w
    subst hG
    try dsimp only at h hS hB
    have h40 := ms_40 hS
    have q23 := ms_q23 hS
    have hg : ∀ i k, alB q A i B k = (fun i k => alB q A i B k) i k := fun _ _ => rfl
    generalize (fun i k => alB q A i B k) = g at h hg
    have tl := tk_le g c2
    rcases ho with rfl | rfl
    · refine ⟨Nat.le_of_ble_eq_true rfl, fun Jm hs => ?_⟩
      have loop := up_ind (P := fun i => ∀ wi' : Nat → Nat → Int32, (∀ y, y ≠ 58 → wi' y = wi y) → (∀ k, k < c2 → wi' 58 k = bI (tkB g c2 i k = true)) → Jm 30 [some (.ref 45), some (.ref 47), some (.int (nI c)), some (.ref 57), some (.int (nI c2)), some (.int (nI (i - fb_ct (tkB g c2 i) c2))), some (.int (nI i)), none] [] (GC ++ (GM ++ r), wi', wl) 0 0) c (fun i hi ih => by
        intro wi' hF hT
        refine hs 400 30 _ _ _ _ _ ?_
        conv => whnf
        repeat ((first | refine ⟨zH_of _, ?_⟩ | refine ⟨trivial, ?_⟩ | refine ⟨rfl, ?_⟩ | refine ⟨fun hc => absurd hc (by decide), fun _ => ?_⟩ | refine ⟨fun _ => ?_, fun hc => absurd (by decide) hc⟩ | refine ⟨fun _ => ?_, fun hc => absurd hc (by decide)⟩ | refine ⟨fun hc => absurd (by decide) hc, fun _ => ?_⟩); conv => whnf)
        try dsimp only
        rw [ltN (by omega) (by omega)]
        refine ⟨fun hc => ?_, fun hc => ?_⟩
        · obtain rfl : i = c := by omega
          conv => whnf
          repeat ((first | refine ⟨zH_of _, ?_⟩ | refine ⟨trivial, ?_⟩ | refine ⟨rfl, ?_⟩ | refine ⟨fun hc => absurd hc (by decide), fun _ => ?_⟩ | refine ⟨fun _ => ?_, fun hc => absurd (by decide) hc⟩ | refine ⟨fun _ => ?_, fun hc => absurd hc (by decide)⟩ | refine ⟨fun hc => absurd (by decide) hc, fun _ => ?_⟩); conv => whnf)
          try dsimp only
          exact h wi' hF
        · have ih := ih hc
          have ti := tl i
          have tn := tk_ct g c2 i
          have hS' : MS wi' d q c A := ms_fr hS (hF 46 (by decide)) (by rw [hF 45 (by decide)]) (by rw [hF 45 (by decide)]) (hF 47 (by decide))
          have hB' : RW wi' 57 (27 * c2) B := fun j hj => by rw [hF 57 (by decide)]; exact hB j hj
          have inner := up_ind (P := fun k => (∀ j, j < k → ¬ (!tkB g c2 i j && g i j) = true) → Jm 39 [some (.ref 45), some (.ref 47), some (.int (nI c)), some (.ref 57), some (.int (nI c2)), some (.int (nI (i - fb_ct (tkB g c2 i) c2))), some (.int (nI i)), some (.int (nI k))] [] (GC ++ (GM ++ r), wi', wl) 0 0) c2 (fun k hk ihk hno => by
            refine hs 400 39 _ _ _ _ _ ?_
            conv => whnf
            repeat ((first | refine ⟨zH_of _, ?_⟩ | refine ⟨trivial, ?_⟩ | refine ⟨rfl, ?_⟩ | refine ⟨fun hc => absurd hc (by decide), fun _ => ?_⟩ | refine ⟨fun _ => ?_, fun hc => absurd (by decide) hc⟩ | refine ⟨fun _ => ?_, fun hc => absurd hc (by decide)⟩ | refine ⟨fun hc => absurd (by decide) hc, fun _ => ?_⟩); conv => whnf)
            try dsimp only
            rw [ltN (by omega) (by omega)]
            refine ⟨fun hc3 => ?_, fun hc3 => ?_⟩
            · obtain hkn : k = c2 := by omega
              rw [hkn] at hno
              have fz := fi_none hno
              rw [fz, if_neg (Nat.lt_irrefl c2)] at tn
              rw [tn, show i + 1 - (fb_ct (tkB g c2 i) c2 + 0) = i - fb_ct (tkB g c2 i) c2 + 1 by omega] at ih
              have ih := ih wi' hF (fun m hm => by
                rw [hT m hm]
                refine bI_cg ?_
                show _ ↔ (tkB g c2 i m || m == fi (fun j => !tkB g c2 i j && g i j) c2) = true
                rw [fz, show (m == c2) = false by simp; omega, Bool.or_false])
              conv => whnf
              repeat ((first | refine ⟨zH_of _, ?_⟩ | refine ⟨trivial, ?_⟩ | refine ⟨rfl, ?_⟩ | refine ⟨fun hc => absurd hc (by decide), fun _ => ?_⟩ | refine ⟨fun _ => ?_, fun hc => absurd (by decide) hc⟩ | refine ⟨fun _ => ?_, fun hc => absurd hc (by decide)⟩ | refine ⟨fun hc => absurd (by decide) hc, fun _ => ?_⟩); conv => whnf)
              try dsimp only
              rw [ltN (by omega) (by omega)]
              refine ⟨fun _ => ?_, fun z => absurd z (by omega)⟩
              conv => whnf
              repeat ((first | refine ⟨zH_of _, ?_⟩ | refine ⟨trivial, ?_⟩ | refine ⟨rfl, ?_⟩ | refine ⟨fun hc => absurd hc (by decide), fun _ => ?_⟩ | refine ⟨fun _ => ?_, fun hc => absurd (by decide) hc⟩ | refine ⟨fun _ => ?_, fun hc => absurd hc (by decide)⟩ | refine ⟨fun hc => absurd (by decide) hc, fun _ => ?_⟩); conv => whnf)
              try dsimp only
              rw [nI_add, nI_add]
              exact ih
            · have ihk := ihk hc3
              have next : ¬ (!tkB g c2 i k && g i k) = true → Jm 39 [some (.ref 45), some (.ref 47), some (.int (nI c)), some (.ref 57), some (.int (nI c2)), some (.int (nI (i - fb_ct (tkB g c2 i) c2))), some (.int (nI i)), some (.int (nI (k + 1)))] [] (GC ++ (GM ++ r), wi', wl) 0 0 := fun q => ihk (fun j hj => by
                rcases Nat.lt_or_ge j k with h1 | h1
                · exact hno j h1
                · obtain rfl : j = k := by omega
                  exact q)
              conv => whnf
              repeat ((first | refine ⟨zH_of _, ?_⟩ | refine ⟨trivial, ?_⟩ | refine ⟨rfl, ?_⟩ | refine ⟨fun hc => absurd hc (by decide), fun _ => ?_⟩ | refine ⟨fun _ => ?_, fun hc => absurd (by decide) hc⟩ | refine ⟨fun _ => ?_, fun hc => absurd hc (by decide)⟩ | refine ⟨fun hc => absurd (by decide) hc, fun _ => ?_⟩); conv => whnf)
              try dsimp only
              refine ⟨vp_in_nI (show k < 40 by omega) (by decide), ?_⟩
              conv => whnf
              repeat ((first | refine ⟨zH_of _, ?_⟩ | refine ⟨trivial, ?_⟩ | refine ⟨rfl, ?_⟩ | refine ⟨fun hc => absurd hc (by decide), fun _ => ?_⟩ | refine ⟨fun _ => ?_, fun hc => absurd (by decide) hc⟩ | refine ⟨fun _ => ?_, fun hc => absurd hc (by decide)⟩ | refine ⟨fun hc => absurd (by decide) hc, fun _ => ?_⟩); conv => whnf)
              try dsimp only
              rw [nI_clamp (n := k) (by omega), hT k hc3, bI_0, Classical.not_not]
              refine ⟨fun hz => ?_, fun hz => ?_⟩
              · conv => whnf
                repeat ((first | refine ⟨zH_of _, ?_⟩ | refine ⟨trivial, ?_⟩ | refine ⟨rfl, ?_⟩ | refine ⟨fun hc => absurd hc (by decide), fun _ => ?_⟩ | refine ⟨fun _ => ?_, fun hc => absurd (by decide) hc⟩ | refine ⟨fun _ => ?_, fun hc => absurd hc (by decide)⟩ | refine ⟨fun hc => absurd (by decide) hc, fun _ => ?_⟩); conv => whnf)
                try dsimp only
                rw [nI_add]
                exact next (by simp [hz])
              · conv => whnf
                repeat ((first | refine ⟨zH_of _, ?_⟩ | refine ⟨trivial, ?_⟩ | refine ⟨rfl, ?_⟩ | refine ⟨fun hc => absurd hc (by decide), fun _ => ?_⟩ | refine ⟨fun _ => ?_, fun hc => absurd (by decide) hc⟩ | refine ⟨fun _ => ?_, fun hc => absurd hc (by decide)⟩ | refine ⟨fun hc => absurd (by decide) hc, fun _ => ?_⟩); conv => whnf)
                try dsimp only
                refine ⟨by simp, q, i, k, A, B, ms_q hS', q23, fun t ht => ⟨rw_ra (ms_f hS') hc ht, rw_ra hB' hc3 ht, ms_A hS _ (by omega), hb _ (by omega)⟩, rfl, by omega, rfl, by omega, ?_⟩
                conv => whnf
                repeat ((first | refine ⟨zH_of _, ?_⟩ | refine ⟨trivial, ?_⟩ | refine ⟨rfl, ?_⟩ | refine ⟨fun hc => absurd hc (by decide), fun _ => ?_⟩ | refine ⟨fun _ => ?_, fun hc => absurd (by decide) hc⟩ | refine ⟨fun _ => ?_, fun hc => absurd hc (by decide)⟩ | refine ⟨fun hc => absurd (by decide) hc, fun _ => ?_⟩); conv => whnf)
                try dsimp only
                rw [bI_0, hg, Classical.not_not]
                refine ⟨fun hz2 => ?_, fun hz2 => ?_⟩
                · conv => whnf
                  repeat ((first | refine ⟨zH_of _, ?_⟩ | refine ⟨trivial, ?_⟩ | refine ⟨rfl, ?_⟩ | refine ⟨fun hc => absurd hc (by decide), fun _ => ?_⟩ | refine ⟨fun _ => ?_, fun hc => absurd (by decide) hc⟩ | refine ⟨fun _ => ?_, fun hc => absurd hc (by decide)⟩ | refine ⟨fun hc => absurd (by decide) hc, fun _ => ?_⟩); conv => whnf)
                  try dsimp only
                  rw [ltN (by omega) (by omega)]
                  refine ⟨fun z => absurd hc3 z, fun _ => ?_⟩
                  have fa : fi (fun j => !tkB g c2 i j && g i j) c2 = k := fi_at hc3 (by simp [hz, hz2]) hno
                  rw [fa, if_pos hc3] at tn
                  rw [tn, show i + 1 - (fb_ct (tkB g c2 i) c2 + 1) = i - fb_ct (tkB g c2 i) c2 by omega] at ih
                  conv => whnf
                  repeat ((first | refine ⟨zH_of _, ?_⟩ | refine ⟨trivial, ?_⟩ | refine ⟨rfl, ?_⟩ | refine ⟨fun hc => absurd hc (by decide), fun _ => ?_⟩ | refine ⟨fun _ => ?_, fun hc => absurd (by decide) hc⟩ | refine ⟨fun _ => ?_, fun hc => absurd hc (by decide)⟩ | refine ⟨fun hc => absurd (by decide) hc, fun _ => ?_⟩); conv => whnf)
                  try dsimp only
                  refine ⟨vp_in_nI (show k < 40 by omega) (by decide), ?_⟩
                  conv => whnf
                  repeat ((first | refine ⟨zH_of _, ?_⟩ | refine ⟨trivial, ?_⟩ | refine ⟨rfl, ?_⟩ | refine ⟨fun hc => absurd hc (by decide), fun _ => ?_⟩ | refine ⟨fun _ => ?_, fun hc => absurd (by decide) hc⟩ | refine ⟨fun _ => ?_, fun hc => absurd hc (by decide)⟩ | refine ⟨fun hc => absurd (by decide) hc, fun _ => ?_⟩); conv => whnf)
                  try dsimp only
                  rw [nI_clamp (n := k) (by omega), nar_b1, nI_add]
                  refine ih _ (fun y hy => by rw [z_up_ne hy, hF y hy]) (fun m hm => ?_)
                  have es : tkB g c2 (i + 1) m = (tkB g c2 i m || m == k) := by
                    show (tkB g c2 i m || m == fi (fun j => !tkB g c2 i j && g i j) c2) = _
                    rw [fa]
                  rw [es]
                  by_cases e : m = k
                  · rw [e, z_up_eq, bI_t (by simp)]
                  · rw [z_up_nei e, hT m hm]
                    exact bI_cg (by simp [e])
                · conv => whnf
                  repeat ((first | refine ⟨zH_of _, ?_⟩ | refine ⟨trivial, ?_⟩ | refine ⟨rfl, ?_⟩ | refine ⟨fun hc => absurd hc (by decide), fun _ => ?_⟩ | refine ⟨fun _ => ?_, fun hc => absurd (by decide) hc⟩ | refine ⟨fun _ => ?_, fun hc => absurd hc (by decide)⟩ | refine ⟨fun hc => absurd (by decide) hc, fun _ => ?_⟩); conv => whnf)
                  try dsimp only
                  rw [nI_add]
                  exact next (by simp [hz2]))
          conv => whnf
          repeat ((first | refine ⟨zH_of _, ?_⟩ | refine ⟨trivial, ?_⟩ | refine ⟨rfl, ?_⟩ | refine ⟨fun hc => absurd hc (by decide), fun _ => ?_⟩ | refine ⟨fun _ => ?_, fun hc => absurd (by decide) hc⟩ | refine ⟨fun _ => ?_, fun hc => absurd hc (by decide)⟩ | refine ⟨fun hc => absurd (by decide) hc, fun _ => ?_⟩); conv => whnf)
          try dsimp only
          exact inner 0 (Nat.zero_le _) (fun j hj => absurd hj (Nat.not_lt_zero j)))
      have clr := up_ind (P := fun k => ∀ wi' : Nat → Nat → Int32, (∀ y, y ≠ 58 → wi' y = wi y) → (∀ j, j < k → wi' 58 j = nI 0) → Jm 3 [some (.ref 45), some (.ref 47), some (.int (nI c)), some (.ref 57), some (.int (nI c2)), some (.int (nI k)), none, none] [] (GC ++ (GM ++ r), wi', wl) 0 0) 40 (fun k hk ih => by
        intro wi' hF hT
        refine hs 400 3 _ _ _ _ _ ?_
        conv => whnf
        repeat ((first | refine ⟨zH_of _, ?_⟩ | refine ⟨trivial, ?_⟩ | refine ⟨rfl, ?_⟩ | refine ⟨fun hc => absurd hc (by decide), fun _ => ?_⟩ | refine ⟨fun _ => ?_, fun hc => absurd (by decide) hc⟩ | refine ⟨fun _ => ?_, fun hc => absurd hc (by decide)⟩ | refine ⟨fun hc => absurd (by decide) hc, fun _ => ?_⟩); conv => whnf)
        try dsimp only
        rw [ltN (by omega) (by omega)]
        refine ⟨fun hc => ?_, fun hc => ?_⟩
        · have l0 := loop 0 (Nat.zero_le _) wi' hF (fun j hj => by
            rw [hT j (by omega), bI_f (show ¬ tkB g c2 0 j = true by show ¬ false = true; decide)])
          rw [Nat.zero_sub] at l0
          conv => whnf
          repeat ((first | refine ⟨zH_of _, ?_⟩ | refine ⟨trivial, ?_⟩ | refine ⟨rfl, ?_⟩ | refine ⟨fun hc => absurd hc (by decide), fun _ => ?_⟩ | refine ⟨fun _ => ?_, fun hc => absurd (by decide) hc⟩ | refine ⟨fun _ => ?_, fun hc => absurd hc (by decide)⟩ | refine ⟨fun hc => absurd (by decide) hc, fun _ => ?_⟩); conv => whnf)
          try dsimp only
          exact l0
        · have ih := ih hc
          conv => whnf
          repeat ((first | refine ⟨zH_of _, ?_⟩ | refine ⟨trivial, ?_⟩ | refine ⟨rfl, ?_⟩ | refine ⟨fun hc => absurd hc (by decide), fun _ => ?_⟩ | refine ⟨fun _ => ?_, fun hc => absurd (by decide) hc⟩ | refine ⟨fun _ => ?_, fun hc => absurd hc (by decide)⟩ | refine ⟨fun hc => absurd (by decide) hc, fun _ => ?_⟩); conv => whnf)
          try dsimp only
          refine ⟨vp_in_nI (show k < 40 by omega) (by decide), ?_⟩
          conv => whnf
          repeat ((first | refine ⟨zH_of _, ?_⟩ | refine ⟨trivial, ?_⟩ | refine ⟨rfl, ?_⟩ | refine ⟨fun hc => absurd hc (by decide), fun _ => ?_⟩ | refine ⟨fun _ => ?_, fun hc => absurd (by decide) hc⟩ | refine ⟨fun _ => ?_, fun hc => absurd hc (by decide)⟩ | refine ⟨fun hc => absurd (by decide) hc, fun _ => ?_⟩); conv => whnf)
          try dsimp only
          rw [nI_clamp (n := k) (by omega), nar_b0, nI_add]
          refine ih _ (fun y hy => by rw [z_up_ne hy, hF y hy]) (fun j hj => ?_)
          by_cases e : j = k
          · rw [e, z_up_eq]
          · rw [z_up_nei e]
            exact hT j (by omega))
      exact hs 400 0 _ _ _ _ _ (clr 0 (Nat.zero_le _) wi (fun _ _ => rfl) (fun j hj => absurd hj (Nat.not_lt_zero j)))
    · refine ⟨Nat.le_of_ble_eq_true rfl, fun Jm hs => ?_⟩
      have loop := up_ind (P := fun i => ∀ wi' : Nat → Nat → Int32, (∀ y, y ≠ 58 → wi' y = wi y) → (∀ k, k < c2 → wi' 58 k = bI (tkB g c2 i k = true)) → Jm 30 [some (.ref 45), some (.ref 47), some (.int (nI c)), some (.ref 49), some (.int (nI c2)), some (.int (nI (i - fb_ct (tkB g c2 i) c2))), some (.int (nI i)), none] [] (GC ++ (GM ++ r), wi', wl) 0 0) c (fun i hi ih => by
        intro wi' hF hT
        refine hs 400 30 _ _ _ _ _ ?_
        conv => whnf
        repeat ((first | refine ⟨zH_of _, ?_⟩ | refine ⟨trivial, ?_⟩ | refine ⟨rfl, ?_⟩ | refine ⟨fun hc => absurd hc (by decide), fun _ => ?_⟩ | refine ⟨fun _ => ?_, fun hc => absurd (by decide) hc⟩ | refine ⟨fun _ => ?_, fun hc => absurd hc (by decide)⟩ | refine ⟨fun hc => absurd (by decide) hc, fun _ => ?_⟩); conv => whnf)
        try dsimp only
        rw [ltN (by omega) (by omega)]
        refine ⟨fun hc => ?_, fun hc => ?_⟩
        · obtain rfl : i = c := by omega
          conv => whnf
          repeat ((first | refine ⟨zH_of _, ?_⟩ | refine ⟨trivial, ?_⟩ | refine ⟨rfl, ?_⟩ | refine ⟨fun hc => absurd hc (by decide), fun _ => ?_⟩ | refine ⟨fun _ => ?_, fun hc => absurd (by decide) hc⟩ | refine ⟨fun _ => ?_, fun hc => absurd hc (by decide)⟩ | refine ⟨fun hc => absurd (by decide) hc, fun _ => ?_⟩); conv => whnf)
          try dsimp only
          exact h wi' hF
        · have ih := ih hc
          have ti := tl i
          have tn := tk_ct g c2 i
          have hS' : MS wi' d q c A := ms_fr hS (hF 46 (by decide)) (by rw [hF 45 (by decide)]) (by rw [hF 45 (by decide)]) (hF 47 (by decide))
          have hB' : RW wi' 49 (27 * c2) B := fun j hj => by rw [hF 49 (by decide)]; exact hB j hj
          have inner := up_ind (P := fun k => (∀ j, j < k → ¬ (!tkB g c2 i j && g i j) = true) → Jm 39 [some (.ref 45), some (.ref 47), some (.int (nI c)), some (.ref 49), some (.int (nI c2)), some (.int (nI (i - fb_ct (tkB g c2 i) c2))), some (.int (nI i)), some (.int (nI k))] [] (GC ++ (GM ++ r), wi', wl) 0 0) c2 (fun k hk ihk hno => by
            refine hs 400 39 _ _ _ _ _ ?_
            conv => whnf
            repeat ((first | refine ⟨zH_of _, ?_⟩ | refine ⟨trivial, ?_⟩ | refine ⟨rfl, ?_⟩ | refine ⟨fun hc => absurd hc (by decide), fun _ => ?_⟩ | refine ⟨fun _ => ?_, fun hc => absurd (by decide) hc⟩ | refine ⟨fun _ => ?_, fun hc => absurd hc (by decide)⟩ | refine ⟨fun hc => absurd (by decide) hc, fun _ => ?_⟩); conv => whnf)
            try dsimp only
            rw [ltN (by omega) (by omega)]
            refine ⟨fun hc3 => ?_, fun hc3 => ?_⟩
            · obtain hkn : k = c2 := by omega
              rw [hkn] at hno
              have fz := fi_none hno
              rw [fz, if_neg (Nat.lt_irrefl c2)] at tn
              rw [tn, show i + 1 - (fb_ct (tkB g c2 i) c2 + 0) = i - fb_ct (tkB g c2 i) c2 + 1 by omega] at ih
              have ih := ih wi' hF (fun m hm => by
                rw [hT m hm]
                refine bI_cg ?_
                show _ ↔ (tkB g c2 i m || m == fi (fun j => !tkB g c2 i j && g i j) c2) = true
                rw [fz, show (m == c2) = false by simp; omega, Bool.or_false])
              conv => whnf
              repeat ((first | refine ⟨zH_of _, ?_⟩ | refine ⟨trivial, ?_⟩ | refine ⟨rfl, ?_⟩ | refine ⟨fun hc => absurd hc (by decide), fun _ => ?_⟩ | refine ⟨fun _ => ?_, fun hc => absurd (by decide) hc⟩ | refine ⟨fun _ => ?_, fun hc => absurd hc (by decide)⟩ | refine ⟨fun hc => absurd (by decide) hc, fun _ => ?_⟩); conv => whnf)
              try dsimp only
              rw [ltN (by omega) (by omega)]
              refine ⟨fun _ => ?_, fun z => absurd z (by omega)⟩
              conv => whnf
              repeat ((first | refine ⟨zH_of _, ?_⟩ | refine ⟨trivial, ?_⟩ | refine ⟨rfl, ?_⟩ | refine ⟨fun hc => absurd hc (by decide), fun _ => ?_⟩ | refine ⟨fun _ => ?_, fun hc => absurd (by decide) hc⟩ | refine ⟨fun _ => ?_, fun hc => absurd hc (by decide)⟩ | refine ⟨fun hc => absurd (by decide) hc, fun _ => ?_⟩); conv => whnf)
              try dsimp only
              rw [nI_add, nI_add]
              exact ih
            · have ihk := ihk hc3
              have next : ¬ (!tkB g c2 i k && g i k) = true → Jm 39 [some (.ref 45), some (.ref 47), some (.int (nI c)), some (.ref 49), some (.int (nI c2)), some (.int (nI (i - fb_ct (tkB g c2 i) c2))), some (.int (nI i)), some (.int (nI (k + 1)))] [] (GC ++ (GM ++ r), wi', wl) 0 0 := fun q => ihk (fun j hj => by
                rcases Nat.lt_or_ge j k with h1 | h1
                · exact hno j h1
                · obtain rfl : j = k := by omega
                  exact q)
              conv => whnf
              repeat ((first | refine ⟨zH_of _, ?_⟩ | refine ⟨trivial, ?_⟩ | refine ⟨rfl, ?_⟩ | refine ⟨fun hc => absurd hc (by decide), fun _ => ?_⟩ | refine ⟨fun _ => ?_, fun hc => absurd (by decide) hc⟩ | refine ⟨fun _ => ?_, fun hc => absurd hc (by decide)⟩ | refine ⟨fun hc => absurd (by decide) hc, fun _ => ?_⟩); conv => whnf)
              try dsimp only
              refine ⟨vp_in_nI (show k < 40 by omega) (by decide), ?_⟩
              conv => whnf
              repeat ((first | refine ⟨zH_of _, ?_⟩ | refine ⟨trivial, ?_⟩ | refine ⟨rfl, ?_⟩ | refine ⟨fun hc => absurd hc (by decide), fun _ => ?_⟩ | refine ⟨fun _ => ?_, fun hc => absurd (by decide) hc⟩ | refine ⟨fun _ => ?_, fun hc => absurd hc (by decide)⟩ | refine ⟨fun hc => absurd (by decide) hc, fun _ => ?_⟩); conv => whnf)
              try dsimp only
              rw [nI_clamp (n := k) (by omega), hT k hc3, bI_0, Classical.not_not]
              refine ⟨fun hz => ?_, fun hz => ?_⟩
              · conv => whnf
                repeat ((first | refine ⟨zH_of _, ?_⟩ | refine ⟨trivial, ?_⟩ | refine ⟨rfl, ?_⟩ | refine ⟨fun hc => absurd hc (by decide), fun _ => ?_⟩ | refine ⟨fun _ => ?_, fun hc => absurd (by decide) hc⟩ | refine ⟨fun _ => ?_, fun hc => absurd hc (by decide)⟩ | refine ⟨fun hc => absurd (by decide) hc, fun _ => ?_⟩); conv => whnf)
                try dsimp only
                rw [nI_add]
                exact next (by simp [hz])
              · conv => whnf
                repeat ((first | refine ⟨zH_of _, ?_⟩ | refine ⟨trivial, ?_⟩ | refine ⟨rfl, ?_⟩ | refine ⟨fun hc => absurd hc (by decide), fun _ => ?_⟩ | refine ⟨fun _ => ?_, fun hc => absurd (by decide) hc⟩ | refine ⟨fun _ => ?_, fun hc => absurd hc (by decide)⟩ | refine ⟨fun hc => absurd (by decide) hc, fun _ => ?_⟩); conv => whnf)
                try dsimp only
                refine ⟨by simp, q, i, k, A, B, ms_q hS', q23, fun t ht => ⟨rw_ra (ms_f hS') hc ht, rw_ra hB' hc3 ht, ms_A hS _ (by omega), hb _ (by omega)⟩, rfl, by omega, rfl, by omega, ?_⟩
                conv => whnf
                repeat ((first | refine ⟨zH_of _, ?_⟩ | refine ⟨trivial, ?_⟩ | refine ⟨rfl, ?_⟩ | refine ⟨fun hc => absurd hc (by decide), fun _ => ?_⟩ | refine ⟨fun _ => ?_, fun hc => absurd (by decide) hc⟩ | refine ⟨fun _ => ?_, fun hc => absurd hc (by decide)⟩ | refine ⟨fun hc => absurd (by decide) hc, fun _ => ?_⟩); conv => whnf)
                try dsimp only
                rw [bI_0, hg, Classical.not_not]
                refine ⟨fun hz2 => ?_, fun hz2 => ?_⟩
                · conv => whnf
                  repeat ((first | refine ⟨zH_of _, ?_⟩ | refine ⟨trivial, ?_⟩ | refine ⟨rfl, ?_⟩ | refine ⟨fun hc => absurd hc (by decide), fun _ => ?_⟩ | refine ⟨fun _ => ?_, fun hc => absurd (by decide) hc⟩ | refine ⟨fun _ => ?_, fun hc => absurd hc (by decide)⟩ | refine ⟨fun hc => absurd (by decide) hc, fun _ => ?_⟩); conv => whnf)
                  try dsimp only
                  rw [ltN (by omega) (by omega)]
                  refine ⟨fun z => absurd hc3 z, fun _ => ?_⟩
                  have fa : fi (fun j => !tkB g c2 i j && g i j) c2 = k := fi_at hc3 (by simp [hz, hz2]) hno
                  rw [fa, if_pos hc3] at tn
                  rw [tn, show i + 1 - (fb_ct (tkB g c2 i) c2 + 1) = i - fb_ct (tkB g c2 i) c2 by omega] at ih
                  conv => whnf
                  repeat ((first | refine ⟨zH_of _, ?_⟩ | refine ⟨trivial, ?_⟩ | refine ⟨rfl, ?_⟩ | refine ⟨fun hc => absurd hc (by decide), fun _ => ?_⟩ | refine ⟨fun _ => ?_, fun hc => absurd (by decide) hc⟩ | refine ⟨fun _ => ?_, fun hc => absurd hc (by decide)⟩ | refine ⟨fun hc => absurd (by decide) hc, fun _ => ?_⟩); conv => whnf)
                  try dsimp only
                  refine ⟨vp_in_nI (show k < 40 by omega) (by decide), ?_⟩
                  conv => whnf
                  repeat ((first | refine ⟨zH_of _, ?_⟩ | refine ⟨trivial, ?_⟩ | refine ⟨rfl, ?_⟩ | refine ⟨fun hc => absurd hc (by decide), fun _ => ?_⟩ | refine ⟨fun _ => ?_, fun hc => absurd (by decide) hc⟩ | refine ⟨fun _ => ?_, fun hc => absurd hc (by decide)⟩ | refine ⟨fun hc => absurd (by decide) hc, fun _ => ?_⟩); conv => whnf)
                  try dsimp only
                  rw [nI_clamp (n := k) (by omega), nar_b1, nI_add]
                  refine ih _ (fun y hy => by rw [z_up_ne hy, hF y hy]) (fun m hm => ?_)
                  have es : tkB g c2 (i + 1) m = (tkB g c2 i m || m == k) := by
                    show (tkB g c2 i m || m == fi (fun j => !tkB g c2 i j && g i j) c2) = _
                    rw [fa]
                  rw [es]
                  by_cases e : m = k
                  · rw [e, z_up_eq, bI_t (by simp)]
                  · rw [z_up_nei e, hT m hm]
                    exact bI_cg (by simp [e])
                · conv => whnf
                  repeat ((first | refine ⟨zH_of _, ?_⟩ | refine ⟨trivial, ?_⟩ | refine ⟨rfl, ?_⟩ | refine ⟨fun hc => absurd hc (by decide), fun _ => ?_⟩ | refine ⟨fun _ => ?_, fun hc => absurd (by decide) hc⟩ | refine ⟨fun _ => ?_, fun hc => absurd hc (by decide)⟩ | refine ⟨fun hc => absurd (by decide) hc, fun _ => ?_⟩); conv => whnf)
                  try dsimp only
                  rw [nI_add]
                  exact next (by simp [hz2]))
          conv => whnf
          repeat ((first | refine ⟨zH_of _, ?_⟩ | refine ⟨trivial, ?_⟩ | refine ⟨rfl, ?_⟩ | refine ⟨fun hc => absurd hc (by decide), fun _ => ?_⟩ | refine ⟨fun _ => ?_, fun hc => absurd (by decide) hc⟩ | refine ⟨fun _ => ?_, fun hc => absurd hc (by decide)⟩ | refine ⟨fun hc => absurd (by decide) hc, fun _ => ?_⟩); conv => whnf)
          try dsimp only
          exact inner 0 (Nat.zero_le _) (fun j hj => absurd hj (Nat.not_lt_zero j)))
      have clr := up_ind (P := fun k => ∀ wi' : Nat → Nat → Int32, (∀ y, y ≠ 58 → wi' y = wi y) → (∀ j, j < k → wi' 58 j = nI 0) → Jm 3 [some (.ref 45), some (.ref 47), some (.int (nI c)), some (.ref 49), some (.int (nI c2)), some (.int (nI k)), none, none] [] (GC ++ (GM ++ r), wi', wl) 0 0) 40 (fun k hk ih => by
        intro wi' hF hT
        refine hs 400 3 _ _ _ _ _ ?_
        conv => whnf
        repeat ((first | refine ⟨zH_of _, ?_⟩ | refine ⟨trivial, ?_⟩ | refine ⟨rfl, ?_⟩ | refine ⟨fun hc => absurd hc (by decide), fun _ => ?_⟩ | refine ⟨fun _ => ?_, fun hc => absurd (by decide) hc⟩ | refine ⟨fun _ => ?_, fun hc => absurd hc (by decide)⟩ | refine ⟨fun hc => absurd (by decide) hc, fun _ => ?_⟩); conv => whnf)
        try dsimp only
        rw [ltN (by omega) (by omega)]
        refine ⟨fun hc => ?_, fun hc => ?_⟩
        · have l0 := loop 0 (Nat.zero_le _) wi' hF (fun j hj => by
            rw [hT j (by omega), bI_f (show ¬ tkB g c2 0 j = true by show ¬ false = true; decide)])
          rw [Nat.zero_sub] at l0
          conv => whnf
          repeat ((first | refine ⟨zH_of _, ?_⟩ | refine ⟨trivial, ?_⟩ | refine ⟨rfl, ?_⟩ | refine ⟨fun hc => absurd hc (by decide), fun _ => ?_⟩ | refine ⟨fun _ => ?_, fun hc => absurd (by decide) hc⟩ | refine ⟨fun _ => ?_, fun hc => absurd hc (by decide)⟩ | refine ⟨fun hc => absurd (by decide) hc, fun _ => ?_⟩); conv => whnf)
          try dsimp only
          exact l0
        · have ih := ih hc
          conv => whnf
          repeat ((first | refine ⟨zH_of _, ?_⟩ | refine ⟨trivial, ?_⟩ | refine ⟨rfl, ?_⟩ | refine ⟨fun hc => absurd hc (by decide), fun _ => ?_⟩ | refine ⟨fun _ => ?_, fun hc => absurd (by decide) hc⟩ | refine ⟨fun _ => ?_, fun hc => absurd hc (by decide)⟩ | refine ⟨fun hc => absurd (by decide) hc, fun _ => ?_⟩); conv => whnf)
          try dsimp only
          refine ⟨vp_in_nI (show k < 40 by omega) (by decide), ?_⟩
          conv => whnf
          repeat ((first | refine ⟨zH_of _, ?_⟩ | refine ⟨trivial, ?_⟩ | refine ⟨rfl, ?_⟩ | refine ⟨fun hc => absurd hc (by decide), fun _ => ?_⟩ | refine ⟨fun _ => ?_, fun hc => absurd (by decide) hc⟩ | refine ⟨fun _ => ?_, fun hc => absurd hc (by decide)⟩ | refine ⟨fun hc => absurd (by decide) hc, fun _ => ?_⟩); conv => whnf)
          try dsimp only
          rw [nI_clamp (n := k) (by omega), nar_b0, nI_add]
          refine ih _ (fun y hy => by rw [z_up_ne hy, hF y hy]) (fun j hj => ?_)
          by_cases e : j = k
          · rw [e, z_up_eq]
          · rw [z_up_nei e]
            exact hT j (by omega))
      exact hs 400 0 _ _ _ _ _ (clr 0 (Nat.zero_le _) wi (fun _ _ => rfl) (fun j hj => absurd hj (Nat.not_lt_zero j)))
def sp_X12_asBeside : zSp := fun av w K => match av with
  | [.ref o] => o = 45 ∧ zH w.1 ∧ ∃ d q c A B, MS w.2.1 d q c A ∧ RW w.2.1 57 (27 * c) B ∧ (∀ k, k < 3 * c → ∀ p, p < 9 → B k p < q) ∧ ∀ (wi' : Nat → Nat → Int32) (wl' : Nat → Nat → Int64), (∀ y, y ≠ 45 → y ≠ 58 → wi' y = w.2.1 y) → (∀ i, i ≠ 10 → wi' 45 i = w.2.1 45 i) → (∀ y, y ≠ 51 → wl' y = w.2.2 y) → TM wi' wl' 1 (upL (fun _ => 0) 0 (lN (asN q A B c))) → K (some (.int (bI (mtN q A c B c = c)))) (w.1, wi', wl')
  | _ => False
def rm_X12_asBeside : Room := { frames := 4, cells := 0, slots := 0, locals := 102 }
def M_X12_asBeside : zM := (k_X12_asBeside, f_X12, [(273, 4, 10, 5, 0, 0, sp_X12_areLike), (192, 4, 10, 2, 0, 0, sp_X12_tell), (319, 4, 10, 5, 0, 0, sp_X12_without)], ([], [], []), [], [(4, [true, true, true])], 1, false, (false, 0, fun _ => 0), (0, 0))
theorem ca_X12_asBeside_0 (l : Launch) : z_cok l RX12 (headSpec (.code yX12_asBeside cX12_asBeside 3 (some .int) :: zTT) rm_X12_asBeside).room (273, 4, 10, 5, 0, 0, sp_X12_areLike) := z_ca4 (c_X12_areLike l) mb_X12_areLike ⟨_, rfl, rfl⟩ wt_1499 wt_1501 wt_69 (by decide)
theorem ca_X12_asBeside_1 (l : Launch) : z_cok l RX12 (headSpec (.code yX12_asBeside cX12_asBeside 3 (some .int) :: zTT) rm_X12_asBeside).room (192, 4, 10, 2, 0, 0, sp_X12_tell) := z_ca4 (c_X12_tell l) mb_X12_tell ⟨_, rfl, rfl⟩ wt_1369 wt_1371 wt_49 (by decide)
theorem ca_X12_asBeside_2 (l : Launch) : z_cok l RX12 (headSpec (.code yX12_asBeside cX12_asBeside 3 (some .int) :: zTT) rm_X12_asBeside).room (319, 4, 10, 5, 0, 0, sp_X12_without) := z_ca4 (c_X12_without l) mb_X12_without ⟨_, rfl, rfl⟩ wt_1589 wt_1591 wt_80 (by decide)
theorem O_X12_asBeside (l : Launch) : z_OK l RX12 cX12_asBeside (headSpec (.code yX12_asBeside cX12_asBeside 3 (some .int) :: zTT) rm_X12_asBeside).room M_X12_asBeside := ⟨ok_X12_asBeside, fo_X12, List.forall_mem_cons.mpr ⟨ca_X12_asBeside_0 l, List.forall_mem_cons.mpr ⟨ca_X12_asBeside_1 l, List.forall_mem_cons.mpr ⟨ca_X12_asBeside_2 l, fun _ h => absurd h List.not_mem_nil⟩⟩⟩, fun _ h => absurd h List.not_mem_nil, fun _ h => absurd h List.not_mem_nil, fun _ h => absurd h List.not_mem_nil, fun _ h => absurd h List.not_mem_nil, rfl, rfl⟩
theorem c_X12_asBeside (l : Launch) : z_CS l yX12_asBeside cX12_asBeside 3 (some .int) rm_X12_asBeside sp_X12_asBeside := by
  refine z_meth (by decide) (Or.inr (Or.inl ⟨rfl, rfl⟩)) (fun h => by cases h) rfl (O_X12_asBeside l) ?_
  intro av w K h
  match av, h with
  | [.ref o], h =>
    obtain ⟨rfl, ⟨r, hG⟩, d, q, c, A, B, hS, hB, hb, h⟩ := h
    obtain ⟨G, wi, wl⟩ := w
    subst hG
    try dsimp only at h hS hB
    have h40 := ms_40 hS
    have q23 := ms_q23 hS
    have mt := tk_le (fun i k => alB q A i B k) c c
    unfold asN mtN at h
    refine ⟨Nat.le_of_ble_eq_true rfl, fun Jm hs => ?_⟩
    have al := fb_ct_le (fun i => alB q A i B i)
    have loop := up_ind (P := fun i => Jm 4 [some (.ref 45), some (.int (nI (fb_ct (fun i => alB q A i B i) i))), some (.int (nI i))] [] (GC ++ (GM ++ r), wi, wl) 0 0) c (fun i hi ih => by
      refine hs 400 4 _ _ _ _ _ ?_
      conv => whnf
      repeat ((first | refine ⟨zH_of _, ?_⟩ | refine ⟨trivial, ?_⟩ | refine ⟨rfl, ?_⟩ | refine ⟨fun hc => absurd hc (by decide), fun _ => ?_⟩ | refine ⟨fun _ => ?_, fun hc => absurd (by decide) hc⟩ | refine ⟨fun _ => ?_, fun hc => absurd hc (by decide)⟩ | refine ⟨fun hc => absurd (by decide) hc, fun _ => ?_⟩); conv => whnf)
      try dsimp only
      rw [ms_c hS, ltN (by omega) (by omega)]
      refine ⟨fun hc => ?_, fun hc => ?_⟩
      · obtain rfl : i = c := by omega
        have ac := al i
        have T1 : TF wi wl (z_up wi 45 10 (nI 0)) wl := tf_fld (by decide)
        have M1 : TM (z_up wi 45 10 (nI 0)) wl 0 (fun _ => 0) := tm_0
        have i1 : ∀ j, j ≠ 10 → z_up wi 45 10 (nI 0) 45 j = wi 45 j := fun j hj => z_up_nei hj
        conv => whnf
        repeat ((first | refine ⟨zH_of _, ?_⟩ | refine ⟨trivial, ?_⟩ | refine ⟨rfl, ?_⟩ | refine ⟨fun hc => absurd hc (by decide), fun _ => ?_⟩ | refine ⟨fun _ => ?_, fun hc => absurd (by decide) hc⟩ | refine ⟨fun _ => ?_, fun hc => absurd hc (by decide)⟩ | refine ⟨fun hc => absurd (by decide) hc, fun _ => ?_⟩); conv => whnf)
        try dsimp only
        generalize z_up wi 45 10 (nI 0) = wi1 at *
        rw [nI_l (by omega)]
        refine ⟨0, _, M1, by decide, fun wi2 wl2 a1 a2 a3 M2 => ?_⟩
        have T2 := tf_trans T1 (tf_tell a1 a2 a3)
        have S2 := tf_ms T2 hS
        conv => whnf
        repeat ((first | refine ⟨zH_of _, ?_⟩ | refine ⟨trivial, ?_⟩ | refine ⟨rfl, ?_⟩ | refine ⟨fun hc => absurd hc (by decide), fun _ => ?_⟩ | refine ⟨fun _ => ?_, fun hc => absurd (by decide) hc⟩ | refine ⟨fun _ => ?_, fun hc => absurd hc (by decide)⟩ | refine ⟨fun hc => absurd (by decide) hc, fun _ => ?_⟩); conv => whnf)
        try dsimp only
        refine ⟨Or.inl rfl, d, q, i, A, i, B, S2, ms_c S2, ms_c S2, h40, fun j hj => by rw [T2.1 57 (by decide)]; exact hB j hj, hb, fun wi3 hF3 => ?_⟩
        have h := h wi3 wl2 (fun y g1 g2 => by rw [hF3 y g2, T2.1 y g1]) (fun j hj => by rw [hF3 45 (by decide), a2 j hj, i1 j hj]) (fun y hy => T2.2.1 y hy) ⟨by rw [hF3 45 (by decide)]; exact M2.1, M2.2⟩
        conv => whnf
        repeat ((first | refine ⟨zH_of _, ?_⟩ | refine ⟨trivial, ?_⟩ | refine ⟨rfl, ?_⟩ | refine ⟨fun hc => absurd hc (by decide), fun _ => ?_⟩ | refine ⟨fun _ => ?_, fun hc => absurd (by decide) hc⟩ | refine ⟨fun _ => ?_, fun hc => absurd hc (by decide)⟩ | refine ⟨fun hc => absurd (by decide) hc, fun _ => ?_⟩); conv => whnf)
        try dsimp only
        rw [eq0N (by omega)]
        refine ⟨fun hz => ?_, fun hz => ?_⟩
        · rw [bI_f (fun z => hz (by omega))] at h
          conv => whnf
          repeat ((first | refine ⟨zH_of _, ?_⟩ | refine ⟨trivial, ?_⟩ | refine ⟨rfl, ?_⟩ | refine ⟨fun hc => absurd hc (by decide), fun _ => ?_⟩ | refine ⟨fun _ => ?_, fun hc => absurd (by decide) hc⟩ | refine ⟨fun _ => ?_, fun hc => absurd hc (by decide)⟩ | refine ⟨fun hc => absurd (by decide) hc, fun _ => ?_⟩); conv => whnf)
          try dsimp only
          exact h
        · rw [bI_t (by omega)] at h
          conv => whnf
          repeat ((first | refine ⟨zH_of _, ?_⟩ | refine ⟨trivial, ?_⟩ | refine ⟨rfl, ?_⟩ | refine ⟨fun hc => absurd hc (by decide), fun _ => ?_⟩ | refine ⟨fun _ => ?_, fun hc => absurd (by decide) hc⟩ | refine ⟨fun _ => ?_, fun hc => absurd hc (by decide)⟩ | refine ⟨fun hc => absurd (by decide) hc, fun _ => ?_⟩); conv => whnf)
          try dsimp only
          exact h
      · have ih := ih hc
        conv => whnf
        repeat ((first | refine ⟨zH_of _, ?_⟩ | refine ⟨trivial, ?_⟩ | refine ⟨rfl, ?_⟩ | refine ⟨fun hc => absurd hc (by decide), fun _ => ?_⟩ | refine ⟨fun _ => ?_, fun hc => absurd (by decide) hc⟩ | refine ⟨fun _ => ?_, fun hc => absurd hc (by decide)⟩ | refine ⟨fun hc => absurd (by decide) hc, fun _ => ?_⟩); conv => whnf)
        try dsimp only
        refine ⟨by simp, q, i, i, A, B, ms_q hS, q23, fun t ht => ⟨rw_ra (ms_f hS) hc ht, rw_ra hB hc ht, ms_A hS _ (by omega), hb _ (by omega)⟩, rfl, by omega, rfl, by omega, ?_⟩
        conv => whnf
        repeat ((first | refine ⟨zH_of _, ?_⟩ | refine ⟨trivial, ?_⟩ | refine ⟨rfl, ?_⟩ | refine ⟨fun hc => absurd hc (by decide), fun _ => ?_⟩ | refine ⟨fun _ => ?_, fun hc => absurd (by decide) hc⟩ | refine ⟨fun _ => ?_, fun hc => absurd hc (by decide)⟩ | refine ⟨fun hc => absurd (by decide) hc, fun _ => ?_⟩); conv => whnf)
        try dsimp only
        rw [bI_0]
        refine ⟨fun hz => ?_, fun hz => ?_⟩
        · rw [ct_f (f := fun i => alB q A i B i) (n := i) hz] at ih
          conv => whnf
          repeat ((first | refine ⟨zH_of _, ?_⟩ | refine ⟨trivial, ?_⟩ | refine ⟨rfl, ?_⟩ | refine ⟨fun hc => absurd hc (by decide), fun _ => ?_⟩ | refine ⟨fun _ => ?_, fun hc => absurd (by decide) hc⟩ | refine ⟨fun _ => ?_, fun hc => absurd hc (by decide)⟩ | refine ⟨fun hc => absurd (by decide) hc, fun _ => ?_⟩); conv => whnf)
          try dsimp only
          rw [nI_add, nI_add]
          exact ih
        · rw [ct_t (f := fun i => alB q A i B i) (n := i) (Classical.not_not.mp hz)] at ih
          conv => whnf
          repeat ((first | refine ⟨zH_of _, ?_⟩ | refine ⟨trivial, ?_⟩ | refine ⟨rfl, ?_⟩ | refine ⟨fun hc => absurd hc (by decide), fun _ => ?_⟩ | refine ⟨fun _ => ?_, fun hc => absurd (by decide) hc⟩ | refine ⟨fun _ => ?_, fun hc => absurd hc (by decide)⟩ | refine ⟨fun hc => absurd (by decide) hc, fun _ => ?_⟩); conv => whnf)
          try dsimp only
          rw [nI_add, nI_add]
          exact ih)
    exact hs 400 0 _ _ _ _ _ (loop 0 (Nat.zero_le _))
theorem ra_put {wi : Nat → Nat → Int32} {o f p v : Nat} {a : Nat → Nat} (h : RA wi o f a) : RA (z_up wi o (f + p) (nI v)) o f (setp a p v) := fun s hs => by
  unfold setp
  by_cases e : s = p
  · rw [e, z_up_eq, if_pos rfl]
  · rw [z_up_nei (by omega), if_neg e]
    exact h s hs
def sp_X12_laysMirrored : zSp := fun av w K => match av with
  | [.ref o] => o = 45 ∧ zH w.1 ∧ ∃ d q c A, MS w.2.1 d q c A ∧ ∀ wi' : Nat → Nat → Int32, (∀ y, y ≠ 57 → wi' y = w.2.1 y) → RW wi' 57 (27 * c) (mrA d A) → K none (w.1, wi', w.2.2)
  | _ => False
def rm_X12_laysMirrored : Room := { frames := 1, cells := 0, slots := 0, locals := 22 }
def M_X12_laysMirrored : zM := (k_X12_laysMirrored, f_X12, [(107, 0, 0, 3, 0, 0, sp_X12_at), (84, 4, 10, 2, 0, 0, sp_X12_rowsOf), (88, 4, 10, 2, 0, 0, sp_X12_columnsOf)], ([], [], []), [], [(2, [true, true, false, false, false]), (12, [true, true, true, false, false]), (19, [true, true, true, true, false]), (47, [true, true, true, true, false]), (59, [true, true, true, true, true])], 0, false, (false, 0, fun _ => 0), (0, 0))
theorem ca_X12_laysMirrored_0 (l : Launch) : z_cok l RX12 (headSpec (.code yX12_laysMirrored cX12_laysMirrored 5 none :: zTT) rm_X12_laysMirrored).room (107, 0, 0, 3, 0, 0, sp_X12_at) := z_ca0 (c_X12_at l) mb_X12_at wt_1136 wt_1137 (by decide)
theorem ca_X12_laysMirrored_1 (l : Launch) : z_cok l RX12 (headSpec (.code yX12_laysMirrored cX12_laysMirrored 5 none :: zTT) rm_X12_laysMirrored).room (84, 4, 10, 2, 0, 0, sp_X12_rowsOf) := z_ca4 (c_X12_rowsOf l) mb_X12_rowsOf ⟨_, rfl, rfl⟩ wt_1298 wt_1300 wt_37 (by decide)
theorem ca_X12_laysMirrored_2 (l : Launch) : z_cok l RX12 (headSpec (.code yX12_laysMirrored cX12_laysMirrored 5 none :: zTT) rm_X12_laysMirrored).room (88, 4, 10, 2, 0, 0, sp_X12_columnsOf) := z_ca4 (c_X12_columnsOf l) mb_X12_columnsOf ⟨_, rfl, rfl⟩ wt_1306 wt_1308 wt_39 (by decide)
theorem O_X12_laysMirrored (l : Launch) : z_OK l RX12 cX12_laysMirrored (headSpec (.code yX12_laysMirrored cX12_laysMirrored 5 none :: zTT) rm_X12_laysMirrored).room M_X12_laysMirrored := ⟨ok_X12_laysMirrored, fo_X12, List.forall_mem_cons.mpr ⟨ca_X12_laysMirrored_0 l, List.forall_mem_cons.mpr ⟨ca_X12_laysMirrored_1 l, List.forall_mem_cons.mpr ⟨ca_X12_laysMirrored_2 l, fun _ h => absurd h List.not_mem_nil⟩⟩⟩, fun _ h => absurd h List.not_mem_nil, fun _ h => absurd h List.not_mem_nil, fun _ h => absurd h List.not_mem_nil, fun _ h => absurd h List.not_mem_nil, rfl, rfl⟩
theorem c_X12_laysMirrored (l : Launch) : z_CS l yX12_laysMirrored cX12_laysMirrored 5 none rm_X12_laysMirrored sp_X12_laysMirrored := by
  refine z_meth (by decide) (Or.inl ⟨rfl, rfl⟩) (fun h => by cases h) rfl (O_X12_laysMirrored l) ?_
  intro av w K h
  match av, h with
  | [.ref o], h =>
    obtain ⟨rfl, ⟨r, hG⟩, d, q, c, A, hS, h⟩ := h
    obtain ⟨G, wi, wl⟩ := w
    subst hG
    try dsimp only at h hS
    have h40 := ms_40 hS
    have hd := ms_hd hS
    have fr : ∀ {wi' : Nat → Nat → Int32}, (∀ y, y ≠ 57 → wi' y = wi y) → MS wi' d q c A := fun {wi'} k => ms_fr hS (k 46 (by decide)) (by rw [k 45 (by decide)]) (by rw [k 45 (by decide)]) (k 47 (by decide))
    refine ⟨Nat.le_of_ble_eq_true rfl, fun Jm hs => ?_⟩
    have loop := up_ind (P := fun i => ∀ wi' : Nat → Nat → Int32, (∀ y, y ≠ 57 → wi' y = wi y) → (∀ k, k < 3 * i → RA wi' 57 (9 * k) (mrA d A k)) → Jm 2 [some (.ref 45), some (.int (nI i)), none, none, none] [] (GC ++ (GM ++ r), wi', wl) 0 0) c (fun i hi ih => by
      intro wi' hF hR
      refine hs 400 2 _ _ _ _ _ ?_
      conv => whnf
      repeat ((first | refine ⟨zH_of _, ?_⟩ | refine ⟨trivial, ?_⟩ | refine ⟨rfl, ?_⟩ | refine ⟨fun hc => absurd hc (by decide), fun _ => ?_⟩ | refine ⟨fun _ => ?_, fun hc => absurd (by decide) hc⟩ | refine ⟨fun _ => ?_, fun hc => absurd hc (by decide)⟩ | refine ⟨fun hc => absurd (by decide) hc, fun _ => ?_⟩); conv => whnf)
      try dsimp only
      rw [ms_c (fr hF), ltN (by omega) (by omega)]
      refine ⟨fun hc => ?_, fun hc => ?_⟩
      · obtain rfl : i = c := by omega
        exact h wi' hF (fun j hj => by
          have k := hR (j / 9) (by omega) (j % 9) (Nat.mod_lt _ (by decide))
          rw [show 9 * (j / 9) + j % 9 = j by omega] at k
          exact k)
      · have ih := ih hc
        have loopt := up_ind (P := fun t => ∀ wi' : Nat → Nat → Int32, (∀ y, y ≠ 57 → wi' y = wi y) → (∀ k, k < 3 * i ∨ (3 * i + 3 - t ≤ k ∧ k < 3 * i + 3) → RA wi' 57 (9 * k) (mrA d A k)) → Jm 12 [some (.ref 45), some (.int (nI i)), some (.int (nI t)), none, none] [] (GC ++ (GM ++ r), wi', wl) 0 0) 3 (fun t ht iht => by
          intro wi' hF hR
          refine hs 400 12 _ _ _ _ _ ?_
          conv => whnf
          repeat ((first | refine ⟨zH_of _, ?_⟩ | refine ⟨trivial, ?_⟩ | refine ⟨rfl, ?_⟩ | refine ⟨fun hc => absurd hc (by decide), fun _ => ?_⟩ | refine ⟨fun _ => ?_, fun hc => absurd (by decide) hc⟩ | refine ⟨fun _ => ?_, fun hc => absurd hc (by decide)⟩ | refine ⟨fun hc => absurd (by decide) hc, fun _ => ?_⟩); conv => whnf)
          try dsimp only
          rw [ltN (by omega) (by omega)]
          refine ⟨fun hc2 => ?_, fun hc2 => ?_⟩
          · obtain rfl : t = 3 := by omega
            conv => whnf
            repeat ((first | refine ⟨zH_of _, ?_⟩ | refine ⟨trivial, ?_⟩ | refine ⟨rfl, ?_⟩ | refine ⟨fun hc => absurd hc (by decide), fun _ => ?_⟩ | refine ⟨fun _ => ?_, fun hc => absurd (by decide) hc⟩ | refine ⟨fun _ => ?_, fun hc => absurd hc (by decide)⟩ | refine ⟨fun hc => absurd (by decide) hc, fun _ => ?_⟩); conv => whnf)
            try dsimp only
            rw [nI_add]
            exact ih wi' hF (fun k hk => hR k (by omega))
          · have iht := iht hc2
            have dt := hd t hc2
            have dn := hd _ (nx_lt t)
            have n3 := nx_lt t
            have mre := mr_at d A i (t := 2 - t) (by omega)
            rw [show 2 - (2 - t) = t by omega] at mre
            have e9 : 9 * (3 * i + (2 - t)) = 27 * i + 9 * (2 - t) := by omega
            obtain ⟨F, hFF⟩ : ∃ F, F = 27 * i + 9 * (2 - t) := ⟨_, rfl⟩
            have keep : ∀ {wi2 : Nat → Nat → Int32}, (∀ j, (j < F ∨ F + 9 ≤ j) → wi2 57 j = wi' 57 j) → RA wi2 57 F (mrA d A (3 * i + (2 - t))) → ∀ k, k < 3 * i ∨ (3 * i + 3 - (t + 1) ≤ k ∧ k < 3 * i + 3) → RA wi2 57 (9 * k) (mrA d A k) := fun {wi2} h1 h2 k hk => by
              by_cases e : k = 3 * i + (2 - t)
              · rw [e, e9, ← hFF]
                exact h2
              · intro p hp
                rw [h1 _ (by omega)]
                exact hR k (by omega) p hp
            rw [mre] at keep
            generalize hA0 : A (3 * i + t) = a0 at keep
            have rows := up_ind (P := fun x => ∀ wi2 : Nat → Nat → Int32, (∀ y, y ≠ 57 → wi2 y = wi y) → (∀ j, (j < F ∨ F + 9 ≤ j) → wi2 57 j = wi' 57 j) → RA wi2 57 F (trR a0 (d t) (d (nx t)) x) → Jm 47 [some (.ref 45), some (.int (nI i)), some (.int (nI t)), some (.int (nI x)), none] [] (GC ++ (GM ++ r), wi2, wl) 0 0) (d t) (fun x hx ihx => by
              intro wi2 hF2 hK hA
              have S2 := fr hF2
              refine hs 400 47 _ _ _ _ _ ?_
              conv => whnf
              repeat ((first | refine ⟨zH_of _, ?_⟩ | refine ⟨trivial, ?_⟩ | refine ⟨rfl, ?_⟩ | refine ⟨fun hc => absurd hc (by decide), fun _ => ?_⟩ | refine ⟨fun _ => ?_, fun hc => absurd (by decide) hc⟩ | refine ⟨fun _ => ?_, fun hc => absurd hc (by decide)⟩ | refine ⟨fun hc => absurd (by decide) hc, fun _ => ?_⟩); conv => whnf)
              try dsimp only
              refine ⟨t, rfl, hc2, ?_⟩
              rw [ms_d S2 t hc2]
              conv => whnf
              repeat ((first | refine ⟨zH_of _, ?_⟩ | refine ⟨trivial, ?_⟩ | refine ⟨rfl, ?_⟩ | refine ⟨fun hc => absurd hc (by decide), fun _ => ?_⟩ | refine ⟨fun _ => ?_, fun hc => absurd (by decide) hc⟩ | refine ⟨fun _ => ?_, fun hc => absurd hc (by decide)⟩ | refine ⟨fun hc => absurd (by decide) hc, fun _ => ?_⟩); conv => whnf)
              try dsimp only
              rw [ltN (by omega) (by omega)]
              refine ⟨fun hc3 => ?_, fun hc3 => ?_⟩
              · obtain hxn : x = d t := by omega
                rw [hxn] at hA
                conv => whnf
                repeat ((first | refine ⟨zH_of _, ?_⟩ | refine ⟨trivial, ?_⟩ | refine ⟨rfl, ?_⟩ | refine ⟨fun hc => absurd hc (by decide), fun _ => ?_⟩ | refine ⟨fun _ => ?_, fun hc => absurd (by decide) hc⟩ | refine ⟨fun _ => ?_, fun hc => absurd hc (by decide)⟩ | refine ⟨fun hc => absurd (by decide) hc, fun _ => ?_⟩); conv => whnf)
                try dsimp only
                rw [nI_add]
                exact iht wi2 hF2 (keep hK hA)
              · have ihx := ihx hc3
                have cols := up_ind (P := fun y => ∀ wi2 : Nat → Nat → Int32, (∀ y, y ≠ 57 → wi2 y = wi y) → (∀ j, (j < F ∨ F + 9 ≤ j) → wi2 57 j = wi' 57 j) → RA wi2 57 F (trC a0 (d t) (d (nx t)) x (trR a0 (d t) (d (nx t)) x) y) → Jm 59 [some (.ref 45), some (.int (nI i)), some (.int (nI t)), some (.int (nI x)), some (.int (nI y))] [] (GC ++ (GM ++ r), wi2, wl) 0 0) (d (nx t)) (fun y hy ihy => by
                  intro wi2 hF2 hK hA
                  have S2 := fr hF2
                  refine hs 400 59 _ _ _ _ _ ?_
                  conv => whnf
                  repeat ((first | refine ⟨zH_of _, ?_⟩ | refine ⟨trivial, ?_⟩ | refine ⟨rfl, ?_⟩ | refine ⟨fun hc => absurd hc (by decide), fun _ => ?_⟩ | refine ⟨fun _ => ?_, fun hc => absurd (by decide) hc⟩ | refine ⟨fun _ => ?_, fun hc => absurd hc (by decide)⟩ | refine ⟨fun hc => absurd (by decide) hc, fun _ => ?_⟩); conv => whnf)
                  try dsimp only
                  refine ⟨t, rfl, hc2, ?_⟩
                  rw [ms_d S2 _ n3]
                  conv => whnf
                  repeat ((first | refine ⟨zH_of _, ?_⟩ | refine ⟨trivial, ?_⟩ | refine ⟨rfl, ?_⟩ | refine ⟨fun hc => absurd hc (by decide), fun _ => ?_⟩ | refine ⟨fun _ => ?_, fun hc => absurd (by decide) hc⟩ | refine ⟨fun _ => ?_, fun hc => absurd hc (by decide)⟩ | refine ⟨fun hc => absurd (by decide) hc, fun _ => ?_⟩); conv => whnf)
                  try dsimp only
                  rw [ltN (by omega) (by omega)]
                  refine ⟨fun hc4 => ?_, fun hc4 => ?_⟩
                  · obtain hyn : y = d (nx t) := by omega
                    rw [hyn] at hA
                    conv => whnf
                    repeat ((first | refine ⟨zH_of _, ?_⟩ | refine ⟨trivial, ?_⟩ | refine ⟨rfl, ?_⟩ | refine ⟨fun hc => absurd hc (by decide), fun _ => ?_⟩ | refine ⟨fun _ => ?_, fun hc => absurd (by decide) hc⟩ | refine ⟨fun _ => ?_, fun hc => absurd hc (by decide)⟩ | refine ⟨fun hc => absurd (by decide) hc, fun _ => ?_⟩); conv => whnf)
                    try dsimp only
                    rw [nI_add]
                    exact ihx wi2 hF2 hK hA
                  · have ihy := ihy hc4
                    have i1 := idx9 dt.2 dn.2 hc3 hc4
                    have i2 := idx9 dn.2 dt.2 hc4 hc3
                    conv => whnf
                    repeat ((first | refine ⟨zH_of _, ?_⟩ | refine ⟨trivial, ?_⟩ | refine ⟨rfl, ?_⟩ | refine ⟨fun hc => absurd hc (by decide), fun _ => ?_⟩ | refine ⟨fun _ => ?_, fun hc => absurd (by decide) hc⟩ | refine ⟨fun _ => ?_, fun hc => absurd hc (by decide)⟩ | refine ⟨fun hc => absurd (by decide) hc, fun _ => ?_⟩); conv => whnf)
                    try dsimp only
                    refine ⟨t, rfl, hc2, ?_⟩
                    rw [ms_d S2 t hc2, pk_sub (by omega)]
                    conv => whnf
                    repeat ((first | refine ⟨zH_of _, ?_⟩ | refine ⟨trivial, ?_⟩ | refine ⟨rfl, ?_⟩ | refine ⟨fun hc => absurd hc (by decide), fun _ => ?_⟩ | refine ⟨fun _ => ?_, fun hc => absurd (by decide) hc⟩ | refine ⟨fun _ => ?_, fun hc => absurd hc (by decide)⟩ | refine ⟨fun hc => absurd (by decide) hc, fun _ => ?_⟩); conv => whnf)
                    try dsimp only
                    rw [pk_mul, nI_add, at_N]
                    refine ⟨t, rfl, hc2, ?_⟩
                    rw [ms_d S2 _ n3]
                    conv => whnf
                    repeat ((first | refine ⟨zH_of _, ?_⟩ | refine ⟨trivial, ?_⟩ | refine ⟨rfl, ?_⟩ | refine ⟨fun hc => absurd hc (by decide), fun _ => ?_⟩ | refine ⟨fun _ => ?_, fun hc => absurd (by decide) hc⟩ | refine ⟨fun _ => ?_, fun hc => absurd hc (by decide)⟩ | refine ⟨fun hc => absurd (by decide) hc, fun _ => ?_⟩); conv => whnf)
                    try dsimp only
                    rw [pk_mul, nI_add, at_N]
                    refine ⟨vp_in_nI (show 27 * i + 9 * t + (x * d (nx t) + y) < 1080 by omega) (by decide), ?_⟩
                    conv => whnf
                    repeat ((first | refine ⟨zH_of _, ?_⟩ | refine ⟨trivial, ?_⟩ | refine ⟨rfl, ?_⟩ | refine ⟨fun hc => absurd hc (by decide), fun _ => ?_⟩ | refine ⟨fun _ => ?_, fun hc => absurd (by decide) hc⟩ | refine ⟨fun _ => ?_, fun hc => absurd hc (by decide)⟩ | refine ⟨fun hc => absurd (by decide) hc, fun _ => ?_⟩); conv => whnf)
                    try dsimp only
                    refine ⟨vp_in_nI (show 27 * i + 9 * (2 - t) + (y * d t + x) < 1080 by omega) (by decide), ?_⟩
                    rw [nI_clamp (n := 27 * i + 9 * t + (x * d (nx t) + y)) (by omega), nI_clamp (n := 27 * i + 9 * (2 - t) + (y * d t + x)) (by omega), ms_at S2 hc hc2 i1, hA0, ← hFF]
                    conv => whnf
                    repeat ((first | refine ⟨zH_of _, ?_⟩ | refine ⟨trivial, ?_⟩ | refine ⟨rfl, ?_⟩ | refine ⟨fun hc => absurd hc (by decide), fun _ => ?_⟩ | refine ⟨fun _ => ?_, fun hc => absurd (by decide) hc⟩ | refine ⟨fun _ => ?_, fun hc => absurd hc (by decide)⟩ | refine ⟨fun hc => absurd (by decide) hc, fun _ => ?_⟩); conv => whnf)
                    try dsimp only
                    rw [nI_add]
                    exact ihy _ (fun y hy => by rw [z_up_ne hy, hF2 y hy]) (fun j hj => by rw [z_up_nei (by omega), hK j hj]) (ra_put hA))
                conv => whnf
                repeat ((first | refine ⟨zH_of _, ?_⟩ | refine ⟨trivial, ?_⟩ | refine ⟨rfl, ?_⟩ | refine ⟨fun hc => absurd hc (by decide), fun _ => ?_⟩ | refine ⟨fun _ => ?_, fun hc => absurd (by decide) hc⟩ | refine ⟨fun _ => ?_, fun hc => absurd hc (by decide)⟩ | refine ⟨fun hc => absurd (by decide) hc, fun _ => ?_⟩); conv => whnf)
                try dsimp only
                exact cols 0 (Nat.zero_le _) wi2 hF2 hK hA)
            have zero := up_ind (P := fun k => ∀ wi2 : Nat → Nat → Int32, (∀ y, y ≠ 57 → wi2 y = wi y) → (∀ j, (j < F ∨ F + 9 ≤ j) → wi2 57 j = wi' 57 j) → (∀ p, p < k → wi2 57 (F + p) = nI 0) → Jm 19 [some (.ref 45), some (.int (nI i)), some (.int (nI t)), some (.int (nI k)), none] [] (GC ++ (GM ++ r), wi2, wl) 0 0) 9 (fun k hk ihk => by
              intro wi2 hF2 hK hA
              refine hs 400 19 _ _ _ _ _ ?_
              conv => whnf
              repeat ((first | refine ⟨zH_of _, ?_⟩ | refine ⟨trivial, ?_⟩ | refine ⟨rfl, ?_⟩ | refine ⟨fun hc => absurd hc (by decide), fun _ => ?_⟩ | refine ⟨fun _ => ?_, fun hc => absurd (by decide) hc⟩ | refine ⟨fun _ => ?_, fun hc => absurd hc (by decide)⟩ | refine ⟨fun hc => absurd (by decide) hc, fun _ => ?_⟩); conv => whnf)
              try dsimp only
              rw [ltN (by omega) (by omega)]
              refine ⟨fun hc3 => ?_, fun hc3 => ?_⟩
              · obtain rfl : k = 9 := by omega
                conv => whnf
                repeat ((first | refine ⟨zH_of _, ?_⟩ | refine ⟨trivial, ?_⟩ | refine ⟨rfl, ?_⟩ | refine ⟨fun hc => absurd hc (by decide), fun _ => ?_⟩ | refine ⟨fun _ => ?_, fun hc => absurd (by decide) hc⟩ | refine ⟨fun _ => ?_, fun hc => absurd hc (by decide)⟩ | refine ⟨fun hc => absurd (by decide) hc, fun _ => ?_⟩); conv => whnf)
                try dsimp only
                exact rows 0 (Nat.zero_le _) wi2 hF2 hK hA
              · have ihk := ihk hc3
                conv => whnf
                repeat ((first | refine ⟨zH_of _, ?_⟩ | refine ⟨trivial, ?_⟩ | refine ⟨rfl, ?_⟩ | refine ⟨fun hc => absurd hc (by decide), fun _ => ?_⟩ | refine ⟨fun _ => ?_, fun hc => absurd (by decide) hc⟩ | refine ⟨fun _ => ?_, fun hc => absurd hc (by decide)⟩ | refine ⟨fun hc => absurd (by decide) hc, fun _ => ?_⟩); conv => whnf)
                try dsimp only
                rw [pk_sub (by omega), at_N]
                refine ⟨vp_in_nI (show 27 * i + 9 * (2 - t) + k < 1080 by omega) (by decide), ?_⟩
                rw [nI_clamp (n := 27 * i + 9 * (2 - t) + k) (by omega), ← hFF]
                conv => whnf
                repeat ((first | refine ⟨zH_of _, ?_⟩ | refine ⟨trivial, ?_⟩ | refine ⟨rfl, ?_⟩ | refine ⟨fun hc => absurd hc (by decide), fun _ => ?_⟩ | refine ⟨fun _ => ?_, fun hc => absurd (by decide) hc⟩ | refine ⟨fun _ => ?_, fun hc => absurd hc (by decide)⟩ | refine ⟨fun hc => absurd (by decide) hc, fun _ => ?_⟩); conv => whnf)
                try dsimp only
                rw [nI_add]
                refine ihk _ (fun y hy => by rw [z_up_ne hy, hF2 y hy]) (fun j hj => by rw [z_up_nei (by omega), hK j hj]) (fun p hp => ?_)
                by_cases e : p = k
                · rw [e, z_up_eq]
                · rw [z_up_nei (by omega)]
                  exact hA p (by omega))
            conv => whnf
            repeat ((first | refine ⟨zH_of _, ?_⟩ | refine ⟨trivial, ?_⟩ | refine ⟨rfl, ?_⟩ | refine ⟨fun hc => absurd hc (by decide), fun _ => ?_⟩ | refine ⟨fun _ => ?_, fun hc => absurd (by decide) hc⟩ | refine ⟨fun _ => ?_, fun hc => absurd hc (by decide)⟩ | refine ⟨fun hc => absurd (by decide) hc, fun _ => ?_⟩); conv => whnf)
            try dsimp only
            exact zero 0 (Nat.zero_le _) wi' hF (fun _ _ => rfl) (fun p hp => absurd hp (Nat.not_lt_zero p)))
        conv => whnf
        repeat ((first | refine ⟨zH_of _, ?_⟩ | refine ⟨trivial, ?_⟩ | refine ⟨rfl, ?_⟩ | refine ⟨fun hc => absurd hc (by decide), fun _ => ?_⟩ | refine ⟨fun _ => ?_, fun hc => absurd (by decide) hc⟩ | refine ⟨fun _ => ?_, fun hc => absurd hc (by decide)⟩ | refine ⟨fun hc => absurd (by decide) hc, fun _ => ?_⟩); conv => whnf)
        try dsimp only
        exact loopt 0 (Nat.zero_le _) wi' hF (fun k hk => hR k (by omega)))
    exact hs 400 0 _ _ _ _ _ (loop 0 (Nat.zero_le _) wi (fun _ _ => rfl) (fun k hk => absurd hk (Nat.not_lt_zero k)))
theorem mr_lt {wi : Nat → Nat → Int32} {d : Nat → Nat} {q c : Nat} {A : Nat → Nat → Nat} (h : MS wi d q c A) : ∀ k, k < 3 * c → ∀ p, p < 9 → mrA d A k p < q := fun k hk p hp => by
  have q23 := ms_q23 h
  have hd := ms_hd h
  unfold mrA
  exact trF_lt (by omega) (ms_A h _ (by omega)) (hd _ (by omega)).2 (hd _ (nx_lt _)).2 p hp
theorem rl_lt {wi : Nat → Nat → Int32} {d : Nat → Nat} {q c : Nat} {A : Nat → Nat → Nat} (h : MS wi d q c A) : ∀ k, k < 3 * c → ∀ p, p < 9 → rlA A k p < q := fun k hk p hp => by
  have n1 := nx_lt (k % 3)
  exact ms_A h _ (show 3 * (k / 3) + nx (k % 3) < 3 * c by omega) p hp

