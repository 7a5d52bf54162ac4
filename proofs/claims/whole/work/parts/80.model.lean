/-! the reference: the flip of a number -/
theorem ct_up {f : Nat → Bool} {a b : Nat} (h : a ≤ b) : fb_ct f a ≤ fb_ct f b := by
  have e := fb_ct_split f a (b - a)
  rw [show a + (b - a) = b by omega] at e
  omega
theorem kt_at {f : Nat → Bool} {m : Nat} (hm : m < 1600) (h : f m = true) : kt f (fb_ct f m) = m := by
  unfold kt
  refine fi_at hm (by simp [h]) (fun j hj k => ?_)
  simp only [Bool.and_eq_true, beq_iff_eq] at k
  have e := ct_t k.1
  have := ct_up (f := f) (show j + 1 ≤ m by omega)
  omega
def sp_X12_goNumbered : zSp := fun av w K => match av with
  | [.ref o, .int n] => o = 45 ∧ zH w.1 ∧ ∃ d q c A k, MS w.2.1 d q c A ∧ n = nI k ∧ k < flAll q A c ∧ ∀ wi' : Nat → Nat → Int32, (∀ y, y ≠ 47 → wi' y = w.2.1 y) → MS wi' d q c (dfA q A c k) → K none (w.1, wi', w.2.2)
  | _ => False
def rm_X12_goNumbered : Room := { frames := 4, cells := 0, slots := 0, locals := 99 }
def M_X12_goNumbered : zM := (k_X12_goNumbered, f_X12, [(217, 4, 10, 4, 0, 0, sp_X12_likeAt), (229, 4, 10, 4, 0, 0, sp_X12_goFlip)], ([], [], []), [], [(4, [true, true, true, true, false, false]), (12, [true, true, true, true, true, false]), (24, [true, true, true, true, true, true])], 0, false, (false, 0, fun _ => 0), (0, 0))
theorem ca_X12_goNumbered_0 (l : Launch) : z_cok l RX12 (headSpec (.code yX12_goNumbered cX12_goNumbered 6 none :: zTT) rm_X12_goNumbered).room (217, 4, 10, 4, 0, 0, sp_X12_likeAt) := z_ca4 (c_X12_likeAt l) mb_X12_likeAt ⟨_, rfl, rfl⟩ wt_1404 wt_1406 wt_53 (by decide)
theorem ca_X12_goNumbered_1 (l : Launch) : z_cok l RX12 (headSpec (.code yX12_goNumbered cX12_goNumbered 6 none :: zTT) rm_X12_goNumbered).room (229, 4, 10, 4, 0, 0, sp_X12_goFlip) := z_ca4 (c_X12_goFlip l) mb_X12_goFlip ⟨_, rfl, rfl⟩ wt_1427 wt_1429 wt_56 (by decide)
theorem O_X12_goNumbered (l : Launch) : z_OK l RX12 cX12_goNumbered (headSpec (.code yX12_goNumbered cX12_goNumbered 6 none :: zTT) rm_X12_goNumbered).room M_X12_goNumbered := ⟨ok_X12_goNumbered, fo_X12, List.forall_mem_cons.mpr ⟨ca_X12_goNumbered_0 l, List.forall_mem_cons.mpr ⟨ca_X12_goNumbered_1 l, fun _ h => absurd h List.not_mem_nil⟩⟩, fun _ h => absurd h List.not_mem_nil, fun _ h => absurd h List.not_mem_nil, fun _ h => absurd h List.not_mem_nil, fun _ h => absurd h List.not_mem_nil, rfl, rfl⟩
theorem c_X12_goNumbered (l : Launch) : z_CS l yX12_goNumbered cX12_goNumbered 6 none rm_X12_goNumbered sp_X12_goNumbered := by
  refine z_meth (by decide) (Or.inl ⟨rfl, rfl⟩) (fun h => by cases h) rfl (O_X12_goNumbered l) ?_
  intro av w K h
  match av, h with
  | [.ref o, .int n], h =>
    obtain ⟨rfl, ⟨r, hG⟩, d, q, c, A, k, hS, rfl, hk, h⟩ := h
    obtain ⟨G, wi, wl⟩ := w
    subst hG
    try dsimp only at h hS
    have h40 := ms_40 hS
    have cnt : ∀ t, t < 3 → fb_ct (pfB q A t c) 1600 = flN q A t c := fun t ht => pf_count h40 (fun i hi => ms_3 hS hi ht)
    have b0 := fl_le (q := q) (A := A) (t := 0) h40
    have b1 := fl_le (q := q) (A := A) (t := 1) h40
    have b2 := fl_le (q := q) (A := A) (t := 2) h40
    unfold flAll at hk
    refine ⟨Nat.le_of_ble_eq_true rfl, fun Jm hs => ?_⟩
    have table : ∀ t e, t < 3 → e < 2 ^ 14 → (e < flN q A t c → dfA q A c k = ktA q A c t e) → (flN q A t c ≤ e → Jm 4 [some (.ref 45), some (.int (nI k)), some (.int (nI (e - flN q A t c))), some (.int (nI (t + 1))), none, none] [] (GC ++ (GM ++ r), wi, wl) 0 0) → Jm 4 [some (.ref 45), some (.int (nI k)), some (.int (nI e)), some (.int (nI t)), none, none] [] (GC ++ (GM ++ r), wi, wl) 0 0 := fun t e ht he hd hn => by
      have hcn := cnt t ht
      have pat := fun (i j : Nat) (hj : j < 40) => pf_at (q := q) (A := A) (t := t) (c := c) (i := i) hj
      have pfar : ∀ m, (c ≤ m / 40 ∨ c ≤ m % 40) → pfB q A t c m = false := fun m hm => by
        unfold pfB
        rcases hm with g | g
        · simp [Nat.not_lt.mpr g]
        · simp [Nat.not_lt.mpr g]
      have hkt : ∀ e : Nat, ktA q A c t e = tfA q A (kt (pfB q A t c) e / 40) (kt (pfB q A t c) e % 40) t := fun _ => rfl
      generalize pfB q A t c = f at *
      have rows := up_ind (P := fun i => fb_ct f (i * 40) ≤ e → Jm 12 [some (.ref 45), some (.int (nI k)), some (.int (nI (e - fb_ct f (i * 40)))), some (.int (nI t)), some (.int (nI i)), none] [] (GC ++ (GM ++ r), wi, wl) 0 0) c (fun i hi ih => by
        intro hle
        refine hs 400 12 _ _ _ _ _ ?_
        conv => whnf
        repeat ((first | refine ⟨zH_of _, ?_⟩ | refine ⟨trivial, ?_⟩ | refine ⟨rfl, ?_⟩ | refine ⟨fun hc => absurd hc (by decide), fun _ => ?_⟩ | refine ⟨fun _ => ?_, fun hc => absurd (by decide) hc⟩ | refine ⟨fun _ => ?_, fun hc => absurd hc (by decide)⟩ | refine ⟨fun hc => absurd (by decide) hc, fun _ => ?_⟩); conv => whnf)
        try dsimp only
        rw [ms_c hS, ltN (by omega) (by omega)]
        refine ⟨fun hc => ?_, fun hc => ?_⟩
        · obtain hic : i = c := by omega
          have em : fb_ct f 1600 = fb_ct f (i * 40) := ct_more (by omega) (fun m h1 h2 => pfar m (Or.inl (by omega)))
          rw [← em, hcn] at hle ⊢
          conv => whnf
          repeat ((first | refine ⟨zH_of _, ?_⟩ | refine ⟨trivial, ?_⟩ | refine ⟨rfl, ?_⟩ | refine ⟨fun hc => absurd hc (by decide), fun _ => ?_⟩ | refine ⟨fun _ => ?_, fun hc => absurd (by decide) hc⟩ | refine ⟨fun _ => ?_, fun hc => absurd hc (by decide)⟩ | refine ⟨fun hc => absurd (by decide) hc, fun _ => ?_⟩); conv => whnf)
          try dsimp only
          rw [nI_add]
          exact hn hle
        · have ih := ih hc
          have cols := up_ind (P := fun j => fb_ct f (i * 40 + j) ≤ e → Jm 24 [some (.ref 45), some (.int (nI k)), some (.int (nI (e - fb_ct f (i * 40 + j)))), some (.int (nI t)), some (.int (nI i)), some (.int (nI j))] [] (GC ++ (GM ++ r), wi, wl) 0 0) c (fun j hj ihj => by
            intro hle
            refine hs 400 24 _ _ _ _ _ ?_
            conv => whnf
            repeat ((first | refine ⟨zH_of _, ?_⟩ | refine ⟨trivial, ?_⟩ | refine ⟨rfl, ?_⟩ | refine ⟨fun hc => absurd hc (by decide), fun _ => ?_⟩ | refine ⟨fun _ => ?_, fun hc => absurd (by decide) hc⟩ | refine ⟨fun _ => ?_, fun hc => absurd hc (by decide)⟩ | refine ⟨fun hc => absurd (by decide) hc, fun _ => ?_⟩); conv => whnf)
            try dsimp only
            rw [ms_c hS, ltN (by omega) (by omega)]
            refine ⟨fun hc2 => ?_, fun hc2 => ?_⟩
            · obtain hjc : j = c := by omega
              have em : fb_ct f ((i + 1) * 40) = fb_ct f (i * 40 + j) := ct_more (by omega) (fun m h1 h2 => pfar m (Or.inr (by omega)))
              rw [em] at ih
              have ih := ih hle
              conv => whnf
              repeat ((first | refine ⟨zH_of _, ?_⟩ | refine ⟨trivial, ?_⟩ | refine ⟨rfl, ?_⟩ | refine ⟨fun hc => absurd hc (by decide), fun _ => ?_⟩ | refine ⟨fun _ => ?_, fun hc => absurd (by decide) hc⟩ | refine ⟨fun _ => ?_, fun hc => absurd hc (by decide)⟩ | refine ⟨fun hc => absurd (by decide) hc, fun _ => ?_⟩); conv => whnf)
              try dsimp only
              rw [nI_add]
              exact ih
            · have ihj := ihj hc2
              have pa := pat i j (by omega)
              rw [decide_eq_true hc, decide_eq_true hc2] at pa
              have l3 := likeN_lt q (A (3 * i + t)) (A (3 * j + t))
              conv => whnf
              repeat ((first | refine ⟨zH_of _, ?_⟩ | refine ⟨trivial, ?_⟩ | refine ⟨rfl, ?_⟩ | refine ⟨fun hc => absurd hc (by decide), fun _ => ?_⟩ | refine ⟨fun _ => ?_, fun hc => absurd (by decide) hc⟩ | refine ⟨fun _ => ?_, fun hc => absurd hc (by decide)⟩ | refine ⟨fun hc => absurd (by decide) hc, fun _ => ?_⟩); conv => whnf)
              try dsimp only
              rw [nI_eq (by omega) (by omega)]
              refine ⟨fun hij => ?_, fun hij => ?_⟩
              · rw [← Nat.add_assoc, ct_f (by rw [pa]; simp [hij])] at ihj
                have ihj := ihj hle
                conv => whnf
                repeat ((first | refine ⟨zH_of _, ?_⟩ | refine ⟨trivial, ?_⟩ | refine ⟨rfl, ?_⟩ | refine ⟨fun hc => absurd hc (by decide), fun _ => ?_⟩ | refine ⟨fun _ => ?_, fun hc => absurd (by decide) hc⟩ | refine ⟨fun _ => ?_, fun hc => absurd hc (by decide)⟩ | refine ⟨fun hc => absurd (by decide) hc, fun _ => ?_⟩); conv => whnf)
                try dsimp only
                rw [nI_add]
                exact ihj
              · conv => whnf
                repeat ((first | refine ⟨zH_of _, ?_⟩ | refine ⟨trivial, ?_⟩ | refine ⟨rfl, ?_⟩ | refine ⟨fun hc => absurd hc (by decide), fun _ => ?_⟩ | refine ⟨fun _ => ?_, fun hc => absurd (by decide) hc⟩ | refine ⟨fun _ => ?_, fun hc => absurd hc (by decide)⟩ | refine ⟨fun hc => absurd (by decide) hc, fun _ => ?_⟩); conv => whnf)
                try dsimp only
                refine ⟨d, q, c, A, i, j, t, hS, rfl, hc, rfl, hc2, rfl, ht, ?_⟩
                conv => whnf
                repeat ((first | refine ⟨zH_of _, ?_⟩ | refine ⟨trivial, ?_⟩ | refine ⟨rfl, ?_⟩ | refine ⟨fun hc => absurd hc (by decide), fun _ => ?_⟩ | refine ⟨fun _ => ?_, fun hc => absurd (by decide) hc⟩ | refine ⟨fun _ => ?_, fun hc => absurd hc (by decide)⟩ | refine ⟨fun hc => absurd (by decide) hc, fun _ => ?_⟩); conv => whnf)
                try dsimp only
                rw [eq0N (by omega)]
                refine ⟨fun hz => ?_, fun hz => ?_⟩
                · have ft : f (i * 40 + j) = true := by rw [pa]; simp [hij, lkB, hz]
                  conv => whnf
                  repeat ((first | refine ⟨zH_of _, ?_⟩ | refine ⟨trivial, ?_⟩ | refine ⟨rfl, ?_⟩ | refine ⟨fun hc => absurd hc (by decide), fun _ => ?_⟩ | refine ⟨fun _ => ?_, fun hc => absurd (by decide) hc⟩ | refine ⟨fun _ => ?_, fun hc => absurd hc (by decide)⟩ | refine ⟨fun hc => absurd (by decide) hc, fun _ => ?_⟩); conv => whnf)
                  try dsimp only
                  rw [eq0N (by omega)]
                  refine ⟨fun hr => ?_, fun hr => ?_⟩
                  · have e1 := ct_t ft
                    rw [← Nat.add_assoc, e1] at ihj
                    have ihj := ihj (by omega)
                    conv => whnf
                    repeat ((first | refine ⟨zH_of _, ?_⟩ | refine ⟨trivial, ?_⟩ | refine ⟨rfl, ?_⟩ | refine ⟨fun hc => absurd hc (by decide), fun _ => ?_⟩ | refine ⟨fun _ => ?_, fun hc => absurd (by decide) hc⟩ | refine ⟨fun _ => ?_, fun hc => absurd hc (by decide)⟩ | refine ⟨fun hc => absurd (by decide) hc, fun _ => ?_⟩); conv => whnf)
                    try dsimp only
                    rw [pk_sub (by omega), nI_add, show e - fb_ct f (i * 40 + j) - 1 = e - (fb_ct f (i * 40 + j) + 1) by omega]
                    exact ihj
                  · have er : fb_ct f (i * 40 + j) = e := by omega
                    have e1 := ct_t ft
                    have e2 := ct_up (f := f) (show i * 40 + j + 1 ≤ 1600 by omega)
                    have ek := kt_at (show i * 40 + j < 1600 by omega) ft
                    rw [er] at ek
                    rw [hd (by omega), hkt e, ek, show (i * 40 + j) / 40 = i by omega, show (i * 40 + j) % 40 = j by omega] at h
                    conv => whnf
                    repeat ((first | refine ⟨zH_of _, ?_⟩ | refine ⟨trivial, ?_⟩ | refine ⟨rfl, ?_⟩ | refine ⟨fun hc => absurd hc (by decide), fun _ => ?_⟩ | refine ⟨fun _ => ?_, fun hc => absurd (by decide) hc⟩ | refine ⟨fun _ => ?_, fun hc => absurd hc (by decide)⟩ | refine ⟨fun hc => absurd (by decide) hc, fun _ => ?_⟩); conv => whnf)
                    try dsimp only
                    refine ⟨d, q, c, A, i, j, t, hS, rfl, hc, rfl, hc2, hij, rfl, ht, fun wi1 hF1 hS1 => ?_⟩
                    exact h wi1 hF1 hS1
                · rw [← Nat.add_assoc, ct_f (by rw [pa]; simp [lkB, hz])] at ihj
                  have ihj := ihj hle
                  conv => whnf
                  repeat ((first | refine ⟨zH_of _, ?_⟩ | refine ⟨trivial, ?_⟩ | refine ⟨rfl, ?_⟩ | refine ⟨fun hc => absurd hc (by decide), fun _ => ?_⟩ | refine ⟨fun _ => ?_, fun hc => absurd (by decide) hc⟩ | refine ⟨fun _ => ?_, fun hc => absurd hc (by decide)⟩ | refine ⟨fun hc => absurd (by decide) hc, fun _ => ?_⟩); conv => whnf)
                  try dsimp only
                  rw [nI_add]
                  exact ihj)
          conv => whnf
          repeat ((first | refine ⟨zH_of _, ?_⟩ | refine ⟨trivial, ?_⟩ | refine ⟨rfl, ?_⟩ | refine ⟨fun hc => absurd hc (by decide), fun _ => ?_⟩ | refine ⟨fun _ => ?_, fun hc => absurd (by decide) hc⟩ | refine ⟨fun _ => ?_, fun hc => absurd hc (by decide)⟩ | refine ⟨fun hc => absurd (by decide) hc, fun _ => ?_⟩); conv => whnf)
          try dsimp only
          exact cols 0 (Nat.zero_le _) hle)
      refine hs 400 4 _ _ _ _ _ ?_
      conv => whnf
      repeat ((first | refine ⟨zH_of _, ?_⟩ | refine ⟨trivial, ?_⟩ | refine ⟨rfl, ?_⟩ | refine ⟨fun hc => absurd hc (by decide), fun _ => ?_⟩ | refine ⟨fun _ => ?_, fun hc => absurd (by decide) hc⟩ | refine ⟨fun _ => ?_, fun hc => absurd hc (by decide)⟩ | refine ⟨fun hc => absurd (by decide) hc, fun _ => ?_⟩); conv => whnf)
      try dsimp only
      rw [ltN (by omega) (by omega)]
      refine ⟨fun z => absurd ht z, fun _ => ?_⟩
      conv => whnf
      repeat ((first | refine ⟨zH_of _, ?_⟩ | refine ⟨trivial, ?_⟩ | refine ⟨rfl, ?_⟩ | refine ⟨fun hc => absurd hc (by decide), fun _ => ?_⟩ | refine ⟨fun _ => ?_, fun hc => absurd (by decide) hc⟩ | refine ⟨fun _ => ?_, fun hc => absurd hc (by decide)⟩ | refine ⟨fun hc => absurd (by decide) hc, fun _ => ?_⟩); conv => whnf)
      try dsimp only
      exact rows 0 (Nat.zero_le _) (Nat.zero_le _)
    unfold dfA at table
    refine hs 400 0 _ _ _ _ _ ?_
    refine table 0 k (by decide) (by omega) (fun g => if_pos g) (fun g0 => ?_)
    refine table 1 _ (by decide) (by omega) (fun g => by rw [if_neg (by omega), if_pos (by omega)]) (fun g1 => ?_)
    refine table 2 _ (by decide) (by omega) (fun g => by rw [if_neg (by omega), if_neg (by omega)]) (fun g2 => ?_)
    omega

