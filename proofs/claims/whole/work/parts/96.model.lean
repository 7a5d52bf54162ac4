/-! the reference: counts; the row -/
def uwB (q : Nat) (A : Nat → Nat → Nat) (t i k : Nat) : Bool := !zB (A (3 * i + t)) && decide (∀ j : Nat, j < k → lkB q A t i j = false)
theorem uw_s {q : Nat} {A : Nat → Nat → Nat} {t i k : Nat} : uwB q A t i (k + 1) = true ↔ uwB q A t i k = true ∧ lkB q A t i k = false := by
  unfold uwB
  rw [Bool.and_eq_true, Bool.and_eq_true, decide_eq_true_iff, decide_eq_true_iff]
  constructor
  · rintro ⟨h1, h2⟩
    exact ⟨⟨h1, fun j hj => h2 j (by omega)⟩, h2 k (by omega)⟩
  · rintro ⟨⟨h1, h2⟩, h3⟩
    refine ⟨h1, fun j hj => ?_⟩
    rcases Nat.lt_or_ge j k with g | g
    · exact h2 j g
    · rw [show j = k by omega]
      exact h3
def sp_X12_unlikeAt : zSp := fun av w K => match av with
  | [.ref o, .int t] => o = 45 ∧ zH w.1 ∧ ∃ d q c A t', MS w.2.1 d q c A ∧ t = nI t' ∧ t' < 3 ∧ K (some (.int (nI (fb_ct (ulB q A t') c)))) w
  | _ => False
def rm_X12_unlikeAt : Room := { frames := 3, cells := 0, slots := 0, locals := 72 }
def M_X12_unlikeAt : zM := (k_X12_unlikeAt, f_X12, [(107, 0, 0, 3, 0, 0, sp_X12_at), (209, 0, 0, 2, 0, 0, sp_X12_isZero), (217, 4, 10, 4, 0, 0, sp_X12_likeAt)], ([], [], []), [], [(4, [true, true, true, true, false, false]), (38, [true, true, true, true, true, true]), (73, [true, true, true, true, true, false])], 1, false, (false, 0, fun _ => 0), (0, 0))
theorem ca_X12_unlikeAt_0 (l : Launch) : z_cok l RX12 (headSpec (.code yX12_unlikeAt cX12_unlikeAt 6 (some .int) :: zTT) rm_X12_unlikeAt).room (107, 0, 0, 3, 0, 0, sp_X12_at) := z_ca0 (c_X12_at l) mb_X12_at wt_1136 wt_1137 (by decide)
theorem ca_X12_unlikeAt_1 (l : Launch) : z_cok l RX12 (headSpec (.code yX12_unlikeAt cX12_unlikeAt 6 (some .int) :: zTT) rm_X12_unlikeAt).room (209, 0, 0, 2, 0, 0, sp_X12_isZero) := z_ca0 (c_X12_isZero l) mb_X12_isZero wt_1412 wt_1413 (by decide)
theorem ca_X12_unlikeAt_2 (l : Launch) : z_cok l RX12 (headSpec (.code yX12_unlikeAt cX12_unlikeAt 6 (some .int) :: zTT) rm_X12_unlikeAt).room (217, 4, 10, 4, 0, 0, sp_X12_likeAt) := z_ca4 (c_X12_likeAt l) mb_X12_likeAt ⟨_, rfl, rfl⟩ wt_1404 wt_1406 wt_53 (by decide)
theorem O_X12_unlikeAt (l : Launch) : z_OK l RX12 cX12_unlikeAt (headSpec (.code yX12_unlikeAt cX12_unlikeAt 6 (some .int) :: zTT) rm_X12_unlikeAt).room M_X12_unlikeAt := ⟨ok_X12_unlikeAt, fo_X12, List.forall_mem_cons.mpr ⟨ca_X12_unlikeAt_0 l, List.forall_mem_cons.mpr ⟨ca_X12_unlikeAt_1 l, List.forall_mem_cons.mpr ⟨ca_X12_unlikeAt_2 l, fun _ h => absurd h List.not_mem_nil⟩⟩⟩, fun _ h => absurd h List.not_mem_nil, fun _ h => absurd h List.not_mem_nil, fun _ h => absurd h List.not_mem_nil, fun _ h => absurd h List.not_mem_nil, rfl, rfl⟩
theorem c_X12_unlikeAt (l : Launch) : z_CS l yX12_unlikeAt cX12_unlikeAt 6 (some .int) rm_X12_unlikeAt sp_X12_unlikeAt := by
  refine z_meth (by decide) (Or.inr (Or.inl ⟨rfl, rfl⟩)) (fun h => by cases h) rfl (O_X12_unlikeAt l) ?_
  intro av w K h
  match av, h with
  | [.ref o, .int t], h =>
    obtain ⟨rfl, ⟨r, hG⟩, d, q, c, A, t', hS, rfl, ht, h⟩ := h
    obtain ⟨G, wi, wl⟩ := w
    subst hG
    try dsimp only at h hS
    have h40 := ms_40 hS
    have q23 := ms_q23 hS
    have cl := fb_ct_le (ulB q A t')
    refine ⟨Nat.le_of_ble_eq_true rfl, fun Jm hs => ?_⟩
    have loop := up_ind (P := fun i => Jm 4 [some (.ref 45), some (.int (nI t')), some (.int (nI (fb_ct (ulB q A t') i))), some (.int (nI i)), none, none] [] (GC ++ (GM ++ r), wi, wl) 0 0) c (fun i hi ih => by
      refine hs 400 4 _ _ _ _ _ ?_
      conv => whnf
      repeat ((first | refine ⟨zH_of _, ?_⟩ | refine ⟨trivial, ?_⟩ | refine ⟨rfl, ?_⟩ | refine ⟨fun hc => absurd hc (by decide), fun _ => ?_⟩ | refine ⟨fun _ => ?_, fun hc => absurd (by decide) hc⟩ | refine ⟨fun _ => ?_, fun hc => absurd hc (by decide)⟩ | refine ⟨fun hc => absurd (by decide) hc, fun _ => ?_⟩); conv => whnf)
      try dsimp only
      rw [ms_c hS, ltN (by omega) (by omega)]
      refine ⟨fun hc => ?_, fun hc => ?_⟩
      · obtain rfl : i = c := by omega
        conv => whnf
        repeat ((first | refine ⟨zH_of _, ?_⟩ | refine ⟨trivial, ?_⟩ | refine ⟨rfl, ?_⟩ | refine ⟨fun hc => absurd hc (by decide), fun _ => ?_⟩ | refine ⟨fun _ => ?_, fun hc => absurd (by decide) hc⟩ | refine ⟨fun _ => ?_, fun hc => absurd hc (by decide)⟩ | refine ⟨fun hc => absurd (by decide) hc, fun _ => ?_⟩); conv => whnf)
        try dsimp only
        exact h
      · have ih := ih hc
        have ai := ms_A hS (3 * i + t') (by omega)
        have t73 : Jm 73 [some (.ref 45), some (.int (nI t')), some (.int (nI (fb_ct (ulB q A t') i))), some (.int (nI i)), some (.int (bI (uwB q A t' i i = true))), none] [] (GC ++ (GM ++ r), wi, wl) 0 0 := by
          refine hs 400 73 _ _ _ _ _ ?_
          conv => whnf
          repeat ((first | refine ⟨zH_of _, ?_⟩ | refine ⟨trivial, ?_⟩ | refine ⟨rfl, ?_⟩ | refine ⟨fun hc => absurd hc (by decide), fun _ => ?_⟩ | refine ⟨fun _ => ?_, fun hc => absurd (by decide) hc⟩ | refine ⟨fun _ => ?_, fun hc => absurd hc (by decide)⟩ | refine ⟨fun hc => absurd (by decide) hc, fun _ => ?_⟩); conv => whnf)
          try dsimp only
          rw [bI_0]
          refine ⟨fun hz => ?_, fun hz => ?_⟩
          · rw [ct_f (f := ulB q A t') (n := i) hz] at ih
            conv => whnf
            repeat ((first | refine ⟨zH_of _, ?_⟩ | refine ⟨trivial, ?_⟩ | refine ⟨rfl, ?_⟩ | refine ⟨fun hc => absurd hc (by decide), fun _ => ?_⟩ | refine ⟨fun _ => ?_, fun hc => absurd (by decide) hc⟩ | refine ⟨fun _ => ?_, fun hc => absurd hc (by decide)⟩ | refine ⟨fun hc => absurd (by decide) hc, fun _ => ?_⟩); conv => whnf)
            try dsimp only
            rw [nI_add, nI_add]
            exact ih
          · rw [ct_t (f := ulB q A t') (n := i) (Classical.not_not.mp hz)] at ih
            conv => whnf
            repeat ((first | refine ⟨zH_of _, ?_⟩ | refine ⟨trivial, ?_⟩ | refine ⟨rfl, ?_⟩ | refine ⟨fun hc => absurd hc (by decide), fun _ => ?_⟩ | refine ⟨fun _ => ?_, fun hc => absurd (by decide) hc⟩ | refine ⟨fun _ => ?_, fun hc => absurd hc (by decide)⟩ | refine ⟨fun hc => absurd (by decide) hc, fun _ => ?_⟩); conv => whnf)
            try dsimp only
            rw [nI_add, nI_add]
            exact ih
        have inner := up_ind (P := fun k => Jm 38 [some (.ref 45), some (.int (nI t')), some (.int (nI (fb_ct (ulB q A t') i))), some (.int (nI i)), some (.int (bI (uwB q A t' i k = true))), some (.int (nI k))] [] (GC ++ (GM ++ r), wi, wl) 0 0) i (fun k hk ihk => by
          refine hs 400 38 _ _ _ _ _ ?_
          conv => whnf
          repeat ((first | refine ⟨zH_of _, ?_⟩ | refine ⟨trivial, ?_⟩ | refine ⟨rfl, ?_⟩ | refine ⟨fun hc => absurd hc (by decide), fun _ => ?_⟩ | refine ⟨fun _ => ?_, fun hc => absurd (by decide) hc⟩ | refine ⟨fun _ => ?_, fun hc => absurd hc (by decide)⟩ | refine ⟨fun hc => absurd (by decide) hc, fun _ => ?_⟩); conv => whnf)
          try dsimp only
          rw [ltN (by omega) (by omega)]
          refine ⟨fun hc2 => ?_, fun hc2 => ?_⟩
          · obtain hki : k = i := by omega
            rw [hki]
            conv => whnf
            repeat ((first | refine ⟨zH_of _, ?_⟩ | refine ⟨trivial, ?_⟩ | refine ⟨rfl, ?_⟩ | refine ⟨fun hc => absurd hc (by decide), fun _ => ?_⟩ | refine ⟨fun _ => ?_, fun hc => absurd (by decide) hc⟩ | refine ⟨fun _ => ?_, fun hc => absurd hc (by decide)⟩ | refine ⟨fun hc => absurd (by decide) hc, fun _ => ?_⟩); conv => whnf)
            try dsimp only
            exact t73
          · have ihk := ihk hc2
            conv => whnf
            repeat ((first | refine ⟨zH_of _, ?_⟩ | refine ⟨trivial, ?_⟩ | refine ⟨rfl, ?_⟩ | refine ⟨fun hc => absurd hc (by decide), fun _ => ?_⟩ | refine ⟨fun _ => ?_, fun hc => absurd (by decide) hc⟩ | refine ⟨fun _ => ?_, fun hc => absurd hc (by decide)⟩ | refine ⟨fun hc => absurd (by decide) hc, fun _ => ?_⟩); conv => whnf)
            try dsimp only
            rw [bI_0]
            refine ⟨fun hz => ?_, fun hz => ?_⟩
            · have e : ¬ uwB q A t' i i = true := fun z => hz (by
                have m : ∀ n, k + n ≤ i → uwB q A t' i (k + n) = true → uwB q A t' i k = true := fun n => by
                  induction n with
                  | zero => exact fun _ z => z
                  | succ n ihn => exact fun g z => ihn (by omega) (uw_s.mp z).1
                exact m (i - k) (by omega) (by rw [show k + (i - k) = i by omega]; exact z))
              rw [bI_f e] at t73
              rw [bI_f hz]
              conv => whnf
              repeat ((first | refine ⟨zH_of _, ?_⟩ | refine ⟨trivial, ?_⟩ | refine ⟨rfl, ?_⟩ | refine ⟨fun hc => absurd hc (by decide), fun _ => ?_⟩ | refine ⟨fun _ => ?_, fun hc => absurd (by decide) hc⟩ | refine ⟨fun _ => ?_, fun hc => absurd hc (by decide)⟩ | refine ⟨fun hc => absurd (by decide) hc, fun _ => ?_⟩); conv => whnf)
              try dsimp only
              exact t73
            · have hz := Classical.not_not.mp hz
              have l3 := likeN_lt q (A (3 * k + t')) (A (3 * i + t'))
              have ls := like_sym q23 ai (ms_A hS (3 * k + t') (by omega))
              conv => whnf
              repeat ((first | refine ⟨zH_of _, ?_⟩ | refine ⟨trivial, ?_⟩ | refine ⟨rfl, ?_⟩ | refine ⟨fun hc => absurd hc (by decide), fun _ => ?_⟩ | refine ⟨fun _ => ?_, fun hc => absurd (by decide) hc⟩ | refine ⟨fun _ => ?_, fun hc => absurd hc (by decide)⟩ | refine ⟨fun hc => absurd (by decide) hc, fun _ => ?_⟩); conv => whnf)
              try dsimp only
              refine ⟨d, q, c, A, k, i, t', hS, rfl, by omega, rfl, hc, rfl, ht, ?_⟩
              conv => whnf
              repeat ((first | refine ⟨zH_of _, ?_⟩ | refine ⟨trivial, ?_⟩ | refine ⟨rfl, ?_⟩ | refine ⟨fun hc => absurd hc (by decide), fun _ => ?_⟩ | refine ⟨fun _ => ?_, fun hc => absurd (by decide) hc⟩ | refine ⟨fun _ => ?_, fun hc => absurd hc (by decide)⟩ | refine ⟨fun hc => absurd (by decide) hc, fun _ => ?_⟩); conv => whnf)
              try dsimp only
              rw [eq0N (by omega)]
              refine ⟨fun hl => ?_, fun hl => ?_⟩
              · rw [bI_f (fun z => by
                  have := (uw_s.mp z).2
                  rw [lkB_n.mpr (by rw [ls]; exact hl)] at this
                  cases this)] at ihk
                conv => whnf
                repeat ((first | refine ⟨zH_of _, ?_⟩ | refine ⟨trivial, ?_⟩ | refine ⟨rfl, ?_⟩ | refine ⟨fun hc => absurd hc (by decide), fun _ => ?_⟩ | refine ⟨fun _ => ?_, fun hc => absurd (by decide) hc⟩ | refine ⟨fun _ => ?_, fun hc => absurd hc (by decide)⟩ | refine ⟨fun hc => absurd (by decide) hc, fun _ => ?_⟩); conv => whnf)
                try dsimp only
                rw [nI_add]
                exact ihk
              · rw [bI_t (uw_s.mpr ⟨hz, by
                  cases g : lkB q A t' i k with
                  | false => rfl
                  | true => exact absurd hl (by rw [← ls]; exact lkB_n.mp g)⟩)] at ihk
                conv => whnf
                repeat ((first | refine ⟨zH_of _, ?_⟩ | refine ⟨trivial, ?_⟩ | refine ⟨rfl, ?_⟩ | refine ⟨fun hc => absurd hc (by decide), fun _ => ?_⟩ | refine ⟨fun _ => ?_, fun hc => absurd (by decide) hc⟩ | refine ⟨fun _ => ?_, fun hc => absurd hc (by decide)⟩ | refine ⟨fun hc => absurd (by decide) hc, fun _ => ?_⟩); conv => whnf)
                try dsimp only
                rw [nI_add]
                exact ihk)
        have l0 := inner 0 (Nat.zero_le _)
        have u0 : uwB q A t' i 0 = true ↔ ¬ zB (A (3 * i + t')) = true := by
          unfold uwB
          simp
        conv => whnf
        repeat ((first | refine ⟨zH_of _, ?_⟩ | refine ⟨trivial, ?_⟩ | refine ⟨rfl, ?_⟩ | refine ⟨fun hc => absurd hc (by decide), fun _ => ?_⟩ | refine ⟨fun _ => ?_, fun hc => absurd (by decide) hc⟩ | refine ⟨fun _ => ?_, fun hc => absurd hc (by decide)⟩ | refine ⟨fun hc => absurd (by decide) hc, fun _ => ?_⟩); conv => whnf)
        try dsimp only
        rw [at_N]
        refine ⟨Or.inl rfl, zH_of _, 27 * i + 9 * t' + 0, A (3 * i + t'), rw_ra (ms_f hS) hc ht, lt3_of q23 ai, rfl, ?_, ?_⟩
        · show 27 * i + 9 * t' + 0 + 9 ≤ 1080
          omega
        conv => whnf
        repeat ((first | refine ⟨zH_of _, ?_⟩ | refine ⟨trivial, ?_⟩ | refine ⟨rfl, ?_⟩ | refine ⟨fun hc => absurd hc (by decide), fun _ => ?_⟩ | refine ⟨fun _ => ?_, fun hc => absurd (by decide) hc⟩ | refine ⟨fun _ => ?_, fun hc => absurd hc (by decide)⟩ | refine ⟨fun hc => absurd (by decide) hc, fun _ => ?_⟩); conv => whnf)
        try dsimp only
        rw [bI_0, Classical.not_not]
        refine ⟨fun hz => ?_, fun hz => ?_⟩
        · rw [bI_f (fun z => u0.mp z hz)] at l0
          conv => whnf
          repeat ((first | refine ⟨zH_of _, ?_⟩ | refine ⟨trivial, ?_⟩ | refine ⟨rfl, ?_⟩ | refine ⟨fun hc => absurd hc (by decide), fun _ => ?_⟩ | refine ⟨fun _ => ?_, fun hc => absurd (by decide) hc⟩ | refine ⟨fun _ => ?_, fun hc => absurd hc (by decide)⟩ | refine ⟨fun hc => absurd (by decide) hc, fun _ => ?_⟩); conv => whnf)
          try dsimp only
          exact l0
        · rw [bI_t (u0.mpr hz)] at l0
          conv => whnf
          repeat ((first | refine ⟨zH_of _, ?_⟩ | refine ⟨trivial, ?_⟩ | refine ⟨rfl, ?_⟩ | refine ⟨fun hc => absurd hc (by decide), fun _ => ?_⟩ | refine ⟨fun _ => ?_, fun hc => absurd (by decide) hc⟩ | refine ⟨fun _ => ?_, fun hc => absurd hc (by decide)⟩ | refine ⟨fun hc => absurd (by decide) hc, fun _ => ?_⟩); conv => whnf)
          try dsimp only
          exact l0)
    exact hs 400 0 _ _ _ _ _ (loop 0 (Nat.zero_le _))
theorem fa_sm (A : Nat → Nat → Nat) : ∀ m, fb_ct (fun j => fl A j != 0) (9 * m) = fb_sm (nzS A) m
  | 0 => rfl
  | m + 1 => by
    rw [show 9 * (m + 1) = 9 * m + 9 by omega, fb_ct_split, fa_sm A m]
    show _ = fb_sm (nzS A) m + nzS A m
    congr 1
    exact fb_ct_cong (fun k hk => by
      unfold fl
      rw [show (9 * m + k) / 9 = m by omega, show (9 * m + k) % 9 = k by omega])
def sp_X12_fullAll : zSp := fun av w K => match av with
  | [.ref o] => o = 45 ∧ zH w.1 ∧ ∃ d q c A, MS w.2.1 d q c A ∧ K (some (.int (nI (fb_sm (nzS A) (3 * c))))) w
  | _ => False
def rm_X12_fullAll : Room := { frames := 0, cells := 0, slots := 0, locals := 0 }
def M_X12_fullAll : zM := (k_X12_fullAll, f_X12, [], ([], [], []), [], [(4, [true, true, true])], 1, false, (false, 0, fun _ => 0), (0, 0))
theorem O_X12_fullAll (l : Launch) : z_OK l RX12 cX12_fullAll (headSpec (.code yX12_fullAll cX12_fullAll 3 (some .int) :: zTT) rm_X12_fullAll).room M_X12_fullAll := ⟨ok_X12_fullAll, fo_X12, fun _ h => absurd h List.not_mem_nil, fun _ h => absurd h List.not_mem_nil, fun _ h => absurd h List.not_mem_nil, fun _ h => absurd h List.not_mem_nil, fun _ h => absurd h List.not_mem_nil, rfl, rfl⟩
theorem c_X12_fullAll (l : Launch) : z_CS l yX12_fullAll cX12_fullAll 3 (some .int) rm_X12_fullAll sp_X12_fullAll := by
  refine z_meth (by decide) (Or.inr (Or.inl ⟨rfl, rfl⟩)) (fun h => by cases h) rfl (O_X12_fullAll l) ?_
  intro av w K h
  match av, h with
  | [.ref o], h =>
    obtain ⟨rfl, ⟨r, hG⟩, d, q, c, A, hS, h⟩ := h
    obtain ⟨G, wi, wl⟩ := w
    subst hG
    try dsimp only at h hS
    have h40 := ms_40 hS
    rw [← fa_sm, show 9 * (3 * c) = 27 * c by omega] at h
    have cl := fb_ct_le (fun j => fl A j != 0)
    refine ⟨Nat.le_of_ble_eq_true rfl, fun Jm hs => ?_⟩
    have loop := up_ind (P := fun i => Jm 4 [some (.ref 45), some (.int (nI (fb_ct (fun j => fl A j != 0) i))), some (.int (nI i))] [] (GC ++ (GM ++ r), wi, wl) 0 0) (27 * c) (fun i hi ih => by
      refine hs 400 4 _ _ _ _ _ ?_
      conv => whnf
      repeat ((first | refine ⟨zH_of _, ?_⟩ | refine ⟨trivial, ?_⟩ | refine ⟨rfl, ?_⟩ | refine ⟨fun hc => absurd hc (by decide), fun _ => ?_⟩ | refine ⟨fun _ => ?_, fun hc => absurd (by decide) hc⟩ | refine ⟨fun _ => ?_, fun hc => absurd hc (by decide)⟩ | refine ⟨fun hc => absurd (by decide) hc, fun _ => ?_⟩); conv => whnf)
      try dsimp only
      rw [ms_c hS, pk_mul, ltN (by omega) (by omega)]
      refine ⟨fun hc => ?_, fun hc => ?_⟩
      · obtain rfl : i = 27 * c := by omega
        conv => whnf
        repeat ((first | refine ⟨zH_of _, ?_⟩ | refine ⟨trivial, ?_⟩ | refine ⟨rfl, ?_⟩ | refine ⟨fun hc => absurd hc (by decide), fun _ => ?_⟩ | refine ⟨fun _ => ?_, fun hc => absurd (by decide) hc⟩ | refine ⟨fun _ => ?_, fun hc => absurd hc (by decide)⟩ | refine ⟨fun hc => absurd (by decide) hc, fun _ => ?_⟩); conv => whnf)
        try dsimp only
        exact h
      · have ih := ih hc
        have x := ms_A3 hS (i / 9) (by omega) (i % 9) (Nat.mod_lt _ (by decide))
        have e : fl A i = A (i / 9) (i % 9) := rfl
        conv => whnf
        repeat ((first | refine ⟨zH_of _, ?_⟩ | refine ⟨trivial, ?_⟩ | refine ⟨rfl, ?_⟩ | refine ⟨fun hc => absurd hc (by decide), fun _ => ?_⟩ | refine ⟨fun _ => ?_, fun hc => absurd (by decide) hc⟩ | refine ⟨fun _ => ?_, fun hc => absurd hc (by decide)⟩ | refine ⟨fun hc => absurd (by decide) hc, fun _ => ?_⟩); conv => whnf)
        try dsimp only
        refine ⟨vp_in_nI (show i < 1080 by omega) (by decide), ?_⟩
        conv => whnf
        repeat ((first | refine ⟨zH_of _, ?_⟩ | refine ⟨trivial, ?_⟩ | refine ⟨rfl, ?_⟩ | refine ⟨fun hc => absurd hc (by decide), fun _ => ?_⟩ | refine ⟨fun _ => ?_, fun hc => absurd (by decide) hc⟩ | refine ⟨fun _ => ?_, fun hc => absurd hc (by decide)⟩ | refine ⟨fun hc => absurd (by decide) hc, fun _ => ?_⟩); conv => whnf)
        try dsimp only
        rw [nI_clamp (by omega), ms_f hS i hc, eq0N (by omega)]
        refine ⟨fun hq => ?_, fun hq => ?_⟩
        · rw [ct_f (f := fun j => fl A j != 0) (n := i) (by simp [hq])] at ih
          conv => whnf
          repeat ((first | refine ⟨zH_of _, ?_⟩ | refine ⟨trivial, ?_⟩ | refine ⟨rfl, ?_⟩ | refine ⟨fun hc => absurd hc (by decide), fun _ => ?_⟩ | refine ⟨fun _ => ?_, fun hc => absurd (by decide) hc⟩ | refine ⟨fun _ => ?_, fun hc => absurd hc (by decide)⟩ | refine ⟨fun hc => absurd (by decide) hc, fun _ => ?_⟩); conv => whnf)
          try dsimp only
          rw [nI_add, nI_add]
          exact ih
        · rw [ct_t (f := fun j => fl A j != 0) (n := i) (by simpa using hq)] at ih
          conv => whnf
          repeat ((first | refine ⟨zH_of _, ?_⟩ | refine ⟨trivial, ?_⟩ | refine ⟨rfl, ?_⟩ | refine ⟨fun hc => absurd hc (by decide), fun _ => ?_⟩ | refine ⟨fun _ => ?_, fun hc => absurd (by decide) hc⟩ | refine ⟨fun _ => ?_, fun hc => absurd hc (by decide)⟩ | refine ⟨fun hc => absurd (by decide) hc, fun _ => ?_⟩); conv => whnf)
          try dsimp only
          rw [nI_add, nI_add]
          exact ih)
    exact hs 400 0 _ _ _ _ _ (loop 0 (Nat.zero_le _))
def sp_X12_singleMany : zSp := fun av w K => match av with
  | [.ref o] => o = 45 ∧ zH w.1 ∧ ∃ d q c A, MS w.2.1 d q c A ∧ K (some (.int (nI (fb_ct (sgB A) c)))) w
  | _ => False
def rm_X12_singleMany : Room := { frames := 2, cells := 0, slots := 0, locals := 46 }
def M_X12_singleMany : zM := (k_X12_singleMany, f_X12, [(202, 4, 10, 3, 0, 0, sp_X12_fullOf)], ([], [], []), [], [(4, [true, true, true])], 1, false, (false, 0, fun _ => 0), (0, 0))
theorem ca_X12_singleMany_0 (l : Launch) : z_cok l RX12 (headSpec (.code yX12_singleMany cX12_singleMany 3 (some .int) :: zTT) rm_X12_singleMany).room (202, 4, 10, 3, 0, 0, sp_X12_fullOf) := z_ca4 (c_X12_fullOf l) mb_X12_fullOf ⟨_, rfl, rfl⟩ wt_1393 wt_1395 wt_52 (by decide)
theorem O_X12_singleMany (l : Launch) : z_OK l RX12 cX12_singleMany (headSpec (.code yX12_singleMany cX12_singleMany 3 (some .int) :: zTT) rm_X12_singleMany).room M_X12_singleMany := ⟨ok_X12_singleMany, fo_X12, List.forall_mem_cons.mpr ⟨ca_X12_singleMany_0 l, fun _ h => absurd h List.not_mem_nil⟩, fun _ h => absurd h List.not_mem_nil, fun _ h => absurd h List.not_mem_nil, fun _ h => absurd h List.not_mem_nil, fun _ h => absurd h List.not_mem_nil, rfl, rfl⟩
theorem c_X12_singleMany (l : Launch) : z_CS l yX12_singleMany cX12_singleMany 3 (some .int) rm_X12_singleMany sp_X12_singleMany := by
  refine z_meth (by decide) (Or.inr (Or.inl ⟨rfl, rfl⟩)) (fun h => by cases h) rfl (O_X12_singleMany l) ?_
  intro av w K h
  match av, h with
  | [.ref o], h =>
    obtain ⟨rfl, ⟨r, hG⟩, d, q, c, A, hS, h⟩ := h
    obtain ⟨G, wi, wl⟩ := w
    subst hG
    try dsimp only at h hS
    have h40 := ms_40 hS
    have cl := fb_ct_le (sgB A)
    refine ⟨Nat.le_of_ble_eq_true rfl, fun Jm hs => ?_⟩
    have loop := up_ind (P := fun i => Jm 4 [some (.ref 45), some (.int (nI (fb_ct (sgB A) i))), some (.int (nI i))] [] (GC ++ (GM ++ r), wi, wl) 0 0) c (fun i hi ih => by
      refine hs 400 4 _ _ _ _ _ ?_
      conv => whnf
      repeat ((first | refine ⟨zH_of _, ?_⟩ | refine ⟨trivial, ?_⟩ | refine ⟨rfl, ?_⟩ | refine ⟨fun hc => absurd hc (by decide), fun _ => ?_⟩ | refine ⟨fun _ => ?_, fun hc => absurd (by decide) hc⟩ | refine ⟨fun _ => ?_, fun hc => absurd hc (by decide)⟩ | refine ⟨fun hc => absurd (by decide) hc, fun _ => ?_⟩); conv => whnf)
      try dsimp only
      rw [ms_c hS, ltN (by omega) (by omega)]
      refine ⟨fun hc => ?_, fun hc => ?_⟩
      · obtain rfl : i = c := by omega
        conv => whnf
        repeat ((first | refine ⟨zH_of _, ?_⟩ | refine ⟨trivial, ?_⟩ | refine ⟨rfl, ?_⟩ | refine ⟨fun hc => absurd hc (by decide), fun _ => ?_⟩ | refine ⟨fun _ => ?_, fun hc => absurd (by decide) hc⟩ | refine ⟨fun _ => ?_, fun hc => absurd hc (by decide)⟩ | refine ⟨fun hc => absurd (by decide) hc, fun _ => ?_⟩); conv => whnf)
        try dsimp only
        exact h
      · have ih := ih hc
        have n9 : ∀ a, nzc a ≤ 9 := fun a => fb_ct_le _ 9
        have x0 := n9 (A (3 * i + 0))
        have x1 := n9 (A (3 * i + 1))
        have x2 := n9 (A (3 * i + 2))
        have no : ¬ sgB A i = true → Jm 4 [some (.ref 45), some (.int (nI (fb_ct (sgB A) i))), some (.int (nI (i + 1)))] [] (GC ++ (GM ++ r), wi, wl) 0 0 := fun z => by
          rw [ct_f z] at ih
          exact ih
        have sg : sgB A i = true ↔ nzc (A (3 * i + 0)) = 1 ∧ nzc (A (3 * i + 1)) = 1 ∧ nzc (A (3 * i + 2)) = 1 := by
          unfold sgB
          rw [Bool.and_eq_true, Bool.and_eq_true, beq_iff_eq, beq_iff_eq, beq_iff_eq, Nat.add_zero]
          exact ⟨fun z => ⟨z.1.1, z.1.2, z.2⟩, fun z => ⟨⟨z.1, z.2.1⟩, z.2.2⟩⟩
        conv => whnf
        repeat ((first | refine ⟨zH_of _, ?_⟩ | refine ⟨trivial, ?_⟩ | refine ⟨rfl, ?_⟩ | refine ⟨fun hc => absurd hc (by decide), fun _ => ?_⟩ | refine ⟨fun _ => ?_, fun hc => absurd (by decide) hc⟩ | refine ⟨fun _ => ?_, fun hc => absurd hc (by decide)⟩ | refine ⟨fun hc => absurd (by decide) hc, fun _ => ?_⟩); conv => whnf)
        try dsimp only
        refine ⟨d, q, c, A, i, 0, hS, rfl, hc, rfl, by decide, ?_⟩
        conv => whnf
        repeat ((first | refine ⟨zH_of _, ?_⟩ | refine ⟨trivial, ?_⟩ | refine ⟨rfl, ?_⟩ | refine ⟨fun hc => absurd hc (by decide), fun _ => ?_⟩ | refine ⟨fun _ => ?_, fun hc => absurd (by decide) hc⟩ | refine ⟨fun _ => ?_, fun hc => absurd hc (by decide)⟩ | refine ⟨fun hc => absurd (by decide) hc, fun _ => ?_⟩); conv => whnf)
        try dsimp only
        rw [nI_eq (by omega) (by omega)]
        refine ⟨fun h0 => ?_, fun h0 => ?_⟩
        · conv => whnf
          repeat ((first | refine ⟨zH_of _, ?_⟩ | refine ⟨trivial, ?_⟩ | refine ⟨rfl, ?_⟩ | refine ⟨fun hc => absurd hc (by decide), fun _ => ?_⟩ | refine ⟨fun _ => ?_, fun hc => absurd (by decide) hc⟩ | refine ⟨fun _ => ?_, fun hc => absurd hc (by decide)⟩ | refine ⟨fun hc => absurd (by decide) hc, fun _ => ?_⟩); conv => whnf)
          try dsimp only
          rw [nI_add, nI_add]
          exact no (fun z => h0 (sg.mp z).1)
        conv => whnf
        repeat ((first | refine ⟨zH_of _, ?_⟩ | refine ⟨trivial, ?_⟩ | refine ⟨rfl, ?_⟩ | refine ⟨fun hc => absurd hc (by decide), fun _ => ?_⟩ | refine ⟨fun _ => ?_, fun hc => absurd (by decide) hc⟩ | refine ⟨fun _ => ?_, fun hc => absurd hc (by decide)⟩ | refine ⟨fun hc => absurd (by decide) hc, fun _ => ?_⟩); conv => whnf)
        try dsimp only
        refine ⟨d, q, c, A, i, 1, hS, rfl, hc, rfl, by decide, ?_⟩
        conv => whnf
        repeat ((first | refine ⟨zH_of _, ?_⟩ | refine ⟨trivial, ?_⟩ | refine ⟨rfl, ?_⟩ | refine ⟨fun hc => absurd hc (by decide), fun _ => ?_⟩ | refine ⟨fun _ => ?_, fun hc => absurd (by decide) hc⟩ | refine ⟨fun _ => ?_, fun hc => absurd hc (by decide)⟩ | refine ⟨fun hc => absurd (by decide) hc, fun _ => ?_⟩); conv => whnf)
        try dsimp only
        rw [nI_eq (by omega) (by omega)]
        refine ⟨fun h1 => ?_, fun h1 => ?_⟩
        · conv => whnf
          repeat ((first | refine ⟨zH_of _, ?_⟩ | refine ⟨trivial, ?_⟩ | refine ⟨rfl, ?_⟩ | refine ⟨fun hc => absurd hc (by decide), fun _ => ?_⟩ | refine ⟨fun _ => ?_, fun hc => absurd (by decide) hc⟩ | refine ⟨fun _ => ?_, fun hc => absurd hc (by decide)⟩ | refine ⟨fun hc => absurd (by decide) hc, fun _ => ?_⟩); conv => whnf)
          try dsimp only
          rw [nI_add, nI_add]
          exact no (fun z => h1 (sg.mp z).2.1)
        conv => whnf
        repeat ((first | refine ⟨zH_of _, ?_⟩ | refine ⟨trivial, ?_⟩ | refine ⟨rfl, ?_⟩ | refine ⟨fun hc => absurd hc (by decide), fun _ => ?_⟩ | refine ⟨fun _ => ?_, fun hc => absurd (by decide) hc⟩ | refine ⟨fun _ => ?_, fun hc => absurd hc (by decide)⟩ | refine ⟨fun hc => absurd (by decide) hc, fun _ => ?_⟩); conv => whnf)
        try dsimp only
        refine ⟨d, q, c, A, i, 2, hS, rfl, hc, rfl, by decide, ?_⟩
        conv => whnf
        repeat ((first | refine ⟨zH_of _, ?_⟩ | refine ⟨trivial, ?_⟩ | refine ⟨rfl, ?_⟩ | refine ⟨fun hc => absurd hc (by decide), fun _ => ?_⟩ | refine ⟨fun _ => ?_, fun hc => absurd (by decide) hc⟩ | refine ⟨fun _ => ?_, fun hc => absurd hc (by decide)⟩ | refine ⟨fun hc => absurd (by decide) hc, fun _ => ?_⟩); conv => whnf)
        try dsimp only
        rw [nI_eq (by omega) (by omega)]
        refine ⟨fun h2 => ?_, fun h2 => ?_⟩
        · conv => whnf
          repeat ((first | refine ⟨zH_of _, ?_⟩ | refine ⟨trivial, ?_⟩ | refine ⟨rfl, ?_⟩ | refine ⟨fun hc => absurd hc (by decide), fun _ => ?_⟩ | refine ⟨fun _ => ?_, fun hc => absurd (by decide) hc⟩ | refine ⟨fun _ => ?_, fun hc => absurd hc (by decide)⟩ | refine ⟨fun hc => absurd (by decide) hc, fun _ => ?_⟩); conv => whnf)
          try dsimp only
          rw [nI_add, nI_add]
          exact no (fun z => h2 (sg.mp z).2.2)
        rw [ct_t (sg.mpr ⟨h0, h1, h2⟩)] at ih
        conv => whnf
        repeat ((first | refine ⟨zH_of _, ?_⟩ | refine ⟨trivial, ?_⟩ | refine ⟨rfl, ?_⟩ | refine ⟨fun hc => absurd hc (by decide), fun _ => ?_⟩ | refine ⟨fun _ => ?_, fun hc => absurd (by decide) hc⟩ | refine ⟨fun _ => ?_, fun hc => absurd hc (by decide)⟩ | refine ⟨fun hc => absurd (by decide) hc, fun _ => ?_⟩); conv => whnf)
        try dsimp only
        rw [nI_add, nI_add]
        exact ih)
    exact hs 400 0 _ _ _ _ _ (loop 0 (Nat.zero_le _))
def sp_X12_thrown : zSp := fun av w K => match av with
  | [.ref o] => o = 45 ∧ zH w.1 ∧ K (some (.int (w.2.1 45 11))) w
  | _ => False
def rm_X12_thrown : Room := { frames := 0, cells := 0, slots := 0, locals := 0 }
def M_X12_thrown : zM := (k_X12_thrown, f_X12, [], ([], [], []), [], [], 1, false, (false, 0, fun _ => 0), (0, 0))
theorem O_X12_thrown (l : Launch) : z_OK l RX12 cX12_thrown (headSpec (.code yX12_thrown cX12_thrown 1 (some .int) :: zTT) rm_X12_thrown).room M_X12_thrown := ⟨ok_X12_thrown, fo_X12, fun _ h => absurd h List.not_mem_nil, fun _ h => absurd h List.not_mem_nil, fun _ h => absurd h List.not_mem_nil, fun _ h => absurd h List.not_mem_nil, fun _ h => absurd h List.not_mem_nil, rfl, rfl⟩
theorem c_X12_thrown (l : Launch) : z_CS l yX12_thrown cX12_thrown 1 (some .int) rm_X12_thrown sp_X12_thrown := by
  refine z_meth (by decide) (Or.inr (Or.inl ⟨rfl, rfl⟩)) (fun h => by cases h) rfl (O_X12_thrown l) ?_
  intro av w K h
  match av, h with
  | [.ref o], h =>
    obtain ⟨rfl, ⟨r, hG⟩, h⟩ := h
    obtain ⟨G, wi, wl⟩ := w
    subst hG
    try dsimp only at h
    refine ⟨Nat.le_of_ble_eq_true rfl, fun Jm hs => hs 400 0 _ _ _ _ _ ?_⟩
    conv => whnf
    repeat ((first | refine ⟨zH_of _, ?_⟩ | refine ⟨trivial, ?_⟩ | refine ⟨rfl, ?_⟩ | refine ⟨fun hc => absurd hc (by decide), fun _ => ?_⟩ | refine ⟨fun _ => ?_, fun hc => absurd (by decide) hc⟩ | refine ⟨fun _ => ?_, fun hc => absurd hc (by decide)⟩ | refine ⟨fun hc => absurd (by decide) hc, fun _ => ?_⟩); conv => whnf)
    try dsimp only
    exact h
def sp_X12_lost : zSp := fun av w K => match av with
  | [.ref o] => o = 45 ∧ zH w.1 ∧ K (some (.int (nI 0))) (w.1, z_up w.2.1 45 11 (nI 1), w.2.2)
  | _ => False
def rm_X12_lost : Room := { frames := 0, cells := 0, slots := 0, locals := 0 }
def M_X12_lost : zM := (k_X12_lost, f_X12, [], ([], [], []), [], [], 1, false, (false, 0, fun _ => 0), (0, 0))
theorem O_X12_lost (l : Launch) : z_OK l RX12 cX12_lost (headSpec (.code yX12_lost cX12_lost 1 (some .int) :: zTT) rm_X12_lost).room M_X12_lost := ⟨ok_X12_lost, fo_X12, fun _ h => absurd h List.not_mem_nil, fun _ h => absurd h List.not_mem_nil, fun _ h => absurd h List.not_mem_nil, fun _ h => absurd h List.not_mem_nil, fun _ h => absurd h List.not_mem_nil, rfl, rfl⟩
theorem c_X12_lost (l : Launch) : z_CS l yX12_lost cX12_lost 1 (some .int) rm_X12_lost sp_X12_lost := by
  refine z_meth (by decide) (Or.inr (Or.inl ⟨rfl, rfl⟩)) (fun h => by cases h) rfl (O_X12_lost l) ?_
  intro av w K h
  match av, h with
  | [.ref o], h =>
    obtain ⟨rfl, ⟨r, hG⟩, h⟩ := h
    obtain ⟨G, wi, wl⟩ := w
    subst hG
    try dsimp only at h
    refine ⟨Nat.le_of_ble_eq_true rfl, fun Jm hs => hs 400 0 _ _ _ _ _ ?_⟩
    conv => whnf
    repeat ((first | refine ⟨zH_of _, ?_⟩ | refine ⟨trivial, ?_⟩ | refine ⟨rfl, ?_⟩ | refine ⟨fun hc => absurd hc (by decide), fun _ => ?_⟩ | refine ⟨fun _ => ?_, fun hc => absurd (by decide) hc⟩ | refine ⟨fun _ => ?_, fun hc => absurd hc (by decide)⟩ | refine ⟨fun hc => absurd (by decide) hc, fun _ => ?_⟩); conv => whnf)
    try dsimp only
    exact h
def sp_X12_row : zSp := fun av w K => match av with
  | [.ref o, .int i] => o = 45 ∧ zH w.1 ∧ ∃ T, MT w.2.1 w.2.2 T ∧ ∀ wi', FrM w.2.1 w.2.2 wi' w.2.2 → MT wi' w.2.2 T → (idB T.2.2.2.2.2.2.1 i = true → wi' 45 11 = nI 0 → K (some (.long (T.2.2.2.2.2.2.2 i.toNatClampNeg))) (w.1, wi', w.2.2)) ∧ (¬ idB T.2.2.2.2.2.2.1 i = true → wi' 45 11 = nI 1 → K (some (.long (lN 0))) (w.1, wi', w.2.2))
  | _ => False
def rm_X12_row : Room := { frames := 1, cells := 0, slots := 0, locals := 25 }
def M_X12_row : zM := (k_X12_row, f_X12, [(80, 0, 0, 3, 0, 0, sp_X12_in), (376, 4, 10, 1, 0, 0, sp_X12_lost)], ([], [], []), [], [], 3, false, (false, 0, fun _ => 0), (0, 0))
theorem ca_X12_row_0 (l : Launch) : z_cok l RX12 (headSpec (.code yX12_row cX12_row 2 (some .long) :: zTT) rm_X12_row).room (80, 0, 0, 3, 0, 0, sp_X12_in) := z_ca0 (c_X12_in l) mb_X12_in wt_1253 wt_1254 (by decide)
theorem ca_X12_row_1 (l : Launch) : z_cok l RX12 (headSpec (.code yX12_row cX12_row 2 (some .long) :: zTT) rm_X12_row).room (376, 4, 10, 1, 0, 0, sp_X12_lost) := z_ca4 (c_X12_lost l) mb_X12_lost ⟨_, rfl, rfl⟩ wt_1688 wt_1690 wt_94 (by decide)
theorem O_X12_row (l : Launch) : z_OK l RX12 cX12_row (headSpec (.code yX12_row cX12_row 2 (some .long) :: zTT) rm_X12_row).room M_X12_row := ⟨ok_X12_row, fo_X12, List.forall_mem_cons.mpr ⟨ca_X12_row_0 l, List.forall_mem_cons.mpr ⟨ca_X12_row_1 l, fun _ h => absurd h List.not_mem_nil⟩⟩, fun _ h => absurd h List.not_mem_nil, fun _ h => absurd h List.not_mem_nil, fun _ h => absurd h List.not_mem_nil, fun _ h => absurd h List.not_mem_nil, rfl, rfl⟩
theorem c_X12_row (l : Launch) : z_CS l yX12_row cX12_row 2 (some .long) rm_X12_row sp_X12_row := by
  refine z_meth (by decide) (Or.inr (Or.inr (Or.inr ⟨rfl, rfl⟩))) (fun h => by cases h) rfl (O_X12_row l) ?_
  intro av w K h
  match av, h with
  | [.ref o, .int i], h =>
    obtain ⟨rfl, ⟨r, hG⟩, ⟨d, q, c, A, kp, tx, tl⟩, hC, h⟩ := h
    obtain ⟨G, wi, wl⟩ := w
    subst hG
    try dsimp only at h hC
    have hC1 := mt_fld (i := 11) (v := nI 0) hC (by decide)
    have hT := mt_T hC1
    have n9 := hT.2.1
    refine ⟨Nat.le_of_ble_eq_true rfl, fun Jm hs => hs 400 0 _ _ _ _ _ ?_⟩
    have e10 : z_up wi 45 11 (nI 0) 45 10 = nI tl.1 := hT.1
    conv => whnf
    repeat ((first | refine ⟨zH_of _, ?_⟩ | refine ⟨trivial, ?_⟩ | refine ⟨rfl, ?_⟩ | refine ⟨fun hc => absurd hc (by decide), fun _ => ?_⟩ | refine ⟨fun _ => ?_, fun hc => absurd (by decide) hc⟩ | refine ⟨fun _ => ?_, fun hc => absurd hc (by decide)⟩ | refine ⟨fun hc => absurd (by decide) hc, fun _ => ?_⟩); conv => whnf)
    try dsimp only
    rw [e10, in_id (by omega), bI_0]
    refine ⟨fun hn => ?_, fun hn => ?_⟩
    · have h := (h _ (fun y hy => ⟨by rw [z_up_ne (by omega), z_up_ne (by omega)], rfl⟩) (mt_fld (i := 11) (v := nI 1) hC1 (by decide))).2 hn z_up_eq
      conv => whnf
      repeat ((first | refine ⟨zH_of _, ?_⟩ | refine ⟨trivial, ?_⟩ | refine ⟨rfl, ?_⟩ | refine ⟨fun hc => absurd hc (by decide), fun _ => ?_⟩ | refine ⟨fun _ => ?_, fun hc => absurd (by decide) hc⟩ | refine ⟨fun _ => ?_, fun hc => absurd hc (by decide)⟩ | refine ⟨fun hc => absurd (by decide) hc, fun _ => ?_⟩); conv => whnf)
      try dsimp only
      exact h
    · have hn := Classical.not_not.mp hn
      have h := (h _ fm_fld hC1).1 hn z_up_eq
      obtain ⟨i', hi, rfl⟩ := idB_N hn (by omega)
      rw [nc_N (by omega), ← hT.2.2 i' hi] at h
      conv => whnf
      repeat ((first | refine ⟨zH_of _, ?_⟩ | refine ⟨trivial, ?_⟩ | refine ⟨rfl, ?_⟩ | refine ⟨fun hc => absurd hc (by decide), fun _ => ?_⟩ | refine ⟨fun _ => ?_, fun hc => absurd (by decide) hc⟩ | refine ⟨fun _ => ?_, fun hc => absurd hc (by decide)⟩ | refine ⟨fun hc => absurd (by decide) hc, fun _ => ?_⟩); conv => whnf)
      try dsimp only
      refine ⟨vp_in_nI (show i' < 16 by omega) (by decide), ?_⟩
      rw [nI_clamp (n := i') (by omega)]
      conv => whnf
      repeat ((first | refine ⟨zH_of _, ?_⟩ | refine ⟨trivial, ?_⟩ | refine ⟨rfl, ?_⟩ | refine ⟨fun hc => absurd hc (by decide), fun _ => ?_⟩ | refine ⟨fun _ => ?_, fun hc => absurd (by decide) hc⟩ | refine ⟨fun _ => ?_, fun hc => absurd hc (by decide)⟩ | refine ⟨fun hc => absurd (by decide) hc, fun _ => ?_⟩); conv => whnf)
      try dsimp only
      exact h
def sp_X12_count : zSp := fun av w K => match av with
  | [.ref o, .int v] => o = 45 ∧ zH w.1 ∧ ∃ T, MT w.2.1 w.2.2 T ∧ ZT T ∧ ∀ wi' wl', FrM w.2.1 w.2.2 wi' wl' → MT wi' wl' (st_count T v).1 → K (some (.int (st_count T v).2)) (w.1, wi', wl')
  | _ => False
def rm_X12_count : Room := { frames := 4, cells := 0, slots := 0, locals := 97 }
def M_X12_count : zM := (k_X12_count, f_X12, [(232, 4, 10, 1, 0, 0, sp_X12_zeroMany), (367, 4, 10, 1, 0, 0, sp_X12_fullAll), (370, 4, 10, 2, 0, 0, sp_X12_unlikeAt), (373, 4, 10, 1, 0, 0, sp_X12_singleMany)], ([], [], []), sw_X12_count, [], 1, false, (false, 0, fun _ => 0), (0, 0))
theorem ca_X12_count_0 (l : Launch) : z_cok l RX12 (headSpec (.code yX12_count cX12_count 2 (some .int) :: zTT) rm_X12_count).room (232, 4, 10, 1, 0, 0, sp_X12_zeroMany) := z_ca4 (c_X12_zeroMany l) mb_X12_zeroMany ⟨_, rfl, rfl⟩ wt_1435 wt_1437 wt_58 (by decide)
theorem ca_X12_count_1 (l : Launch) : z_cok l RX12 (headSpec (.code yX12_count cX12_count 2 (some .int) :: zTT) rm_X12_count).room (367, 4, 10, 1, 0, 0, sp_X12_fullAll) := z_ca4 (c_X12_fullAll l) mb_X12_fullAll ⟨_, rfl, rfl⟩ wt_1672 wt_1674 wt_91 (by decide)
theorem ca_X12_count_2 (l : Launch) : z_cok l RX12 (headSpec (.code yX12_count cX12_count 2 (some .int) :: zTT) rm_X12_count).room (370, 4, 10, 2, 0, 0, sp_X12_unlikeAt) := z_ca4 (c_X12_unlikeAt l) mb_X12_unlikeAt ⟨_, rfl, rfl⟩ wt_1676 wt_1678 wt_92 (by decide)
theorem ca_X12_count_3 (l : Launch) : z_cok l RX12 (headSpec (.code yX12_count cX12_count 2 (some .int) :: zTT) rm_X12_count).room (373, 4, 10, 1, 0, 0, sp_X12_singleMany) := z_ca4 (c_X12_singleMany l) mb_X12_singleMany ⟨_, rfl, rfl⟩ wt_1680 wt_1682 wt_93 (by decide)
theorem O_X12_count (l : Launch) : z_OK l RX12 cX12_count (headSpec (.code yX12_count cX12_count 2 (some .int) :: zTT) rm_X12_count).room M_X12_count := ⟨ok_X12_count, fo_X12, List.forall_mem_cons.mpr ⟨ca_X12_count_0 l, List.forall_mem_cons.mpr ⟨ca_X12_count_1 l, List.forall_mem_cons.mpr ⟨ca_X12_count_2 l, List.forall_mem_cons.mpr ⟨ca_X12_count_3 l, fun _ h => absurd h List.not_mem_nil⟩⟩⟩⟩, fun _ h => absurd h List.not_mem_nil, fun _ h => absurd h List.not_mem_nil, fun _ h => absurd h List.not_mem_nil, swok_X12_count, rfl, rfl⟩
theorem c_X12_count (l : Launch) : z_CS l yX12_count cX12_count 2 (some .int) rm_X12_count sp_X12_count := by
  refine z_meth (by decide) (Or.inr (Or.inl ⟨rfl, rfl⟩)) (fun h => by cases h) rfl (O_X12_count l) ?_
  intro av w K h
  match av, h with
  | [.ref o, .int v], h =>
    obtain ⟨rfl, ⟨r, hG⟩, ⟨d, q, c, A, ⟨kf, d2, c2, B⟩, tx, tl⟩, hC, hZ, h⟩ := h
    obtain ⟨G, wi, wl⟩ := w
    subst hG
    try dsimp only at h hC hZ
    have hC := mt_fld (i := 11) (v := nI 0) hC (by decide)
    have hF0 : FrM wi wl (z_up wi 45 11 (nI 0)) wl := fm_fld
    refine ⟨Nat.le_of_ble_eq_true rfl, fun Jm hs => ?_⟩
    refine hs 400 0 _ _ _ _ _ ?_
    have h := h _ wl hF0
    unfold st_count at h
    dsimp only at h
    have h := h hC
    have hS := mt_S hC
    have no : ¬ idB 14 v = true → K (some (.int (mI 1))) (GC ++ (GM ++ r), z_up wi 45 11 (nI 0), wl) := fun hn => by
      rw [if_neg hn] at h
      exact h
    have yes : ∀ n, v = Int32.ofInt n → 0 ≤ n → n < 14 → K (some (.int (coA (d, q, c, A, (kf, d2, c2, B), tx, tl) n.toNat))) (GC ++ (GM ++ r), z_up wi 45 11 (nI 0), wl) := fun n e h0 h14 => by
      have e2 : v = nI n.toNat := by
        rw [e]
        show Int32.ofInt n = Int32.ofInt (n.toNat : Int)
        rw [Int.toNat_of_nonneg h0]
      subst e2
      rw [if_pos (idB_of (by omega) (by decide)), nc_N (by omega)] at h
      exact h
    conv => whnf
    repeat ((first | refine ⟨zH_of _, ?_⟩ | refine ⟨trivial, ?_⟩ | refine ⟨rfl, ?_⟩ | refine ⟨fun hc => absurd hc (by decide), fun _ => ?_⟩ | refine ⟨fun _ => ?_, fun hc => absurd (by decide) hc⟩ | refine ⟨fun _ => ?_, fun hc => absurd hc (by decide)⟩ | refine ⟨fun hc => absurd (by decide) hc, fun _ => ?_⟩); conv => whnf)
    try dsimp only
    generalize z_up wi 45 11 (nI 0) = wi0 at *
    refine ⟨⟨fun e => ?_, fun e => ?_, fun e => ?_, fun e => ?_, fun e => ?_, fun e => ?_, fun e => ?_, fun e => ?_, fun e => ?_, fun e => ?_, fun e => ?_, fun e => ?_, fun e => ?_, fun e => ?_, trivial⟩, fun e => ?_⟩
    · have hh := yes 0 e (by decide) (by decide)
      change K (some (.int (nI (d 0)))) _ at hh
      rw [← ms_d hS 0 (by decide)] at hh
      subst e
      conv => whnf
      repeat ((first | refine ⟨zH_of _, ?_⟩ | refine ⟨trivial, ?_⟩ | refine ⟨rfl, ?_⟩ | refine ⟨fun hc => absurd hc (by decide), fun _ => ?_⟩ | refine ⟨fun _ => ?_, fun hc => absurd (by decide) hc⟩ | refine ⟨fun _ => ?_, fun hc => absurd hc (by decide)⟩ | refine ⟨fun hc => absurd (by decide) hc, fun _ => ?_⟩); conv => whnf)
      try dsimp only
      refine ⟨vp_in_nI (show 0 < 3 by decide) (by decide), ?_⟩
      conv => whnf
      repeat ((first | refine ⟨zH_of _, ?_⟩ | refine ⟨trivial, ?_⟩ | refine ⟨rfl, ?_⟩ | refine ⟨fun hc => absurd hc (by decide), fun _ => ?_⟩ | refine ⟨fun _ => ?_, fun hc => absurd (by decide) hc⟩ | refine ⟨fun _ => ?_, fun hc => absurd hc (by decide)⟩ | refine ⟨fun hc => absurd (by decide) hc, fun _ => ?_⟩); conv => whnf)
      try dsimp only
      exact hh
    · have hh := yes 1 e (by decide) (by decide)
      change K (some (.int (nI (d 1)))) _ at hh
      rw [← ms_d hS 1 (by decide)] at hh
      subst e
      conv => whnf
      repeat ((first | refine ⟨zH_of _, ?_⟩ | refine ⟨trivial, ?_⟩ | refine ⟨rfl, ?_⟩ | refine ⟨fun hc => absurd hc (by decide), fun _ => ?_⟩ | refine ⟨fun _ => ?_, fun hc => absurd (by decide) hc⟩ | refine ⟨fun _ => ?_, fun hc => absurd hc (by decide)⟩ | refine ⟨fun hc => absurd (by decide) hc, fun _ => ?_⟩); conv => whnf)
      try dsimp only
      refine ⟨vp_in_nI (show 1 < 3 by decide) (by decide), ?_⟩
      conv => whnf
      repeat ((first | refine ⟨zH_of _, ?_⟩ | refine ⟨trivial, ?_⟩ | refine ⟨rfl, ?_⟩ | refine ⟨fun hc => absurd hc (by decide), fun _ => ?_⟩ | refine ⟨fun _ => ?_, fun hc => absurd (by decide) hc⟩ | refine ⟨fun _ => ?_, fun hc => absurd hc (by decide)⟩ | refine ⟨fun hc => absurd (by decide) hc, fun _ => ?_⟩); conv => whnf)
      try dsimp only
      exact hh
    · have hh := yes 2 e (by decide) (by decide)
      change K (some (.int (nI (d 2)))) _ at hh
      rw [← ms_d hS 2 (by decide)] at hh
      subst e
      conv => whnf
      repeat ((first | refine ⟨zH_of _, ?_⟩ | refine ⟨trivial, ?_⟩ | refine ⟨rfl, ?_⟩ | refine ⟨fun hc => absurd hc (by decide), fun _ => ?_⟩ | refine ⟨fun _ => ?_, fun hc => absurd (by decide) hc⟩ | refine ⟨fun _ => ?_, fun hc => absurd hc (by decide)⟩ | refine ⟨fun hc => absurd (by decide) hc, fun _ => ?_⟩); conv => whnf)
      try dsimp only
      refine ⟨vp_in_nI (show 2 < 3 by decide) (by decide), ?_⟩
      conv => whnf
      repeat ((first | refine ⟨zH_of _, ?_⟩ | refine ⟨trivial, ?_⟩ | refine ⟨rfl, ?_⟩ | refine ⟨fun hc => absurd hc (by decide), fun _ => ?_⟩ | refine ⟨fun _ => ?_, fun hc => absurd (by decide) hc⟩ | refine ⟨fun _ => ?_, fun hc => absurd hc (by decide)⟩ | refine ⟨fun hc => absurd (by decide) hc, fun _ => ?_⟩); conv => whnf)
      try dsimp only
      exact hh
    · have h := yes 3 e (by decide) (by decide)
      change K (some (.int (nI q))) _ at h
      rw [← ms_q hS] at h
      conv => whnf
      repeat ((first | refine ⟨zH_of _, ?_⟩ | refine ⟨trivial, ?_⟩ | refine ⟨rfl, ?_⟩ | refine ⟨fun hc => absurd hc (by decide), fun _ => ?_⟩ | refine ⟨fun _ => ?_, fun hc => absurd (by decide) hc⟩ | refine ⟨fun _ => ?_, fun hc => absurd hc (by decide)⟩ | refine ⟨fun hc => absurd (by decide) hc, fun _ => ?_⟩); conv => whnf)
      try dsimp only
      exact h
    · have h := yes 4 e (by decide) (by decide)
      change K (some (.int (nI c))) _ at h
      rw [← ms_c hS] at h
      conv => whnf
      repeat ((first | refine ⟨zH_of _, ?_⟩ | refine ⟨trivial, ?_⟩ | refine ⟨rfl, ?_⟩ | refine ⟨fun hc => absurd hc (by decide), fun _ => ?_⟩ | refine ⟨fun _ => ?_, fun hc => absurd (by decide) hc⟩ | refine ⟨fun _ => ?_, fun hc => absurd hc (by decide)⟩ | refine ⟨fun hc => absurd (by decide) hc, fun _ => ?_⟩); conv => whnf)
      try dsimp only
      exact h
    · have h := yes 5 e (by decide) (by decide)
      change K (some (.int (if kf = true then nI c2 else mI 1))) _ at h
      rcases mt_K hC with ⟨k1, k2⟩ | ⟨k1, k2, -⟩
      · dsimp only at k1
        rw [k1, if_neg (by decide), ← k2] at h
        conv => whnf
        repeat ((first | refine ⟨zH_of _, ?_⟩ | refine ⟨trivial, ?_⟩ | refine ⟨rfl, ?_⟩ | refine ⟨fun hc => absurd hc (by decide), fun _ => ?_⟩ | refine ⟨fun _ => ?_, fun hc => absurd (by decide) hc⟩ | refine ⟨fun _ => ?_, fun hc => absurd hc (by decide)⟩ | refine ⟨fun hc => absurd (by decide) hc, fun _ => ?_⟩); conv => whnf)
        try dsimp only
        exact h
      · dsimp only at k1 k2
        rw [k1, if_pos rfl, ← k2] at h
        conv => whnf
        repeat ((first | refine ⟨zH_of _, ?_⟩ | refine ⟨trivial, ?_⟩ | refine ⟨rfl, ?_⟩ | refine ⟨fun hc => absurd hc (by decide), fun _ => ?_⟩ | refine ⟨fun _ => ?_, fun hc => absurd (by decide) hc⟩ | refine ⟨fun _ => ?_, fun hc => absurd hc (by decide)⟩ | refine ⟨fun hc => absurd (by decide) hc, fun _ => ?_⟩); conv => whnf)
        try dsimp only
        exact h
    · have h := yes 6 e (by decide) (by decide)
      change K (some (.int (nI tl.1))) _ at h
      rw [← (mt_T hC).1] at h
      conv => whnf
      repeat ((first | refine ⟨zH_of _, ?_⟩ | refine ⟨trivial, ?_⟩ | refine ⟨rfl, ?_⟩ | refine ⟨fun hc => absurd hc (by decide), fun _ => ?_⟩ | refine ⟨fun _ => ?_, fun hc => absurd (by decide) hc⟩ | refine ⟨fun _ => ?_, fun hc => absurd hc (by decide)⟩ | refine ⟨fun hc => absurd (by decide) hc, fun _ => ?_⟩); conv => whnf)
      try dsimp only
      exact h
    · have h := yes 7 e (by decide) (by decide)
      change K (some (.int (nI tx.1))) _ at h
      rw [← (mt_X hC).1] at h
      conv => whnf
      repeat ((first | refine ⟨zH_of _, ?_⟩ | refine ⟨trivial, ?_⟩ | refine ⟨rfl, ?_⟩ | refine ⟨fun hc => absurd hc (by decide), fun _ => ?_⟩ | refine ⟨fun _ => ?_, fun hc => absurd (by decide) hc⟩ | refine ⟨fun _ => ?_, fun hc => absurd hc (by decide)⟩ | refine ⟨fun hc => absurd (by decide) hc, fun _ => ?_⟩); conv => whnf)
      try dsimp only
      exact h
    · have h := yes 8 e (by decide) (by decide)
      change K (some (.int (nI (fb_ct (hzB A) c)))) _ at h
      conv => whnf
      repeat ((first | refine ⟨zH_of _, ?_⟩ | refine ⟨trivial, ?_⟩ | refine ⟨rfl, ?_⟩ | refine ⟨fun hc => absurd hc (by decide), fun _ => ?_⟩ | refine ⟨fun _ => ?_, fun hc => absurd (by decide) hc⟩ | refine ⟨fun _ => ?_, fun hc => absurd hc (by decide)⟩ | refine ⟨fun hc => absurd (by decide) hc, fun _ => ?_⟩); conv => whnf)
      try dsimp only
      refine ⟨d, q, c, A, hS, ?_⟩
      conv => whnf
      repeat ((first | refine ⟨zH_of _, ?_⟩ | refine ⟨trivial, ?_⟩ | refine ⟨rfl, ?_⟩ | refine ⟨fun hc => absurd hc (by decide), fun _ => ?_⟩ | refine ⟨fun _ => ?_, fun hc => absurd (by decide) hc⟩ | refine ⟨fun _ => ?_, fun hc => absurd hc (by decide)⟩ | refine ⟨fun hc => absurd (by decide) hc, fun _ => ?_⟩); conv => whnf)
      try dsimp only
      exact h
    · have h := yes 9 e (by decide) (by decide)
      change K (some (.int (nI (fb_sm (nzS A) (3 * c))))) _ at h
      conv => whnf
      repeat ((first | refine ⟨zH_of _, ?_⟩ | refine ⟨trivial, ?_⟩ | refine ⟨rfl, ?_⟩ | refine ⟨fun hc => absurd hc (by decide), fun _ => ?_⟩ | refine ⟨fun _ => ?_, fun hc => absurd (by decide) hc⟩ | refine ⟨fun _ => ?_, fun hc => absurd hc (by decide)⟩ | refine ⟨fun hc => absurd (by decide) hc, fun _ => ?_⟩); conv => whnf)
      try dsimp only
      refine ⟨d, q, c, A, hS, ?_⟩
      conv => whnf
      repeat ((first | refine ⟨zH_of _, ?_⟩ | refine ⟨trivial, ?_⟩ | refine ⟨rfl, ?_⟩ | refine ⟨fun hc => absurd hc (by decide), fun _ => ?_⟩ | refine ⟨fun _ => ?_, fun hc => absurd (by decide) hc⟩ | refine ⟨fun _ => ?_, fun hc => absurd hc (by decide)⟩ | refine ⟨fun hc => absurd (by decide) hc, fun _ => ?_⟩); conv => whnf)
      try dsimp only
      exact h
    · have hh := yes 10 e (by decide) (by decide)
      change K (some (.int (nI (fb_ct (ulB q A 0) c)))) _ at hh
      subst e
      conv => whnf
      repeat ((first | refine ⟨zH_of _, ?_⟩ | refine ⟨trivial, ?_⟩ | refine ⟨rfl, ?_⟩ | refine ⟨fun hc => absurd hc (by decide), fun _ => ?_⟩ | refine ⟨fun _ => ?_, fun hc => absurd (by decide) hc⟩ | refine ⟨fun _ => ?_, fun hc => absurd hc (by decide)⟩ | refine ⟨fun hc => absurd (by decide) hc, fun _ => ?_⟩); conv => whnf)
      try dsimp only
      refine ⟨d, q, c, A, 0, hS, by decide, by decide, ?_⟩
      conv => whnf
      repeat ((first | refine ⟨zH_of _, ?_⟩ | refine ⟨trivial, ?_⟩ | refine ⟨rfl, ?_⟩ | refine ⟨fun hc => absurd hc (by decide), fun _ => ?_⟩ | refine ⟨fun _ => ?_, fun hc => absurd (by decide) hc⟩ | refine ⟨fun _ => ?_, fun hc => absurd hc (by decide)⟩ | refine ⟨fun hc => absurd (by decide) hc, fun _ => ?_⟩); conv => whnf)
      try dsimp only
      exact hh
    · have hh := yes 11 e (by decide) (by decide)
      change K (some (.int (nI (fb_ct (ulB q A 1) c)))) _ at hh
      subst e
      conv => whnf
      repeat ((first | refine ⟨zH_of _, ?_⟩ | refine ⟨trivial, ?_⟩ | refine ⟨rfl, ?_⟩ | refine ⟨fun hc => absurd hc (by decide), fun _ => ?_⟩ | refine ⟨fun _ => ?_, fun hc => absurd (by decide) hc⟩ | refine ⟨fun _ => ?_, fun hc => absurd hc (by decide)⟩ | refine ⟨fun hc => absurd (by decide) hc, fun _ => ?_⟩); conv => whnf)
      try dsimp only
      refine ⟨d, q, c, A, 1, hS, by decide, by decide, ?_⟩
      conv => whnf
      repeat ((first | refine ⟨zH_of _, ?_⟩ | refine ⟨trivial, ?_⟩ | refine ⟨rfl, ?_⟩ | refine ⟨fun hc => absurd hc (by decide), fun _ => ?_⟩ | refine ⟨fun _ => ?_, fun hc => absurd (by decide) hc⟩ | refine ⟨fun _ => ?_, fun hc => absurd hc (by decide)⟩ | refine ⟨fun hc => absurd (by decide) hc, fun _ => ?_⟩); conv => whnf)
      try dsimp only
      exact hh
    · have hh := yes 12 e (by decide) (by decide)
      change K (some (.int (nI (fb_ct (ulB q A 2) c)))) _ at hh
      subst e
      conv => whnf
      repeat ((first | refine ⟨zH_of _, ?_⟩ | refine ⟨trivial, ?_⟩ | refine ⟨rfl, ?_⟩ | refine ⟨fun hc => absurd hc (by decide), fun _ => ?_⟩ | refine ⟨fun _ => ?_, fun hc => absurd (by decide) hc⟩ | refine ⟨fun _ => ?_, fun hc => absurd hc (by decide)⟩ | refine ⟨fun hc => absurd (by decide) hc, fun _ => ?_⟩); conv => whnf)
      try dsimp only
      refine ⟨d, q, c, A, 2, hS, by decide, by decide, ?_⟩
      conv => whnf
      repeat ((first | refine ⟨zH_of _, ?_⟩ | refine ⟨trivial, ?_⟩ | refine ⟨rfl, ?_⟩ | refine ⟨fun hc => absurd hc (by decide), fun _ => ?_⟩ | refine ⟨fun _ => ?_, fun hc => absurd (by decide) hc⟩ | refine ⟨fun _ => ?_, fun hc => absurd hc (by decide)⟩ | refine ⟨fun hc => absurd (by decide) hc, fun _ => ?_⟩); conv => whnf)
      try dsimp only
      exact hh
    · have h := yes 13 e (by decide) (by decide)
      change K (some (.int (nI (fb_ct (sgB A) c)))) _ at h
      conv => whnf
      repeat ((first | refine ⟨zH_of _, ?_⟩ | refine ⟨trivial, ?_⟩ | refine ⟨rfl, ?_⟩ | refine ⟨fun hc => absurd hc (by decide), fun _ => ?_⟩ | refine ⟨fun _ => ?_, fun hc => absurd (by decide) hc⟩ | refine ⟨fun _ => ?_, fun hc => absurd hc (by decide)⟩ | refine ⟨fun hc => absurd (by decide) hc, fun _ => ?_⟩); conv => whnf)
      try dsimp only
      refine ⟨d, q, c, A, hS, ?_⟩
      conv => whnf
      repeat ((first | refine ⟨zH_of _, ?_⟩ | refine ⟨trivial, ?_⟩ | refine ⟨rfl, ?_⟩ | refine ⟨fun hc => absurd hc (by decide), fun _ => ?_⟩ | refine ⟨fun _ => ?_, fun hc => absurd (by decide) hc⟩ | refine ⟨fun _ => ?_, fun hc => absurd hc (by decide)⟩ | refine ⟨fun hc => absurd (by decide) hc, fun _ => ?_⟩); conv => whnf)
      try dsimp only
      exact h
    · refine ⟨trivial, no (fun z => ?_)⟩
      obtain ⟨n, hn, rfl⟩ := idB_N z (by decide)
      rw [nI_toInt (by omega)] at e
      simp only [List.length_cons, List.length_nil] at e
      omega

