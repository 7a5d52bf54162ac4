/-! the reference: what the forms span -/
def BM (wi : Nat → Nat → Int32) (q : Nat) (B : zB4) : Prop := wi 45 29 = nI B.1 ∧ B.1 ≤ 9 ∧ ∀ k, k < B.1 → RA wi 59 (9 * k) (B.2.1 k) ∧ (∀ p, p < 9 → B.2.1 k p < q) ∧ ldN (B.2.1 k) = B.2.2.2 k ∧ B.2.2.2 k < 9
def sp_X12_leadOf : zSp := fun av w K => match av with
  | [.ref o, .int f] => o = 45 ∧ zH w.1 ∧ ∃ f' a, RA w.2.1 59 f' a ∧ (∀ p, p < 9 → a p < 3) ∧ f = nI f' ∧ f' + 9 ≤ 81 ∧ K (some (.int (nI (ldN a)))) w
  | _ => False
def rm_X12_leadOf : Room := { frames := 0, cells := 0, slots := 0, locals := 0 }
def M_X12_leadOf : zM := (k_X12_leadOf, f_X12, [], ([], [], []), [], [(2, [true, true, true])], 1, false, (false, 0, fun _ => 0), (0, 0))
theorem O_X12_leadOf (l : Launch) : z_OK l RX12 cX12_leadOf (headSpec (.code yX12_leadOf cX12_leadOf 3 (some .int) :: zTT) rm_X12_leadOf).room M_X12_leadOf := ⟨ok_X12_leadOf, fo_X12, fun _ h => absurd h List.not_mem_nil, fun _ h => absurd h List.not_mem_nil, fun _ h => absurd h List.not_mem_nil, fun _ h => absurd h List.not_mem_nil, fun _ h => absurd h List.not_mem_nil, rfl, rfl⟩
theorem c_X12_leadOf (l : Launch) : z_CS l yX12_leadOf cX12_leadOf 3 (some .int) rm_X12_leadOf sp_X12_leadOf := by
  refine z_meth (by decide) (Or.inr (Or.inl ⟨rfl, rfl⟩)) (fun h => by cases h) rfl (O_X12_leadOf l) ?_
  intro av w K h
  match av, h with
  | [.ref o, .int f], h =>
    obtain ⟨rfl, ⟨r, hG⟩, f', a, hR, ha, rfl, hf, h⟩ := h
    obtain ⟨G, wi, wl⟩ := w
    subst hG
    try dsimp only at h hR
    refine ⟨Nat.le_of_ble_eq_true rfl, fun Jm hs => ?_⟩
    have loop := up_ind (P := fun p => (∀ k, k < p → a k = 0) → Jm 2 [some (.ref 45), some (.int (nI f')), some (.int (nI p))] [] (GC ++ (GM ++ r), wi, wl) 0 0) 9 (fun p hp ih hz => by
      refine hs 400 2 _ _ _ _ _ ?_
      conv => whnf
      repeat ((first | refine ⟨zH_of _, ?_⟩ | refine ⟨trivial, ?_⟩ | refine ⟨rfl, ?_⟩ | refine ⟨fun hc => absurd hc (by decide), fun _ => ?_⟩ | refine ⟨fun _ => ?_, fun hc => absurd (by decide) hc⟩ | refine ⟨fun _ => ?_, fun hc => absurd hc (by decide)⟩ | refine ⟨fun hc => absurd (by decide) hc, fun _ => ?_⟩); conv => whnf)
      try dsimp only
      rw [ltN (by omega) (by omega)]
      refine ⟨fun hc => ?_, fun hc => ?_⟩
      · obtain rfl : p = 9 := by omega
        have e : ldN a = 9 := by
          have := ld_z.mpr (zB_iff.mpr hz)
          have := ld_le a
          omega
        rw [e] at h
        conv => whnf
        repeat ((first | refine ⟨zH_of _, ?_⟩ | refine ⟨trivial, ?_⟩ | refine ⟨rfl, ?_⟩ | refine ⟨fun hc => absurd hc (by decide), fun _ => ?_⟩ | refine ⟨fun _ => ?_, fun hc => absurd (by decide) hc⟩ | refine ⟨fun _ => ?_, fun hc => absurd hc (by decide)⟩ | refine ⟨fun hc => absurd (by decide) hc, fun _ => ?_⟩); conv => whnf)
        try dsimp only
        exact h
      · have ih := ih hc
        have a3 := ha p hc
        conv => whnf
        repeat ((first | refine ⟨zH_of _, ?_⟩ | refine ⟨trivial, ?_⟩ | refine ⟨rfl, ?_⟩ | refine ⟨fun hc => absurd hc (by decide), fun _ => ?_⟩ | refine ⟨fun _ => ?_, fun hc => absurd (by decide) hc⟩ | refine ⟨fun _ => ?_, fun hc => absurd hc (by decide)⟩ | refine ⟨fun hc => absurd (by decide) hc, fun _ => ?_⟩); conv => whnf)
        try dsimp only
        rw [nI_add]
        refine ⟨vp_in_nI (show f' + p < 81 by omega) (by decide), ?_⟩
        conv => whnf
        repeat ((first | refine ⟨zH_of _, ?_⟩ | refine ⟨trivial, ?_⟩ | refine ⟨rfl, ?_⟩ | refine ⟨fun hc => absurd hc (by decide), fun _ => ?_⟩ | refine ⟨fun _ => ?_, fun hc => absurd (by decide) hc⟩ | refine ⟨fun _ => ?_, fun hc => absurd hc (by decide)⟩ | refine ⟨fun hc => absurd (by decide) hc, fun _ => ?_⟩); conv => whnf)
        try dsimp only
        rw [nI_clamp (by omega), hR p hc, eq0N (by omega)]
        refine ⟨fun hq => ?_, fun hq => ?_⟩
        · rw [ld_at hc hq hz] at h
          conv => whnf
          repeat ((first | refine ⟨zH_of _, ?_⟩ | refine ⟨trivial, ?_⟩ | refine ⟨rfl, ?_⟩ | refine ⟨fun hc => absurd hc (by decide), fun _ => ?_⟩ | refine ⟨fun _ => ?_, fun hc => absurd (by decide) hc⟩ | refine ⟨fun _ => ?_, fun hc => absurd hc (by decide)⟩ | refine ⟨fun hc => absurd (by decide) hc, fun _ => ?_⟩); conv => whnf)
          try dsimp only
          exact h
        · conv => whnf
          repeat ((first | refine ⟨zH_of _, ?_⟩ | refine ⟨trivial, ?_⟩ | refine ⟨rfl, ?_⟩ | refine ⟨fun hc => absurd hc (by decide), fun _ => ?_⟩ | refine ⟨fun _ => ?_, fun hc => absurd (by decide) hc⟩ | refine ⟨fun _ => ?_, fun hc => absurd hc (by decide)⟩ | refine ⟨fun hc => absurd (by decide) hc, fun _ => ?_⟩); conv => whnf)
          try dsimp only
          rw [nI_add]
          refine ih (fun k hk => ?_)
          rcases Nat.lt_or_ge k p with g | g
          · exact hz k g
          · rw [show k = p by omega]
            exact hq)
    exact hs 400 0 _ _ _ _ _ (loop 0 (Nat.zero_le _) (fun k hk => absurd hk (Nat.not_lt_zero k)))
def sp_X12_frees : zSp := fun av w K => match av with
  | [.ref o, .int i, .int t] => o = 45 ∧ zH w.1 ∧ ∃ d q c A i' t' B, MS w.2.1 d q c A ∧ i = nI i' ∧ i' < c ∧ t = nI t' ∧ t' < 3 ∧ BM w.2.1 q B ∧ B.1 < 9 ∧ (zB (rest q B (A (3 * i' + t'))) = true → ∀ wi' : Nat → Nat → Int32, (∀ y, y ≠ 59 → wi' y = w.2.1 y) → BM wi' q B → K (some (.int (nI 0))) (w.1, wi', w.2.2)) ∧ (¬ zB (rest q B (A (3 * i' + t'))) = true → ∀ wi' : Nat → Nat → Int32, (∀ y, y ≠ 45 → y ≠ 59 → wi' y = w.2.1 y) → (∀ j, j ≠ 29 → wi' 45 j = w.2.1 45 j) → BM wi' q (bkS q B (A (3 * i' + t'))) → K (some (.int (nI 1))) (w.1, wi', w.2.2))
  | _ => False
def rm_X12_frees : Room := { frames := 1, cells := 0, slots := 0, locals := 22 }
def M_X12_frees : zM := (k_X12_frees, f_X12, [(107, 0, 0, 3, 0, 0, sp_X12_at), (336, 4, 10, 2, 0, 0, sp_X12_leadOf), (223, 4, 10, 2, 0, 0, sp_X12_mod)], ([], [], []), [], [(11, [true, true, true, true, true, false, false, false]), (48, [true, true, true, true, true, false, false, false]), (82, [true, true, true, true, true, true, true, true]), (170, [true, true, true, true, true, true, true, false])], 2, false, (false, 0, fun _ => 0), (0, 0))
theorem ca_X12_frees_0 (l : Launch) : z_cok l RX12 (headSpec (.code yX12_frees cX12_frees 8 (some .boolean) :: zTT) rm_X12_frees).room (107, 0, 0, 3, 0, 0, sp_X12_at) := z_ca0 (c_X12_at l) mb_X12_at wt_1136 wt_1137 (by decide)
theorem ca_X12_frees_1 (l : Launch) : z_cok l RX12 (headSpec (.code yX12_frees cX12_frees 8 (some .boolean) :: zTT) rm_X12_frees).room (336, 4, 10, 2, 0, 0, sp_X12_leadOf) := z_ca4 (c_X12_leadOf l) mb_X12_leadOf ⟨_, rfl, rfl⟩ wt_1616 wt_1618 wt_83 (by decide)
theorem ca_X12_frees_2 (l : Launch) : z_cok l RX12 (headSpec (.code yX12_frees cX12_frees 8 (some .boolean) :: zTT) rm_X12_frees).room (223, 4, 10, 2, 0, 0, sp_X12_mod) := z_ca4 (c_X12_mod l) mb_X12_mod ⟨_, rfl, rfl⟩ wt_1431 wt_1433 wt_57 (by decide)
theorem O_X12_frees (l : Launch) : z_OK l RX12 cX12_frees (headSpec (.code yX12_frees cX12_frees 8 (some .boolean) :: zTT) rm_X12_frees).room M_X12_frees := ⟨ok_X12_frees, fo_X12, List.forall_mem_cons.mpr ⟨ca_X12_frees_0 l, List.forall_mem_cons.mpr ⟨ca_X12_frees_1 l, List.forall_mem_cons.mpr ⟨ca_X12_frees_2 l, fun _ h => absurd h List.not_mem_nil⟩⟩⟩, fun _ h => absurd h List.not_mem_nil, fun _ h => absurd h List.not_mem_nil, fun _ h => absurd h List.not_mem_nil, fun _ h => absurd h List.not_mem_nil, rfl, rfl⟩
theorem c_X12_frees (l : Launch) : z_CS l yX12_frees cX12_frees 8 (some .boolean) rm_X12_frees sp_X12_frees := by
  refine z_meth (by decide) (Or.inr (Or.inr (Or.inl ⟨rfl, rfl⟩))) (fun h => by cases h) rfl (O_X12_frees l) ?_
  intro av w K h
  match av, h with
  | [.ref o, .int i, .int t], h =>
    obtain ⟨rfl, ⟨r, hG⟩, d, q, c, A, i', t', B, hS, rfl, hi, rfl, ht, hB, hB9, h0, h1⟩ := h
    obtain ⟨G, wi, wl⟩ := w
    subst hG
    try dsimp only at h0 h1 hS hB
    have h40 := ms_40 hS
    have q23 := ms_q23 hS
    have aq := ms_A hS (3 * i' + t') (by omega)
    have ae := fun p hp => ms_at hS hi ht (p := p) hp
    have lt := fun k => (rdB_lt q23 B aq k).1
    have rd0 : (rdB q B (A (3 * i' + t')) 0).1 = A (3 * i' + t') := rfl
    have rds : ∀ k p, (rdB q B (A (3 * i' + t')) (k + 1)).1 p = ((rdB q B (A (3 * i' + t')) k).1 p + (q - (rdB q B (A (3 * i' + t')) k).1 (B.2.2.2 k) * B.2.1 k p % q)) % q := fun _ _ => rfl
    have rdn : (rdB q B (A (3 * i' + t')) B.1).1 = rest q B (A (3 * i' + t')) := rfl
    have e0 : (bkS q B (A (3 * i' + t'))).1 = B.1 + 1 := rfl
    have e1 : (bkS q B (A (3 * i' + t'))).2.1 = upA B.2.1 B.1 (fMul q (rest q B (A (3 * i' + t')) (fp (rest q B (A (3 * i' + t'))))) (rest q B (A (3 * i' + t')))) := rfl
    have e2 : (bkS q B (A (3 * i' + t'))).2.2.2 = setp B.2.2.2 B.1 (fp (rest q B (A (3 * i' + t')))) := rfl
    generalize bkS q B (A (3 * i' + t')) = S at h1 e0 e1 e2
    generalize A (3 * i' + t') = a at *
    generalize rest q B a = X at *
    obtain ⟨R, hRR⟩ : ∃ R : Nat → Nat → Nat, R = fun k => (rdB q B a k).1 := ⟨_, rfl⟩
    have hR : ∀ k, (rdB q B a k).1 = R k := fun k => by rw [hRR]
    simp only [hR] at lt rd0 rds rdn
    clear hR hRR
    obtain ⟨m, hm⟩ : ∃ m, m = B.1 := ⟨_, rfl⟩
    have hq1 := ms_q hS
    have stay : ∀ {wi' : Nat → Nat → Int32}, (∀ y, y ≠ 59 → wi' y = wi y) → (∀ j, j < 9 * m → wi' 59 j = wi 59 j) → BM wi' q B := fun {wi'} k1 k2 => ⟨by rw [k1 45 (by decide)]; exact hB.1, hB.2.1, fun k hk => ⟨fun p hp => by rw [k2 _ (by omega)]; exact (hB.2.2 k hk).1 p hp, (hB.2.2 k hk).2⟩⟩
    refine ⟨Nat.le_of_ble_eq_true rfl, fun Jm hs => ?_⟩
    have norm : ¬ zB X = true → ∀ wi' : Nat → Nat → Int32, (∀ y, y ≠ 59 → wi' y = wi y) → (∀ j, j < 9 * m → wi' 59 j = wi 59 j) → RA wi' 59 (9 * m) X → Jm 170 [some (.ref 45), some (.int (nI i')), some (.int (nI t')), some (.int (nI (9 * m))), some (.int (nI (ldN X))), some (.int (nI (X (ldN X)))), some (.int (nI 0)), none] [] (GC ++ (GM ++ r), wi', wl) 0 0 := fun hz wi' hF hK hX => by
      have l := ld_n hz
      have lx := lt m
      rw [show R m = X by rw [hm]; exact rdn] at lx
      have c1 := lx _ l.2.1
      have lm := ld_mul q23 lx c1 l.2.2.1 hz
      have mw := up_ind (P := fun k => ∀ wi2 : Nat → Nat → Int32, (∀ y, y ≠ 59 → wi2 y = wi y) → (∀ j, j < 9 * m → wi2 59 j = wi 59 j) → RA wi2 59 (9 * m) (mixA k (fun _ => X) (fun _ => fMul q (X (ldN X)) X) 0) → Jm 170 [some (.ref 45), some (.int (nI i')), some (.int (nI t')), some (.int (nI (9 * m))), some (.int (nI (ldN X))), some (.int (nI (X (ldN X)))), some (.int (nI k)), none] [] (GC ++ (GM ++ r), wi2, wl) 0 0) 9 (fun k hk ih => by
        intro wi2 hF2 hK2 hX2
        refine hs 400 170 _ _ _ _ _ ?_
        conv => whnf
        repeat ((first | refine ⟨zH_of _, ?_⟩ | refine ⟨trivial, ?_⟩ | refine ⟨rfl, ?_⟩ | refine ⟨fun hc => absurd hc (by decide), fun _ => ?_⟩ | refine ⟨fun _ => ?_, fun hc => absurd (by decide) hc⟩ | refine ⟨fun _ => ?_, fun hc => absurd hc (by decide)⟩ | refine ⟨fun hc => absurd (by decide) hc, fun _ => ?_⟩); conv => whnf)
        try dsimp only
        rw [ltN (by omega) (by omega)]
        refine ⟨fun hc => ?_, fun hc => ?_⟩
        · obtain rfl : k = 9 := by omega
          have hX3 : RA wi2 59 (9 * m) (fMul q (X (ldN X)) X) := ra_congr hX2 (fun p hp => if_pos hp)
          have b2 := stay hF2 hK2
          conv => whnf
          repeat ((first | refine ⟨zH_of _, ?_⟩ | refine ⟨trivial, ?_⟩ | refine ⟨rfl, ?_⟩ | refine ⟨fun hc => absurd hc (by decide), fun _ => ?_⟩ | refine ⟨fun _ => ?_, fun hc => absurd (by decide) hc⟩ | refine ⟨fun _ => ?_, fun hc => absurd hc (by decide)⟩ | refine ⟨fun hc => absurd (by decide) hc, fun _ => ?_⟩); conv => whnf)
          try dsimp only
          rw [b2.1, nI_add, ← e0]
          have h1 := h1 hz (z_up wi2 45 29 (nI S.1)) (fun y g1 g2 => by rw [z_up_ne g1, hF2 y g2]) (fun j hj => by rw [z_up_nei hj, hF2 45 (by decide)]) ⟨z_up_eq, by omega, fun k hk => ?_⟩
          · exact ⟨Or.inr rfl, h1⟩
          · rw [e0] at hk
            rw [e1, e2, l.1]
            by_cases e : k = B.1
            · rw [e, upA_at, setp_at]
              refine ⟨fun p hp => ?_, fun p _ => fMul_lt q23 _ _ p, lm, l.2.1⟩
              rw [z_up_ne (by decide), ← hm]
              exact hX3 p hp
            · rw [upA_ne e, setp_ne e]
              refine ⟨fun p hp => ?_, (b2.2.2 k (by omega)).2⟩
              rw [z_up_ne (by decide)]
              exact (b2.2.2 k (by omega)).1 p hp
        · have ih := ih hc
          have cx := lx k hc
          have rk : wi2 59 (9 * m + k) = nI (X k) := by
            rw [hX2 k hc]
            unfold mixA
            rw [if_neg (Nat.lt_irrefl k)]
          have mm : X k * X (ldN X) ≤ 2 * 2 := Nat.mul_le_mul (by omega) (by omega)
          conv => whnf
          repeat ((first | refine ⟨zH_of _, ?_⟩ | refine ⟨trivial, ?_⟩ | refine ⟨rfl, ?_⟩ | refine ⟨fun hc => absurd hc (by decide), fun _ => ?_⟩ | refine ⟨fun _ => ?_, fun hc => absurd (by decide) hc⟩ | refine ⟨fun _ => ?_, fun hc => absurd hc (by decide)⟩ | refine ⟨fun hc => absurd (by decide) hc, fun _ => ?_⟩); conv => whnf)
          try dsimp only
          rw [nI_add]
          refine ⟨vp_in_nI (show 9 * m + k < 81 by omega) (by decide), ?_⟩
          conv => whnf
          repeat ((first | refine ⟨zH_of _, ?_⟩ | refine ⟨trivial, ?_⟩ | refine ⟨rfl, ?_⟩ | refine ⟨fun hc => absurd hc (by decide), fun _ => ?_⟩ | refine ⟨fun _ => ?_, fun hc => absurd (by decide) hc⟩ | refine ⟨fun _ => ?_, fun hc => absurd hc (by decide)⟩ | refine ⟨fun hc => absurd (by decide) hc, fun _ => ?_⟩); conv => whnf)
          try dsimp only
          rw [hF2 45 (by decide), hq1]
          refine ⟨q_n0 q23, ?_⟩
          conv => whnf
          repeat ((first | refine ⟨zH_of _, ?_⟩ | refine ⟨trivial, ?_⟩ | refine ⟨rfl, ?_⟩ | refine ⟨fun hc => absurd hc (by decide), fun _ => ?_⟩ | refine ⟨fun _ => ?_, fun hc => absurd (by decide) hc⟩ | refine ⟨fun _ => ?_, fun hc => absurd hc (by decide)⟩ | refine ⟨fun hc => absurd (by decide) hc, fun _ => ?_⟩); conv => whnf)
          try dsimp only
          refine ⟨vp_in_nI (show 9 * m + k < 81 by omega) (by decide), ?_⟩
          rw [nI_clamp (n := 9 * m + k) (by omega), rk, pk_mul, z_remN (by omega) (by omega) (by omega)]
          conv => whnf
          repeat ((first | refine ⟨zH_of _, ?_⟩ | refine ⟨trivial, ?_⟩ | refine ⟨rfl, ?_⟩ | refine ⟨fun hc => absurd hc (by decide), fun _ => ?_⟩ | refine ⟨fun _ => ?_, fun hc => absurd (by decide) hc⟩ | refine ⟨fun _ => ?_, fun hc => absurd hc (by decide)⟩ | refine ⟨fun hc => absurd (by decide) hc, fun _ => ?_⟩); conv => whnf)
          try dsimp only
          rw [nI_add]
          refine ih _ (fun y hy => by rw [z_up_ne hy, hF2 y hy]) (fun j hj => by rw [z_up_nei (by omega), hK2 j hj]) ?_
          rw [← mix_s, show fMul q (X (ldN X)) X k = X k * X (ldN X) % q by show X (ldN X) * X k % q = _; rw [Nat.mul_comm]]
          exact ra_put hX2)
      refine mw 0 (Nat.zero_le _) wi' hF hK ?_
      rw [mix_0]
      exact hX
    have rows := up_ind (P := fun x => ∀ wi' : Nat → Nat → Int32, (∀ y, y ≠ 59 → wi' y = wi y) → (∀ j, j < 9 * m → wi' 59 j = wi 59 j) → RA wi' 59 (9 * m) (R x) → Jm 48 [some (.ref 45), some (.int (nI i')), some (.int (nI t')), some (.int (nI (9 * m))), some (.int (nI x)), none, none, none] [] (GC ++ (GM ++ r), wi', wl) 0 0) m (fun x hx ih => by
      intro wi' hF hK hX
      have b2 := stay hF hK
      refine hs 400 48 _ _ _ _ _ ?_
      conv => whnf
      repeat ((first | refine ⟨zH_of _, ?_⟩ | refine ⟨trivial, ?_⟩ | refine ⟨rfl, ?_⟩ | refine ⟨fun hc => absurd hc (by decide), fun _ => ?_⟩ | refine ⟨fun _ => ?_, fun hc => absurd (by decide) hc⟩ | refine ⟨fun _ => ?_, fun hc => absurd hc (by decide)⟩ | refine ⟨fun hc => absurd (by decide) hc, fun _ => ?_⟩); conv => whnf)
      try dsimp only
      rw [b2.1, ← hm, ltN (by omega) (by omega)]
      refine ⟨fun hc => ?_, fun hc => ?_⟩
      · obtain hxm : x = m := by omega
        rw [hxm, hm, rdn, ← hm] at hX
        have lx := lt m
        rw [show R m = X by rw [hm]; exact rdn] at lx
        have ll := ld_le X
        conv => whnf
        repeat ((first | refine ⟨zH_of _, ?_⟩ | refine ⟨trivial, ?_⟩ | refine ⟨rfl, ?_⟩ | refine ⟨fun hc => absurd hc (by decide), fun _ => ?_⟩ | refine ⟨fun _ => ?_, fun hc => absurd (by decide) hc⟩ | refine ⟨fun _ => ?_, fun hc => absurd hc (by decide)⟩ | refine ⟨fun hc => absurd (by decide) hc, fun _ => ?_⟩); conv => whnf)
        try dsimp only
        refine ⟨_, X, hX, lt3_of q23 lx, rfl, by omega, ?_⟩
        conv => whnf
        repeat ((first | refine ⟨zH_of _, ?_⟩ | refine ⟨trivial, ?_⟩ | refine ⟨rfl, ?_⟩ | refine ⟨fun hc => absurd hc (by decide), fun _ => ?_⟩ | refine ⟨fun _ => ?_, fun hc => absurd (by decide) hc⟩ | refine ⟨fun _ => ?_, fun hc => absurd hc (by decide)⟩ | refine ⟨fun hc => absurd (by decide) hc, fun _ => ?_⟩); conv => whnf)
        try dsimp only
        rw [nI_eq (by omega) (by omega)]
        refine ⟨fun hn => ?_, fun hn => ?_⟩
        · have nz : ¬ zB X = true := fun z => by
            have := ld_z.mpr z
            omega
          have l := ld_n nz
          conv => whnf
          repeat ((first | refine ⟨zH_of _, ?_⟩ | refine ⟨trivial, ?_⟩ | refine ⟨rfl, ?_⟩ | refine ⟨fun hc => absurd hc (by decide), fun _ => ?_⟩ | refine ⟨fun _ => ?_, fun hc => absurd (by decide) hc⟩ | refine ⟨fun _ => ?_, fun hc => absurd hc (by decide)⟩ | refine ⟨fun hc => absurd (by decide) hc, fun _ => ?_⟩); conv => whnf)
          try dsimp only
          rw [nI_add]
          refine ⟨vp_in_nI (show 9 * m + ldN X < 81 by omega) (by decide), ?_⟩
          rw [nI_clamp (n := 9 * m + ldN X) (by omega), hX _ l.2.1]
          conv => whnf
          repeat ((first | refine ⟨zH_of _, ?_⟩ | refine ⟨trivial, ?_⟩ | refine ⟨rfl, ?_⟩ | refine ⟨fun hc => absurd hc (by decide), fun _ => ?_⟩ | refine ⟨fun _ => ?_, fun hc => absurd (by decide) hc⟩ | refine ⟨fun _ => ?_, fun hc => absurd hc (by decide)⟩ | refine ⟨fun hc => absurd (by decide) hc, fun _ => ?_⟩); conv => whnf)
          try dsimp only
          exact norm nz wi' hF hK hX
        · have hz : zB X = true := ld_z.mp (by omega)
          conv => whnf
          repeat ((first | refine ⟨zH_of _, ?_⟩ | refine ⟨trivial, ?_⟩ | refine ⟨rfl, ?_⟩ | refine ⟨fun hc => absurd hc (by decide), fun _ => ?_⟩ | refine ⟨fun _ => ?_, fun hc => absurd (by decide) hc⟩ | refine ⟨fun _ => ?_, fun hc => absurd hc (by decide)⟩ | refine ⟨fun hc => absurd (by decide) hc, fun _ => ?_⟩); conv => whnf)
          try dsimp only
          exact ⟨Or.inl rfl, h0 hz wi' hF b2⟩
      · have ih := ih hc
        have bx := b2.2.2 x (by omega)
        have lx := lt x
        have rdx := rds x
        have cl := lx _ bx.2.2.2
        have inner := up_ind (P := fun k => ∀ wi2 : Nat → Nat → Int32, (∀ y, y ≠ 59 → wi2 y = wi y) → (∀ j, j < 9 * m → wi2 59 j = wi 59 j) → RA wi2 59 (9 * m) (mixA k (fun _ => R x) (fun _ => R (x + 1)) 0) → Jm 82 [some (.ref 45), some (.int (nI i')), some (.int (nI t')), some (.int (nI (9 * m))), some (.int (nI x)), some (.int (nI (B.2.2.2 x))), some (.int (nI (R x (B.2.2.2 x)))), some (.int (nI k))] [] (GC ++ (GM ++ r), wi2, wl) 0 0) 9 (fun k hk ihk => by
          intro wi2 hF2 hK2 hX2
          have b3 := (stay hF2 hK2).2.2 x (by omega)
          refine hs 400 82 _ _ _ _ _ ?_
          conv => whnf
          repeat ((first | refine ⟨zH_of _, ?_⟩ | refine ⟨trivial, ?_⟩ | refine ⟨rfl, ?_⟩ | refine ⟨fun hc => absurd hc (by decide), fun _ => ?_⟩ | refine ⟨fun _ => ?_, fun hc => absurd (by decide) hc⟩ | refine ⟨fun _ => ?_, fun hc => absurd hc (by decide)⟩ | refine ⟨fun hc => absurd (by decide) hc, fun _ => ?_⟩); conv => whnf)
          try dsimp only
          rw [ltN (by omega) (by omega)]
          refine ⟨fun hc2 => ?_, fun hc2 => ?_⟩
          · obtain rfl : k = 9 := by omega
            conv => whnf
            repeat ((first | refine ⟨zH_of _, ?_⟩ | refine ⟨trivial, ?_⟩ | refine ⟨rfl, ?_⟩ | refine ⟨fun hc => absurd hc (by decide), fun _ => ?_⟩ | refine ⟨fun _ => ?_, fun hc => absurd (by decide) hc⟩ | refine ⟨fun _ => ?_, fun hc => absurd hc (by decide)⟩ | refine ⟨fun hc => absurd (by decide) hc, fun _ => ?_⟩); conv => whnf)
            try dsimp only
            rw [nI_add]
            exact ih wi2 hF2 hK2 (ra_congr hX2 (fun p hp => if_pos hp))
          · have ihk := ihk hc2
            have cx := lx k hc2
            have cy := b3.2.1 k hc2
            have rk : wi2 59 (9 * m + k) = nI (R x k) := by
              rw [hX2 k hc2]
              unfold mixA
              rw [if_neg (Nat.lt_irrefl k)]
            have mm : R x (B.2.2.2 x) * B.2.1 x k ≤ 2 * 2 := Nat.mul_le_mul (by omega) (by omega)
            conv => whnf
            repeat ((first | refine ⟨zH_of _, ?_⟩ | refine ⟨trivial, ?_⟩ | refine ⟨rfl, ?_⟩ | refine ⟨fun hc => absurd hc (by decide), fun _ => ?_⟩ | refine ⟨fun _ => ?_, fun hc => absurd (by decide) hc⟩ | refine ⟨fun _ => ?_, fun hc => absurd hc (by decide)⟩ | refine ⟨fun hc => absurd (by decide) hc, fun _ => ?_⟩); conv => whnf)
            try dsimp only
            rw [nI_add]
            refine ⟨vp_in_nI (show 9 * m + k < 81 by omega) (by decide), ?_⟩
            conv => whnf
            repeat ((first | refine ⟨zH_of _, ?_⟩ | refine ⟨trivial, ?_⟩ | refine ⟨rfl, ?_⟩ | refine ⟨fun hc => absurd hc (by decide), fun _ => ?_⟩ | refine ⟨fun _ => ?_, fun hc => absurd (by decide) hc⟩ | refine ⟨fun _ => ?_, fun hc => absurd hc (by decide)⟩ | refine ⟨fun hc => absurd (by decide) hc, fun _ => ?_⟩); conv => whnf)
            try dsimp only
            rw [pk_mul, nI_add]
            refine ⟨vp_in_nI (show 9 * x + k < 81 by omega) (by decide), ?_⟩
            rw [nI_clamp (n := 9 * m + k) (by omega), nI_clamp (n := 9 * x + k) (by omega), rk, b3.1 k hc2]
            conv => whnf
            repeat ((first | refine ⟨zH_of _, ?_⟩ | refine ⟨trivial, ?_⟩ | refine ⟨rfl, ?_⟩ | refine ⟨fun hc => absurd hc (by decide), fun _ => ?_⟩ | refine ⟨fun _ => ?_, fun hc => absurd (by decide) hc⟩ | refine ⟨fun _ => ?_, fun hc => absurd hc (by decide)⟩ | refine ⟨fun hc => absurd (by decide) hc, fun _ => ?_⟩); conv => whnf)
            try dsimp only
            refine ⟨q, by rw [hF2 45 (by decide)]; exact hq1, q23, ?_⟩
            rw [pk_mul, mod_sub q23 (by omega) (by omega), ← rdx k]
            conv => whnf
            repeat ((first | refine ⟨zH_of _, ?_⟩ | refine ⟨trivial, ?_⟩ | refine ⟨rfl, ?_⟩ | refine ⟨fun hc => absurd hc (by decide), fun _ => ?_⟩ | refine ⟨fun _ => ?_, fun hc => absurd (by decide) hc⟩ | refine ⟨fun _ => ?_, fun hc => absurd hc (by decide)⟩ | refine ⟨fun hc => absurd (by decide) hc, fun _ => ?_⟩); conv => whnf)
            try dsimp only
            refine ⟨vp_in_nI (show 9 * m + k < 81 by omega) (by decide), ?_⟩
            rw [nI_clamp (n := 9 * m + k) (by omega)]
            conv => whnf
            repeat ((first | refine ⟨zH_of _, ?_⟩ | refine ⟨trivial, ?_⟩ | refine ⟨rfl, ?_⟩ | refine ⟨fun hc => absurd hc (by decide), fun _ => ?_⟩ | refine ⟨fun _ => ?_, fun hc => absurd (by decide) hc⟩ | refine ⟨fun _ => ?_, fun hc => absurd hc (by decide)⟩ | refine ⟨fun hc => absurd (by decide) hc, fun _ => ?_⟩); conv => whnf)
            try dsimp only
            rw [nI_add]
            refine ihk _ (fun y hy => by rw [z_up_ne hy, hF2 y hy]) (fun j hj => by rw [z_up_nei (by omega), hK2 j hj]) ?_
            rw [← mix_s]
            exact ra_put hX2)
        conv => whnf
        repeat ((first | refine ⟨zH_of _, ?_⟩ | refine ⟨trivial, ?_⟩ | refine ⟨rfl, ?_⟩ | refine ⟨fun hc => absurd hc (by decide), fun _ => ?_⟩ | refine ⟨fun _ => ?_, fun hc => absurd (by decide) hc⟩ | refine ⟨fun _ => ?_, fun hc => absurd hc (by decide)⟩ | refine ⟨fun hc => absurd (by decide) hc, fun _ => ?_⟩); conv => whnf)
        try dsimp only
        rw [pk_mul]
        refine ⟨9 * x, _, bx.1, lt3_of q23 bx.2.1, rfl, by omega, ?_⟩
        rw [bx.2.2.1]
        conv => whnf
        repeat ((first | refine ⟨zH_of _, ?_⟩ | refine ⟨trivial, ?_⟩ | refine ⟨rfl, ?_⟩ | refine ⟨fun hc => absurd hc (by decide), fun _ => ?_⟩ | refine ⟨fun _ => ?_, fun hc => absurd (by decide) hc⟩ | refine ⟨fun _ => ?_, fun hc => absurd hc (by decide)⟩ | refine ⟨fun hc => absurd (by decide) hc, fun _ => ?_⟩); conv => whnf)
        try dsimp only
        rw [nI_add]
        refine ⟨vp_in_nI (show 9 * m + B.2.2.2 x < 81 by omega) (by decide), ?_⟩
        rw [nI_clamp (n := 9 * m + B.2.2.2 x) (by omega), hX _ bx.2.2.2]
        conv => whnf
        repeat ((first | refine ⟨zH_of _, ?_⟩ | refine ⟨trivial, ?_⟩ | refine ⟨rfl, ?_⟩ | refine ⟨fun hc => absurd hc (by decide), fun _ => ?_⟩ | refine ⟨fun _ => ?_, fun hc => absurd (by decide) hc⟩ | refine ⟨fun _ => ?_, fun hc => absurd hc (by decide)⟩ | refine ⟨fun hc => absurd (by decide) hc, fun _ => ?_⟩); conv => whnf)
        try dsimp only
        refine inner 0 (Nat.zero_le _) wi' hF hK ?_
        rw [mix_0]
        exact hX)
    have copy := up_ind (P := fun k => ∀ wi' : Nat → Nat → Int32, (∀ y, y ≠ 59 → wi' y = wi y) → (∀ j, j < 9 * m → wi' 59 j = wi 59 j) → (∀ p, p < k → wi' 59 (9 * m + p) = nI (a p)) → Jm 11 [some (.ref 45), some (.int (nI i')), some (.int (nI t')), some (.int (nI (9 * m))), some (.int (nI k)), none, none, none] [] (GC ++ (GM ++ r), wi', wl) 0 0) 9 (fun k hk ih => by
      intro wi' hF hK hX
      refine hs 400 11 _ _ _ _ _ ?_
      conv => whnf
      repeat ((first | refine ⟨zH_of _, ?_⟩ | refine ⟨trivial, ?_⟩ | refine ⟨rfl, ?_⟩ | refine ⟨fun hc => absurd hc (by decide), fun _ => ?_⟩ | refine ⟨fun _ => ?_, fun hc => absurd (by decide) hc⟩ | refine ⟨fun _ => ?_, fun hc => absurd hc (by decide)⟩ | refine ⟨fun hc => absurd (by decide) hc, fun _ => ?_⟩); conv => whnf)
      try dsimp only
      rw [ltN (by omega) (by omega)]
      refine ⟨fun hc => ?_, fun hc => ?_⟩
      · obtain rfl : k = 9 := by omega
        conv => whnf
        repeat ((first | refine ⟨zH_of _, ?_⟩ | refine ⟨trivial, ?_⟩ | refine ⟨rfl, ?_⟩ | refine ⟨fun hc => absurd hc (by decide), fun _ => ?_⟩ | refine ⟨fun _ => ?_, fun hc => absurd (by decide) hc⟩ | refine ⟨fun _ => ?_, fun hc => absurd hc (by decide)⟩ | refine ⟨fun hc => absurd (by decide) hc, fun _ => ?_⟩); conv => whnf)
        try dsimp only
        refine rows 0 (Nat.zero_le _) wi' hF hK ?_
        rw [rd0]
        exact hX
      · have ih := ih hc
        conv => whnf
        repeat ((first | refine ⟨zH_of _, ?_⟩ | refine ⟨trivial, ?_⟩ | refine ⟨rfl, ?_⟩ | refine ⟨fun hc => absurd hc (by decide), fun _ => ?_⟩ | refine ⟨fun _ => ?_, fun hc => absurd (by decide) hc⟩ | refine ⟨fun _ => ?_, fun hc => absurd hc (by decide)⟩ | refine ⟨fun hc => absurd (by decide) hc, fun _ => ?_⟩); conv => whnf)
        try dsimp only
        rw [nI_add, at_N]
        refine ⟨vp_in_nI (show 27 * i' + 9 * t' + k < 1080 by omega) (by decide), ?_⟩
        conv => whnf
        repeat ((first | refine ⟨zH_of _, ?_⟩ | refine ⟨trivial, ?_⟩ | refine ⟨rfl, ?_⟩ | refine ⟨fun hc => absurd hc (by decide), fun _ => ?_⟩ | refine ⟨fun _ => ?_, fun hc => absurd (by decide) hc⟩ | refine ⟨fun _ => ?_, fun hc => absurd hc (by decide)⟩ | refine ⟨fun hc => absurd (by decide) hc, fun _ => ?_⟩); conv => whnf)
        try dsimp only
        refine ⟨vp_in_nI (show 9 * m + k < 81 by omega) (by decide), ?_⟩
        rw [nI_clamp (n := 27 * i' + 9 * t' + k) (by omega), nI_clamp (n := 9 * m + k) (by omega), hF 47 (by decide), ae k hc]
        conv => whnf
        repeat ((first | refine ⟨zH_of _, ?_⟩ | refine ⟨trivial, ?_⟩ | refine ⟨rfl, ?_⟩ | refine ⟨fun hc => absurd hc (by decide), fun _ => ?_⟩ | refine ⟨fun _ => ?_, fun hc => absurd (by decide) hc⟩ | refine ⟨fun _ => ?_, fun hc => absurd hc (by decide)⟩ | refine ⟨fun hc => absurd (by decide) hc, fun _ => ?_⟩); conv => whnf)
        try dsimp only
        rw [nI_add]
        refine ih _ (fun y hy => by rw [z_up_ne hy, hF y hy]) (fun j hj => by rw [z_up_nei (by omega), hK j hj]) (fun p hp => ?_)
        by_cases e : p = k
        · rw [e, z_up_eq]
        · rw [z_up_nei (by omega)]
          exact hX p (by omega))
    refine hs 400 0 _ _ _ _ _ ?_
    conv => whnf
    repeat ((first | refine ⟨zH_of _, ?_⟩ | refine ⟨trivial, ?_⟩ | refine ⟨rfl, ?_⟩ | refine ⟨fun hc => absurd hc (by decide), fun _ => ?_⟩ | refine ⟨fun _ => ?_, fun hc => absurd (by decide) hc⟩ | refine ⟨fun _ => ?_, fun hc => absurd hc (by decide)⟩ | refine ⟨fun hc => absurd (by decide) hc, fun _ => ?_⟩); conv => whnf)
    try dsimp only
    rw [hB.1, pk_mul, ← hm]
    exact copy 0 (Nat.zero_le _) wi (fun _ _ => rfl) (fun _ _ => rfl) (fun p hp => absurd hp (Nat.not_lt_zero p))

