/-! the reference: what is given, needed; likeness -/
def sp_X12_likeAt : zSp := fun av w K => match av with
  | [.ref o, .int i, .int j, .int t] => o = 45 ∧ zH w.1 ∧ ∃ d q c A i' j' t', MS w.2.1 d q c A ∧ i = nI i' ∧ i' < c ∧ j = nI j' ∧ j' < c ∧ t = nI t' ∧ t' < 3 ∧ K (some (.int (nI (likeN q (A (3 * i' + t')) (A (3 * j' + t')))))) w
  | _ => False
def rm_X12_likeAt : Room := { frames := 2, cells := 0, slots := 0, locals := 49 }
def M_X12_likeAt : zM := (k_X12_likeAt, f_X12, [(107, 0, 0, 3, 0, 0, sp_X12_at), (213, 4, 10, 5, 0, 0, sp_X12_likeOf)], ([], [], []), [], [], 1, false, (false, 0, fun _ => 0), (0, 0))
theorem ca_X12_likeAt_0 (l : Launch) : z_cok l RX12 (headSpec (.code yX12_likeAt cX12_likeAt 4 (some .int) :: zTT) rm_X12_likeAt).room (107, 0, 0, 3, 0, 0, sp_X12_at) := z_ca0 (c_X12_at l) mb_X12_at wt_1136 wt_1137 (by decide)
theorem ca_X12_likeAt_1 (l : Launch) : z_cok l RX12 (headSpec (.code yX12_likeAt cX12_likeAt 4 (some .int) :: zTT) rm_X12_likeAt).room (213, 4, 10, 5, 0, 0, sp_X12_likeOf) := z_ca4 (c_X12_likeOf l) mb_X12_likeOf ⟨_, rfl, rfl⟩ wt_1408 wt_1410 wt_54 (by decide)
theorem O_X12_likeAt (l : Launch) : z_OK l RX12 cX12_likeAt (headSpec (.code yX12_likeAt cX12_likeAt 4 (some .int) :: zTT) rm_X12_likeAt).room M_X12_likeAt := ⟨ok_X12_likeAt, fo_X12, List.forall_mem_cons.mpr ⟨ca_X12_likeAt_0 l, List.forall_mem_cons.mpr ⟨ca_X12_likeAt_1 l, fun _ h => absurd h List.not_mem_nil⟩⟩, fun _ h => absurd h List.not_mem_nil, fun _ h => absurd h List.not_mem_nil, fun _ h => absurd h List.not_mem_nil, fun _ h => absurd h List.not_mem_nil, rfl, rfl⟩
theorem c_X12_likeAt (l : Launch) : z_CS l yX12_likeAt cX12_likeAt 4 (some .int) rm_X12_likeAt sp_X12_likeAt := by
  refine z_meth (by decide) (Or.inr (Or.inl ⟨rfl, rfl⟩)) (fun h => by cases h) rfl (O_X12_likeAt l) ?_
  intro av w K h
  match av, h with
  | [.ref o, .int i, .int j, .int t], h =>
    obtain ⟨rfl, ⟨r, hG⟩, d, q, c, A, i', j', t', hS, rfl, hi, rfl, hj, rfl, ht, h⟩ := h
    obtain ⟨G, wi, wl⟩ := w
    subst hG
    try dsimp only at h hS
    have h40 := ms_40 hS
    refine ⟨Nat.le_of_ble_eq_true rfl, fun Jm hs => hs 400 0 _ _ _ _ _ ?_⟩
    conv => whnf
    repeat ((first | refine ⟨zH_of _, ?_⟩ | refine ⟨trivial, ?_⟩ | refine ⟨rfl, ?_⟩ | refine ⟨fun hc => absurd hc (by decide), fun _ => ?_⟩ | refine ⟨fun _ => ?_, fun hc => absurd (by decide) hc⟩ | refine ⟨fun _ => ?_, fun hc => absurd hc (by decide)⟩ | refine ⟨fun hc => absurd (by decide) hc, fun _ => ?_⟩); conv => whnf)
    try dsimp only
    rw [show atN (nI i') (nI t') (nI 0) = nI (27 * i' + 9 * t') from at_N i' t' 0, show atN (nI j') (nI t') (nI 0) = nI (27 * j' + 9 * t') from at_N j' t' 0]
    refine ⟨Or.inl ⟨rfl, rfl⟩, q, 27 * i' + 9 * t', 27 * j' + 9 * t', _, _, ms_q hS, ms_q23 hS, rw_ra (ms_f hS) hi ht, rw_ra (ms_f hS) hj ht, ms_A hS _ (by omega), ms_A hS _ (by omega), rfl, by omega, rfl, by omega, ?_⟩
    conv => whnf
    repeat ((first | refine ⟨zH_of _, ?_⟩ | refine ⟨trivial, ?_⟩ | refine ⟨rfl, ?_⟩ | refine ⟨fun hc => absurd hc (by decide), fun _ => ?_⟩ | refine ⟨fun _ => ?_, fun hc => absurd (by decide) hc⟩ | refine ⟨fun _ => ?_, fun hc => absurd hc (by decide)⟩ | refine ⟨fun hc => absurd (by decide) hc, fun _ => ?_⟩); conv => whnf)
    try dsimp only
    exact h
theorem lkP_mod (q : Nat) (A : Nat → Nat → Nat) (i : Nat) (B : Nat → Nat → Nat) (k t : Nat) : lkP q A i B k t % q * likeN q (A (3 * i + t)) (B (3 * k + t)) % q = lkP q A i B k (t + 1) % q := by
  rw [lkP, Nat.mul_mod, Nat.mod_mod, ← Nat.mul_mod]
def sp_X12_areLike : zSp := fun av w K => match av with
  | [.ref o, .ref o1, .int i, .ref o2, .int j] => o = 45 ∧ zH w.1 ∧ ((o1 = 47 ∧ o2 = 47) ∨ (o1 = 47 ∧ o2 = 57) ∨ (o1 = 57 ∧ o2 = 47) ∨ (o1 = 47 ∧ o2 = 49)) ∧ ∃ q i' j' A B, w.2.1 45 1 = nI q ∧ (q = 2 ∨ q = 3) ∧ (∀ t, t < 3 → RA w.2.1 o1 (27 * i' + 9 * t) (A (3 * i' + t)) ∧ RA w.2.1 o2 (27 * j' + 9 * t) (B (3 * j' + t)) ∧ (∀ p, p < 9 → A (3 * i' + t) p < q) ∧ ∀ p, p < 9 → B (3 * j' + t) p < q) ∧ i = nI i' ∧ i' < 40 ∧ j = nI j' ∧ j' < 40 ∧ K (some (.int (bI (alB q A i' B j' = true)))) w
  | _ => False
def rm_X12_areLike : Room := { frames := 2, cells := 0, slots := 0, locals := 49 }
def M_X12_areLike : zM := (k_X12_areLike, f_X12, [(213, 4, 10, 5, 0, 0, sp_X12_likeOf)], ([], [], []), [], [(6, [true, true, true, true, true, true, true])], 2, false, (false, 0, fun _ => 0), (0, 0))
theorem ca_X12_areLike_0 (l : Launch) : z_cok l RX12 (headSpec (.code yX12_areLike cX12_areLike 7 (some .boolean) :: zTT) rm_X12_areLike).room (213, 4, 10, 5, 0, 0, sp_X12_likeOf) := z_ca4 (c_X12_likeOf l) mb_X12_likeOf ⟨_, rfl, rfl⟩ wt_1408 wt_1410 wt_54 (by decide)
theorem O_X12_areLike (l : Launch) : z_OK l RX12 cX12_areLike (headSpec (.code yX12_areLike cX12_areLike 7 (some .boolean) :: zTT) rm_X12_areLike).room M_X12_areLike := ⟨ok_X12_areLike, fo_X12, List.forall_mem_cons.mpr ⟨ca_X12_areLike_0 l, fun _ h => absurd h List.not_mem_nil⟩, fun _ h => absurd h List.not_mem_nil, fun _ h => absurd h List.not_mem_nil, fun _ h => absurd h List.not_mem_nil, fun _ h => absurd h List.not_mem_nil, rfl, rfl⟩
theorem c_X12_areLike (l : Launch) : z_CS l yX12_areLike cX12_areLike 7 (some .boolean) rm_X12_areLike sp_X12_areLike := by
  refine z_meth (by decide) (Or.inr (Or.inr (Or.inl ⟨rfl, rfl⟩))) (fun h => by cases h) rfl (O_X12_areLike l) ?_
  intro av w K h
  match av, h with
  | [.ref o, .ref o1, .int i, .ref o2, .int j], h =>
    obtain ⟨rfl, ⟨r, hG⟩, ho, q, i', j', A, B, hQ, hq, hT, rfl, hi, rfl, hj, h⟩ := h
    obtain ⟨G, wi, wl⟩ := w
    subst hG
    try dsimp only at h hT hQ
    have e1 : (1 : Nat) % q = 1 := Nat.mod_eq_of_lt (by omega)
    rcases ho with ⟨rfl, rfl⟩ | ⟨rfl, rfl⟩ | ⟨rfl, rfl⟩ | ⟨rfl, rfl⟩
    · refine ⟨Nat.le_of_ble_eq_true rfl, fun Jm hs => ?_⟩
      have loop := up_ind (P := fun t => Jm 6 [some (.ref 45), some (.ref 47), some (.int (nI i')), some (.ref 47), some (.int (nI j')), some (.int (nI (lkP q A i' B j' t % q))), some (.int (nI t))] [] (GC ++ (GM ++ r), wi, wl) 0 0) 3 (fun t ht ih => by
        refine hs 400 6 _ _ _ _ _ ?_
        have ml : lkP q A i' B j' t % q < q := Nat.mod_lt _ (by omega)
        conv => whnf
        repeat ((first | refine ⟨zH_of _, ?_⟩ | refine ⟨trivial, ?_⟩ | refine ⟨rfl, ?_⟩ | refine ⟨fun hc => absurd hc (by decide), fun _ => ?_⟩ | refine ⟨fun _ => ?_, fun hc => absurd (by decide) hc⟩ | refine ⟨fun _ => ?_, fun hc => absurd hc (by decide)⟩ | refine ⟨fun hc => absurd (by decide) hc, fun _ => ?_⟩); conv => whnf)
        try dsimp only
        rw [ltN (by omega) (by omega)]
        refine ⟨fun hc => ?_, fun hc => ?_⟩
        · obtain rfl : t = 3 := by omega
          conv => whnf
          repeat ((first | refine ⟨zH_of _, ?_⟩ | refine ⟨trivial, ?_⟩ | refine ⟨rfl, ?_⟩ | refine ⟨fun hc => absurd hc (by decide), fun _ => ?_⟩ | refine ⟨fun _ => ?_, fun hc => absurd (by decide) hc⟩ | refine ⟨fun _ => ?_, fun hc => absurd hc (by decide)⟩ | refine ⟨fun hc => absurd (by decide) hc, fun _ => ?_⟩); conv => whnf)
          try dsimp only
          rw [nI_eq (by omega) (by decide)]
          refine ⟨fun hz => ?_, fun hz => ?_⟩
          · rw [bI_f (by simpa [alB] using hz)] at h
            exact ⟨Or.inl rfl, h⟩
          · rw [bI_t (by simpa [alB] using hz)] at h
            exact ⟨Or.inr rfl, h⟩
        · have ihn := ih hc
          have k := hT t hc
          have ll := likeN_lt_q hq (A (3 * i' + t)) (B (3 * j' + t))
          have lm : lkP q A i' B j' t % q * likeN q (A (3 * i' + t)) (B (3 * j' + t)) ≤ 2 * 2 := Nat.mul_le_mul (by omega) (by omega)
          rw [← lkP_mod] at ihn
          conv => whnf
          repeat ((first | refine ⟨zH_of _, ?_⟩ | refine ⟨trivial, ?_⟩ | refine ⟨rfl, ?_⟩ | refine ⟨fun hc => absurd hc (by decide), fun _ => ?_⟩ | refine ⟨fun _ => ?_, fun hc => absurd (by decide) hc⟩ | refine ⟨fun _ => ?_, fun hc => absurd hc (by decide)⟩ | refine ⟨fun hc => absurd (by decide) hc, fun _ => ?_⟩); conv => whnf)
          try dsimp only
          rw [pk_mul, pk_mul, pk_mul, nI_add, nI_add]
          refine ⟨by simp, q, 27 * i' + 9 * t, 27 * j' + 9 * t, _, _, hQ, hq, k.1, k.2.1, k.2.2.1, k.2.2.2, rfl, by omega, rfl, by omega, ?_⟩
          conv => whnf
          repeat ((first | refine ⟨zH_of _, ?_⟩ | refine ⟨trivial, ?_⟩ | refine ⟨rfl, ?_⟩ | refine ⟨fun hc => absurd hc (by decide), fun _ => ?_⟩ | refine ⟨fun _ => ?_, fun hc => absurd (by decide) hc⟩ | refine ⟨fun _ => ?_, fun hc => absurd hc (by decide)⟩ | refine ⟨fun hc => absurd (by decide) hc, fun _ => ?_⟩); conv => whnf)
          try dsimp only
          rw [hQ]
          refine ⟨q_n0 hq, ?_⟩
          conv => whnf
          repeat ((first | refine ⟨zH_of _, ?_⟩ | refine ⟨trivial, ?_⟩ | refine ⟨rfl, ?_⟩ | refine ⟨fun hc => absurd hc (by decide), fun _ => ?_⟩ | refine ⟨fun _ => ?_, fun hc => absurd (by decide) hc⟩ | refine ⟨fun _ => ?_, fun hc => absurd hc (by decide)⟩ | refine ⟨fun hc => absurd (by decide) hc, fun _ => ?_⟩); conv => whnf)
          try dsimp only
          rw [pk_mul, z_remN (by omega) (by omega) (by omega), nI_add]
          exact ihn)
      have l0 := loop 0 (Nat.zero_le _)
      simp only [lkP, e1] at l0
      exact hs 400 0 _ _ _ _ _ l0
    · refine ⟨Nat.le_of_ble_eq_true rfl, fun Jm hs => ?_⟩
      have loop := up_ind (P := fun t => Jm 6 [some (.ref 45), some (.ref 47), some (.int (nI i')), some (.ref 57), some (.int (nI j')), some (.int (nI (lkP q A i' B j' t % q))), some (.int (nI t))] [] (GC ++ (GM ++ r), wi, wl) 0 0) 3 (fun t ht ih => by
        refine hs 400 6 _ _ _ _ _ ?_
        have ml : lkP q A i' B j' t % q < q := Nat.mod_lt _ (by omega)
        conv => whnf
        repeat ((first | refine ⟨zH_of _, ?_⟩ | refine ⟨trivial, ?_⟩ | refine ⟨rfl, ?_⟩ | refine ⟨fun hc => absurd hc (by decide), fun _ => ?_⟩ | refine ⟨fun _ => ?_, fun hc => absurd (by decide) hc⟩ | refine ⟨fun _ => ?_, fun hc => absurd hc (by decide)⟩ | refine ⟨fun hc => absurd (by decide) hc, fun _ => ?_⟩); conv => whnf)
        try dsimp only
        rw [ltN (by omega) (by omega)]
        refine ⟨fun hc => ?_, fun hc => ?_⟩
        · obtain rfl : t = 3 := by omega
          conv => whnf
          repeat ((first | refine ⟨zH_of _, ?_⟩ | refine ⟨trivial, ?_⟩ | refine ⟨rfl, ?_⟩ | refine ⟨fun hc => absurd hc (by decide), fun _ => ?_⟩ | refine ⟨fun _ => ?_, fun hc => absurd (by decide) hc⟩ | refine ⟨fun _ => ?_, fun hc => absurd hc (by decide)⟩ | refine ⟨fun hc => absurd (by decide) hc, fun _ => ?_⟩); conv => whnf)
          try dsimp only
          rw [nI_eq (by omega) (by decide)]
          refine ⟨fun hz => ?_, fun hz => ?_⟩
          · rw [bI_f (by simpa [alB] using hz)] at h
            exact ⟨Or.inl rfl, h⟩
          · rw [bI_t (by simpa [alB] using hz)] at h
            exact ⟨Or.inr rfl, h⟩
        · have ihn := ih hc
          have k := hT t hc
          have ll := likeN_lt_q hq (A (3 * i' + t)) (B (3 * j' + t))
          have lm : lkP q A i' B j' t % q * likeN q (A (3 * i' + t)) (B (3 * j' + t)) ≤ 2 * 2 := Nat.mul_le_mul (by omega) (by omega)
          rw [← lkP_mod] at ihn
          conv => whnf
          repeat ((first | refine ⟨zH_of _, ?_⟩ | refine ⟨trivial, ?_⟩ | refine ⟨rfl, ?_⟩ | refine ⟨fun hc => absurd hc (by decide), fun _ => ?_⟩ | refine ⟨fun _ => ?_, fun hc => absurd (by decide) hc⟩ | refine ⟨fun _ => ?_, fun hc => absurd hc (by decide)⟩ | refine ⟨fun hc => absurd (by decide) hc, fun _ => ?_⟩); conv => whnf)
          try dsimp only
          rw [pk_mul, pk_mul, pk_mul, nI_add, nI_add]
          refine ⟨by simp, q, 27 * i' + 9 * t, 27 * j' + 9 * t, _, _, hQ, hq, k.1, k.2.1, k.2.2.1, k.2.2.2, rfl, by omega, rfl, by omega, ?_⟩
          conv => whnf
          repeat ((first | refine ⟨zH_of _, ?_⟩ | refine ⟨trivial, ?_⟩ | refine ⟨rfl, ?_⟩ | refine ⟨fun hc => absurd hc (by decide), fun _ => ?_⟩ | refine ⟨fun _ => ?_, fun hc => absurd (by decide) hc⟩ | refine ⟨fun _ => ?_, fun hc => absurd hc (by decide)⟩ | refine ⟨fun hc => absurd (by decide) hc, fun _ => ?_⟩); conv => whnf)
          try dsimp only
          rw [hQ]
          refine ⟨q_n0 hq, ?_⟩
          conv => whnf
          repeat ((first | refine ⟨zH_of _, ?_⟩ | refine ⟨trivial, ?_⟩ | refine ⟨rfl, ?_⟩ | refine ⟨fun hc => absurd hc (by decide), fun _ => ?_⟩ | refine ⟨fun _ => ?_, fun hc => absurd (by decide) hc⟩ | refine ⟨fun _ => ?_, fun hc => absurd hc (by decide)⟩ | refine ⟨fun hc => absurd (by decide) hc, fun _ => ?_⟩); conv => whnf)
          try dsimp only
          rw [pk_mul, z_remN (by omega) (by omega) (by omega), nI_add]
          exact ihn)
      have l0 := loop 0 (Nat.zero_le _)
      simp only [lkP, e1] at l0
      exact hs 400 0 _ _ _ _ _ l0
    · refine ⟨Nat.le_of_ble_eq_true rfl, fun Jm hs => ?_⟩
      have loop := up_ind (P := fun t => Jm 6 [some (.ref 45), some (.ref 57), some (.int (nI i')), some (.ref 47), some (.int (nI j')), some (.int (nI (lkP q A i' B j' t % q))), some (.int (nI t))] [] (GC ++ (GM ++ r), wi, wl) 0 0) 3 (fun t ht ih => by
        refine hs 400 6 _ _ _ _ _ ?_
        have ml : lkP q A i' B j' t % q < q := Nat.mod_lt _ (by omega)
        conv => whnf
        repeat ((first | refine ⟨zH_of _, ?_⟩ | refine ⟨trivial, ?_⟩ | refine ⟨rfl, ?_⟩ | refine ⟨fun hc => absurd hc (by decide), fun _ => ?_⟩ | refine ⟨fun _ => ?_, fun hc => absurd (by decide) hc⟩ | refine ⟨fun _ => ?_, fun hc => absurd hc (by decide)⟩ | refine ⟨fun hc => absurd (by decide) hc, fun _ => ?_⟩); conv => whnf)
        try dsimp only
        rw [ltN (by omega) (by omega)]
        refine ⟨fun hc => ?_, fun hc => ?_⟩
        · obtain rfl : t = 3 := by omega
          conv => whnf
          repeat ((first | refine ⟨zH_of _, ?_⟩ | refine ⟨trivial, ?_⟩ | refine ⟨rfl, ?_⟩ | refine ⟨fun hc => absurd hc (by decide), fun _ => ?_⟩ | refine ⟨fun _ => ?_, fun hc => absurd (by decide) hc⟩ | refine ⟨fun _ => ?_, fun hc => absurd hc (by decide)⟩ | refine ⟨fun hc => absurd (by decide) hc, fun _ => ?_⟩); conv => whnf)
          try dsimp only
          rw [nI_eq (by omega) (by decide)]
          refine ⟨fun hz => ?_, fun hz => ?_⟩
          · rw [bI_f (by simpa [alB] using hz)] at h
            exact ⟨Or.inl rfl, h⟩
          · rw [bI_t (by simpa [alB] using hz)] at h
            exact ⟨Or.inr rfl, h⟩
        · have ihn := ih hc
          have k := hT t hc
          have ll := likeN_lt_q hq (A (3 * i' + t)) (B (3 * j' + t))
          have lm : lkP q A i' B j' t % q * likeN q (A (3 * i' + t)) (B (3 * j' + t)) ≤ 2 * 2 := Nat.mul_le_mul (by omega) (by omega)
          rw [← lkP_mod] at ihn
          conv => whnf
          repeat ((first | refine ⟨zH_of _, ?_⟩ | refine ⟨trivial, ?_⟩ | refine ⟨rfl, ?_⟩ | refine ⟨fun hc => absurd hc (by decide), fun _ => ?_⟩ | refine ⟨fun _ => ?_, fun hc => absurd (by decide) hc⟩ | refine ⟨fun _ => ?_, fun hc => absurd hc (by decide)⟩ | refine ⟨fun hc => absurd (by decide) hc, fun _ => ?_⟩); conv => whnf)
          try dsimp only
          rw [pk_mul, pk_mul, pk_mul, nI_add, nI_add]
          refine ⟨by simp, q, 27 * i' + 9 * t, 27 * j' + 9 * t, _, _, hQ, hq, k.1, k.2.1, k.2.2.1, k.2.2.2, rfl, by omega, rfl, by omega, ?_⟩
          conv => whnf
          repeat ((first | refine ⟨zH_of _, ?_⟩ | refine ⟨trivial, ?_⟩ | refine ⟨rfl, ?_⟩ | refine ⟨fun hc => absurd hc (by decide), fun _ => ?_⟩ | refine ⟨fun _ => ?_, fun hc => absurd (by decide) hc⟩ | refine ⟨fun _ => ?_, fun hc => absurd hc (by decide)⟩ | refine ⟨fun hc => absurd (by decide) hc, fun _ => ?_⟩); conv => whnf)
          try dsimp only
          rw [hQ]
          refine ⟨q_n0 hq, ?_⟩
          conv => whnf
          repeat ((first | refine ⟨zH_of _, ?_⟩ | refine ⟨trivial, ?_⟩ | refine ⟨rfl, ?_⟩ | refine ⟨fun hc => absurd hc (by decide), fun _ => ?_⟩ | refine ⟨fun _ => ?_, fun hc => absurd (by decide) hc⟩ | refine ⟨fun _ => ?_, fun hc => absurd hc (by decide)⟩ | refine ⟨fun hc => absurd (by decide) hc, fun _ => ?_⟩); conv => whnf)
          try dsimp only
          rw [pk_mul, z_remN (by omega) (by omega) (by omega), nI_add]
          exact ihn)
      have l0 := loop 0 (Nat.zero_le _)
      simp only [lkP, e1] at l0
      exact hs 400 0 _ _ _ _ _ l0
    · refine ⟨Nat.le_of_ble_eq_true rfl, fun Jm hs => ?_⟩
      have loop := up_ind (P := fun t => Jm 6 [some (.ref 45), some (.ref 47), some (.int (nI i')), some (.ref 49), some (.int (nI j')), some (.int (nI (lkP q A i' B j' t % q))), some (.int (nI t))] [] (GC ++ (GM ++ r), wi, wl) 0 0) 3 (fun t ht ih => by
        refine hs 400 6 _ _ _ _ _ ?_
        have ml : lkP q A i' B j' t % q < q := Nat.mod_lt _ (by omega)
        conv => whnf
        repeat ((first | refine ⟨zH_of _, ?_⟩ | refine ⟨trivial, ?_⟩ | refine ⟨rfl, ?_⟩ | refine ⟨fun hc => absurd hc (by decide), fun _ => ?_⟩ | refine ⟨fun _ => ?_, fun hc => absurd (by decide) hc⟩ | refine ⟨fun _ => ?_, fun hc => absurd hc (by decide)⟩ | refine ⟨fun hc => absurd (by decide) hc, fun _ => ?_⟩); conv => whnf)
        try dsimp only
        rw [ltN (by omega) (by omega)]
        refine ⟨fun hc => ?_, fun hc => ?_⟩
        · obtain rfl : t = 3 := by omega
          conv => whnf
          repeat ((first | refine ⟨zH_of _, ?_⟩ | refine ⟨trivial, ?_⟩ | refine ⟨rfl, ?_⟩ | refine ⟨fun hc => absurd hc (by decide), fun _ => ?_⟩ | refine ⟨fun _ => ?_, fun hc => absurd (by decide) hc⟩ | refine ⟨fun _ => ?_, fun hc => absurd hc (by decide)⟩ | refine ⟨fun hc => absurd (by decide) hc, fun _ => ?_⟩); conv => whnf)
          try dsimp only
          rw [nI_eq (by omega) (by decide)]
          refine ⟨fun hz => ?_, fun hz => ?_⟩
          · rw [bI_f (by simpa [alB] using hz)] at h
            exact ⟨Or.inl rfl, h⟩
          · rw [bI_t (by simpa [alB] using hz)] at h
            exact ⟨Or.inr rfl, h⟩
        · have ihn := ih hc
          have k := hT t hc
          have ll := likeN_lt_q hq (A (3 * i' + t)) (B (3 * j' + t))
          have lm : lkP q A i' B j' t % q * likeN q (A (3 * i' + t)) (B (3 * j' + t)) ≤ 2 * 2 := Nat.mul_le_mul (by omega) (by omega)
          rw [← lkP_mod] at ihn
          conv => whnf
          repeat ((first | refine ⟨zH_of _, ?_⟩ | refine ⟨trivial, ?_⟩ | refine ⟨rfl, ?_⟩ | refine ⟨fun hc => absurd hc (by decide), fun _ => ?_⟩ | refine ⟨fun _ => ?_, fun hc => absurd (by decide) hc⟩ | refine ⟨fun _ => ?_, fun hc => absurd hc (by decide)⟩ | refine ⟨fun hc => absurd (by decide) hc, fun _ => ?_⟩); conv => whnf)
          try dsimp only
          rw [pk_mul, pk_mul, pk_mul, nI_add, nI_add]
          refine ⟨by simp, q, 27 * i' + 9 * t, 27 * j' + 9 * t, _, _, hQ, hq, k.1, k.2.1, k.2.2.1, k.2.2.2, rfl, by omega, rfl, by omega, ?_⟩
          conv => whnf
          repeat ((first | refine ⟨zH_of _, ?_⟩ | refine ⟨trivial, ?_⟩ | refine ⟨rfl, ?_⟩ | refine ⟨fun hc => absurd hc (by decide), fun _ => ?_⟩ | refine ⟨fun _ => ?_, fun hc => absurd (by decide) hc⟩ | refine ⟨fun _ => ?_, fun hc => absurd hc (by decide)⟩ | refine ⟨fun hc => absurd (by decide) hc, fun _ => ?_⟩); conv => whnf)
          try dsimp only
          rw [hQ]
          refine ⟨q_n0 hq, ?_⟩
          conv => whnf
          repeat ((first | refine ⟨zH_of _, ?_⟩ | refine ⟨trivial, ?_⟩ | refine ⟨rfl, ?_⟩ | refine ⟨fun hc => absurd hc (by decide), fun _ => ?_⟩ | refine ⟨fun _ => ?_, fun hc => absurd (by decide) hc⟩ | refine ⟨fun _ => ?_, fun hc => absurd hc (by decide)⟩ | refine ⟨fun hc => absurd (by decide) hc, fun _ => ?_⟩); conv => whnf)
          try dsimp only
          rw [pk_mul, z_remN (by omega) (by omega) (by omega), nI_add]
          exact ihn)
      have l0 := loop 0 (Nat.zero_le _)
      simp only [lkP, e1] at l0
      exact hs 400 0 _ _ _ _ _ l0
def sp_X12_wholeGiven : zSp := fun av w K => match av with
  | [.ref o, .int x, .int y, .int z] => o = 45 ∧ zH w.1 ∧ ∃ d q c A x' y' z', MS w.2.1 d q c A ∧ x = nI x' ∧ x' < 9 ∧ y = nI y' ∧ y' < 9 ∧ z = nI z' ∧ z' < 9 ∧ K (some (.int (nI (gvN A c x' y' z')))) w
  | _ => False
def rm_X12_wholeGiven : Room := { frames := 1, cells := 0, slots := 0, locals := 22 }
def M_X12_wholeGiven : zM := (k_X12_wholeGiven, f_X12, [(107, 0, 0, 3, 0, 0, sp_X12_at)], ([], [], []), [], [(6, [true, true, true, true, true, true])], 1, false, (false, 0, fun _ => 0), (0, 0))
theorem ca_X12_wholeGiven_0 (l : Launch) : z_cok l RX12 (headSpec (.code yX12_wholeGiven cX12_wholeGiven 6 (some .int) :: zTT) rm_X12_wholeGiven).room (107, 0, 0, 3, 0, 0, sp_X12_at) := z_ca0 (c_X12_at l) mb_X12_at wt_1136 wt_1137 (by decide)
theorem O_X12_wholeGiven (l : Launch) : z_OK l RX12 cX12_wholeGiven (headSpec (.code yX12_wholeGiven cX12_wholeGiven 6 (some .int) :: zTT) rm_X12_wholeGiven).room M_X12_wholeGiven := ⟨ok_X12_wholeGiven, fo_X12, List.forall_mem_cons.mpr ⟨ca_X12_wholeGiven_0 l, fun _ h => absurd h List.not_mem_nil⟩, fun _ h => absurd h List.not_mem_nil, fun _ h => absurd h List.not_mem_nil, fun _ h => absurd h List.not_mem_nil, fun _ h => absurd h List.not_mem_nil, rfl, rfl⟩
theorem c_X12_wholeGiven (l : Launch) : z_CS l yX12_wholeGiven cX12_wholeGiven 6 (some .int) rm_X12_wholeGiven sp_X12_wholeGiven := by
  refine z_meth (by decide) (Or.inr (Or.inl ⟨rfl, rfl⟩)) (fun h => by cases h) rfl (O_X12_wholeGiven l) ?_
  intro av w K h
  match av, h with
  | [.ref o, .int x, .int y, .int z], h =>
    obtain ⟨rfl, ⟨r, hG⟩, d, q, c, A, x', y', z', hS, rfl, hx, rfl, hy, rfl, hz, h⟩ := h
    obtain ⟨G, wi, wl⟩ := w
    subst hG
    try dsimp only at h hS
    have h40 := ms_40 hS
    refine ⟨Nat.le_of_ble_eq_true rfl, fun Jm hs => ?_⟩
    have loop := up_ind (P := fun i => Jm 6 [some (.ref 45), some (.int (nI x')), some (.int (nI y')), some (.int (nI z')), some (.int (nI (gvN A i x' y' z'))), some (.int (nI i))] [] (GC ++ (GM ++ r), wi, wl) 0 0) c (fun i hi ih => by
      refine hs 400 6 _ _ _ _ _ ?_
      conv => whnf
      repeat ((first | refine ⟨zH_of _, ?_⟩ | refine ⟨trivial, ?_⟩ | refine ⟨rfl, ?_⟩ | refine ⟨fun hc => absurd hc (by decide), fun _ => ?_⟩ | refine ⟨fun _ => ?_, fun hc => absurd (by decide) hc⟩ | refine ⟨fun _ => ?_, fun hc => absurd hc (by decide)⟩ | refine ⟨fun hc => absurd (by decide) hc, fun _ => ?_⟩); conv => whnf)
      try dsimp only
      rw [ms_c hS, ltN (by omega) (by omega)]
      refine ⟨fun hc => ?_, fun hc => ?_⟩
      · obtain hin : i = c := by omega
        rw [hin]
        exact ⟨trivial, h⟩
      · have ihn := ih hc
        have e0 := ms_at hS hc (t := 0) (by decide) hx
        have e1 := ms_at hS hc (t := 1) (by decide) hy
        have e2 := ms_at hS hc (t := 2) (by decide) hz
        have g : nI (gvN A (i + 1) x' y' z') = nI (gvN A i x' y' z') + nI (A (3 * i + 0) x') * nI (A (3 * i + 1) y') * nI (A (3 * i + 2) z') := by
          rw [pk_mul, pk_mul, nI_add]
          rfl
        rw [g] at ihn
        conv => whnf
        repeat ((first | refine ⟨zH_of _, ?_⟩ | refine ⟨trivial, ?_⟩ | refine ⟨rfl, ?_⟩ | refine ⟨fun hc => absurd hc (by decide), fun _ => ?_⟩ | refine ⟨fun _ => ?_, fun hc => absurd (by decide) hc⟩ | refine ⟨fun _ => ?_, fun hc => absurd hc (by decide)⟩ | refine ⟨fun hc => absurd (by decide) hc, fun _ => ?_⟩); conv => whnf)
        try dsimp only
        rw [at_N]
        refine ⟨vp_in_nI (show 27 * i + 9 * 0 + x' < 1080 by omega) (by decide), ?_⟩
        conv => whnf
        repeat ((first | refine ⟨zH_of _, ?_⟩ | refine ⟨trivial, ?_⟩ | refine ⟨rfl, ?_⟩ | refine ⟨fun hc => absurd hc (by decide), fun _ => ?_⟩ | refine ⟨fun _ => ?_, fun hc => absurd (by decide) hc⟩ | refine ⟨fun _ => ?_, fun hc => absurd hc (by decide)⟩ | refine ⟨fun hc => absurd (by decide) hc, fun _ => ?_⟩); conv => whnf)
        try dsimp only
        rw [at_N]
        refine ⟨vp_in_nI (show 27 * i + 9 * 1 + y' < 1080 by omega) (by decide), ?_⟩
        conv => whnf
        repeat ((first | refine ⟨zH_of _, ?_⟩ | refine ⟨trivial, ?_⟩ | refine ⟨rfl, ?_⟩ | refine ⟨fun hc => absurd hc (by decide), fun _ => ?_⟩ | refine ⟨fun _ => ?_, fun hc => absurd (by decide) hc⟩ | refine ⟨fun _ => ?_, fun hc => absurd hc (by decide)⟩ | refine ⟨fun hc => absurd (by decide) hc, fun _ => ?_⟩); conv => whnf)
        try dsimp only
        rw [at_N]
        refine ⟨vp_in_nI (show 27 * i + 9 * 2 + z' < 1080 by omega) (by decide), ?_⟩
        conv => whnf
        repeat ((first | refine ⟨zH_of _, ?_⟩ | refine ⟨trivial, ?_⟩ | refine ⟨rfl, ?_⟩ | refine ⟨fun hc => absurd hc (by decide), fun _ => ?_⟩ | refine ⟨fun _ => ?_, fun hc => absurd (by decide) hc⟩ | refine ⟨fun _ => ?_, fun hc => absurd hc (by decide)⟩ | refine ⟨fun hc => absurd (by decide) hc, fun _ => ?_⟩); conv => whnf)
        try dsimp only
        rw [nI_clamp (n := 27 * i + 9 * 0 + x') (by omega), nI_clamp (n := 27 * i + 9 * 1 + y') (by omega), nI_clamp (n := 27 * i + 9 * 2 + z') (by omega), e0, e1, e2, nI_add (a := i) (b := 1)]
        exact ihn)
    exact hs 400 0 _ _ _ _ _ (loop 0 (Nat.zero_le _))
def sp_X12_needed : zSp := fun av w K => match av with
  | [.ref o, .int x, .int y, .int z] => o = 45 ∧ zH w.1 ∧ ∃ d q c A x' y' z', MS w.2.1 d q c A ∧ x = nI x' ∧ x' < 9 ∧ y = nI y' ∧ y' < 9 ∧ z = nI z' ∧ z' < 9 ∧ K (some (.int (nI (ndN d x' y' z')))) w
  | _ => False
def rm_X12_needed : Room := { frames := 1, cells := 0, slots := 0, locals := 21 }
def M_X12_needed : zM := (k_X12_needed, f_X12, [(88, 4, 10, 2, 0, 0, sp_X12_columnsOf)], ([], [], []), [], [], 1, false, (false, 0, fun _ => 0), (0, 0))
theorem ca_X12_needed_0 (l : Launch) : z_cok l RX12 (headSpec (.code yX12_needed cX12_needed 5 (some .int) :: zTT) rm_X12_needed).room (88, 4, 10, 2, 0, 0, sp_X12_columnsOf) := z_ca4 (c_X12_columnsOf l) mb_X12_columnsOf ⟨_, rfl, rfl⟩ wt_1306 wt_1308 wt_39 (by decide)
theorem O_X12_needed (l : Launch) : z_OK l RX12 cX12_needed (headSpec (.code yX12_needed cX12_needed 5 (some .int) :: zTT) rm_X12_needed).room M_X12_needed := ⟨ok_X12_needed, fo_X12, List.forall_mem_cons.mpr ⟨ca_X12_needed_0 l, fun _ h => absurd h List.not_mem_nil⟩, fun _ h => absurd h List.not_mem_nil, fun _ h => absurd h List.not_mem_nil, fun _ h => absurd h List.not_mem_nil, fun _ h => absurd h List.not_mem_nil, rfl, rfl⟩
theorem c_X12_needed (l : Launch) : z_CS l yX12_needed cX12_needed 5 (some .int) rm_X12_needed sp_X12_needed := by
  refine z_meth (by decide) (Or.inr (Or.inl ⟨rfl, rfl⟩)) (fun h => by cases h) rfl (O_X12_needed l) ?_
  intro av w K h
  match av, h with
  | [.ref o, .int x, .int y, .int z], h =>
    obtain ⟨rfl, ⟨r, hG⟩, d, q, c, A, x', y', z', hS, rfl, hx, rfl, hy, rfl, hz, h⟩ := h
    obtain ⟨G, wi, wl⟩ := w
    subst hG
    try dsimp only at h hS
    have d0 := ms_hd hS 0 (by decide)
    have d1 := ms_hd hS 1 (by decide)
    have d2 := ms_hd hS 2 (by decide)
    have e0 : wi 46 (nx 2) = nI (d 0) := ms_d hS 0 (by decide)
    have e1 : wi 46 (nx 0) = nI (d 1) := ms_d hS 1 (by decide)
    have e2 : wi 46 (nx 1) = nI (d 2) := ms_d hS 2 (by decide)
    have n0 : ∀ {n : Nat}, 1 ≤ n → n ≤ 3 → ¬ nI n = 0 := fun {n} h1 h2 z => by
      rw [show (0 : Int32) = nI 0 from rfl, eq0N (by omega)] at z
      omega
    have k0 := Nat.div_le_self y' (d 2)
    have k1 := Nat.div_le_self z' (d 0)
    have k2 := Nat.div_le_self x' (d 1)
    have m0 : x' % d 1 < 3 := Nat.lt_of_lt_of_le (Nat.mod_lt _ (by omega)) d1.2
    have m1 : y' % d 2 < 3 := Nat.lt_of_lt_of_le (Nat.mod_lt _ (by omega)) d2.2
    have m2 : z' % d 0 < 3 := Nat.lt_of_lt_of_le (Nat.mod_lt _ (by omega)) d0.2
    unfold ndN at h
    refine ⟨Nat.le_of_ble_eq_true rfl, fun Jm hs => hs 400 0 _ _ _ _ _ ?_⟩
    conv => whnf
    repeat ((first | refine ⟨zH_of _, ?_⟩ | refine ⟨trivial, ?_⟩ | refine ⟨rfl, ?_⟩ | refine ⟨fun hc => absurd hc (by decide), fun _ => ?_⟩ | refine ⟨fun _ => ?_, fun hc => absurd (by decide) hc⟩ | refine ⟨fun _ => ?_, fun hc => absurd hc (by decide)⟩ | refine ⟨fun hc => absurd (by decide) hc, fun _ => ?_⟩); conv => whnf)
    try dsimp only
    refine ⟨0, rfl, by decide, ?_⟩
    conv => whnf
    repeat ((first | refine ⟨zH_of _, ?_⟩ | refine ⟨trivial, ?_⟩ | refine ⟨rfl, ?_⟩ | refine ⟨fun hc => absurd hc (by decide), fun _ => ?_⟩ | refine ⟨fun _ => ?_, fun hc => absurd (by decide) hc⟩ | refine ⟨fun _ => ?_, fun hc => absurd hc (by decide)⟩ | refine ⟨fun hc => absurd (by decide) hc, fun _ => ?_⟩); conv => whnf)
    try dsimp only
    rw [e1]
    refine ⟨n0 d1.1 d1.2, ?_⟩
    conv => whnf
    repeat ((first | refine ⟨zH_of _, ?_⟩ | refine ⟨trivial, ?_⟩ | refine ⟨rfl, ?_⟩ | refine ⟨fun hc => absurd hc (by decide), fun _ => ?_⟩ | refine ⟨fun _ => ?_, fun hc => absurd (by decide) hc⟩ | refine ⟨fun _ => ?_, fun hc => absurd hc (by decide)⟩ | refine ⟨fun hc => absurd (by decide) hc, fun _ => ?_⟩); conv => whnf)
    try dsimp only
    refine ⟨1, rfl, by decide, ?_⟩
    conv => whnf
    repeat ((first | refine ⟨zH_of _, ?_⟩ | refine ⟨trivial, ?_⟩ | refine ⟨rfl, ?_⟩ | refine ⟨fun hc => absurd hc (by decide), fun _ => ?_⟩ | refine ⟨fun _ => ?_, fun hc => absurd (by decide) hc⟩ | refine ⟨fun _ => ?_, fun hc => absurd hc (by decide)⟩ | refine ⟨fun hc => absurd (by decide) hc, fun _ => ?_⟩); conv => whnf)
    try dsimp only
    rw [e2]
    refine ⟨n0 d2.1 d2.2, ?_⟩
    conv => whnf
    repeat ((first | refine ⟨zH_of _, ?_⟩ | refine ⟨trivial, ?_⟩ | refine ⟨rfl, ?_⟩ | refine ⟨fun hc => absurd hc (by decide), fun _ => ?_⟩ | refine ⟨fun _ => ?_, fun hc => absurd (by decide) hc⟩ | refine ⟨fun _ => ?_, fun hc => absurd hc (by decide)⟩ | refine ⟨fun hc => absurd (by decide) hc, fun _ => ?_⟩); conv => whnf)
    try dsimp only
    rw [z_remN (by omega) (by omega) (by omega), pk_div (by omega) (by omega) (by omega), nI_eq (by omega) (by omega)]
    refine ⟨fun h1 => ?_, fun h1 => ?_⟩
    · rw [if_neg (by simp [ndB, h1])] at h
      conv => whnf
      repeat ((first | refine ⟨zH_of _, ?_⟩ | refine ⟨trivial, ?_⟩ | refine ⟨rfl, ?_⟩ | refine ⟨fun hc => absurd hc (by decide), fun _ => ?_⟩ | refine ⟨fun _ => ?_, fun hc => absurd (by decide) hc⟩ | refine ⟨fun _ => ?_, fun hc => absurd hc (by decide)⟩ | refine ⟨fun hc => absurd (by decide) hc, fun _ => ?_⟩); conv => whnf)
      try dsimp only
      exact h
    · conv => whnf
      repeat ((first | refine ⟨zH_of _, ?_⟩ | refine ⟨trivial, ?_⟩ | refine ⟨rfl, ?_⟩ | refine ⟨fun hc => absurd hc (by decide), fun _ => ?_⟩ | refine ⟨fun _ => ?_, fun hc => absurd (by decide) hc⟩ | refine ⟨fun _ => ?_, fun hc => absurd hc (by decide)⟩ | refine ⟨fun hc => absurd (by decide) hc, fun _ => ?_⟩); conv => whnf)
      try dsimp only
      refine ⟨1, rfl, by decide, ?_⟩
      conv => whnf
      repeat ((first | refine ⟨zH_of _, ?_⟩ | refine ⟨trivial, ?_⟩ | refine ⟨rfl, ?_⟩ | refine ⟨fun hc => absurd hc (by decide), fun _ => ?_⟩ | refine ⟨fun _ => ?_, fun hc => absurd (by decide) hc⟩ | refine ⟨fun _ => ?_, fun hc => absurd hc (by decide)⟩ | refine ⟨fun hc => absurd (by decide) hc, fun _ => ?_⟩); conv => whnf)
      try dsimp only
      rw [e2]
      refine ⟨n0 d2.1 d2.2, ?_⟩
      conv => whnf
      repeat ((first | refine ⟨zH_of _, ?_⟩ | refine ⟨trivial, ?_⟩ | refine ⟨rfl, ?_⟩ | refine ⟨fun hc => absurd hc (by decide), fun _ => ?_⟩ | refine ⟨fun _ => ?_, fun hc => absurd (by decide) hc⟩ | refine ⟨fun _ => ?_, fun hc => absurd hc (by decide)⟩ | refine ⟨fun hc => absurd (by decide) hc, fun _ => ?_⟩); conv => whnf)
      try dsimp only
      refine ⟨2, rfl, by decide, ?_⟩
      conv => whnf
      repeat ((first | refine ⟨zH_of _, ?_⟩ | refine ⟨trivial, ?_⟩ | refine ⟨rfl, ?_⟩ | refine ⟨fun hc => absurd hc (by decide), fun _ => ?_⟩ | refine ⟨fun _ => ?_, fun hc => absurd (by decide) hc⟩ | refine ⟨fun _ => ?_, fun hc => absurd hc (by decide)⟩ | refine ⟨fun hc => absurd (by decide) hc, fun _ => ?_⟩); conv => whnf)
      try dsimp only
      rw [e0]
      refine ⟨n0 d0.1 d0.2, ?_⟩
      conv => whnf
      repeat ((first | refine ⟨zH_of _, ?_⟩ | refine ⟨trivial, ?_⟩ | refine ⟨rfl, ?_⟩ | refine ⟨fun hc => absurd hc (by decide), fun _ => ?_⟩ | refine ⟨fun _ => ?_, fun hc => absurd (by decide) hc⟩ | refine ⟨fun _ => ?_, fun hc => absurd hc (by decide)⟩ | refine ⟨fun hc => absurd (by decide) hc, fun _ => ?_⟩); conv => whnf)
      try dsimp only
      rw [z_remN (by omega) (by omega) (by omega), pk_div (by omega) (by omega) (by omega), nI_eq (by omega) (by omega)]
      refine ⟨fun h2 => ?_, fun h2 => ?_⟩
      · rw [if_neg (by simp [ndB, h2])] at h
        conv => whnf
        repeat ((first | refine ⟨zH_of _, ?_⟩ | refine ⟨trivial, ?_⟩ | refine ⟨rfl, ?_⟩ | refine ⟨fun hc => absurd hc (by decide), fun _ => ?_⟩ | refine ⟨fun _ => ?_, fun hc => absurd (by decide) hc⟩ | refine ⟨fun _ => ?_, fun hc => absurd hc (by decide)⟩ | refine ⟨fun hc => absurd (by decide) hc, fun _ => ?_⟩); conv => whnf)
        try dsimp only
        exact h
      · conv => whnf
        repeat ((first | refine ⟨zH_of _, ?_⟩ | refine ⟨trivial, ?_⟩ | refine ⟨rfl, ?_⟩ | refine ⟨fun hc => absurd hc (by decide), fun _ => ?_⟩ | refine ⟨fun _ => ?_, fun hc => absurd (by decide) hc⟩ | refine ⟨fun _ => ?_, fun hc => absurd hc (by decide)⟩ | refine ⟨fun hc => absurd (by decide) hc, fun _ => ?_⟩); conv => whnf)
        try dsimp only
        refine ⟨2, rfl, by decide, ?_⟩
        conv => whnf
        repeat ((first | refine ⟨zH_of _, ?_⟩ | refine ⟨trivial, ?_⟩ | refine ⟨rfl, ?_⟩ | refine ⟨fun hc => absurd hc (by decide), fun _ => ?_⟩ | refine ⟨fun _ => ?_, fun hc => absurd (by decide) hc⟩ | refine ⟨fun _ => ?_, fun hc => absurd hc (by decide)⟩ | refine ⟨fun hc => absurd (by decide) hc, fun _ => ?_⟩); conv => whnf)
        try dsimp only
        rw [e0]
        refine ⟨n0 d0.1 d0.2, ?_⟩
        conv => whnf
        repeat ((first | refine ⟨zH_of _, ?_⟩ | refine ⟨trivial, ?_⟩ | refine ⟨rfl, ?_⟩ | refine ⟨fun hc => absurd hc (by decide), fun _ => ?_⟩ | refine ⟨fun _ => ?_, fun hc => absurd (by decide) hc⟩ | refine ⟨fun _ => ?_, fun hc => absurd hc (by decide)⟩ | refine ⟨fun hc => absurd (by decide) hc, fun _ => ?_⟩); conv => whnf)
        try dsimp only
        refine ⟨0, rfl, by decide, ?_⟩
        conv => whnf
        repeat ((first | refine ⟨zH_of _, ?_⟩ | refine ⟨trivial, ?_⟩ | refine ⟨rfl, ?_⟩ | refine ⟨fun hc => absurd hc (by decide), fun _ => ?_⟩ | refine ⟨fun _ => ?_, fun hc => absurd (by decide) hc⟩ | refine ⟨fun _ => ?_, fun hc => absurd hc (by decide)⟩ | refine ⟨fun hc => absurd (by decide) hc, fun _ => ?_⟩); conv => whnf)
        try dsimp only
        rw [e1]
        refine ⟨n0 d1.1 d1.2, ?_⟩
        conv => whnf
        repeat ((first | refine ⟨zH_of _, ?_⟩ | refine ⟨trivial, ?_⟩ | refine ⟨rfl, ?_⟩ | refine ⟨fun hc => absurd hc (by decide), fun _ => ?_⟩ | refine ⟨fun _ => ?_, fun hc => absurd (by decide) hc⟩ | refine ⟨fun _ => ?_, fun hc => absurd hc (by decide)⟩ | refine ⟨fun hc => absurd (by decide) hc, fun _ => ?_⟩); conv => whnf)
        try dsimp only
        rw [z_remN (by omega) (by omega) (by omega), pk_div (by omega) (by omega) (by omega), nI_eq (by omega) (by omega)]
        refine ⟨fun h3 => ?_, fun h3 => ?_⟩
        · rw [if_neg (by simp [ndB, h3])] at h
          conv => whnf
          repeat ((first | refine ⟨zH_of _, ?_⟩ | refine ⟨trivial, ?_⟩ | refine ⟨rfl, ?_⟩ | refine ⟨fun hc => absurd hc (by decide), fun _ => ?_⟩ | refine ⟨fun _ => ?_, fun hc => absurd (by decide) hc⟩ | refine ⟨fun _ => ?_, fun hc => absurd hc (by decide)⟩ | refine ⟨fun hc => absurd (by decide) hc, fun _ => ?_⟩); conv => whnf)
          try dsimp only
          exact h
        · rw [if_pos (by simp [ndB, h1, h2, h3])] at h
          conv => whnf
          repeat ((first | refine ⟨zH_of _, ?_⟩ | refine ⟨trivial, ?_⟩ | refine ⟨rfl, ?_⟩ | refine ⟨fun hc => absurd hc (by decide), fun _ => ?_⟩ | refine ⟨fun _ => ?_, fun hc => absurd (by decide) hc⟩ | refine ⟨fun _ => ?_, fun hc => absurd hc (by decide)⟩ | refine ⟨fun hc => absurd (by decide) hc, fun _ => ?_⟩); conv => whnf)
          try dsimp only
          exact h
def sp_X12_flipsAt : zSp := fun av w K => match av with
  | [.ref o, .int t] => o = 45 ∧ zH w.1 ∧ ∃ d q c A t', MS w.2.1 d q c A ∧ t = nI t' ∧ t' < 3 ∧ K (some (.int (nI (flN q A t' c)))) w
  | _ => False
def rm_X12_flipsAt : Room := { frames := 3, cells := 0, slots := 0, locals := 72 }
def M_X12_flipsAt : zM := (k_X12_flipsAt, f_X12, [(217, 4, 10, 4, 0, 0, sp_X12_likeAt)], ([], [], []), [], [(4, [true, true, true, true, false]), (15, [true, true, true, true, true])], 1, false, (false, 0, fun _ => 0), (0, 0))
theorem ca_X12_flipsAt_0 (l : Launch) : z_cok l RX12 (headSpec (.code yX12_flipsAt cX12_flipsAt 5 (some .int) :: zTT) rm_X12_flipsAt).room (217, 4, 10, 4, 0, 0, sp_X12_likeAt) := z_ca4 (c_X12_likeAt l) mb_X12_likeAt ⟨_, rfl, rfl⟩ wt_1404 wt_1406 wt_53 (by decide)
theorem O_X12_flipsAt (l : Launch) : z_OK l RX12 cX12_flipsAt (headSpec (.code yX12_flipsAt cX12_flipsAt 5 (some .int) :: zTT) rm_X12_flipsAt).room M_X12_flipsAt := ⟨ok_X12_flipsAt, fo_X12, List.forall_mem_cons.mpr ⟨ca_X12_flipsAt_0 l, fun _ h => absurd h List.not_mem_nil⟩, fun _ h => absurd h List.not_mem_nil, fun _ h => absurd h List.not_mem_nil, fun _ h => absurd h List.not_mem_nil, fun _ h => absurd h List.not_mem_nil, rfl, rfl⟩
theorem c_X12_flipsAt (l : Launch) : z_CS l yX12_flipsAt cX12_flipsAt 5 (some .int) rm_X12_flipsAt sp_X12_flipsAt := by
  refine z_meth (by decide) (Or.inr (Or.inl ⟨rfl, rfl⟩)) (fun h => by cases h) rfl (O_X12_flipsAt l) ?_
  intro av w K h
  match av, h with
  | [.ref o, .int t], h =>
    obtain ⟨rfl, ⟨r, hG⟩, d, q, c, A, t', hS, rfl, ht, h⟩ := h
    obtain ⟨G, wi, wl⟩ := w
    subst hG
    try dsimp only at h hS
    have h40 := ms_40 hS
    rw [← fl_pairs c (fun i hi => ms_A3 hS _ (by omega))] at h
    generalize hP : (fun i => fb_ct (fun j => !(i == j) && lkB q A t' i j) c) = P at h
    refine ⟨Nat.le_of_ble_eq_true rfl, fun Jm hs => ?_⟩
    have loop := up_ind (P := fun i => Jm 4 [some (.ref 45), some (.int (nI t')), some (.int (nI (fb_sm P i))), some (.int (nI i)), none] [] (GC ++ (GM ++ r), wi, wl) 0 0) c (fun i hi ih => by
      refine hs 400 4 _ _ _ _ _ ?_
      conv => whnf
      repeat ((first | refine ⟨zH_of _, ?_⟩ | refine ⟨trivial, ?_⟩ | refine ⟨rfl, ?_⟩ | refine ⟨fun hc => absurd hc (by decide), fun _ => ?_⟩ | refine ⟨fun _ => ?_, fun hc => absurd (by decide) hc⟩ | refine ⟨fun _ => ?_, fun hc => absurd hc (by decide)⟩ | refine ⟨fun hc => absurd (by decide) hc, fun _ => ?_⟩); conv => whnf)
      try dsimp only
      rw [ms_c hS, ltN (by omega) (by omega)]
      refine ⟨fun hc => ?_, fun hc => ?_⟩
      · obtain hin : i = c := by omega
        rw [hin]
        exact ⟨trivial, h⟩
      · have ihn := ih hc
        rw [fb_sm_succ, show P i = fb_ct (fun j => !(i == j) && lkB q A t' i j) c from by rw [← hP]] at ihn
        have inner := up_ind (P := fun j => Jm 15 [some (.ref 45), some (.int (nI t')), some (.int (nI (fb_sm P i + fb_ct (fun j => !(i == j) && lkB q A t' i j) j))), some (.int (nI i)), some (.int (nI j))] [] (GC ++ (GM ++ r), wi, wl) 0 0) c (fun j hj ihj => by
          refine hs 400 15 _ _ _ _ _ ?_
          conv => whnf
          repeat ((first | refine ⟨zH_of _, ?_⟩ | refine ⟨trivial, ?_⟩ | refine ⟨rfl, ?_⟩ | refine ⟨fun hc => absurd hc (by decide), fun _ => ?_⟩ | refine ⟨fun _ => ?_, fun hc => absurd (by decide) hc⟩ | refine ⟨fun _ => ?_, fun hc => absurd hc (by decide)⟩ | refine ⟨fun hc => absurd (by decide) hc, fun _ => ?_⟩); conv => whnf)
          try dsimp only
          rw [ms_c hS, ltN (by omega) (by omega)]
          refine ⟨fun hc2 => ?_, fun hc2 => ?_⟩
          · obtain hjn : j = c := by omega
            rw [hjn]
            conv => whnf
            repeat ((first | refine ⟨zH_of _, ?_⟩ | refine ⟨trivial, ?_⟩ | refine ⟨rfl, ?_⟩ | refine ⟨fun hc => absurd hc (by decide), fun _ => ?_⟩ | refine ⟨fun _ => ?_, fun hc => absurd (by decide) hc⟩ | refine ⟨fun _ => ?_, fun hc => absurd hc (by decide)⟩ | refine ⟨fun hc => absurd (by decide) hc, fun _ => ?_⟩); conv => whnf)
            try dsimp only
            rw [nI_add]
            exact ihn
          · have ihjn := ihj hc2
            have l3 := likeN_lt q (A (3 * i + t')) (A (3 * j + t'))
            conv => whnf
            repeat ((first | refine ⟨zH_of _, ?_⟩ | refine ⟨trivial, ?_⟩ | refine ⟨rfl, ?_⟩ | refine ⟨fun hc => absurd hc (by decide), fun _ => ?_⟩ | refine ⟨fun _ => ?_, fun hc => absurd (by decide) hc⟩ | refine ⟨fun _ => ?_, fun hc => absurd hc (by decide)⟩ | refine ⟨fun hc => absurd (by decide) hc, fun _ => ?_⟩); conv => whnf)
            try dsimp only
            rw [nI_eq (by omega) (by omega)]
            refine ⟨fun hq => ?_, fun hq => ?_⟩
            · rw [ct_f (by simp [hq])] at ihjn
              conv => whnf
              repeat ((first | refine ⟨zH_of _, ?_⟩ | refine ⟨trivial, ?_⟩ | refine ⟨rfl, ?_⟩ | refine ⟨fun hc => absurd hc (by decide), fun _ => ?_⟩ | refine ⟨fun _ => ?_, fun hc => absurd (by decide) hc⟩ | refine ⟨fun _ => ?_, fun hc => absurd hc (by decide)⟩ | refine ⟨fun hc => absurd (by decide) hc, fun _ => ?_⟩); conv => whnf)
              try dsimp only
              rw [nI_add, nI_add, Nat.add_zero]
              exact ihjn
            · conv => whnf
              repeat ((first | refine ⟨zH_of _, ?_⟩ | refine ⟨trivial, ?_⟩ | refine ⟨rfl, ?_⟩ | refine ⟨fun hc => absurd hc (by decide), fun _ => ?_⟩ | refine ⟨fun _ => ?_, fun hc => absurd (by decide) hc⟩ | refine ⟨fun _ => ?_, fun hc => absurd hc (by decide)⟩ | refine ⟨fun hc => absurd (by decide) hc, fun _ => ?_⟩); conv => whnf)
              try dsimp only
              refine ⟨d, q, c, A, i, j, t', hS, rfl, hc, rfl, hc2, rfl, ht, ?_⟩
              conv => whnf
              repeat ((first | refine ⟨zH_of _, ?_⟩ | refine ⟨trivial, ?_⟩ | refine ⟨rfl, ?_⟩ | refine ⟨fun hc => absurd hc (by decide), fun _ => ?_⟩ | refine ⟨fun _ => ?_, fun hc => absurd (by decide) hc⟩ | refine ⟨fun _ => ?_, fun hc => absurd hc (by decide)⟩ | refine ⟨fun hc => absurd (by decide) hc, fun _ => ?_⟩); conv => whnf)
              try dsimp only
              rw [eq0N (by omega)]
              refine ⟨fun hz => ?_, fun hz => ?_⟩
              · rw [ct_f (by simp [lkB, hz])] at ihjn
                conv => whnf
                repeat ((first | refine ⟨zH_of _, ?_⟩ | refine ⟨trivial, ?_⟩ | refine ⟨rfl, ?_⟩ | refine ⟨fun hc => absurd hc (by decide), fun _ => ?_⟩ | refine ⟨fun _ => ?_, fun hc => absurd (by decide) hc⟩ | refine ⟨fun _ => ?_, fun hc => absurd hc (by decide)⟩ | refine ⟨fun hc => absurd (by decide) hc, fun _ => ?_⟩); conv => whnf)
                try dsimp only
                rw [nI_add, nI_add, Nat.add_zero]
                exact ihjn
              · have h1 : (i == j) = false := beq_eq_false_iff_ne.mpr hq
                rw [ct_t (by simp [lkB, hz, h1]), ← Nat.add_assoc] at ihjn
                conv => whnf
                repeat ((first | refine ⟨zH_of _, ?_⟩ | refine ⟨trivial, ?_⟩ | refine ⟨rfl, ?_⟩ | refine ⟨fun hc => absurd hc (by decide), fun _ => ?_⟩ | refine ⟨fun _ => ?_, fun hc => absurd (by decide) hc⟩ | refine ⟨fun _ => ?_, fun hc => absurd hc (by decide)⟩ | refine ⟨fun hc => absurd (by decide) hc, fun _ => ?_⟩); conv => whnf)
                try dsimp only
                rw [nI_add, nI_add]
                exact ihjn)
        conv => whnf
        repeat ((first | refine ⟨zH_of _, ?_⟩ | refine ⟨trivial, ?_⟩ | refine ⟨rfl, ?_⟩ | refine ⟨fun hc => absurd hc (by decide), fun _ => ?_⟩ | refine ⟨fun _ => ?_, fun hc => absurd (by decide) hc⟩ | refine ⟨fun _ => ?_, fun hc => absurd hc (by decide)⟩ | refine ⟨fun hc => absurd (by decide) hc, fun _ => ?_⟩); conv => whnf)
        try dsimp only
        exact inner 0 (Nat.zero_le _))
    exact hs 400 0 _ _ _ _ _ (loop 0 (Nat.zero_le _))

