/-! the reference: a number of the scheme written; forms sheared -/
section
variable {wi : Nat → Nat → Int32} {d : Nat → Nat} {q c : Nat} {A B : Nat → Nat → Nat}
theorem ms_put (h : MS wi d q c A) {i t p v : Nat} (hi : i < c) (ht : t < 3) (hp : p < 9) (hv : v < q) : MS (z_up wi 47 (27 * i + 9 * t + p) (nI v)) d q c (upA A (3 * i + t) (setp (A (3 * i + t)) p v)) := by
  refine ⟨fun s hs => by rw [z_up_ne (by decide)]; exact ms_d h s hs, ⟨by rw [z_up_ne (by decide)]; exact ms_q h, by rw [z_up_ne (by decide)]; exact ms_c h⟩, fun j hj => ?_, ms_q23 h, ms_hd h, ms_40 h, fun k hk p' hp' => ?_⟩
  · by_cases e : j = 27 * i + 9 * t + p
    · subst e
      rw [z_up_eq, fl_at _ ht hp]
      unfold upA setp
      rw [if_pos rfl, if_pos rfl]
    · rw [z_up_nei e, ms_f h j hj]
      unfold fl upA setp
      by_cases g : j / 9 = 3 * i + t
      · rw [if_pos g, g, if_neg (by omega)]
      · rw [if_neg g]
  · unfold upA
    split
    · exact setp_lt (ms_A h _ (by omega)) hv p' hp'
    · exact ms_A h k hk p' hp'
theorem ms_congr (h : MS wi d q c A) (e : ∀ k, k < 3 * c → ∀ p, p < 9 → A k p = B k p) : MS wi d q c B :=
  ⟨h.1, h.2.1, fun j hj => by rw [ms_f h j hj]; unfold fl; rw [e _ (by omega) _ (by omega)], ms_q23 h, ms_hd h, ms_40 h, fun k hk p hp => by rw [← e k hk p hp]; exact ms_A h k hk p hp⟩
end
theorem upA_up (A : Nat → Nat → Nat) (k : Nat) (a b : Nat → Nat) : upA (upA A k a) k b = upA A k b := by
  funext j
  unfold upA
  by_cases h : j = k
  · rw [if_pos h, if_pos h]
  · rw [if_neg h, if_neg h, if_neg h]
theorem upA_self (A : Nat → Nat → Nat) (k : Nat) : upA A k (A k) = A := by
  funext j
  unfold upA
  by_cases h : j = k
  · rw [if_pos h, h]
  · rw [if_neg h]
theorem upA_at (A : Nat → Nat → Nat) (k : Nat) (a : Nat → Nat) : upA A k a k = a := if_pos rfl
theorem sub_mul {q f a b : Nat} (hq : q = 2 ∨ q = 3) (hf : f < q) (ha : a < q) (hb : b < q) : (a + (q - f * b % q)) % q = (a + (q - f) * b) % q := by
  have h3 : ∀ f, f < 3 → ∀ a, a < 3 → ∀ b, b < 3 → (a + (3 - f * b % 3)) % 3 = (a + (3 - f) * b) % 3 := by decide
  have h2 : ∀ f, f < 2 → ∀ a, a < 2 → ∀ b, b < 2 → (a + (2 - f * b % 2)) % 2 = (a + (2 - f) * b) % 2 := by decide
  rcases hq with rfl | rfl
  · exact h2 f hf a ha b hb
  · exact h3 f hf a ha b hb
def sp_X12_shearsRows : zSp := fun av w K => match av with
  | [.ref o, .int i, .int t, .int r, .int s, .int f] => o = 45 ∧ zH w.1 ∧ ∃ d q c A i' t' fr to f', MS w.2.1 d q c A ∧ i = nI i' ∧ i' < c ∧ t = nI t' ∧ t' < 3 ∧ r = nI fr ∧ fr < d t' ∧ s = nI to ∧ to < d t' ∧ f = nI f' ∧ f' < q ∧ ∀ wi' : Nat → Nat → Int32, (∀ y, y ≠ 47 → wi' y = w.2.1 y) → MS wi' d q c (upA A (3 * i' + t') (shR q (A (3 * i' + t')) (d (nx t')) fr to f' (d (nx t')))) → K none (w.1, wi', w.2.2)
  | _ => False
def rm_X12_shearsRows : Room := { frames := 1, cells := 0, slots := 0, locals := 22 }
def M_X12_shearsRows : zM := (k_X12_shearsRows, f_X12, [(88, 4, 10, 2, 0, 0, sp_X12_columnsOf), (107, 0, 0, 3, 0, 0, sp_X12_at), (223, 4, 10, 2, 0, 0, sp_X12_mod)], ([], [], []), [], [(10, [true, true, true, true, true, true, true, true])], 0, false, (false, 0, fun _ => 0), (0, 0))
theorem ca_X12_shearsRows_0 (l : Launch) : z_cok l RX12 (headSpec (.code yX12_shearsRows cX12_shearsRows 8 none :: zTT) rm_X12_shearsRows).room (88, 4, 10, 2, 0, 0, sp_X12_columnsOf) := z_ca4 (c_X12_columnsOf l) mb_X12_columnsOf ⟨_, rfl, rfl⟩ wt_1306 wt_1308 wt_39 (by decide)
theorem ca_X12_shearsRows_1 (l : Launch) : z_cok l RX12 (headSpec (.code yX12_shearsRows cX12_shearsRows 8 none :: zTT) rm_X12_shearsRows).room (107, 0, 0, 3, 0, 0, sp_X12_at) := z_ca0 (c_X12_at l) mb_X12_at wt_1136 wt_1137 (by decide)
theorem ca_X12_shearsRows_2 (l : Launch) : z_cok l RX12 (headSpec (.code yX12_shearsRows cX12_shearsRows 8 none :: zTT) rm_X12_shearsRows).room (223, 4, 10, 2, 0, 0, sp_X12_mod) := z_ca4 (c_X12_mod l) mb_X12_mod ⟨_, rfl, rfl⟩ wt_1431 wt_1433 wt_57 (by decide)
theorem O_X12_shearsRows (l : Launch) : z_OK l RX12 cX12_shearsRows (headSpec (.code yX12_shearsRows cX12_shearsRows 8 none :: zTT) rm_X12_shearsRows).room M_X12_shearsRows := ⟨ok_X12_shearsRows, fo_X12, List.forall_mem_cons.mpr ⟨ca_X12_shearsRows_0 l, List.forall_mem_cons.mpr ⟨ca_X12_shearsRows_1 l, List.forall_mem_cons.mpr ⟨ca_X12_shearsRows_2 l, fun _ h => absurd h List.not_mem_nil⟩⟩⟩, fun _ h => absurd h List.not_mem_nil, fun _ h => absurd h List.not_mem_nil, fun _ h => absurd h List.not_mem_nil, fun _ h => absurd h List.not_mem_nil, rfl, rfl⟩
theorem c_X12_shearsRows (l : Launch) : z_CS l yX12_shearsRows cX12_shearsRows 8 none rm_X12_shearsRows sp_X12_shearsRows := by
  refine z_meth (by decide) (Or.inl ⟨rfl, rfl⟩) (fun h => by cases h) rfl (O_X12_shearsRows l) ?_
  intro av w K h
  match av, h with
  | [.ref o, .int i, .int t, .int u, .int s, .int f], h =>
    obtain ⟨rfl, ⟨r, hG⟩, d, q, c, A, i', t', fr, to, f', hS, rfl, hi, rfl, ht, rfl, hfr, rfl, hto, rfl, hf, h⟩ := h
    obtain ⟨G, wi, wl⟩ := w
    subst hG
    try dsimp only at h hS
    have h40 := ms_40 hS
    have q23 := ms_q23 hS
    have hd := ms_hd hS
    have d1 := hd t' ht
    have d2 := hd _ (nx_lt t')
    have a0 := ms_A hS (3 * i' + t') (by omega)
    have en := ms_d hS _ (nx_lt t')
    have ix1 : ∀ k, k < d (nx t') → fr * d (nx t') + k < 9 := fun k hk => idx9 d1.2 d2.2 hfr hk
    have ix2 : ∀ k, k < d (nx t') → to * d (nx t') + k < 9 := fun k hk => idx9 d1.2 d2.2 hto hk
    generalize d (nx t') = n at *
    refine ⟨Nat.le_of_ble_eq_true rfl, fun Jm hs => ?_⟩
    have loop := up_ind (P := fun k => ∀ wi' : Nat → Nat → Int32, (∀ y, y ≠ 47 → wi' y = wi y) → MS wi' d q c (upA A (3 * i' + t') (shR q (A (3 * i' + t')) n fr to f' k)) → Jm 10 [some (.ref 45), some (.int (nI i')), some (.int (nI t')), some (.int (nI fr)), some (.int (nI to)), some (.int (nI f')), some (.int (nI n)), some (.int (nI k))] [] (GC ++ (GM ++ r), wi', wl) 0 0) n (fun k hk ih => by
      intro wi' hF hS'
      refine hs 400 10 _ _ _ _ _ ?_
      conv => whnf
      repeat ((first | refine ⟨zH_of _, ?_⟩ | refine ⟨trivial, ?_⟩ | refine ⟨rfl, ?_⟩ | refine ⟨fun hc => absurd hc (by decide), fun _ => ?_⟩ | refine ⟨fun _ => ?_, fun hc => absurd (by decide) hc⟩ | refine ⟨fun _ => ?_, fun hc => absurd hc (by decide)⟩ | refine ⟨fun hc => absurd (by decide) hc, fun _ => ?_⟩); conv => whnf)
      try dsimp only
      rw [ltN (by omega) (by omega)]
      refine ⟨fun hc => ?_, fun hc => ?_⟩
      · obtain rfl : k = n := by omega
        exact h wi' hF hS'
      · have ih := ih hc
        have l1 := ix1 k hc
        have l2 := ix2 k hc
        have lt := shR_lt q23 a0 n fr to f' k
        have b1 := lt _ l1
        have b2 := lt _ l2
        have r1 := ms_at hS' hi ht l1
        have r2 := ms_at hS' hi ht l2
        rw [upA_at] at r1 r2
        have m1 : f' * shR q (A (3 * i' + t')) n fr to f' k (fr * n + k) ≤ 2 * 2 := Nat.mul_le_mul (by omega) (by omega)
        have hS2 := ms_put hS' hi ht l2 (v := (shR q (A (3 * i' + t')) n fr to f' k (to * n + k) + f' * shR q (A (3 * i' + t')) n fr to f' k (fr * n + k)) % q) (Nat.mod_lt _ (by omega))
        rw [upA_up, upA_at] at hS2
        conv => whnf
        repeat ((first | refine ⟨zH_of _, ?_⟩ | refine ⟨trivial, ?_⟩ | refine ⟨rfl, ?_⟩ | refine ⟨fun hc => absurd hc (by decide), fun _ => ?_⟩ | refine ⟨fun _ => ?_, fun hc => absurd (by decide) hc⟩ | refine ⟨fun _ => ?_, fun hc => absurd hc (by decide)⟩ | refine ⟨fun hc => absurd (by decide) hc, fun _ => ?_⟩); conv => whnf)
        try dsimp only
        rw [pk_mul, nI_add, at_N]
        refine ⟨vp_in_nI (show 27 * i' + 9 * t' + (to * n + k) < 1080 by omega) (by decide), ?_⟩
        conv => whnf
        repeat ((first | refine ⟨zH_of _, ?_⟩ | refine ⟨trivial, ?_⟩ | refine ⟨rfl, ?_⟩ | refine ⟨fun hc => absurd hc (by decide), fun _ => ?_⟩ | refine ⟨fun _ => ?_, fun hc => absurd (by decide) hc⟩ | refine ⟨fun _ => ?_, fun hc => absurd hc (by decide)⟩ | refine ⟨fun hc => absurd (by decide) hc, fun _ => ?_⟩); conv => whnf)
        try dsimp only
        rw [pk_mul, nI_add, at_N]
        refine ⟨vp_in_nI (show 27 * i' + 9 * t' + (fr * n + k) < 1080 by omega) (by decide), ?_⟩
        conv => whnf
        repeat ((first | refine ⟨zH_of _, ?_⟩ | refine ⟨trivial, ?_⟩ | refine ⟨rfl, ?_⟩ | refine ⟨fun hc => absurd hc (by decide), fun _ => ?_⟩ | refine ⟨fun _ => ?_, fun hc => absurd (by decide) hc⟩ | refine ⟨fun _ => ?_, fun hc => absurd hc (by decide)⟩ | refine ⟨fun hc => absurd (by decide) hc, fun _ => ?_⟩); conv => whnf)
        try dsimp only
        rw [nI_clamp (n := 27 * i' + 9 * t' + (to * n + k)) (by omega), nI_clamp (n := 27 * i' + 9 * t' + (fr * n + k)) (by omega), r1, r2]
        refine ⟨q, ms_q hS', q23, ?_⟩
        rw [pk_mul, nI_add, mod_add q23 (by omega)]
        conv => whnf
        repeat ((first | refine ⟨zH_of _, ?_⟩ | refine ⟨trivial, ?_⟩ | refine ⟨rfl, ?_⟩ | refine ⟨fun hc => absurd hc (by decide), fun _ => ?_⟩ | refine ⟨fun _ => ?_, fun hc => absurd (by decide) hc⟩ | refine ⟨fun _ => ?_, fun hc => absurd hc (by decide)⟩ | refine ⟨fun hc => absurd (by decide) hc, fun _ => ?_⟩); conv => whnf)
        try dsimp only
        refine ⟨vp_in_nI (show 27 * i' + 9 * t' + (to * n + k) < 1080 by omega) (by decide), ?_⟩
        conv => whnf
        repeat ((first | refine ⟨zH_of _, ?_⟩ | refine ⟨trivial, ?_⟩ | refine ⟨rfl, ?_⟩ | refine ⟨fun hc => absurd hc (by decide), fun _ => ?_⟩ | refine ⟨fun _ => ?_, fun hc => absurd (by decide) hc⟩ | refine ⟨fun _ => ?_, fun hc => absurd hc (by decide)⟩ | refine ⟨fun hc => absurd (by decide) hc, fun _ => ?_⟩); conv => whnf)
        try dsimp only
        rw [nI_clamp (n := 27 * i' + 9 * t' + (to * n + k)) (by omega), nI_add]
        exact ih _ (fun y hy => by rw [z_up_ne hy, hF y hy]) hS2)
    refine hs 400 0 _ _ _ _ _ ?_
    conv => whnf
    repeat ((first | refine ⟨zH_of _, ?_⟩ | refine ⟨trivial, ?_⟩ | refine ⟨rfl, ?_⟩ | refine ⟨fun hc => absurd hc (by decide), fun _ => ?_⟩ | refine ⟨fun _ => ?_, fun hc => absurd (by decide) hc⟩ | refine ⟨fun _ => ?_, fun hc => absurd hc (by decide)⟩ | refine ⟨fun hc => absurd (by decide) hc, fun _ => ?_⟩); conv => whnf)
    try dsimp only
    refine ⟨t', rfl, ht, ?_⟩
    rw [en]
    conv => whnf
    repeat ((first | refine ⟨zH_of _, ?_⟩ | refine ⟨trivial, ?_⟩ | refine ⟨rfl, ?_⟩ | refine ⟨fun hc => absurd hc (by decide), fun _ => ?_⟩ | refine ⟨fun _ => ?_, fun hc => absurd (by decide) hc⟩ | refine ⟨fun _ => ?_, fun hc => absurd hc (by decide)⟩ | refine ⟨fun hc => absurd (by decide) hc, fun _ => ?_⟩); conv => whnf)
    try dsimp only
    refine loop 0 (Nat.zero_le _) wi (fun _ _ => rfl) ?_
    rw [shR, upA_self]
    exact hS
def sp_X12_shearsColumns : zSp := fun av w K => match av with
  | [.ref o, .int i, .int t, .int r, .int s, .int f] => o = 45 ∧ zH w.1 ∧ ∃ d q c A i' t' fr to f', MS w.2.1 d q c A ∧ i = nI i' ∧ i' < c ∧ t = nI t' ∧ t' < 3 ∧ r = nI fr ∧ fr < d (nx t') ∧ s = nI to ∧ to < d (nx t') ∧ f = nI f' ∧ f' < q ∧ ∀ wi' : Nat → Nat → Int32, (∀ y, y ≠ 47 → wi' y = w.2.1 y) → MS wi' d q c (upA A (3 * i' + t') (shC q (A (3 * i' + t')) (d (nx t')) fr to f' (d t'))) → K none (w.1, wi', w.2.2)
  | _ => False
def rm_X12_shearsColumns : Room := { frames := 1, cells := 0, slots := 0, locals := 22 }
def M_X12_shearsColumns : zM := (k_X12_shearsColumns, f_X12, [(88, 4, 10, 2, 0, 0, sp_X12_columnsOf), (84, 4, 10, 2, 0, 0, sp_X12_rowsOf), (107, 0, 0, 3, 0, 0, sp_X12_at), (223, 4, 10, 2, 0, 0, sp_X12_mod)], ([], [], []), [], [(10, [true, true, true, true, true, true, true, true])], 0, false, (false, 0, fun _ => 0), (0, 0))
theorem ca_X12_shearsColumns_0 (l : Launch) : z_cok l RX12 (headSpec (.code yX12_shearsColumns cX12_shearsColumns 8 none :: zTT) rm_X12_shearsColumns).room (88, 4, 10, 2, 0, 0, sp_X12_columnsOf) := z_ca4 (c_X12_columnsOf l) mb_X12_columnsOf ⟨_, rfl, rfl⟩ wt_1306 wt_1308 wt_39 (by decide)
theorem ca_X12_shearsColumns_1 (l : Launch) : z_cok l RX12 (headSpec (.code yX12_shearsColumns cX12_shearsColumns 8 none :: zTT) rm_X12_shearsColumns).room (84, 4, 10, 2, 0, 0, sp_X12_rowsOf) := z_ca4 (c_X12_rowsOf l) mb_X12_rowsOf ⟨_, rfl, rfl⟩ wt_1298 wt_1300 wt_37 (by decide)
theorem ca_X12_shearsColumns_2 (l : Launch) : z_cok l RX12 (headSpec (.code yX12_shearsColumns cX12_shearsColumns 8 none :: zTT) rm_X12_shearsColumns).room (107, 0, 0, 3, 0, 0, sp_X12_at) := z_ca0 (c_X12_at l) mb_X12_at wt_1136 wt_1137 (by decide)
theorem ca_X12_shearsColumns_3 (l : Launch) : z_cok l RX12 (headSpec (.code yX12_shearsColumns cX12_shearsColumns 8 none :: zTT) rm_X12_shearsColumns).room (223, 4, 10, 2, 0, 0, sp_X12_mod) := z_ca4 (c_X12_mod l) mb_X12_mod ⟨_, rfl, rfl⟩ wt_1431 wt_1433 wt_57 (by decide)
theorem O_X12_shearsColumns (l : Launch) : z_OK l RX12 cX12_shearsColumns (headSpec (.code yX12_shearsColumns cX12_shearsColumns 8 none :: zTT) rm_X12_shearsColumns).room M_X12_shearsColumns := ⟨ok_X12_shearsColumns, fo_X12, List.forall_mem_cons.mpr ⟨ca_X12_shearsColumns_0 l, List.forall_mem_cons.mpr ⟨ca_X12_shearsColumns_1 l, List.forall_mem_cons.mpr ⟨ca_X12_shearsColumns_2 l, List.forall_mem_cons.mpr ⟨ca_X12_shearsColumns_3 l, fun _ h => absurd h List.not_mem_nil⟩⟩⟩⟩, fun _ h => absurd h List.not_mem_nil, fun _ h => absurd h List.not_mem_nil, fun _ h => absurd h List.not_mem_nil, fun _ h => absurd h List.not_mem_nil, rfl, rfl⟩
theorem c_X12_shearsColumns (l : Launch) : z_CS l yX12_shearsColumns cX12_shearsColumns 8 none rm_X12_shearsColumns sp_X12_shearsColumns := by
  refine z_meth (by decide) (Or.inl ⟨rfl, rfl⟩) (fun h => by cases h) rfl (O_X12_shearsColumns l) ?_
  intro av w K h
  match av, h with
  | [.ref o, .int i, .int t, .int u, .int s, .int f], h =>
    obtain ⟨rfl, ⟨r, hG⟩, d, q, c, A, i', t', fr, to, f', hS, rfl, hi, rfl, ht, rfl, hfr, rfl, hto, rfl, hf, h⟩ := h
    obtain ⟨G, wi, wl⟩ := w
    subst hG
    try dsimp only at h hS
    have h40 := ms_40 hS
    have q23 := ms_q23 hS
    have hd := ms_hd hS
    have d1 := hd t' ht
    have d2 := hd _ (nx_lt t')
    have a0 := ms_A hS (3 * i' + t') (by omega)
    have en := ms_d hS _ (nx_lt t')
    have ix1 : ∀ k, k < d t' → k * d (nx t') + fr < 9 := fun k hk => idx9 d1.2 d2.2 hk hfr
    have ix2 : ∀ k, k < d t' → k * d (nx t') + to < 9 := fun k hk => idx9 d1.2 d2.2 hk hto
    generalize d (nx t') = n at *
    refine ⟨Nat.le_of_ble_eq_true rfl, fun Jm hs => ?_⟩
    have loop := up_ind (P := fun k => ∀ wi' : Nat → Nat → Int32, (∀ y, y ≠ 47 → wi' y = wi y) → MS wi' d q c (upA A (3 * i' + t') (shC q (A (3 * i' + t')) n fr to f' k)) → Jm 10 [some (.ref 45), some (.int (nI i')), some (.int (nI t')), some (.int (nI fr)), some (.int (nI to)), some (.int (nI f')), some (.int (nI n)), some (.int (nI k))] [] (GC ++ (GM ++ r), wi', wl) 0 0) (d t') (fun k hk ih => by
      intro wi' hF hS'
      refine hs 400 10 _ _ _ _ _ ?_
      conv => whnf
      repeat ((first | refine ⟨zH_of _, ?_⟩ | refine ⟨trivial, ?_⟩ | refine ⟨rfl, ?_⟩ | refine ⟨fun hc => absurd hc (by decide), fun _ => ?_⟩ | refine ⟨fun _ => ?_, fun hc => absurd (by decide) hc⟩ | refine ⟨fun _ => ?_, fun hc => absurd hc (by decide)⟩ | refine ⟨fun hc => absurd (by decide) hc, fun _ => ?_⟩); conv => whnf)
      try dsimp only
      refine ⟨t', rfl, ht, ?_⟩
      rw [ms_d hS' t' ht]
      conv => whnf
      repeat ((first | refine ⟨zH_of _, ?_⟩ | refine ⟨trivial, ?_⟩ | refine ⟨rfl, ?_⟩ | refine ⟨fun hc => absurd hc (by decide), fun _ => ?_⟩ | refine ⟨fun _ => ?_, fun hc => absurd (by decide) hc⟩ | refine ⟨fun _ => ?_, fun hc => absurd hc (by decide)⟩ | refine ⟨fun hc => absurd (by decide) hc, fun _ => ?_⟩); conv => whnf)
      try dsimp only
      rw [ltN (by omega) (by omega)]
      refine ⟨fun hc => ?_, fun hc => ?_⟩
      · obtain hkn : k = d t' := by omega
        rw [hkn] at hS'
        exact h wi' hF hS'
      · have ih := ih hc
        have l1 := ix1 k hc
        have l2 := ix2 k hc
        have lt := shC_lt q23 a0 n fr to f' k
        have b1 := lt _ l1
        have b2 := lt _ l2
        have r1 := ms_at hS' hi ht l1
        have r2 := ms_at hS' hi ht l2
        rw [upA_at] at r1 r2
        have m1 : f' * shC q (A (3 * i' + t')) n fr to f' k (k * n + to) ≤ 2 * 2 := Nat.mul_le_mul (by omega) (by omega)
        have hS2 := ms_put hS' hi ht l1 (v := (shC q (A (3 * i' + t')) n fr to f' k (k * n + fr) + (q - f') * shC q (A (3 * i' + t')) n fr to f' k (k * n + to)) % q) (Nat.mod_lt _ (by omega))
        rw [upA_up, upA_at] at hS2
        conv => whnf
        repeat ((first | refine ⟨zH_of _, ?_⟩ | refine ⟨trivial, ?_⟩ | refine ⟨rfl, ?_⟩ | refine ⟨fun hc => absurd hc (by decide), fun _ => ?_⟩ | refine ⟨fun _ => ?_, fun hc => absurd (by decide) hc⟩ | refine ⟨fun _ => ?_, fun hc => absurd hc (by decide)⟩ | refine ⟨fun hc => absurd (by decide) hc, fun _ => ?_⟩); conv => whnf)
        try dsimp only
        rw [pk_mul, nI_add, at_N]
        refine ⟨vp_in_nI (show 27 * i' + 9 * t' + (k * n + fr) < 1080 by omega) (by decide), ?_⟩
        conv => whnf
        repeat ((first | refine ⟨zH_of _, ?_⟩ | refine ⟨trivial, ?_⟩ | refine ⟨rfl, ?_⟩ | refine ⟨fun hc => absurd hc (by decide), fun _ => ?_⟩ | refine ⟨fun _ => ?_, fun hc => absurd (by decide) hc⟩ | refine ⟨fun _ => ?_, fun hc => absurd hc (by decide)⟩ | refine ⟨fun hc => absurd (by decide) hc, fun _ => ?_⟩); conv => whnf)
        try dsimp only
        rw [pk_mul, nI_add, at_N]
        refine ⟨vp_in_nI (show 27 * i' + 9 * t' + (k * n + to) < 1080 by omega) (by decide), ?_⟩
        conv => whnf
        repeat ((first | refine ⟨zH_of _, ?_⟩ | refine ⟨trivial, ?_⟩ | refine ⟨rfl, ?_⟩ | refine ⟨fun hc => absurd hc (by decide), fun _ => ?_⟩ | refine ⟨fun _ => ?_, fun hc => absurd (by decide) hc⟩ | refine ⟨fun _ => ?_, fun hc => absurd hc (by decide)⟩ | refine ⟨fun hc => absurd (by decide) hc, fun _ => ?_⟩); conv => whnf)
        try dsimp only
        rw [nI_clamp (n := 27 * i' + 9 * t' + (k * n + to)) (by omega), nI_clamp (n := 27 * i' + 9 * t' + (k * n + fr)) (by omega), r1, r2]
        refine ⟨q, ms_q hS', q23, ?_⟩
        rw [pk_mul, mod_sub q23 (by omega) (by omega), sub_mul q23 hf b1 b2]
        conv => whnf
        repeat ((first | refine ⟨zH_of _, ?_⟩ | refine ⟨trivial, ?_⟩ | refine ⟨rfl, ?_⟩ | refine ⟨fun hc => absurd hc (by decide), fun _ => ?_⟩ | refine ⟨fun _ => ?_, fun hc => absurd (by decide) hc⟩ | refine ⟨fun _ => ?_, fun hc => absurd hc (by decide)⟩ | refine ⟨fun hc => absurd (by decide) hc, fun _ => ?_⟩); conv => whnf)
        try dsimp only
        refine ⟨vp_in_nI (show 27 * i' + 9 * t' + (k * n + fr) < 1080 by omega) (by decide), ?_⟩
        conv => whnf
        repeat ((first | refine ⟨zH_of _, ?_⟩ | refine ⟨trivial, ?_⟩ | refine ⟨rfl, ?_⟩ | refine ⟨fun hc => absurd hc (by decide), fun _ => ?_⟩ | refine ⟨fun _ => ?_, fun hc => absurd (by decide) hc⟩ | refine ⟨fun _ => ?_, fun hc => absurd hc (by decide)⟩ | refine ⟨fun hc => absurd (by decide) hc, fun _ => ?_⟩); conv => whnf)
        try dsimp only
        rw [nI_clamp (n := 27 * i' + 9 * t' + (k * n + fr)) (by omega), nI_add]
        exact ih _ (fun y hy => by rw [z_up_ne hy, hF y hy]) hS2)
    refine hs 400 0 _ _ _ _ _ ?_
    conv => whnf
    repeat ((first | refine ⟨zH_of _, ?_⟩ | refine ⟨trivial, ?_⟩ | refine ⟨rfl, ?_⟩ | refine ⟨fun hc => absurd hc (by decide), fun _ => ?_⟩ | refine ⟨fun _ => ?_, fun hc => absurd (by decide) hc⟩ | refine ⟨fun _ => ?_, fun hc => absurd hc (by decide)⟩ | refine ⟨fun hc => absurd (by decide) hc, fun _ => ?_⟩); conv => whnf)
    try dsimp only
    refine ⟨t', rfl, ht, ?_⟩
    rw [en]
    conv => whnf
    repeat ((first | refine ⟨zH_of _, ?_⟩ | refine ⟨trivial, ?_⟩ | refine ⟨rfl, ?_⟩ | refine ⟨fun hc => absurd hc (by decide), fun _ => ?_⟩ | refine ⟨fun _ => ?_, fun hc => absurd (by decide) hc⟩ | refine ⟨fun _ => ?_, fun hc => absurd hc (by decide)⟩ | refine ⟨fun hc => absurd (by decide) hc, fun _ => ?_⟩); conv => whnf)
    try dsimp only
    refine loop 0 (Nat.zero_le _) wi (fun _ _ => rfl) ?_
    rw [shC, upA_self]
    exact hS
/-- two forms are one as far as looked -/
def smB (a b : Nat → Nat) (k : Nat) : Bool := decide (∀ p : Nat, p < k → a p = b p)
theorem smB_s {a b : Nat → Nat} {k : Nat} : smB a b (k + 1) = true ↔ smB a b k = true ∧ a k = b k := by
  unfold smB
  rw [decide_eq_true_iff, decide_eq_true_iff]
  constructor
  · intro h
    exact ⟨fun p hp => h p (by omega), h k (by omega)⟩
  · rintro ⟨h1, h2⟩ p hp
    rcases Nat.lt_or_ge p k with g | g
    · exact h1 p g
    · rw [show p = k by omega]
      exact h2
def sp_X12_othersThan : zSp := fun av w K => match av with
  | [.ref o] => o = 45 ∧ zH w.1 ∧ ∃ d q c A B, MS w.2.1 d q c A ∧ RW w.2.1 57 (27 * c) B ∧ (∀ k, k < 3 * c → ∀ p, p < 9 → B k p < q) ∧ K (some (.int (nI (fb_ct (otB A B) (3 * c))))) w
  | _ => False
def rm_X12_othersThan : Room := { frames := 1, cells := 0, slots := 0, locals := 22 }
def M_X12_othersThan : zM := (k_X12_othersThan, f_X12, [(107, 0, 0, 3, 0, 0, sp_X12_at)], ([], [], []), [], [(4, [true, true, true, false, false, false]), (14, [true, true, true, true, false, false]), (25, [true, true, true, true, true, true])], 1, false, (false, 0, fun _ => 0), (0, 0))
theorem ca_X12_othersThan_0 (l : Launch) : z_cok l RX12 (headSpec (.code yX12_othersThan cX12_othersThan 6 (some .int) :: zTT) rm_X12_othersThan).room (107, 0, 0, 3, 0, 0, sp_X12_at) := z_ca0 (c_X12_at l) mb_X12_at wt_1136 wt_1137 (by decide)
theorem O_X12_othersThan (l : Launch) : z_OK l RX12 cX12_othersThan (headSpec (.code yX12_othersThan cX12_othersThan 6 (some .int) :: zTT) rm_X12_othersThan).room M_X12_othersThan := ⟨ok_X12_othersThan, fo_X12, List.forall_mem_cons.mpr ⟨ca_X12_othersThan_0 l, fun _ h => absurd h List.not_mem_nil⟩, fun _ h => absurd h List.not_mem_nil, fun _ h => absurd h List.not_mem_nil, fun _ h => absurd h List.not_mem_nil, fun _ h => absurd h List.not_mem_nil, rfl, rfl⟩
theorem c_X12_othersThan (l : Launch) : z_CS l yX12_othersThan cX12_othersThan 6 (some .int) rm_X12_othersThan sp_X12_othersThan := by
  refine z_meth (by decide) (Or.inr (Or.inl ⟨rfl, rfl⟩)) (fun h => by cases h) rfl (O_X12_othersThan l) ?_
  intro av w K h
  match av, h with
  | [.ref o], h =>
    obtain ⟨rfl, ⟨r, hG⟩, d, q, c, A, B, hS, hB, hb, h⟩ := h
    obtain ⟨G, wi, wl⟩ := w
    subst hG
    try dsimp only at h hS hB
    have h40 := ms_40 hS
    have q23 := ms_q23 hS
    have cl := fb_ct_le (otB A B)
    refine ⟨Nat.le_of_ble_eq_true rfl, fun Jm hs => ?_⟩
    have loop := up_ind (P := fun i => Jm 4 [some (.ref 45), some (.int (nI (fb_ct (otB A B) (3 * i)))), some (.int (nI i)), none, none, none] [] (GC ++ (GM ++ r), wi, wl) 0 0) c (fun i hi ih => by
      refine hs 400 4 _ _ _ _ _ ?_
      conv => whnf
      repeat ((first | refine ⟨zH_of _, ?_⟩ | refine ⟨trivial, ?_⟩ | refine ⟨rfl, ?_⟩ | refine ⟨fun hc => absurd hc (by decide), fun _ => ?_⟩ | refine ⟨fun _ => ?_, fun hc => absurd (by decide) hc⟩ | refine ⟨fun _ => ?_, fun hc => absurd hc (by decide)⟩ | refine ⟨fun hc => absurd (by decide) hc, fun _ => ?_⟩); conv => whnf)
      try dsimp only
      rw [ms_c hS, ltN (by omega) (by omega)]
      refine ⟨fun hc => ?_, fun hc => ?_⟩
      · obtain rfl : i = c := by omega
        conv => whnf
        repeat ((first | refine ⟨zH_of _, ?_⟩ | refine ⟨trivial, ?_⟩ | refine ⟨rfl, ?_⟩ | refine ⟨fun hc => absurd hc (by decide), fun _ => ?_⟩ | refine ⟨fun _ => ?_, fun hc => absurd (by decide) hc⟩ | refine ⟨fun _ => ?_, fun hc => absurd hc (by decide)⟩ | refine ⟨fun hc => absurd (by decide) hc, fun _ => ?_⟩); conv => whnf)
        try dsimp only
        exact h
      · have ih := ih hc
        have loopt := up_ind (P := fun t => Jm 14 [some (.ref 45), some (.int (nI (fb_ct (otB A B) (3 * i + t)))), some (.int (nI i)), some (.int (nI t)), none, none] [] (GC ++ (GM ++ r), wi, wl) 0 0) 3 (fun t ht iht => by
          refine hs 400 14 _ _ _ _ _ ?_
          conv => whnf
          repeat ((first | refine ⟨zH_of _, ?_⟩ | refine ⟨trivial, ?_⟩ | refine ⟨rfl, ?_⟩ | refine ⟨fun hc => absurd hc (by decide), fun _ => ?_⟩ | refine ⟨fun _ => ?_, fun hc => absurd (by decide) hc⟩ | refine ⟨fun _ => ?_, fun hc => absurd hc (by decide)⟩ | refine ⟨fun hc => absurd (by decide) hc, fun _ => ?_⟩); conv => whnf)
          try dsimp only
          rw [ltN (by omega) (by omega)]
          refine ⟨fun hc2 => ?_, fun hc2 => ?_⟩
          · obtain rfl : t = 3 := by omega
            conv => whnf
            repeat ((first | refine ⟨zH_of _, ?_⟩ | refine ⟨trivial, ?_⟩ | refine ⟨rfl, ?_⟩ | refine ⟨fun hc => absurd hc (by decide), fun _ => ?_⟩ | refine ⟨fun _ => ?_, fun hc => absurd (by decide) hc⟩ | refine ⟨fun _ => ?_, fun hc => absurd hc (by decide)⟩ | refine ⟨fun hc => absurd (by decide) hc, fun _ => ?_⟩); conv => whnf)
            try dsimp only
            rw [nI_add]
            exact ih
          · have iht := iht hc2
            have loopk := up_ind (P := fun k => Jm 25 [some (.ref 45), some (.int (nI (fb_ct (otB A B) (3 * i + t)))), some (.int (nI i)), some (.int (nI t)), some (.int (bI (smB (A (3 * i + t)) (B (3 * i + t)) k = true))), some (.int (nI k))] [] (GC ++ (GM ++ r), wi, wl) 0 0) 9 (fun k hk ihk => by
              refine hs 400 25 _ _ _ _ _ ?_
              conv => whnf
              repeat ((first | refine ⟨zH_of _, ?_⟩ | refine ⟨trivial, ?_⟩ | refine ⟨rfl, ?_⟩ | refine ⟨fun hc => absurd hc (by decide), fun _ => ?_⟩ | refine ⟨fun _ => ?_, fun hc => absurd (by decide) hc⟩ | refine ⟨fun _ => ?_, fun hc => absurd hc (by decide)⟩ | refine ⟨fun hc => absurd (by decide) hc, fun _ => ?_⟩); conv => whnf)
              try dsimp only
              rw [ltN (by omega) (by omega)]
              refine ⟨fun hc3 => ?_, fun hc3 => ?_⟩
              · obtain rfl : k = 9 := by omega
                conv => whnf
                repeat ((first | refine ⟨zH_of _, ?_⟩ | refine ⟨trivial, ?_⟩ | refine ⟨rfl, ?_⟩ | refine ⟨fun hc => absurd hc (by decide), fun _ => ?_⟩ | refine ⟨fun _ => ?_, fun hc => absurd (by decide) hc⟩ | refine ⟨fun _ => ?_, fun hc => absurd hc (by decide)⟩ | refine ⟨fun hc => absurd (by decide) hc, fun _ => ?_⟩); conv => whnf)
                try dsimp only
                rw [bI_0]
                refine ⟨fun hn => ?_, fun hn => ?_⟩
                · have e : otB A B (3 * i + t) = true := by
                    unfold otB
                    rw [show eqB (A (3 * i + t)) (B (3 * i + t)) = smB (A (3 * i + t)) (B (3 * i + t)) 9 from rfl]
                    simp [hn]
                  rw [← Nat.add_assoc, ct_t e] at iht
                  conv => whnf
                  repeat ((first | refine ⟨zH_of _, ?_⟩ | refine ⟨trivial, ?_⟩ | refine ⟨rfl, ?_⟩ | refine ⟨fun hc => absurd hc (by decide), fun _ => ?_⟩ | refine ⟨fun _ => ?_, fun hc => absurd (by decide) hc⟩ | refine ⟨fun _ => ?_, fun hc => absurd hc (by decide)⟩ | refine ⟨fun hc => absurd (by decide) hc, fun _ => ?_⟩); conv => whnf)
                  try dsimp only
                  rw [nI_add, nI_add]
                  exact iht
                · have e : ¬ otB A B (3 * i + t) = true := by
                    unfold otB
                    rw [show eqB (A (3 * i + t)) (B (3 * i + t)) = smB (A (3 * i + t)) (B (3 * i + t)) 9 from rfl]
                    simp [Classical.not_not.mp hn]
                  rw [← Nat.add_assoc, ct_f e] at iht
                  conv => whnf
                  repeat ((first | refine ⟨zH_of _, ?_⟩ | refine ⟨trivial, ?_⟩ | refine ⟨rfl, ?_⟩ | refine ⟨fun hc => absurd hc (by decide), fun _ => ?_⟩ | refine ⟨fun _ => ?_, fun hc => absurd (by decide) hc⟩ | refine ⟨fun _ => ?_, fun hc => absurd hc (by decide)⟩ | refine ⟨fun hc => absurd (by decide) hc, fun _ => ?_⟩); conv => whnf)
                  try dsimp only
                  rw [nI_add, nI_add]
                  exact iht
              · have ihk := ihk hc3
                have x1 := ms_A3 hS (3 * i + t) (by omega) k hc3
                have x2 := hb (3 * i + t) (by omega) k hc3
                conv => whnf
                repeat ((first | refine ⟨zH_of _, ?_⟩ | refine ⟨trivial, ?_⟩ | refine ⟨rfl, ?_⟩ | refine ⟨fun hc => absurd hc (by decide), fun _ => ?_⟩ | refine ⟨fun _ => ?_, fun hc => absurd (by decide) hc⟩ | refine ⟨fun _ => ?_, fun hc => absurd hc (by decide)⟩ | refine ⟨fun hc => absurd (by decide) hc, fun _ => ?_⟩); conv => whnf)
                try dsimp only
                rw [bI_0]
                refine ⟨fun hn => ?_, fun hn => ?_⟩
                · have e : ¬ smB (A (3 * i + t)) (B (3 * i + t)) (k + 1) = true := fun z => hn (smB_s.mp z).1
                  rw [bI_f e] at ihk
                  conv => whnf
                  repeat ((first | refine ⟨zH_of _, ?_⟩ | refine ⟨trivial, ?_⟩ | refine ⟨rfl, ?_⟩ | refine ⟨fun hc => absurd hc (by decide), fun _ => ?_⟩ | refine ⟨fun _ => ?_, fun hc => absurd (by decide) hc⟩ | refine ⟨fun _ => ?_, fun hc => absurd hc (by decide)⟩ | refine ⟨fun hc => absurd (by decide) hc, fun _ => ?_⟩); conv => whnf)
                  try dsimp only
                  rw [nI_add]
                  exact ihk
                · conv => whnf
                  repeat ((first | refine ⟨zH_of _, ?_⟩ | refine ⟨trivial, ?_⟩ | refine ⟨rfl, ?_⟩ | refine ⟨fun hc => absurd hc (by decide), fun _ => ?_⟩ | refine ⟨fun _ => ?_, fun hc => absurd (by decide) hc⟩ | refine ⟨fun _ => ?_, fun hc => absurd hc (by decide)⟩ | refine ⟨fun hc => absurd (by decide) hc, fun _ => ?_⟩); conv => whnf)
                  try dsimp only
                  rw [at_N]
                  refine ⟨vp_in_nI (show 27 * i + 9 * t + k < 1080 by omega) (by decide), ?_⟩
                  conv => whnf
                  repeat ((first | refine ⟨zH_of _, ?_⟩ | refine ⟨trivial, ?_⟩ | refine ⟨rfl, ?_⟩ | refine ⟨fun hc => absurd hc (by decide), fun _ => ?_⟩ | refine ⟨fun _ => ?_, fun hc => absurd (by decide) hc⟩ | refine ⟨fun _ => ?_, fun hc => absurd hc (by decide)⟩ | refine ⟨fun hc => absurd (by decide) hc, fun _ => ?_⟩); conv => whnf)
                  try dsimp only
                  rw [at_N]
                  refine ⟨vp_in_nI (show 27 * i + 9 * t + k < 1080 by omega) (by decide), ?_⟩
                  conv => whnf
                  repeat ((first | refine ⟨zH_of _, ?_⟩ | refine ⟨trivial, ?_⟩ | refine ⟨rfl, ?_⟩ | refine ⟨fun hc => absurd hc (by decide), fun _ => ?_⟩ | refine ⟨fun _ => ?_, fun hc => absurd (by decide) hc⟩ | refine ⟨fun _ => ?_, fun hc => absurd hc (by decide)⟩ | refine ⟨fun hc => absurd (by decide) hc, fun _ => ?_⟩); conv => whnf)
                  try dsimp only
                  rw [nI_clamp (by omega), ms_at hS hc hc2 hc3, rw_ra hB hc hc2 k hc3, nI_eq (by omega) (by omega)]
                  refine ⟨fun hq => ?_, fun hq => ?_⟩
                  · have e : ¬ smB (A (3 * i + t)) (B (3 * i + t)) (k + 1) = true := fun z => hq (smB_s.mp z).2
                    rw [bI_f e] at ihk
                    conv => whnf
                    repeat ((first | refine ⟨zH_of _, ?_⟩ | refine ⟨trivial, ?_⟩ | refine ⟨rfl, ?_⟩ | refine ⟨fun hc => absurd hc (by decide), fun _ => ?_⟩ | refine ⟨fun _ => ?_, fun hc => absurd (by decide) hc⟩ | refine ⟨fun _ => ?_, fun hc => absurd hc (by decide)⟩ | refine ⟨fun hc => absurd (by decide) hc, fun _ => ?_⟩); conv => whnf)
                    try dsimp only
                    rw [nI_add]
                    exact ihk
                  · have e : smB (A (3 * i + t)) (B (3 * i + t)) (k + 1) = true := smB_s.mpr ⟨Classical.not_not.mp hn, hq⟩
                    rw [bI_t e] at ihk
                    conv => whnf
                    repeat ((first | refine ⟨zH_of _, ?_⟩ | refine ⟨trivial, ?_⟩ | refine ⟨rfl, ?_⟩ | refine ⟨fun hc => absurd hc (by decide), fun _ => ?_⟩ | refine ⟨fun _ => ?_, fun hc => absurd (by decide) hc⟩ | refine ⟨fun _ => ?_, fun hc => absurd hc (by decide)⟩ | refine ⟨fun hc => absurd (by decide) hc, fun _ => ?_⟩); conv => whnf)
                    try dsimp only
                    rw [nI_add]
                    exact ihk)
            have l0 := loopk 0 (Nat.zero_le _)
            rw [bI_t (show smB (A (3 * i + t)) (B (3 * i + t)) 0 = true from decide_eq_true (fun p hp => absurd hp (Nat.not_lt_zero p)))] at l0
            conv => whnf
            repeat ((first | refine ⟨zH_of _, ?_⟩ | refine ⟨trivial, ?_⟩ | refine ⟨rfl, ?_⟩ | refine ⟨fun hc => absurd hc (by decide), fun _ => ?_⟩ | refine ⟨fun _ => ?_, fun hc => absurd (by decide) hc⟩ | refine ⟨fun _ => ?_, fun hc => absurd hc (by decide)⟩ | refine ⟨fun hc => absurd (by decide) hc, fun _ => ?_⟩); conv => whnf)
            try dsimp only
            exact l0)
        conv => whnf
        repeat ((first | refine ⟨zH_of _, ?_⟩ | refine ⟨trivial, ?_⟩ | refine ⟨rfl, ?_⟩ | refine ⟨fun hc => absurd hc (by decide), fun _ => ?_⟩ | refine ⟨fun _ => ?_, fun hc => absurd (by decide) hc⟩ | refine ⟨fun _ => ?_, fun hc => absurd hc (by decide)⟩ | refine ⟨fun hc => absurd (by decide) hc, fun _ => ?_⟩); conv => whnf)
        try dsimp only
        exact loopt 0 (Nat.zero_le _))
    exact hs 400 0 _ _ _ _ _ (loop 0 (Nat.zero_le _))

