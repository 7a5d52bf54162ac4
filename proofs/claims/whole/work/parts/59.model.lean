/-! the reference's state; its plain scheme, a product gone -/
def KM (wi : Nat → Nat → Int32) (q : Nat) (kp : zK) : Prop := (kp.1 = false ∧ wi 45 4 = mI 1) ∨ (kp.1 = true ∧ wi 45 4 = nI kp.2.2.1 ∧ (∀ t, t < 3 → wi 48 t = nI (kp.2.1 t)) ∧ RW wi 49 (27 * kp.2.2.1) kp.2.2.2 ∧ kp.2.2.1 ≤ 40 ∧ (∀ t, t < 3 → 1 ≤ kp.2.1 t ∧ kp.2.1 t ≤ 3) ∧ ∀ k, k < 3 * kp.2.2.1 → ∀ p, p < 9 → kp.2.2.2 k p < q)
def XM (wi : Nat → Nat → Int32) (L : Nat) (x : Nat → Nat) : Prop := wi 45 8 = nI L ∧ L ≤ 400 ∧ ∀ k, k < L → (wi 50 k &&& nI 255) = nI (x k) ∧ x k < 256
def TM (wi : Nat → Nat → Int32) (wl : Nat → Nat → Int64) (n : Nat) (xs : Nat → Int64) : Prop := wi 45 10 = nI n ∧ n ≤ 9 ∧ ∀ k, k < n → wl 51 k = xs k
def MT (wi : Nat → Nat → Int32) (wl : Nat → Nat → Int64) (T : zT) : Prop := MS wi T.1 T.2.1 T.2.2.1 T.2.2.2.1 ∧ KM wi T.2.1 T.2.2.2.2.1 ∧ XM wi T.2.2.2.2.2.1.1 T.2.2.2.2.2.1.2 ∧ TM wi wl T.2.2.2.2.2.2.1 T.2.2.2.2.2.2.2
def ZT (T : zT) : Prop := ZS T.1 T.2.2.1 T.2.2.2.1 ∧ (T.2.2.2.2.1.1 = true → ZS T.2.2.2.2.1.2.1 T.2.2.2.2.1.2.2.1 T.2.2.2.2.1.2.2.2)
def FrM (wi : Nat → Nat → Int32) (wl : Nat → Nat → Int64) (wi' : Nat → Nat → Int32) (wl' : Nat → Nat → Int64) : Prop := ∀ y, y < 45 → wi' y = wi y ∧ wl' y = wl y
section
variable {wi wi' : Nat → Nat → Int32} {wl wl' : Nat → Nat → Int64} {d d' : Nat → Nat} {q c c' : Nat} {A A' : Nat → Nat → Nat} {kp : zK} {tx : Nat × (Nat → Nat)} {tl : Nat × (Nat → Int64)}
theorem mt_S (h : MT wi wl (d, q, c, A, kp, tx, tl)) : MS wi d q c A := h.1
theorem mt_K (h : MT wi wl (d, q, c, A, kp, tx, tl)) : KM wi q kp := h.2.1
theorem mt_X (h : MT wi wl (d, q, c, A, kp, tx, tl)) : XM wi tx.1 tx.2 := h.2.2.1
theorem mt_T (h : MT wi wl (d, q, c, A, kp, tx, tl)) : TM wi wl tl.1 tl.2 := h.2.2.2
theorem km_fr (h : KM wi q kp) (h4 : wi' 45 4 = wi 45 4) (h48 : wi' 48 = wi 48) (h49 : wi' 49 = wi 49) : KM wi' q kp := by
  unfold KM RW at *
  rw [h4, h48, h49]
  exact h
theorem xm_fr {L : Nat} {x : Nat → Nat} (h : XM wi L x) (h8 : wi' 45 8 = wi 45 8) (h50 : wi' 50 = wi 50) : XM wi' L x := by
  unfold XM at *
  rw [h8, h50]
  exact h
theorem tm_fr {n : Nat} {xs : Nat → Int64} (h : TM wi wl n xs) (h10 : wi' 45 10 = wi 45 10) (h51 : wl' 51 = wl 51) : TM wi' wl' n xs := by
  unfold TM at *
  rw [h10, h51]
  exact h
theorem ms_fr (h : MS wi d q c A) (h46 : wi' 46 = wi 46) (h1 : wi' 45 1 = wi 45 1) (h2 : wi' 45 2 = wi 45 2) (h47 : wi' 47 = wi 47) : MS wi' d q c A := by
  unfold MS RW at *
  rw [h46, h1, h2, h47]
  exact h
/-- the scheme changes, nothing else -/
theorem mt_now (h : MT wi wl (d, q, c, A, kp, tx, tl)) (hS : MS wi' d' q c' A') (hI : ∀ i, i = 4 ∨ i = 8 ∨ i = 10 → wi' 45 i = wi 45 i) (hF : ∀ y, y = 48 ∨ y = 49 ∨ y = 50 → wi' y = wi y) (h51 : wl' 51 = wl 51) : MT wi' wl' (d', q, c', A', kp, tx, tl) :=
  ⟨hS, km_fr (mt_K h) (hI 4 (by omega)) (hF 48 (by omega)) (hF 49 (by omega)), xm_fr (mt_X h) (hI 8 (by omega)) (hF 50 (by omega)), tm_fr (mt_T h) (hI 10 (by omega)) h51⟩
theorem mt_same {T : zT} (h : MT wi wl T) (hI : ∀ i, i = 1 ∨ i = 2 ∨ i = 4 ∨ i = 8 ∨ i = 10 → wi' 45 i = wi 45 i) (hF : ∀ y, y = 46 ∨ y = 47 ∨ y = 48 ∨ y = 49 ∨ y = 50 → wi' y = wi y) (h51 : wl' 51 = wl 51) : MT wi' wl' T := by
  obtain ⟨d, q, c, A, kp, tx, tl⟩ := T
  exact mt_now h (ms_fr (mt_S h) (hF 46 (by omega)) (hI 1 (by omega)) (hI 2 (by omega)) (hF 47 (by omega))) (fun i hi => hI i (by omega)) (fun y hy => hF y (by omega)) h51
theorem mt_fld {T : zT} {i : Nat} {v : Int32} (h : MT wi wl T) (hi : i ≠ 1 ∧ i ≠ 2 ∧ i ≠ 4 ∧ i ≠ 8 ∧ i ≠ 10) : MT (z_up wi 45 i v) wl T := mt_same h (fun j hj => z_up_nei (by omega)) (fun y hy => z_up_ne (by omega)) rfl
theorem fm_fld {i : Nat} {v : Int32} : FrM wi wl (z_up wi 45 i v) wl := fun y hy => ⟨z_up_ne (by omega), rfl⟩
theorem FrM_refl : FrM wi wl wi wl := fun _ _ => ⟨rfl, rfl⟩
end
theorem FrM_trans {wi wi' wi2 : Nat → Nat → Int32} {wl wl' wl2 : Nat → Nat → Int64} (h : FrM wi wl wi' wl') (h2 : FrM wi' wl' wi2 wl2) : FrM wi wl wi2 wl2 := fun y hy => ⟨(h2 y hy).1.trans (h y hy).1, (h2 y hy).2.trans (h y hy).2⟩
def sp_X12_clears : zSp := fun av w K => match av with
  | [.ref o, .int i] => o = 45 ∧ zH w.1 ∧ ∃ i' : Nat, i = nI i' ∧ i' < 40 ∧ ∀ wi' : Nat → Nat → Int32, (∀ y, y ≠ 47 → wi' y = w.2.1 y) → (∀ j, wi' 47 j = if 27 * i' ≤ j ∧ j < 27 * i' + 27 then nI 0 else w.2.1 47 j) → K none (w.1, wi', w.2.2)
  | _ => False
def rm_X12_clears : Room := { frames := 0, cells := 0, slots := 0, locals := 0 }
def M_X12_clears : zM := (k_X12_clears, f_X12, [], ([], [], []), [], [(2, [true, true, true])], 0, false, (false, 0, fun _ => 0), (0, 0))
theorem O_X12_clears (l : Launch) : z_OK l RX12 cX12_clears (headSpec (.code yX12_clears cX12_clears 3 none :: zTT) rm_X12_clears).room M_X12_clears := ⟨ok_X12_clears, fo_X12, fun _ h => absurd h List.not_mem_nil, fun _ h => absurd h List.not_mem_nil, fun _ h => absurd h List.not_mem_nil, fun _ h => absurd h List.not_mem_nil, fun _ h => absurd h List.not_mem_nil, rfl, rfl⟩
theorem c_X12_clears (l : Launch) : z_CS l yX12_clears cX12_clears 3 none rm_X12_clears sp_X12_clears := by
  refine z_meth (by decide) (Or.inl ⟨rfl, rfl⟩) (fun h => by cases h) rfl (O_X12_clears l) ?_
  intro av w K h
  match av, h with
  | [.ref o, .int i], h =>
    obtain ⟨rfl, ⟨r, hG⟩, i', rfl, hi, h⟩ := h
    obtain ⟨G, wi, wl⟩ := w
    subst hG
    try dsimp only at h
    refine ⟨Nat.le_of_ble_eq_true rfl, fun Jm hs => ?_⟩
    have loop := up_ind (P := fun k => ∀ wi' : Nat → Nat → Int32, (∀ y, y ≠ 47 → wi' y = wi y) → (∀ j, wi' 47 j = if 27 * i' ≤ j ∧ j < 27 * i' + k then nI 0 else wi 47 j) → Jm 2 [some (.ref 45), some (.int (nI i')), some (.int (nI k))] [] (GC ++ (GM ++ r), wi', wl) 0 0) 27 (fun k hk ih => by
      intro wi' hF hN
      refine hs 400 2 _ _ _ _ _ ?_
      conv => whnf
      repeat ((first | refine ⟨zH_of _, ?_⟩ | refine ⟨trivial, ?_⟩ | refine ⟨rfl, ?_⟩ | refine ⟨fun hc => absurd hc (by decide), fun _ => ?_⟩ | refine ⟨fun _ => ?_, fun hc => absurd (by decide) hc⟩ | refine ⟨fun _ => ?_, fun hc => absurd hc (by decide)⟩ | refine ⟨fun hc => absurd (by decide) hc, fun _ => ?_⟩); conv => whnf)
      try dsimp only
      rw [ltN (by omega) (by omega)]
      refine ⟨fun hc => ?_, fun hc => ?_⟩
      · obtain rfl : k = 27 := by omega
        exact h wi' hF hN
      · have ihn := ih hc
        conv => whnf
        repeat ((first | refine ⟨zH_of _, ?_⟩ | refine ⟨trivial, ?_⟩ | refine ⟨rfl, ?_⟩ | refine ⟨fun hc => absurd hc (by decide), fun _ => ?_⟩ | refine ⟨fun _ => ?_, fun hc => absurd (by decide) hc⟩ | refine ⟨fun _ => ?_, fun hc => absurd hc (by decide)⟩ | refine ⟨fun hc => absurd (by decide) hc, fun _ => ?_⟩); conv => whnf)
        try dsimp only
        rw [pk_mul, nI_add]
        refine ⟨vp_in_nI (show 27 * i' + k < 1080 by omega) (by decide), ?_⟩
        conv => whnf
        repeat ((first | refine ⟨zH_of _, ?_⟩ | refine ⟨trivial, ?_⟩ | refine ⟨rfl, ?_⟩ | refine ⟨fun hc => absurd hc (by decide), fun _ => ?_⟩ | refine ⟨fun _ => ?_, fun hc => absurd (by decide) hc⟩ | refine ⟨fun _ => ?_, fun hc => absurd hc (by decide)⟩ | refine ⟨fun hc => absurd (by decide) hc, fun _ => ?_⟩); conv => whnf)
        try dsimp only
        rw [nI_clamp (by omega), nI_add]
        refine ihn _ (fun y hy => by rw [z_up_ne hy, hF y hy]) (fun j => ?_)
        by_cases e : j = 27 * i' + k
        · subst e
          rw [z_up_eq, if_pos (by omega)]
        · rw [z_up_nei e, hN j]
          by_cases e2 : 27 * i' ≤ j ∧ j < 27 * i' + k
          · have e3 : 27 * i' ≤ j ∧ j < 27 * i' + (k + 1) := by omega
            rw [if_pos e2, if_pos e3]
          · have e3 : ¬ (27 * i' ≤ j ∧ j < 27 * i' + (k + 1)) := by omega
            rw [if_neg e2, if_neg e3])
    refine hs 400 0 _ _ _ _ _ (loop 0 (Nat.zero_le _) wi (fun _ _ => rfl) (fun j => ?_))
    rw [if_neg (by omega)]
def sp_X12_addsPlain : zSp := fun av w K => match av with
  | [.ref o, .int i, .int j, .int k] => o = 45 ∧ zH w.1 ∧ ∃ d q c A i' j' k', MS w.2.1 d q c A ∧ c < 40 ∧ i = nI i' ∧ i' < d 0 ∧ j = nI j' ∧ j' < d 1 ∧ k = nI k' ∧ k' < d 2 ∧ ∀ wi' : Nat → Nat → Int32, (∀ y, y ≠ 45 → y ≠ 47 → wi' y = w.2.1 y) → (∀ i, i ≠ 2 → wi' 45 i = w.2.1 45 i) → MS wi' d q (c + 1) (onA A c (i' * d 1 + j') (j' * d 2 + k') (k' * d 0 + i')) → K none (w.1, wi', w.2.2)
  | _ => False
def rm_X12_addsPlain : Room := { frames := 1, cells := 0, slots := 0, locals := 22 }
def M_X12_addsPlain : zM := (k_X12_addsPlain, f_X12, [(103, 4, 10, 2, 0, 0, sp_X12_clears), (107, 0, 0, 3, 0, 0, sp_X12_at)], ([], [], []), [], [], 0, false, (false, 0, fun _ => 0), (0, 0))
theorem ca_X12_addsPlain_0 (l : Launch) : z_cok l RX12 (headSpec (.code yX12_addsPlain cX12_addsPlain 4 none :: zTT) rm_X12_addsPlain).room (103, 4, 10, 2, 0, 0, sp_X12_clears) := z_ca4 (c_X12_clears l) mb_X12_clears ⟨_, rfl, rfl⟩ wt_1132 wt_1134 wt_28 (by decide)
theorem ca_X12_addsPlain_1 (l : Launch) : z_cok l RX12 (headSpec (.code yX12_addsPlain cX12_addsPlain 4 none :: zTT) rm_X12_addsPlain).room (107, 0, 0, 3, 0, 0, sp_X12_at) := z_ca0 (c_X12_at l) mb_X12_at wt_1136 wt_1137 (by decide)
theorem O_X12_addsPlain (l : Launch) : z_OK l RX12 cX12_addsPlain (headSpec (.code yX12_addsPlain cX12_addsPlain 4 none :: zTT) rm_X12_addsPlain).room M_X12_addsPlain := ⟨ok_X12_addsPlain, fo_X12, List.forall_mem_cons.mpr ⟨ca_X12_addsPlain_0 l, List.forall_mem_cons.mpr ⟨ca_X12_addsPlain_1 l, fun _ h => absurd h List.not_mem_nil⟩⟩, fun _ h => absurd h List.not_mem_nil, fun _ h => absurd h List.not_mem_nil, fun _ h => absurd h List.not_mem_nil, fun _ h => absurd h List.not_mem_nil, rfl, rfl⟩
theorem c_X12_addsPlain (l : Launch) : z_CS l yX12_addsPlain cX12_addsPlain 4 none rm_X12_addsPlain sp_X12_addsPlain := by
  refine z_meth (by decide) (Or.inl ⟨rfl, rfl⟩) (fun h => by cases h) rfl (O_X12_addsPlain l) ?_
  intro av w K h
  match av, h with
  | [.ref o, .int i, .int j, .int k], h =>
    obtain ⟨rfl, ⟨r, hG⟩, d, q, c, A, i', j', k', hS, hc, rfl, hi, rfl, hj, rfl, hk, h⟩ := h
    obtain ⟨G, wi, wl⟩ := w
    subst hG
    try dsimp only at h hS
    have q23 := ms_q23 hS
    have hd := ms_hd hS
    have d0 := hd 0 (by decide)
    have d1 := hd 1 (by decide)
    have d2 := hd 2 (by decide)
    have x9 : i' * d 1 + j' < 9 := ap_idx hd (u := 0) (v := 1) (by decide) (by decide) hi hj
    have y9 : j' * d 2 + k' < 9 := ap_idx hd (u := 1) (v := 2) (by decide) (by decide) hj hk
    have z9 : k' * d 0 + i' < 9 := ap_idx hd (u := 2) (v := 0) (by decide) (by decide) hk hi
    refine ⟨Nat.le_of_ble_eq_true rfl, fun Jm hs => hs 400 0 _ _ _ _ _ ?_⟩
    conv => whnf
    repeat ((first | refine ⟨zH_of _, ?_⟩ | refine ⟨trivial, ?_⟩ | refine ⟨rfl, ?_⟩ | refine ⟨fun hc => absurd hc (by decide), fun _ => ?_⟩ | refine ⟨fun _ => ?_, fun hc => absurd (by decide) hc⟩ | refine ⟨fun _ => ?_, fun hc => absurd hc (by decide)⟩ | refine ⟨fun hc => absurd (by decide) hc, fun _ => ?_⟩); conv => whnf)
    try dsimp only
    refine ⟨c, ms_c hS, hc, fun wi1 hF1 hN1 => ?_⟩
    have e46 : wi1 46 = wi 46 := hF1 46 (by decide)
    have e45 : wi1 45 = wi 45 := hF1 45 (by decide)
    conv => whnf
    repeat ((first | refine ⟨zH_of _, ?_⟩ | refine ⟨trivial, ?_⟩ | refine ⟨rfl, ?_⟩ | refine ⟨fun hc => absurd hc (by decide), fun _ => ?_⟩ | refine ⟨fun _ => ?_, fun hc => absurd (by decide) hc⟩ | refine ⟨fun _ => ?_, fun hc => absurd hc (by decide)⟩ | refine ⟨fun hc => absurd (by decide) hc, fun _ => ?_⟩); conv => whnf)
    try dsimp only
    refine ⟨vp_in_nI (show 1 < 3 by decide) (by decide), ?_⟩
    conv => whnf
    repeat ((first | refine ⟨zH_of _, ?_⟩ | refine ⟨trivial, ?_⟩ | refine ⟨rfl, ?_⟩ | refine ⟨fun hc => absurd hc (by decide), fun _ => ?_⟩ | refine ⟨fun _ => ?_, fun hc => absurd (by decide) hc⟩ | refine ⟨fun _ => ?_, fun hc => absurd hc (by decide)⟩ | refine ⟨fun hc => absurd (by decide) hc, fun _ => ?_⟩); conv => whnf)
    try dsimp only
    have s1 : wi1 46 (nI 1).toNatClampNeg = nI (d 1) := by rw [nI_clamp (by omega), e46]; exact ms_d hS 1 (by decide)
    have a1 : atN (wi1 45 2) (nI 0) (nI i' * wi1 46 (nI 1).toNatClampNeg + nI j') = nI (27 * c + 9 * 0 + (i' * d 1 + j')) := by
      rw [s1, e45, ms_c hS, pk_mul, nI_add, at_N]
    rw [a1]
    refine ⟨vp_in_nI (show 27 * c + 9 * 0 + (i' * d 1 + j') < 1080 by omega) (by decide), ?_⟩
    rw [nI_clamp (by omega)]
    conv => whnf
    repeat ((first | refine ⟨zH_of _, ?_⟩ | refine ⟨trivial, ?_⟩ | refine ⟨rfl, ?_⟩ | refine ⟨fun hc => absurd hc (by decide), fun _ => ?_⟩ | refine ⟨fun _ => ?_, fun hc => absurd (by decide) hc⟩ | refine ⟨fun _ => ?_, fun hc => absurd hc (by decide)⟩ | refine ⟨fun hc => absurd (by decide) hc, fun _ => ?_⟩); conv => whnf)
    try dsimp only
    refine ⟨vp_in_nI (show 2 < 3 by decide) (by decide), ?_⟩
    conv => whnf
    repeat ((first | refine ⟨zH_of _, ?_⟩ | refine ⟨trivial, ?_⟩ | refine ⟨rfl, ?_⟩ | refine ⟨fun hc => absurd hc (by decide), fun _ => ?_⟩ | refine ⟨fun _ => ?_, fun hc => absurd (by decide) hc⟩ | refine ⟨fun _ => ?_, fun hc => absurd hc (by decide)⟩ | refine ⟨fun hc => absurd (by decide) hc, fun _ => ?_⟩); conv => whnf)
    try dsimp only
    rw [z_up_ne (show (45 : Nat) ≠ 47 by decide), z_up_ne (show (46 : Nat) ≠ 47 by decide)]
    have s2 : wi1 46 (nI 2).toNatClampNeg = nI (d 2) := by rw [nI_clamp (by omega), e46]; exact ms_d hS 2 (by decide)
    have a2 : atN (wi1 45 2) (nI 1) (nI j' * wi1 46 (nI 2).toNatClampNeg + nI k') = nI (27 * c + 9 * 1 + (j' * d 2 + k')) := by
      rw [s2, e45, ms_c hS, pk_mul, nI_add, at_N]
    rw [a2]
    refine ⟨vp_in_nI (show 27 * c + 9 * 1 + (j' * d 2 + k') < 1080 by omega) (by decide), ?_⟩
    rw [nI_clamp (by omega)]
    conv => whnf
    repeat ((first | refine ⟨zH_of _, ?_⟩ | refine ⟨trivial, ?_⟩ | refine ⟨rfl, ?_⟩ | refine ⟨fun hc => absurd hc (by decide), fun _ => ?_⟩ | refine ⟨fun _ => ?_, fun hc => absurd (by decide) hc⟩ | refine ⟨fun _ => ?_, fun hc => absurd hc (by decide)⟩ | refine ⟨fun hc => absurd (by decide) hc, fun _ => ?_⟩); conv => whnf)
    try dsimp only
    refine ⟨vp_in_nI (show 0 < 3 by decide) (by decide), ?_⟩
    conv => whnf
    repeat ((first | refine ⟨zH_of _, ?_⟩ | refine ⟨trivial, ?_⟩ | refine ⟨rfl, ?_⟩ | refine ⟨fun hc => absurd hc (by decide), fun _ => ?_⟩ | refine ⟨fun _ => ?_, fun hc => absurd (by decide) hc⟩ | refine ⟨fun _ => ?_, fun hc => absurd hc (by decide)⟩ | refine ⟨fun hc => absurd (by decide) hc, fun _ => ?_⟩); conv => whnf)
    try dsimp only
    rw [z_up_ne (show (45 : Nat) ≠ 47 by decide), z_up_ne (show (45 : Nat) ≠ 47 by decide), z_up_ne (show (46 : Nat) ≠ 47 by decide), z_up_ne (show (46 : Nat) ≠ 47 by decide)]
    have s0 : wi1 46 (nI 0).toNatClampNeg = nI (d 0) := by rw [nI_clamp (by omega), e46]; exact ms_d hS 0 (by decide)
    have a0 : atN (wi1 45 2) (nI 2) (nI k' * wi1 46 (nI 0).toNatClampNeg + nI i') = nI (27 * c + 9 * 2 + (k' * d 0 + i')) := by
      rw [s0, e45, ms_c hS, pk_mul, nI_add, at_N]
    rw [a0]
    refine ⟨vp_in_nI (show 27 * c + 9 * 2 + (k' * d 0 + i') < 1080 by omega) (by decide), ?_⟩
    rw [nI_clamp (by omega)]
    conv => whnf
    repeat ((first | refine ⟨zH_of _, ?_⟩ | refine ⟨trivial, ?_⟩ | refine ⟨rfl, ?_⟩ | refine ⟨fun hc => absurd hc (by decide), fun _ => ?_⟩ | refine ⟨fun _ => ?_, fun hc => absurd (by decide) hc⟩ | refine ⟨fun _ => ?_, fun hc => absurd hc (by decide)⟩ | refine ⟨fun hc => absurd (by decide) hc, fun _ => ?_⟩); conv => whnf)
    try dsimp only
    rw [z_up_ne (show (45 : Nat) ≠ 47 by decide), z_up_ne (show (45 : Nat) ≠ 47 by decide), z_up_ne (show (45 : Nat) ≠ 47 by decide), e45, ms_c hS, nI_add]
    generalize hX : i' * d 1 + j' = X at *
    generalize hY : j' * d 2 + k' = Y at *
    generalize hZ : k' * d 0 + i' = Z at *
    refine h _ (fun y g1 g2 => by rw [z_up_ne g1, z_up_ne g2, z_up_ne g2, z_up_ne g2, hF1 y g2]) (fun i g => by rw [z_up_nei g, z_up_ne (by decide), z_up_ne (by decide), z_up_ne (by decide), e45]) ⟨fun t ht => ?_, ⟨?_, z_up_eq⟩, fun n hn => ?_, q23, hd, hc, fun k hk p hp => ?_⟩
    · rw [z_up_ne (by decide), z_up_ne (by decide), z_up_ne (by decide), z_up_ne (by decide), e46]
      exact ms_d hS t ht
    · rw [z_up_nei (by decide), z_up_ne (by decide), z_up_ne (by decide), z_up_ne (by decide), e45]
      exact ms_q hS
    · rw [z_up_ne (by decide)]
      unfold fl onA
      by_cases g0 : n < 27 * c
      · rw [z_up_nei (by omega), z_up_nei (by omega), z_up_nei (by omega), hN1, if_neg (by omega), if_pos (by omega)]
        exact ms_f hS n g0
      · rw [if_neg (by omega)]
        rcases (show n / 9 = 3 * c ∨ n / 9 = 3 * c + 1 ∨ n / 9 = 3 * c + 2 by omega) with g | g | g
        · rw [if_pos g, z_up_nei (by omega), z_up_nei (by omega)]
          unfold un
          by_cases g3 : n % 9 = X
          · rw [if_pos g3, show n = 27 * c + 9 * 0 + X by omega, z_up_eq]
          · rw [if_neg g3, z_up_nei (by omega), hN1, if_pos (by omega)]
        · rw [if_neg (by omega), if_pos g, z_up_nei (by omega)]
          unfold un
          by_cases g3 : n % 9 = Y
          · rw [if_pos g3, show n = 27 * c + 9 * 1 + Y by omega, z_up_eq]
          · rw [if_neg g3, z_up_nei (by omega), z_up_nei (by omega), hN1, if_pos (by omega)]
        · rw [if_neg (by omega), if_neg (by omega)]
          unfold un
          by_cases g3 : n % 9 = Z
          · rw [if_pos g3, show n = 27 * c + 9 * 2 + Z by omega, z_up_eq]
          · rw [if_neg g3, z_up_nei (by omega), z_up_nei (by omega), z_up_nei (by omega), hN1, if_pos (by omega)]
    · unfold onA
      split
      · exact ms_A hS k (by assumption) p hp
      · split
        · exact un_lt q23 _ p
        · split
          · exact un_lt q23 _ p
          · exact un_lt q23 _ p
def sp_X12_laysPlain : zSp := fun av w K => match av with
  | [.ref o] => o = 45 ∧ zH w.1 ∧ ∃ d q, (∀ t, t < 3 → w.2.1 46 t = nI (d t)) ∧ w.2.1 45 1 = nI q ∧ (q = 2 ∨ q = 3) ∧ (∀ t, t < 3 → 1 ≤ d t ∧ d t ≤ 3) ∧ ∀ wi' : Nat → Nat → Int32, (∀ y, y ≠ 45 → y ≠ 47 → wi' y = w.2.1 y) → (∀ i, i ≠ 2 → wi' 45 i = w.2.1 45 i) → MS wi' d q (plS d).1 (plS d).2 → K none (w.1, wi', w.2.2)
  | _ => False
def rm_X12_laysPlain : Room := { frames := 2, cells := 0, slots := 0, locals := 45 }
def M_X12_laysPlain : zM := (k_X12_laysPlain, f_X12, [(99, 4, 10, 4, 0, 0, sp_X12_addsPlain)], ([], [], []), [], [(7, [true, true, false, false]), (19, [true, true, true, false]), (31, [true, true, true, true])], 0, false, (false, 0, fun _ => 0), (0, 0))
theorem ca_X12_laysPlain_0 (l : Launch) : z_cok l RX12 (headSpec (.code yX12_laysPlain cX12_laysPlain 4 none :: zTT) rm_X12_laysPlain).room (99, 4, 10, 4, 0, 0, sp_X12_addsPlain) := z_ca4 (c_X12_addsPlain l) mb_X12_addsPlain ⟨_, rfl, rfl⟩ wt_1128 wt_1130 wt_27 (by decide)
theorem O_X12_laysPlain (l : Launch) : z_OK l RX12 cX12_laysPlain (headSpec (.code yX12_laysPlain cX12_laysPlain 4 none :: zTT) rm_X12_laysPlain).room M_X12_laysPlain := ⟨ok_X12_laysPlain, fo_X12, List.forall_mem_cons.mpr ⟨ca_X12_laysPlain_0 l, fun _ h => absurd h List.not_mem_nil⟩, fun _ h => absurd h List.not_mem_nil, fun _ h => absurd h List.not_mem_nil, fun _ h => absurd h List.not_mem_nil, fun _ h => absurd h List.not_mem_nil, rfl, rfl⟩
theorem c_X12_laysPlain (l : Launch) : z_CS l yX12_laysPlain cX12_laysPlain 4 none rm_X12_laysPlain sp_X12_laysPlain := by
  refine z_meth (by decide) (Or.inl ⟨rfl, rfl⟩) (fun h => by cases h) rfl (O_X12_laysPlain l) ?_
  intro av w K h
  match av, h with
  | [.ref o], h =>
    obtain ⟨rfl, ⟨r, hG⟩, d, q, hD, hQ, q23, hd, h⟩ := h
    obtain ⟨G, wi, wl⟩ := w
    subst hG
    try dsimp only at h hD hQ
    have d0 := hd 0 (by decide)
    have d1 := hd 1 (by decide)
    have d2 := hd 2 (by decide)
    have hl := plS_le hd
    unfold plS at h hl
    have c3 : ∀ i j k, apC 3 d i j k = true := fun _ _ _ => rfl
    refine ⟨Nat.le_of_ble_eq_true rfl, fun Jm hs => ?_⟩
    have loop := up_ind (P := fun i => ∀ wi' : Nat → Nat → Int32, (∀ y, y ≠ 45 → y ≠ 47 → wi' y = wi y) → (∀ i, i ≠ 2 → wi' 45 i = wi 45 i) → MS wi' d q (apI 3 d i (0, fun _ _ => 0)).1 (apI 3 d i (0, fun _ _ => 0)).2 → Jm 7 [some (.ref 45), some (.int (nI i)), none, none] [] (GC ++ (GM ++ r), wi', wl) 0 0) (d 0) (fun i hi ih => by
      intro wi' hF hI hS'
      refine hs 400 7 _ _ _ _ _ ?_
      conv => whnf
      repeat ((first | refine ⟨zH_of _, ?_⟩ | refine ⟨trivial, ?_⟩ | refine ⟨rfl, ?_⟩ | refine ⟨fun hc => absurd hc (by decide), fun _ => ?_⟩ | refine ⟨fun _ => ?_, fun hc => absurd (by decide) hc⟩ | refine ⟨fun _ => ?_, fun hc => absurd hc (by decide)⟩ | refine ⟨fun hc => absurd (by decide) hc, fun _ => ?_⟩); conv => whnf)
      try dsimp only
      refine ⟨vp_in_nI (show 0 < 3 by decide) (by decide), ?_⟩
      conv => whnf
      repeat ((first | refine ⟨zH_of _, ?_⟩ | refine ⟨trivial, ?_⟩ | refine ⟨rfl, ?_⟩ | refine ⟨fun hc => absurd hc (by decide), fun _ => ?_⟩ | refine ⟨fun _ => ?_, fun hc => absurd (by decide) hc⟩ | refine ⟨fun _ => ?_, fun hc => absurd hc (by decide)⟩ | refine ⟨fun hc => absurd (by decide) hc, fun _ => ?_⟩); conv => whnf)
      try dsimp only
      rw [nI_clamp (by decide), ms_d hS' 0 (by decide), ltN (by omega) (by omega)]
      refine ⟨fun hc => ?_, fun hc => ?_⟩
      · obtain hin : i = d 0 := by omega
        rw [hin] at hS'
        exact h wi' hF hI hS'
      · have ihn := ih hc
        have m_i := apI_mono 3 d (0, fun _ _ => 0) (show i + 1 ≤ d 0 from hc)
        rw [apI] at ihn m_i
        generalize apI 3 d i (0, fun _ _ => 0) = Ti at *
        have loopj := up_ind (P := fun j => ∀ wi' : Nat → Nat → Int32, (∀ y, y ≠ 45 → y ≠ 47 → wi' y = wi y) → (∀ i, i ≠ 2 → wi' 45 i = wi 45 i) → MS wi' d q (apJ 3 d i j Ti).1 (apJ 3 d i j Ti).2 → Jm 19 [some (.ref 45), some (.int (nI i)), some (.int (nI j)), none] [] (GC ++ (GM ++ r), wi', wl) 0 0) (d 1) (fun j hj ihj => by
          intro wi' hF hI hS'
          refine hs 400 19 _ _ _ _ _ ?_
          conv => whnf
          repeat ((first | refine ⟨zH_of _, ?_⟩ | refine ⟨trivial, ?_⟩ | refine ⟨rfl, ?_⟩ | refine ⟨fun hc => absurd hc (by decide), fun _ => ?_⟩ | refine ⟨fun _ => ?_, fun hc => absurd (by decide) hc⟩ | refine ⟨fun _ => ?_, fun hc => absurd hc (by decide)⟩ | refine ⟨fun hc => absurd (by decide) hc, fun _ => ?_⟩); conv => whnf)
          try dsimp only
          refine ⟨vp_in_nI (show 1 < 3 by decide) (by decide), ?_⟩
          conv => whnf
          repeat ((first | refine ⟨zH_of _, ?_⟩ | refine ⟨trivial, ?_⟩ | refine ⟨rfl, ?_⟩ | refine ⟨fun hc => absurd hc (by decide), fun _ => ?_⟩ | refine ⟨fun _ => ?_, fun hc => absurd (by decide) hc⟩ | refine ⟨fun _ => ?_, fun hc => absurd hc (by decide)⟩ | refine ⟨fun hc => absurd (by decide) hc, fun _ => ?_⟩); conv => whnf)
          try dsimp only
          rw [nI_clamp (by decide), ms_d hS' 1 (by decide), ltN (by omega) (by omega)]
          refine ⟨fun hc2 => ?_, fun hc2 => ?_⟩
          · obtain hjn : j = d 1 := by omega
            rw [hjn] at hS'
            conv => whnf
            repeat ((first | refine ⟨zH_of _, ?_⟩ | refine ⟨trivial, ?_⟩ | refine ⟨rfl, ?_⟩ | refine ⟨fun hc => absurd hc (by decide), fun _ => ?_⟩ | refine ⟨fun _ => ?_, fun hc => absurd (by decide) hc⟩ | refine ⟨fun _ => ?_, fun hc => absurd hc (by decide)⟩ | refine ⟨fun hc => absurd (by decide) hc, fun _ => ?_⟩); conv => whnf)
            try dsimp only
            rw [nI_add]
            exact ihn wi' hF hI hS'
          · have ihjn := ihj hc2
            have m_j := apJ_mono 3 d i Ti (show j + 1 ≤ d 1 from hc2)
            rw [apJ] at ihjn m_j
            generalize apJ 3 d i j Ti = Tj at *
            have loopk := up_ind (P := fun k => ∀ wi' : Nat → Nat → Int32, (∀ y, y ≠ 45 → y ≠ 47 → wi' y = wi y) → (∀ i, i ≠ 2 → wi' 45 i = wi 45 i) → MS wi' d q (apK 3 d i j k Tj).1 (apK 3 d i j k Tj).2 → Jm 31 [some (.ref 45), some (.int (nI i)), some (.int (nI j)), some (.int (nI k))] [] (GC ++ (GM ++ r), wi', wl) 0 0) (d 2) (fun k hk ihk => by
              intro wi' hF hI hS'
              refine hs 400 31 _ _ _ _ _ ?_
              conv => whnf
              repeat ((first | refine ⟨zH_of _, ?_⟩ | refine ⟨trivial, ?_⟩ | refine ⟨rfl, ?_⟩ | refine ⟨fun hc => absurd hc (by decide), fun _ => ?_⟩ | refine ⟨fun _ => ?_, fun hc => absurd (by decide) hc⟩ | refine ⟨fun _ => ?_, fun hc => absurd hc (by decide)⟩ | refine ⟨fun hc => absurd (by decide) hc, fun _ => ?_⟩); conv => whnf)
              try dsimp only
              refine ⟨vp_in_nI (show 2 < 3 by decide) (by decide), ?_⟩
              conv => whnf
              repeat ((first | refine ⟨zH_of _, ?_⟩ | refine ⟨trivial, ?_⟩ | refine ⟨rfl, ?_⟩ | refine ⟨fun hc => absurd hc (by decide), fun _ => ?_⟩ | refine ⟨fun _ => ?_, fun hc => absurd (by decide) hc⟩ | refine ⟨fun _ => ?_, fun hc => absurd hc (by decide)⟩ | refine ⟨fun hc => absurd (by decide) hc, fun _ => ?_⟩); conv => whnf)
              try dsimp only
              rw [nI_clamp (by decide), ms_d hS' 2 (by decide), ltN (by omega) (by omega)]
              refine ⟨fun hc3 => ?_, fun hc3 => ?_⟩
              · obtain hkn : k = d 2 := by omega
                rw [hkn] at hS'
                conv => whnf
                repeat ((first | refine ⟨zH_of _, ?_⟩ | refine ⟨trivial, ?_⟩ | refine ⟨rfl, ?_⟩ | refine ⟨fun hc => absurd hc (by decide), fun _ => ?_⟩ | refine ⟨fun _ => ?_, fun hc => absurd (by decide) hc⟩ | refine ⟨fun _ => ?_, fun hc => absurd hc (by decide)⟩ | refine ⟨fun hc => absurd (by decide) hc, fun _ => ?_⟩); conv => whnf)
                try dsimp only
                rw [nI_add]
                exact ihjn wi' hF hI hS'
              · have ihkn := ihk hc3
                have m_k := apK_mono 3 d i j Tj (show k + 1 ≤ d 2 from hc3)
                rw [apK, if_pos (c3 i j k)] at ihkn m_k
                generalize apK 3 d i j k Tj = Tk at *
                have m_k2 : Tk.1 + 1 ≤ 40 := by
                  have : Tk.1 + 1 ≤ _ := m_k
                  omega
                conv => whnf
                repeat ((first | refine ⟨zH_of _, ?_⟩ | refine ⟨trivial, ?_⟩ | refine ⟨rfl, ?_⟩ | refine ⟨fun hc => absurd hc (by decide), fun _ => ?_⟩ | refine ⟨fun _ => ?_, fun hc => absurd (by decide) hc⟩ | refine ⟨fun _ => ?_, fun hc => absurd hc (by decide)⟩ | refine ⟨fun hc => absurd (by decide) hc, fun _ => ?_⟩); conv => whnf)
                try dsimp only
                refine ⟨d, q, Tk.1, Tk.2, i, j, k, hS', by omega, rfl, hc, rfl, hc2, rfl, hc3, fun wi1 hF1 hI1 hS1 => ?_⟩
                conv => whnf
                repeat ((first | refine ⟨zH_of _, ?_⟩ | refine ⟨trivial, ?_⟩ | refine ⟨rfl, ?_⟩ | refine ⟨fun hc => absurd hc (by decide), fun _ => ?_⟩ | refine ⟨fun _ => ?_, fun hc => absurd (by decide) hc⟩ | refine ⟨fun _ => ?_, fun hc => absurd hc (by decide)⟩ | refine ⟨fun hc => absurd (by decide) hc, fun _ => ?_⟩); conv => whnf)
                try dsimp only
                rw [nI_add]
                exact ihkn wi1 (fun y g1 g2 => by rw [hF1 y g1 g2, hF y g1 g2]) (fun i g => by rw [hI1 i g, hI i g]) hS1)
            conv => whnf
            repeat ((first | refine ⟨zH_of _, ?_⟩ | refine ⟨trivial, ?_⟩ | refine ⟨rfl, ?_⟩ | refine ⟨fun hc => absurd hc (by decide), fun _ => ?_⟩ | refine ⟨fun _ => ?_, fun hc => absurd (by decide) hc⟩ | refine ⟨fun _ => ?_, fun hc => absurd hc (by decide)⟩ | refine ⟨fun hc => absurd (by decide) hc, fun _ => ?_⟩); conv => whnf)
            try dsimp only
            exact loopk 0 (Nat.zero_le _) wi' hF hI hS')
        conv => whnf
        repeat ((first | refine ⟨zH_of _, ?_⟩ | refine ⟨trivial, ?_⟩ | refine ⟨rfl, ?_⟩ | refine ⟨fun hc => absurd hc (by decide), fun _ => ?_⟩ | refine ⟨fun _ => ?_, fun hc => absurd (by decide) hc⟩ | refine ⟨fun _ => ?_, fun hc => absurd hc (by decide)⟩ | refine ⟨fun hc => absurd (by decide) hc, fun _ => ?_⟩); conv => whnf)
        try dsimp only
        exact loopj 0 (Nat.zero_le _) wi' hF hI hS')
    refine hs 400 0 _ _ _ _ _ (loop 0 (Nat.zero_le _) _ (fun y g1 _ => z_up_ne g1) (fun i g => z_up_nei g) ⟨fun t ht => ?_, ⟨?_, z_up_eq⟩, fun n hn => absurd hn (by show ¬ n < 27 * 0; omega), q23, hd, Nat.zero_le 40, fun k hk => absurd hk (by show ¬ k < 3 * 0; omega)⟩)
    · rw [z_up_ne (by decide)]
      exact hD t ht
    · rw [z_up_nei (by decide)]
      exact hQ

