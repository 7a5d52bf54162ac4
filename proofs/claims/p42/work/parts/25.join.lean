/-! joining; the flips by their number -/
theorem likeN_sym {q : Nat} {a b : Nat → Nat} (ha : ∀ p, p < 9 → a p < 3) (hb : ∀ p, p < 9 → b p < 3) : likeN q a b = likeN q b a := by
  have e1 : (∀ p : Nat, p < 9 → a p = b p) ↔ ∀ p : Nat, p < 9 → b p = a p := ⟨fun h p hp => (h p hp).symm, fun h p hp => (h p hp).symm⟩
  have e2 : (∀ p : Nat, p < 9 → a p = 2 * b p % 3) ↔ ∀ p : Nat, p < 9 → b p = 2 * a p % 3 := by
    constructor
    · intro h p hp
      have := h p hp
      have := ha p hp
      have := hb p hp
      omega
    · intro h p hp
      have := h p hp
      have := ha p hp
      have := hb p hp
      omega
  unfold likeN
  simp only [e1, e2, or_comm]
theorem lkB_sym {q : Nat} {A : Nat → Nat → Nat} {t i k : Nat} (h : ∀ m, m = i ∨ m = k → ∀ p, p < 9 → A (3 * m + t) p < 3) : lkB q A t i k = lkB q A t k i := by
  unfold lkB
  rw [likeN_sym (h i (Or.inl rfl)) (h k (Or.inr rfl))]
/-- pairs, by one number -/
def pfB (q : Nat) (A : Nat → Nat → Nat) (t c m : Nat) : Bool := !(m / 40 == m % 40) && decide (m / 40 < c) && decide (m % 40 < c) && lkB q A t (m / 40) (m % 40)
theorem pf_at {q : Nat} {A : Nat → Nat → Nat} {t c i j : Nat} (hj : j < 40) : pfB q A t c (i * 40 + j) = (!(i == j) && decide (i < c) && decide (j < c) && lkB q A t i j) := by
  unfold pfB
  rw [show (i * 40 + j) / 40 = i by omega, show (i * 40 + j) % 40 = j by omega]
theorem ct_grid (f : Nat → Bool) (m : Nat) : ∀ n, fb_ct f (n * m) = fb_sm (fun i => fb_ct (fun j => f (i * m + j)) m) n
  | 0 => by rw [Nat.zero_mul]; rfl
  | n + 1 => by rw [Nat.add_mul, Nat.one_mul, fb_ct_split, ct_grid f m n, fb_sm_succ]
theorem ct_more {f : Nat → Bool} {a b : Nat} (h : a ≤ b) (h0 : ∀ k, a ≤ k → k < b → f k = false) : fb_ct f b = fb_ct f a := by
  obtain ⟨n, rfl⟩ := Nat.exists_eq_add_of_le h
  rw [fb_ct_split, fb_ct_zero.mpr (fun k hk => h0 (a + k) (by omega) (by omega)), Nat.add_zero]
theorem sm_more {f : Nat → Nat} {a b : Nat} (h : a ≤ b) (h0 : ∀ k, a ≤ k → k < b → f k = 0) : fb_sm f b = fb_sm f a := by
  obtain ⟨n, rfl⟩ := Nat.exists_eq_add_of_le h
  have : fb_sm (fun k => f (a + k)) n = 0 := by
    have := fb_sm_bound (f := fun k => f (a + k)) (c := 0) (n := n) (fun k hk => Nat.le_of_eq (h0 (a + k) (by omega) (by omega)))
    omega
  rw [fb_sm_split, this, Nat.add_zero]
theorem ct_sm (f : Nat → Bool) : ∀ n, fb_ct f n = fb_sm (fun i => if f i = true then 1 else 0) n
  | 0 => rfl
  | n + 1 => by rw [fb_ct_succ, fb_sm_succ, ct_sm f n]
theorem fl_pairs {q : Nat} {A : Nat → Nat → Nat} {t : Nat} : ∀ c, (∀ i, i < c → ∀ p, p < 9 → A (3 * i + t) p < 3) → fb_sm (fun i => fb_ct (fun j => !(i == j) && lkB q A t i j) c) c = flN q A t c
  | 0, _ => rfl
  | c + 1, h => by
    have ih := fl_pairs (q := q) c (fun i hi => h i (by omega))
    have e1 : fb_sm (fun i => fb_ct (fun j => !(i == j) && lkB q A t i j) (c + 1)) c = fb_sm (fun i => fb_ct (fun j => !(i == j) && lkB q A t i j) c + (if lkB q A t c i = true then 1 else 0)) c := by
      refine fb_sm_cong (fun i hi => ?_)
      rw [fb_ct_succ, lkB_sym (i := c) (k := i) (fun m hm => h m (by rcases hm with rfl | rfl <;> omega))]
      have : (i == c) = false := by simp; omega
      rw [this]
      simp
    have e2 : fb_ct (fun j => !(c == j) && lkB q A t c j) (c + 1) = fb_ct (lkB q A t c) c := by
      rw [fb_ct_succ]
      simp only [beq_self_eq_true, Bool.not_true, Bool.false_and, Bool.false_eq_true, if_false, Nat.add_zero]
      refine fb_ct_cong (fun j hj => ?_)
      have : (c == j) = false := by simp; omega
      rw [this]
      rfl
    rw [fb_sm_succ, e1, fb_sm_add, ih, e2, ← ct_sm]
    unfold flN
    rw [fb_sm_succ]
    omega
theorem pf_count {q : Nat} {A : Nat → Nat → Nat} {t c : Nat} (hc : c ≤ 40) (h : ∀ i, i < c → ∀ p, p < 9 → A (3 * i + t) p < 3) : fb_ct (pfB q A t c) 1600 = flN q A t c := by
  rw [show 1600 = 40 * 40 from rfl, ct_grid, ← fl_pairs c h]
  have e : fb_sm (fun i => fb_ct (fun j => pfB q A t c (i * 40 + j)) 40) 40 = fb_sm (fun i => fb_ct (fun j => pfB q A t c (i * 40 + j)) 40) c := sm_more hc (fun i hi _ => fb_ct_zero.mpr (fun j hj => by
    rw [pf_at hj, decide_eq_false (show ¬ i < c by omega)]
    simp))
  rw [e]
  refine fb_sm_cong (fun i hi => ?_)
  have e2 : fb_ct (fun j => pfB q A t c (i * 40 + j)) 40 = fb_ct (fun j => pfB q A t c (i * 40 + j)) c := ct_more hc (fun j hj hj2 => by
    show pfB q A t c (i * 40 + j) = false
    rw [pf_at hj2, decide_eq_false (show ¬ j < c by omega)]
    simp)
  rw [e2]
  refine fb_ct_cong (fun j hj => ?_)
  rw [pf_at (by omega), decide_eq_true hi, decide_eq_true hj]
  simp
def sp_X4_flipAt : zSp := fun av w K => match av with
  | [.ref o, .int t, .int k] => o = 6 ∧ zG w.1 ∧ ∃ d q c A t' m, CS w.2.1 6 d q c A ∧ t = nI t' ∧ t' < 3 ∧ m < 1600 ∧ pfB q A t' c m = true ∧ k = nI (fb_ct (pfB q A t' c) m) ∧ ∀ wi' : Nat → Nat → Int32, Fr 6 8 w.2.1 wi' → CS wi' 6 d q c (tfA q A (m / 40) (m % 40) t') → K none (w.1, wi', w.2.2)
  | _ => False
def rm_X4_flipAt : Room := { frames := 4, cells := 0, slots := 0, locals := 92 }
def M_X4_flipAt : zM := (k_X4_flipAt, f_X4, [(43, 4, 5, 4, 0, 0, sp_X6_likeBy), (73, 4, 5, 4, 0, 0, sp_X6_turnFlip)], ([], [], []), [], [(5, [true, true, true, true, true, false]), (17, [true, true, true, true, true, true])], 0, false, (false, 0, fun _ => 0), (0, 0, []))
theorem ca_X4_flipAt_0 (l : Launch) : z_cok l RX4 (headSpec (.code yX4_flipAt cX4_flipAt 6 none :: zTT) rm_X4_flipAt).room (false, 0, fun _ => 0) (43, 4, 5, 4, 0, 0, sp_X6_likeBy) := z_ca4 (c_X6_likeBy l) mb_X6_likeBy ⟨_, rfl, rfl⟩ wt_563 wt_509 wt_510 (by decide)
theorem ca_X4_flipAt_1 (l : Launch) : z_cok l RX4 (headSpec (.code yX4_flipAt cX4_flipAt 6 none :: zTT) rm_X4_flipAt).room (false, 0, fun _ => 0) (73, 4, 5, 4, 0, 0, sp_X6_turnFlip) := z_ca4 (c_X6_turnFlip l) mb_X6_turnFlip ⟨_, rfl, rfl⟩ wt_699 wt_523 wt_524 (by decide)
theorem O_X4_flipAt (l : Launch) : z_OK l RX4 cX4_flipAt (headSpec (.code yX4_flipAt cX4_flipAt 6 none :: zTT) rm_X4_flipAt).room M_X4_flipAt := ⟨ok_X4_flipAt, fo_X4, List.forall_mem_cons.mpr ⟨ca_X4_flipAt_0 l, List.forall_mem_cons.mpr ⟨ca_X4_flipAt_1 l, fun _ h => absurd h List.not_mem_nil⟩⟩, fun _ h => absurd h List.not_mem_nil, fun _ h => absurd h List.not_mem_nil, fun _ h => absurd h List.not_mem_nil, fun _ h => absurd h List.not_mem_nil, rfl, rfl, fun _ h => absurd h List.not_mem_nil⟩
theorem c_X4_flipAt (l : Launch) : z_CS l yX4_flipAt cX4_flipAt 6 none rm_X4_flipAt sp_X4_flipAt := by
  refine z_meth (by decide) (Or.inl ⟨rfl, rfl⟩) (fun h => by cases h) rfl (O_X4_flipAt l) ?_
  intro av w K h
  match av, h with
  | [.ref o, .int t, .int k], h =>
    obtain ⟨rfl, ⟨r, hG⟩, d, q, c, A, t', m, hS, rfl, ht, hm, hp, rfl, h⟩ := h
    obtain ⟨G, wi, wl⟩ := w
    subst hG
    try dsimp only at h hS
    have h40 := cs_40 hS
    have hp2 := hp
    unfold pfB at hp2
    simp only [Bool.and_eq_true, decide_eq_true_eq, Bool.not_eq_true'] at hp2
    have hm1 := hp2.1.1.2
    have hm2 := hp2.1.2
    generalize hf : pfB q A t' c = f at *
    have lm := fb_ct_le f m
    refine ⟨Nat.le_of_ble_eq_true rfl, fun Jm hs => ?_⟩
    have loop := up_ind (P := fun i => i * 40 ≤ m → Jm 5 [some (.ref 6), some (.int (nI t')), some (.int (nI (fb_ct f m))), some (.int (nI (fb_ct f (i * 40)))), some (.int (nI i)), none] [] (GC ++ r, wi, wl) 0 0) c (fun i hi ih hle => by
      refine hs 400 5 _ _ _ _ _ ?_
      conv => whnf
      repeat ((first | refine ⟨zG_of _, ?_⟩ | refine ⟨trivial, ?_⟩ | refine ⟨rfl, ?_⟩ | refine ⟨fun hc => absurd hc (by decide), fun _ => ?_⟩ | refine ⟨fun _ => ?_, fun hc => absurd (by decide) hc⟩ | refine ⟨fun _ => ?_, fun hc => absurd hc (by decide)⟩ | refine ⟨fun hc => absurd (by decide) hc, fun _ => ?_⟩); conv => whnf)
      try dsimp only
      rw [cs_c hS, ltN (by omega) (by omega)]
      refine ⟨fun hc => absurd hle (by omega), fun hc => ?_⟩
      have ihn := ih hc
      have inner := up_ind (P := fun j => i * 40 + j ≤ m → Jm 17 [some (.ref 6), some (.int (nI t')), some (.int (nI (fb_ct f m))), some (.int (nI (fb_ct f (i * 40 + j)))), some (.int (nI i)), some (.int (nI j))] [] (GC ++ r, wi, wl) 0 0) c (fun j hj ihj hle2 => by
        refine hs 400 17 _ _ _ _ _ ?_
        conv => whnf
        repeat ((first | refine ⟨zG_of _, ?_⟩ | refine ⟨trivial, ?_⟩ | refine ⟨rfl, ?_⟩ | refine ⟨fun hc => absurd hc (by decide), fun _ => ?_⟩ | refine ⟨fun _ => ?_, fun hc => absurd (by decide) hc⟩ | refine ⟨fun _ => ?_, fun hc => absurd hc (by decide)⟩ | refine ⟨fun hc => absurd (by decide) hc, fun _ => ?_⟩); conv => whnf)
        try dsimp only
        rw [cs_c hS, ltN (by omega) (by omega)]
        refine ⟨fun hc2 => ?_, fun hc2 => ?_⟩
        · obtain rfl : j = c := by omega
          have e : fb_ct f ((i + 1) * 40) = fb_ct f (i * 40 + j) := ct_more (by omega) (fun k hk hk2 => by
            rw [← hf, show k = i * 40 + (k - i * 40) by omega, pf_at (by omega), decide_eq_false (show ¬ k - i * 40 < j by omega)]
            simp)
          rw [e] at ihn
          conv => whnf
          repeat ((first | refine ⟨zG_of _, ?_⟩ | refine ⟨trivial, ?_⟩ | refine ⟨rfl, ?_⟩ | refine ⟨fun hc => absurd hc (by decide), fun _ => ?_⟩ | refine ⟨fun _ => ?_, fun hc => absurd (by decide) hc⟩ | refine ⟨fun _ => ?_, fun hc => absurd hc (by decide)⟩ | refine ⟨fun hc => absurd (by decide) hc, fun _ => ?_⟩); conv => whnf)
          try dsimp only
          rw [nI_add]
          exact ihn (by omega)
        · have ihj := ihj hc2
          have hfe : f (i * 40 + j) = (!(i == j) && decide (i < c) && decide (j < c) && lkB q A t' i j) := by rw [← hf]; exact pf_at (by omega)
          have skip : ¬ f (i * 40 + j) = true → Jm 17 [some (.ref 6), some (.int (nI t')), some (.int (nI (fb_ct f m))), some (.int (nI (fb_ct f (i * 40 + j)))), some (.int (nI i)), some (.int (nI (j + 1)))] [] (GC ++ r, wi, wl) 0 0 := fun q => by
            have e : fb_ct f (i * 40 + (j + 1)) = fb_ct f (i * 40 + j) := ct_f q
            rw [e] at ihj
            refine ihj ?_
            have : i * 40 + j ≠ m := fun z => q (by rw [z]; exact hp)
            omega
          conv => whnf
          repeat ((first | refine ⟨zG_of _, ?_⟩ | refine ⟨trivial, ?_⟩ | refine ⟨rfl, ?_⟩ | refine ⟨fun hc => absurd hc (by decide), fun _ => ?_⟩ | refine ⟨fun _ => ?_, fun hc => absurd (by decide) hc⟩ | refine ⟨fun _ => ?_, fun hc => absurd hc (by decide)⟩ | refine ⟨fun hc => absurd (by decide) hc, fun _ => ?_⟩); conv => whnf)
          try dsimp only
          rw [nI_eq (by omega) (by omega)]
          refine ⟨fun hq => ?_, fun hq => ?_⟩
          · subst hq
            conv => whnf
            repeat ((first | refine ⟨zG_of _, ?_⟩ | refine ⟨trivial, ?_⟩ | refine ⟨rfl, ?_⟩ | refine ⟨fun hc => absurd hc (by decide), fun _ => ?_⟩ | refine ⟨fun _ => ?_, fun hc => absurd (by decide) hc⟩ | refine ⟨fun _ => ?_, fun hc => absurd hc (by decide)⟩ | refine ⟨fun hc => absurd (by decide) hc, fun _ => ?_⟩); conv => whnf)
            try dsimp only
            rw [nI_add]
            exact skip (by rw [hfe]; simp)
          · have e0 := lk_S hS hc hc2 ht
            have a0 := likeN_lt q (A (3 * i + t')) (A (3 * j + t'))
            conv => whnf
            repeat ((first | refine ⟨zG_of _, ?_⟩ | refine ⟨trivial, ?_⟩ | refine ⟨rfl, ?_⟩ | refine ⟨fun hc => absurd hc (by decide), fun _ => ?_⟩ | refine ⟨fun _ => ?_, fun hc => absurd (by decide) hc⟩ | refine ⟨fun _ => ?_, fun hc => absurd hc (by decide)⟩ | refine ⟨fun hc => absurd (by decide) hc, fun _ => ?_⟩); conv => whnf)
            try dsimp only
            refine ⟨fun hq2 => ?_, fun hq2 => ?_⟩
            · have hq2 : ¬ nI 0 < nI (likeN q (A (3 * i + t')) (A (3 * j + t'))) := fun z => hq2 (by have z2 := z; rw [← e0] at z2; exact z2)
              rw [ltN (by omega) (by omega)] at hq2
              conv => whnf
              repeat ((first | refine ⟨zG_of _, ?_⟩ | refine ⟨trivial, ?_⟩ | refine ⟨rfl, ?_⟩ | refine ⟨fun hc => absurd hc (by decide), fun _ => ?_⟩ | refine ⟨fun _ => ?_, fun hc => absurd (by decide) hc⟩ | refine ⟨fun _ => ?_, fun hc => absurd hc (by decide)⟩ | refine ⟨fun hc => absurd (by decide) hc, fun _ => ?_⟩); conv => whnf)
              try dsimp only
              rw [nI_add]
              refine skip ?_
              rw [hfe]
              simp [lkB, show likeN q (A (3 * i + t')) (A (3 * j + t')) = 0 by omega]
            · have hq2 : nI 0 < nI (likeN q (A (3 * i + t')) (A (3 * j + t'))) := by rw [← e0]; exact hq2
              rw [ltN (by omega) (by omega)] at hq2
              have hft : f (i * 40 + j) = true := by
                rw [hfe]
                have h1 : (i == j) = false := by simpa using hq
                have h2 : ¬ likeN q (A (3 * i + t')) (A (3 * j + t')) = 0 := by omega
                simp [lkB, h1, h2, hc, hc2]
              have l2 := fb_ct_le f (i * 40 + j)
              conv => whnf
              repeat ((first | refine ⟨zG_of _, ?_⟩ | refine ⟨trivial, ?_⟩ | refine ⟨rfl, ?_⟩ | refine ⟨fun hc => absurd hc (by decide), fun _ => ?_⟩ | refine ⟨fun _ => ?_, fun hc => absurd (by decide) hc⟩ | refine ⟨fun _ => ?_, fun hc => absurd hc (by decide)⟩ | refine ⟨fun hc => absurd (by decide) hc, fun _ => ?_⟩); conv => whnf)
              try dsimp only
              rw [nI_eq (by omega) (by omega)]
              refine ⟨fun hq3 => ?_, fun hq3 => ?_⟩
              · have e : fb_ct f (i * 40 + (j + 1)) = fb_ct f (i * 40 + j) + 1 := ct_t hft
                rw [e] at ihj
                have : i * 40 + j ≠ m := fun z => hq3 (by rw [z])
                conv => whnf
                repeat ((first | refine ⟨zG_of _, ?_⟩ | refine ⟨trivial, ?_⟩ | refine ⟨rfl, ?_⟩ | refine ⟨fun hc => absurd hc (by decide), fun _ => ?_⟩ | refine ⟨fun _ => ?_, fun hc => absurd (by decide) hc⟩ | refine ⟨fun _ => ?_, fun hc => absurd hc (by decide)⟩ | refine ⟨fun hc => absurd (by decide) hc, fun _ => ?_⟩); conv => whnf)
                try dsimp only
                rw [nI_add, nI_add]
                exact ihj (by omega)
              · have e : i * 40 + j = m := fb_ct_kth_one hft hp hq3
                conv => whnf
                repeat ((first | refine ⟨zG_of _, ?_⟩ | refine ⟨trivial, ?_⟩ | refine ⟨rfl, ?_⟩ | refine ⟨fun hc => absurd hc (by decide), fun _ => ?_⟩ | refine ⟨fun _ => ?_, fun hc => absurd (by decide) hc⟩ | refine ⟨fun _ => ?_, fun hc => absurd hc (by decide)⟩ | refine ⟨fun hc => absurd (by decide) hc, fun _ => ?_⟩); conv => whnf)
                try dsimp only
                refine ⟨d, q, c, A, i, j, t', hS, rfl, hc, rfl, hc2, rfl, ht, fun wi' hF hS' => ?_⟩
                refine h wi' hF ?_
                rw [← e, show (i * 40 + j) / 40 = i by omega, show (i * 40 + j) % 40 = j by omega]
                exact hS')
      conv => whnf
      repeat ((first | refine ⟨zG_of _, ?_⟩ | refine ⟨trivial, ?_⟩ | refine ⟨rfl, ?_⟩ | refine ⟨fun hc => absurd hc (by decide), fun _ => ?_⟩ | refine ⟨fun _ => ?_, fun hc => absurd (by decide) hc⟩ | refine ⟨fun _ => ?_, fun hc => absurd hc (by decide)⟩ | refine ⟨fun hc => absurd (by decide) hc, fun _ => ?_⟩); conv => whnf)
      try dsimp only
      exact inner 0 (Nat.zero_le _) hle)
    have l0 := loop 0 (Nat.zero_le _) (by omega)
    rw [Nat.zero_mul] at l0
    exact hs 400 0 _ _ _ _ _ l0

