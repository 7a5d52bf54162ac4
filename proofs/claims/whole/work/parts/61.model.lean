/-! the reference: numbers modulo q, forms that are 0, that are like -/
def modM (v q : Int32) : Int32 := if z_rem v q < nI 0 then z_rem v q + q else z_rem v q
def sp_X12_mod : zSp := fun av w K => match av with
  | [.ref o, .int v] => o = 45 ∧ zH w.1 ∧ ∃ q : Nat, w.2.1 45 1 = nI q ∧ (q = 2 ∨ q = 3) ∧ K (some (.int (modM v (nI q)))) w
  | _ => False
theorem q_n0 {q : Nat} (h : q = 2 ∨ q = 3) : ¬ nI q = 0 := by
  rcases h with rfl | rfl <;> decide
def rm_X12_mod : Room := { frames := 0, cells := 0, slots := 0, locals := 0 }
def M_X12_mod : zM := (k_X12_mod, f_X12, [], ([], [], []), [], [], 1, false, (false, 0, fun _ => 0), (0, 0))
theorem O_X12_mod (l : Launch) : z_OK l RX12 cX12_mod (headSpec (.code yX12_mod cX12_mod 3 (some .int) :: zTT) rm_X12_mod).room M_X12_mod := ⟨ok_X12_mod, fo_X12, fun _ h => absurd h List.not_mem_nil, fun _ h => absurd h List.not_mem_nil, fun _ h => absurd h List.not_mem_nil, fun _ h => absurd h List.not_mem_nil, fun _ h => absurd h List.not_mem_nil, rfl, rfl⟩
theorem c_X12_mod (l : Launch) : z_CS l yX12_mod cX12_mod 3 (some .int) rm_X12_mod sp_X12_mod := by
  refine z_meth (by decide) (Or.inr (Or.inl ⟨rfl, rfl⟩)) (fun h => by cases h) rfl (O_X12_mod l) ?_
  intro av w K h
  match av, h with
  | [.ref o, .int v], h =>
    obtain ⟨rfl, ⟨r, hG⟩, q, hQ, hq, h⟩ := h
    obtain ⟨G, wi, wl⟩ := w
    subst hG
    try dsimp only at h hQ
    refine ⟨Nat.le_of_ble_eq_true rfl, fun Jm hs => hs 400 0 _ _ _ _ _ ?_⟩
    unfold modM at h
    conv => whnf
    repeat ((first | refine ⟨zH_of _, ?_⟩ | refine ⟨trivial, ?_⟩ | refine ⟨rfl, ?_⟩ | refine ⟨fun hc => absurd hc (by decide), fun _ => ?_⟩ | refine ⟨fun _ => ?_, fun hc => absurd (by decide) hc⟩ | refine ⟨fun _ => ?_, fun hc => absurd hc (by decide)⟩ | refine ⟨fun hc => absurd (by decide) hc, fun _ => ?_⟩); conv => whnf)
    try dsimp only
    rw [hQ]
    refine ⟨q_n0 hq, ?_⟩
    conv => whnf
    repeat ((first | refine ⟨zH_of _, ?_⟩ | refine ⟨trivial, ?_⟩ | refine ⟨rfl, ?_⟩ | refine ⟨fun hc => absurd hc (by decide), fun _ => ?_⟩ | refine ⟨fun _ => ?_, fun hc => absurd (by decide) hc⟩ | refine ⟨fun _ => ?_, fun hc => absurd hc (by decide)⟩ | refine ⟨fun hc => absurd (by decide) hc, fun _ => ?_⟩); conv => whnf)
    try dsimp only
    refine ⟨fun hc => ?_, fun hc => ?_⟩
    · rw [if_neg hc] at h
      exact ⟨trivial, h⟩
    · rw [if_pos hc] at h
      conv => whnf
      repeat ((first | refine ⟨zH_of _, ?_⟩ | refine ⟨trivial, ?_⟩ | refine ⟨rfl, ?_⟩ | refine ⟨fun hc => absurd hc (by decide), fun _ => ?_⟩ | refine ⟨fun _ => ?_, fun hc => absurd (by decide) hc⟩ | refine ⟨fun _ => ?_, fun hc => absurd hc (by decide)⟩ | refine ⟨fun hc => absurd (by decide) hc, fun _ => ?_⟩); conv => whnf)
      try dsimp only
      rw [hQ]
      exact h
theorem mod_sub {q a m : Nat} (hq : q = 2 ∨ q = 3) (ha : a < 9) (hm : m < 9) : modM (nI a - nI m) (nI q) = nI ((a + (q - m % q)) % q) := by
  have h : ∀ a, a < 9 → ∀ m, m < 9 → modM (nI a - nI m) (nI 2) = nI ((a + (2 - m % 2)) % 2) ∧ modM (nI a - nI m) (nI 3) = nI ((a + (3 - m % 3)) % 3) := by decide
  rcases hq with rfl | rfl
  · exact (h a ha m hm).1
  · exact (h a ha m hm).2
theorem mod_add {q a : Nat} (hq : q = 2 ∨ q = 3) (ha : a < 9) : modM (nI a) (nI q) = nI (a % q) := by
  have h : ∀ a, a < 9 → modM (nI a) (nI 2) = nI (a % 2) ∧ modM (nI a) (nI 3) = nI (a % 3) := by decide
  rcases hq with rfl | rfl
  · exact (h a ha).1
  · exact (h a ha).2
def sp_X12_tell : zSp := fun av w K => match av with
  | [.ref o, .long v] => o = 45 ∧ zH w.1 ∧ ∃ n xs, TM w.2.1 w.2.2 n xs ∧ n < 9 ∧ ∀ (wi' : Nat → Nat → Int32) (wl' : Nat → Nat → Int64), (∀ y, y ≠ 45 → wi' y = w.2.1 y) → (∀ i, i ≠ 10 → wi' 45 i = w.2.1 45 i) → (∀ y, y ≠ 51 → wl' y = w.2.2 y) → TM wi' wl' (n + 1) (upL xs n v) → K none (w.1, wi', wl')
  | _ => False
def rm_X12_tell : Room := { frames := 0, cells := 0, slots := 0, locals := 0 }
def M_X12_tell : zM := (k_X12_tell, f_X12, [], ([], [], []), [], [], 0, false, (false, 0, fun _ => 0), (0, 0))
theorem O_X12_tell (l : Launch) : z_OK l RX12 cX12_tell (headSpec (.code yX12_tell cX12_tell 3 none :: zTT) rm_X12_tell).room M_X12_tell := ⟨ok_X12_tell, fo_X12, fun _ h => absurd h List.not_mem_nil, fun _ h => absurd h List.not_mem_nil, fun _ h => absurd h List.not_mem_nil, fun _ h => absurd h List.not_mem_nil, fun _ h => absurd h List.not_mem_nil, rfl, rfl⟩
theorem c_X12_tell (l : Launch) : z_CS l yX12_tell cX12_tell 3 none rm_X12_tell sp_X12_tell := by
  refine z_meth (by decide) (Or.inl ⟨rfl, rfl⟩) (fun h => by cases h) rfl (O_X12_tell l) ?_
  intro av w K h
  match av, h with
  | [.ref o, .long v], h =>
    obtain ⟨rfl, ⟨r, hG⟩, n, xs, hT, hn, h⟩ := h
    obtain ⟨G, wi, wl⟩ := w
    subst hG
    try dsimp only at h hT
    refine ⟨Nat.le_of_ble_eq_true rfl, fun Jm hs => hs 400 0 _ _ _ _ _ ?_⟩
    conv => whnf
    repeat ((first | refine ⟨zH_of _, ?_⟩ | refine ⟨trivial, ?_⟩ | refine ⟨rfl, ?_⟩ | refine ⟨fun hc => absurd hc (by decide), fun _ => ?_⟩ | refine ⟨fun _ => ?_, fun hc => absurd (by decide) hc⟩ | refine ⟨fun _ => ?_, fun hc => absurd hc (by decide)⟩ | refine ⟨fun hc => absurd (by decide) hc, fun _ => ?_⟩); conv => whnf)
    try dsimp only
    rw [hT.1]
    refine ⟨vp_in_nI (show n < 16 by omega) (by decide), ?_⟩
    conv => whnf
    repeat ((first | refine ⟨zH_of _, ?_⟩ | refine ⟨trivial, ?_⟩ | refine ⟨rfl, ?_⟩ | refine ⟨fun hc => absurd hc (by decide), fun _ => ?_⟩ | refine ⟨fun _ => ?_, fun hc => absurd (by decide) hc⟩ | refine ⟨fun _ => ?_, fun hc => absurd hc (by decide)⟩ | refine ⟨fun hc => absurd (by decide) hc, fun _ => ?_⟩); conv => whnf)
    try dsimp only
    rw [nI_clamp (by omega), hT.1, nI_add]
    refine h _ _ (fun y hy => z_up_ne hy) (fun i hi => z_up_nei hi) (fun y hy => z_up_ne hy) ⟨z_up_eq, hn, fun k hk => ?_⟩
    unfold upL
    by_cases e : k = n
    · subst e
      rw [z_up_eq, if_pos rfl]
    · rw [z_up_nei e, if_neg e]
      exact hT.2.2 k (by omega)
/-- nine numbers, from a place of a row on -/
def RA (wi : Nat → Nat → Int32) (o f : Nat) (a : Nat → Nat) : Prop := ∀ p, p < 9 → wi o (f + p) = nI (a p)
theorem rw_ra {wi : Nat → Nat → Int32} {o c : Nat} {A : Nat → Nat → Nat} (h : RW wi o (27 * c) A) {i t : Nat} (hi : i < c) (ht : t < 3) : RA wi o (27 * i + 9 * t) (A (3 * i + t)) := fun p hp => by
  rw [h _ (by omega), fl_at A ht hp]
theorem zB_iff {a : Nat → Nat} : zB a = true ↔ ∀ p, p < 9 → a p = 0 := decide_eq_true_iff
def rowN (o : Nat) : Nat := if o = 54 then 180 else 1080
def sp_X12_isZero : zSp := fun av w K => match av with
  | [.ref o, .int f] => (o = 47 ∨ o = 49 ∨ o = 57 ∨ o = 54) ∧ zH w.1 ∧ ∃ f' a, RA w.2.1 o f' a ∧ (∀ p, p < 9 → a p < 3) ∧ f = nI f' ∧ f' + 9 ≤ rowN o ∧ K (some (.int (bI (zB a = true)))) w
  | _ => False
def rm_X12_isZero : Room := { frames := 0, cells := 0, slots := 0, locals := 0 }
def M_X12_isZero : zM := (k_X12_isZero, f_X12, [], ([], [], []), [], [(2, [true, true, true])], 2, false, (false, 0, fun _ => 0), (0, 0))
theorem O_X12_isZero (l : Launch) : z_OK l RX12 cX12_isZero (headSpec (.code yX12_isZero cX12_isZero 3 (some .boolean) :: zTT) rm_X12_isZero).room M_X12_isZero := ⟨ok_X12_isZero, fo_X12, fun _ h => absurd h List.not_mem_nil, fun _ h => absurd h List.not_mem_nil, fun _ h => absurd h List.not_mem_nil, fun _ h => absurd h List.not_mem_nil, fun _ h => absurd h List.not_mem_nil, rfl, rfl⟩
theorem c_X12_isZero (l : Launch) : z_CS l yX12_isZero cX12_isZero 3 (some .boolean) rm_X12_isZero sp_X12_isZero := by
  refine z_meth (by decide) (Or.inr (Or.inr (Or.inl ⟨rfl, rfl⟩))) (fun h => by cases h) rfl (O_X12_isZero l) ?_
  intro av w K h
  match av, h with
  | [.ref o, .int f], h =>
    obtain ⟨ho, ⟨r, hG⟩, f', a, hR, ha, rfl, hf, h⟩ := h
    obtain ⟨G, wi, wl⟩ := w
    subst hG
    try dsimp only at h hR
    rcases ho with rfl | rfl | rfl | rfl
    · refine ⟨Nat.le_of_ble_eq_true rfl, fun Jm hs => ?_⟩
      have hf : f' + 9 ≤ 1080 := hf
      have loop := up_ind (P := fun p => (∀ k, k < p → a k = 0) → Jm 2 [some (.ref 47), some (.int (nI f')), some (.int (nI p))] [] (GC ++ (GM ++ r), wi, wl) 0 0) 9 (fun p hp ih hz => by
        refine hs 400 2 _ _ _ _ _ ?_
        conv => whnf
        repeat ((first | refine ⟨zH_of _, ?_⟩ | refine ⟨trivial, ?_⟩ | refine ⟨rfl, ?_⟩ | refine ⟨fun hc => absurd hc (by decide), fun _ => ?_⟩ | refine ⟨fun _ => ?_, fun hc => absurd (by decide) hc⟩ | refine ⟨fun _ => ?_, fun hc => absurd hc (by decide)⟩ | refine ⟨fun hc => absurd (by decide) hc, fun _ => ?_⟩); conv => whnf)
        try dsimp only
        rw [ltN (by omega) (by omega)]
        refine ⟨fun hc => ?_, fun hc => ?_⟩
        · rw [bI_t (zB_iff.mpr (fun k hk => hz k (by omega)))] at h
          exact ⟨Or.inr rfl, h⟩
        · have ihn := ih hc
          have a3 := ha p hc
          conv => whnf
          repeat ((first | refine ⟨zH_of _, ?_⟩ | refine ⟨trivial, ?_⟩ | refine ⟨rfl, ?_⟩ | refine ⟨fun hc => absurd hc (by decide), fun _ => ?_⟩ | refine ⟨fun _ => ?_, fun hc => absurd (by decide) hc⟩ | refine ⟨fun _ => ?_, fun hc => absurd hc (by decide)⟩ | refine ⟨fun hc => absurd (by decide) hc, fun _ => ?_⟩); conv => whnf)
          try dsimp only
          rw [nI_add]
          refine ⟨vp_in_nI (show f' + p < 1080 by omega) (by decide), ?_⟩
          conv => whnf
          repeat ((first | refine ⟨zH_of _, ?_⟩ | refine ⟨trivial, ?_⟩ | refine ⟨rfl, ?_⟩ | refine ⟨fun hc => absurd hc (by decide), fun _ => ?_⟩ | refine ⟨fun _ => ?_, fun hc => absurd (by decide) hc⟩ | refine ⟨fun _ => ?_, fun hc => absurd hc (by decide)⟩ | refine ⟨fun hc => absurd (by decide) hc, fun _ => ?_⟩); conv => whnf)
          try dsimp only
          rw [nI_clamp (by omega), hR p hc, eq0N (by omega)]
          refine ⟨fun hq => ?_, fun hq => ?_⟩
          · conv => whnf
            repeat ((first | refine ⟨zH_of _, ?_⟩ | refine ⟨trivial, ?_⟩ | refine ⟨rfl, ?_⟩ | refine ⟨fun hc => absurd hc (by decide), fun _ => ?_⟩ | refine ⟨fun _ => ?_, fun hc => absurd (by decide) hc⟩ | refine ⟨fun _ => ?_, fun hc => absurd hc (by decide)⟩ | refine ⟨fun hc => absurd (by decide) hc, fun _ => ?_⟩); conv => whnf)
            try dsimp only
            rw [nI_add]
            refine ihn (fun k hk => ?_)
            rcases Nat.lt_or_ge k p with g | g
            · exact hz k g
            · rw [show k = p by omega]
              exact hq
          · rw [bI_f (fun z => hq (zB_iff.mp z p hc))] at h
            exact ⟨Or.inl rfl, h⟩)
      exact hs 400 0 _ _ _ _ _ (loop 0 (Nat.zero_le _) (fun k hk => absurd hk (Nat.not_lt_zero k)))
    · refine ⟨Nat.le_of_ble_eq_true rfl, fun Jm hs => ?_⟩
      have hf : f' + 9 ≤ 1080 := hf
      have loop := up_ind (P := fun p => (∀ k, k < p → a k = 0) → Jm 2 [some (.ref 49), some (.int (nI f')), some (.int (nI p))] [] (GC ++ (GM ++ r), wi, wl) 0 0) 9 (fun p hp ih hz => by
        refine hs 400 2 _ _ _ _ _ ?_
        conv => whnf
        repeat ((first | refine ⟨zH_of _, ?_⟩ | refine ⟨trivial, ?_⟩ | refine ⟨rfl, ?_⟩ | refine ⟨fun hc => absurd hc (by decide), fun _ => ?_⟩ | refine ⟨fun _ => ?_, fun hc => absurd (by decide) hc⟩ | refine ⟨fun _ => ?_, fun hc => absurd hc (by decide)⟩ | refine ⟨fun hc => absurd (by decide) hc, fun _ => ?_⟩); conv => whnf)
        try dsimp only
        rw [ltN (by omega) (by omega)]
        refine ⟨fun hc => ?_, fun hc => ?_⟩
        · rw [bI_t (zB_iff.mpr (fun k hk => hz k (by omega)))] at h
          exact ⟨Or.inr rfl, h⟩
        · have ihn := ih hc
          have a3 := ha p hc
          conv => whnf
          repeat ((first | refine ⟨zH_of _, ?_⟩ | refine ⟨trivial, ?_⟩ | refine ⟨rfl, ?_⟩ | refine ⟨fun hc => absurd hc (by decide), fun _ => ?_⟩ | refine ⟨fun _ => ?_, fun hc => absurd (by decide) hc⟩ | refine ⟨fun _ => ?_, fun hc => absurd hc (by decide)⟩ | refine ⟨fun hc => absurd (by decide) hc, fun _ => ?_⟩); conv => whnf)
          try dsimp only
          rw [nI_add]
          refine ⟨vp_in_nI (show f' + p < 1080 by omega) (by decide), ?_⟩
          conv => whnf
          repeat ((first | refine ⟨zH_of _, ?_⟩ | refine ⟨trivial, ?_⟩ | refine ⟨rfl, ?_⟩ | refine ⟨fun hc => absurd hc (by decide), fun _ => ?_⟩ | refine ⟨fun _ => ?_, fun hc => absurd (by decide) hc⟩ | refine ⟨fun _ => ?_, fun hc => absurd hc (by decide)⟩ | refine ⟨fun hc => absurd (by decide) hc, fun _ => ?_⟩); conv => whnf)
          try dsimp only
          rw [nI_clamp (by omega), hR p hc, eq0N (by omega)]
          refine ⟨fun hq => ?_, fun hq => ?_⟩
          · conv => whnf
            repeat ((first | refine ⟨zH_of _, ?_⟩ | refine ⟨trivial, ?_⟩ | refine ⟨rfl, ?_⟩ | refine ⟨fun hc => absurd hc (by decide), fun _ => ?_⟩ | refine ⟨fun _ => ?_, fun hc => absurd (by decide) hc⟩ | refine ⟨fun _ => ?_, fun hc => absurd hc (by decide)⟩ | refine ⟨fun hc => absurd (by decide) hc, fun _ => ?_⟩); conv => whnf)
            try dsimp only
            rw [nI_add]
            refine ihn (fun k hk => ?_)
            rcases Nat.lt_or_ge k p with g | g
            · exact hz k g
            · rw [show k = p by omega]
              exact hq
          · rw [bI_f (fun z => hq (zB_iff.mp z p hc))] at h
            exact ⟨Or.inl rfl, h⟩)
      exact hs 400 0 _ _ _ _ _ (loop 0 (Nat.zero_le _) (fun k hk => absurd hk (Nat.not_lt_zero k)))
    · refine ⟨Nat.le_of_ble_eq_true rfl, fun Jm hs => ?_⟩
      have hf : f' + 9 ≤ 1080 := hf
      have loop := up_ind (P := fun p => (∀ k, k < p → a k = 0) → Jm 2 [some (.ref 57), some (.int (nI f')), some (.int (nI p))] [] (GC ++ (GM ++ r), wi, wl) 0 0) 9 (fun p hp ih hz => by
        refine hs 400 2 _ _ _ _ _ ?_
        conv => whnf
        repeat ((first | refine ⟨zH_of _, ?_⟩ | refine ⟨trivial, ?_⟩ | refine ⟨rfl, ?_⟩ | refine ⟨fun hc => absurd hc (by decide), fun _ => ?_⟩ | refine ⟨fun _ => ?_, fun hc => absurd (by decide) hc⟩ | refine ⟨fun _ => ?_, fun hc => absurd hc (by decide)⟩ | refine ⟨fun hc => absurd (by decide) hc, fun _ => ?_⟩); conv => whnf)
        try dsimp only
        rw [ltN (by omega) (by omega)]
        refine ⟨fun hc => ?_, fun hc => ?_⟩
        · rw [bI_t (zB_iff.mpr (fun k hk => hz k (by omega)))] at h
          exact ⟨Or.inr rfl, h⟩
        · have ihn := ih hc
          have a3 := ha p hc
          conv => whnf
          repeat ((first | refine ⟨zH_of _, ?_⟩ | refine ⟨trivial, ?_⟩ | refine ⟨rfl, ?_⟩ | refine ⟨fun hc => absurd hc (by decide), fun _ => ?_⟩ | refine ⟨fun _ => ?_, fun hc => absurd (by decide) hc⟩ | refine ⟨fun _ => ?_, fun hc => absurd hc (by decide)⟩ | refine ⟨fun hc => absurd (by decide) hc, fun _ => ?_⟩); conv => whnf)
          try dsimp only
          rw [nI_add]
          refine ⟨vp_in_nI (show f' + p < 1080 by omega) (by decide), ?_⟩
          conv => whnf
          repeat ((first | refine ⟨zH_of _, ?_⟩ | refine ⟨trivial, ?_⟩ | refine ⟨rfl, ?_⟩ | refine ⟨fun hc => absurd hc (by decide), fun _ => ?_⟩ | refine ⟨fun _ => ?_, fun hc => absurd (by decide) hc⟩ | refine ⟨fun _ => ?_, fun hc => absurd hc (by decide)⟩ | refine ⟨fun hc => absurd (by decide) hc, fun _ => ?_⟩); conv => whnf)
          try dsimp only
          rw [nI_clamp (by omega), hR p hc, eq0N (by omega)]
          refine ⟨fun hq => ?_, fun hq => ?_⟩
          · conv => whnf
            repeat ((first | refine ⟨zH_of _, ?_⟩ | refine ⟨trivial, ?_⟩ | refine ⟨rfl, ?_⟩ | refine ⟨fun hc => absurd hc (by decide), fun _ => ?_⟩ | refine ⟨fun _ => ?_, fun hc => absurd (by decide) hc⟩ | refine ⟨fun _ => ?_, fun hc => absurd hc (by decide)⟩ | refine ⟨fun hc => absurd (by decide) hc, fun _ => ?_⟩); conv => whnf)
            try dsimp only
            rw [nI_add]
            refine ihn (fun k hk => ?_)
            rcases Nat.lt_or_ge k p with g | g
            · exact hz k g
            · rw [show k = p by omega]
              exact hq
          · rw [bI_f (fun z => hq (zB_iff.mp z p hc))] at h
            exact ⟨Or.inl rfl, h⟩)
      exact hs 400 0 _ _ _ _ _ (loop 0 (Nat.zero_le _) (fun k hk => absurd hk (Nat.not_lt_zero k)))
    · refine ⟨Nat.le_of_ble_eq_true rfl, fun Jm hs => ?_⟩
      have hf : f' + 9 ≤ 180 := hf
      have loop := up_ind (P := fun p => (∀ k, k < p → a k = 0) → Jm 2 [some (.ref 54), some (.int (nI f')), some (.int (nI p))] [] (GC ++ (GM ++ r), wi, wl) 0 0) 9 (fun p hp ih hz => by
        refine hs 400 2 _ _ _ _ _ ?_
        conv => whnf
        repeat ((first | refine ⟨zH_of _, ?_⟩ | refine ⟨trivial, ?_⟩ | refine ⟨rfl, ?_⟩ | refine ⟨fun hc => absurd hc (by decide), fun _ => ?_⟩ | refine ⟨fun _ => ?_, fun hc => absurd (by decide) hc⟩ | refine ⟨fun _ => ?_, fun hc => absurd hc (by decide)⟩ | refine ⟨fun hc => absurd (by decide) hc, fun _ => ?_⟩); conv => whnf)
        try dsimp only
        rw [ltN (by omega) (by omega)]
        refine ⟨fun hc => ?_, fun hc => ?_⟩
        · rw [bI_t (zB_iff.mpr (fun k hk => hz k (by omega)))] at h
          exact ⟨Or.inr rfl, h⟩
        · have ihn := ih hc
          have a3 := ha p hc
          conv => whnf
          repeat ((first | refine ⟨zH_of _, ?_⟩ | refine ⟨trivial, ?_⟩ | refine ⟨rfl, ?_⟩ | refine ⟨fun hc => absurd hc (by decide), fun _ => ?_⟩ | refine ⟨fun _ => ?_, fun hc => absurd (by decide) hc⟩ | refine ⟨fun _ => ?_, fun hc => absurd hc (by decide)⟩ | refine ⟨fun hc => absurd (by decide) hc, fun _ => ?_⟩); conv => whnf)
          try dsimp only
          rw [nI_add]
          refine ⟨vp_in_nI (show f' + p < 180 by omega) (by decide), ?_⟩
          conv => whnf
          repeat ((first | refine ⟨zH_of _, ?_⟩ | refine ⟨trivial, ?_⟩ | refine ⟨rfl, ?_⟩ | refine ⟨fun hc => absurd hc (by decide), fun _ => ?_⟩ | refine ⟨fun _ => ?_, fun hc => absurd (by decide) hc⟩ | refine ⟨fun _ => ?_, fun hc => absurd hc (by decide)⟩ | refine ⟨fun hc => absurd (by decide) hc, fun _ => ?_⟩); conv => whnf)
          try dsimp only
          rw [nI_clamp (by omega), hR p hc, eq0N (by omega)]
          refine ⟨fun hq => ?_, fun hq => ?_⟩
          · conv => whnf
            repeat ((first | refine ⟨zH_of _, ?_⟩ | refine ⟨trivial, ?_⟩ | refine ⟨rfl, ?_⟩ | refine ⟨fun hc => absurd hc (by decide), fun _ => ?_⟩ | refine ⟨fun _ => ?_, fun hc => absurd (by decide) hc⟩ | refine ⟨fun _ => ?_, fun hc => absurd hc (by decide)⟩ | refine ⟨fun hc => absurd (by decide) hc, fun _ => ?_⟩); conv => whnf)
            try dsimp only
            rw [nI_add]
            refine ihn (fun k hk => ?_)
            rcases Nat.lt_or_ge k p with g | g
            · exact hz k g
            · rw [show k = p by omega]
              exact hq
          · rw [bI_f (fun z => hq (zB_iff.mp z p hc))] at h
            exact ⟨Or.inl rfl, h⟩)
      exact hs 400 0 _ _ _ _ _ (loop 0 (Nat.zero_le _) (fun k hk => absurd hk (Nat.not_lt_zero k)))
/-- f times the one is the other, as the reference looks -/
def mlB (q : Nat) (a b : Nat → Nat) (f : Nat) : Bool := decide (∀ p : Nat, p < 9 → b p = a p * f % q)
theorem mlB_iff {q : Nat} {a b : Nat → Nat} {f : Nat} : mlB q a b f = true ↔ ∀ p, p < 9 → b p = a p * f % q := decide_eq_true_iff
theorem ml_like {q : Nat} (hq : q = 2 ∨ q = 3) {a b : Nat → Nat} (ha : ∀ p, p < 9 → a p < q) (za : ¬ zB a = true) (zb : ¬ zB b = true) : likeN q a b = if mlB q a b 1 = true then 1 else if q = 3 ∧ mlB q a b 2 = true then 2 else 0 := by
  have za : ¬ ∀ p : Nat, p < 9 → a p = 0 := fun k => za (decide_eq_true k)
  have zb : ¬ ∀ p : Nat, p < 9 → b p = 0 := fun k => zb (decide_eq_true k)
  have e1 : mlB q a b 1 = true ↔ ∀ p : Nat, p < 9 → b p = a p := by
    unfold mlB
    rw [decide_eq_true_iff]
    constructor
    · intro h p hp
      rw [h p hp, Nat.mul_one, Nat.mod_eq_of_lt (ha p hp)]
    · intro h p hp
      rw [Nat.mul_one, Nat.mod_eq_of_lt (ha p hp)]
      exact h p hp
  have n0 : ¬ ((∀ p : Nat, p < 9 → a p = 0) ∨ ∀ p : Nat, p < 9 → b p = 0) := fun k => k.elim za zb
  unfold likeN
  rw [if_neg n0]
  by_cases k : ∀ p : Nat, p < 9 → b p = a p
  · rw [if_pos k, if_pos (e1.mpr k)]
  · rw [if_neg k, if_neg (fun z => k (e1.mp z))]
    rcases hq with rfl | rfl
    · have n1 : ¬ ((2 : Nat) = 3 ∧ ∀ p : Nat, p < 9 → b p = 2 * a p % 3) := fun z => absurd z.1 (by decide)
      have n2 : ¬ ((2 : Nat) = 3 ∧ mlB 2 a b 2 = true) := fun z => absurd z.1 (by decide)
      rw [if_neg n1, if_neg n2]
    · have e2 : mlB 3 a b 2 = true ↔ ∀ p : Nat, p < 9 → b p = 2 * a p % 3 := by
        unfold mlB
        rw [decide_eq_true_iff]
        constructor
        · intro h p hp
          rw [h p hp, Nat.mul_comm]
        · intro h p hp
          rw [h p hp, Nat.mul_comm]
      by_cases k2 : ∀ p : Nat, p < 9 → b p = 2 * a p % 3
      · have y1 : (3 : Nat) = 3 ∧ ∀ p : Nat, p < 9 → b p = 2 * a p % 3 := ⟨rfl, k2⟩
        rw [if_pos y1, if_pos ⟨rfl, e2.mpr k2⟩]
      · have n1 : ¬ ((3 : Nat) = 3 ∧ ∀ p : Nat, p < 9 → b p = 2 * a p % 3) := fun z => k2 z.2
        rw [if_neg n1, if_neg (fun z => k2 (e2.mp z.2))]
theorem zB_like2 {q : Nat} {a b : Nat → Nat} (h : zB b = true) : likeN q a b = 0 := by
  have h : ∀ p : Nat, p < 9 → b p = 0 := of_decide_eq_true h
  have h2 : (∀ p : Nat, p < 9 → a p = 0) ∨ ∀ p : Nat, p < 9 → b p = 0 := Or.inr h
  unfold likeN
  rw [if_pos h2]
def sp_X12_likeOf : zSp := fun av w K => match av with
  | [.ref o, .ref o1, .int f, .ref o2, .int g] => o = 45 ∧ zH w.1 ∧ ((o1 = 47 ∧ o2 = 47) ∨ (o1 = 47 ∧ o2 = 57) ∨ (o1 = 57 ∧ o2 = 47) ∨ (o1 = 47 ∧ o2 = 49)) ∧ ∃ q f' g' a b, w.2.1 45 1 = nI q ∧ (q = 2 ∨ q = 3) ∧ RA w.2.1 o1 f' a ∧ RA w.2.1 o2 g' b ∧ (∀ p, p < 9 → a p < q) ∧ (∀ p, p < 9 → b p < q) ∧ f = nI f' ∧ f' + 9 ≤ 1080 ∧ g = nI g' ∧ g' + 9 ≤ 1080 ∧ K (some (.int (nI (likeN q a b)))) w
  | _ => False
def rm_X12_likeOf : Room := { frames := 1, cells := 0, slots := 0, locals := 22 }
def M_X12_likeOf : zM := (k_X12_likeOf, f_X12, [(209, 0, 0, 2, 0, 0, sp_X12_isZero)], ([], [], []), [], [(22, [true, true, true, true, true, true, false, false]), (37, [true, true, true, true, true, true, true, true]), (86, [true, true, true, true, true, true, true, true])], 1, false, (false, 0, fun _ => 0), (0, 0))
theorem ca_X12_likeOf_0 (l : Launch) : z_cok l RX12 (headSpec (.code yX12_likeOf cX12_likeOf 8 (some .int) :: zTT) rm_X12_likeOf).room (209, 0, 0, 2, 0, 0, sp_X12_isZero) := z_ca0 (c_X12_isZero l) mb_X12_isZero wt_1412 wt_1413 (by decide)
theorem O_X12_likeOf (l : Launch) : z_OK l RX12 cX12_likeOf (headSpec (.code yX12_likeOf cX12_likeOf 8 (some .int) :: zTT) rm_X12_likeOf).room M_X12_likeOf := ⟨ok_X12_likeOf, fo_X12, List.forall_mem_cons.mpr ⟨ca_X12_likeOf_0 l, fun _ h => absurd h List.not_mem_nil⟩, fun _ h => absurd h List.not_mem_nil, fun _ h => absurd h List.not_mem_nil, fun _ h => absurd h List.not_mem_nil, fun _ h => absurd h List.not_mem_nil, rfl, rfl⟩
theorem c_X12_likeOf (l : Launch) : z_CS l yX12_likeOf cX12_likeOf 8 (some .int) rm_X12_likeOf sp_X12_likeOf := by
  refine z_meth (by decide) (Or.inr (Or.inl ⟨rfl, rfl⟩)) (fun h => by cases h) rfl (O_X12_likeOf l) ?_
  intro av w K h
  match av, h with
  | [.ref o, .ref o1, .int f, .ref o2, .int g], h =>
    obtain ⟨rfl, ⟨r, hG⟩, ho, q, f', g', a, b, hQ, hq, hA, hB, ha, hb, rfl, hf, rfl, hg, h⟩ := h
    obtain ⟨G, wi, wl⟩ := w
    subst hG
    try dsimp only at h hA hB hQ
    have ha3 := lt3_of hq ha
    have hb3 := lt3_of hq hb
    rcases ho with ⟨rfl, rfl⟩ | ⟨rfl, rfl⟩ | ⟨rfl, rfl⟩ | ⟨rfl, rfl⟩
    · refine ⟨Nat.le_of_ble_eq_true rfl, fun Jm hs => ?_⟩
      refine hs 400 0 _ _ _ _ _ ?_
      conv => whnf
      repeat ((first | refine ⟨zH_of _, ?_⟩ | refine ⟨trivial, ?_⟩ | refine ⟨rfl, ?_⟩ | refine ⟨fun hc => absurd hc (by decide), fun _ => ?_⟩ | refine ⟨fun _ => ?_, fun hc => absurd (by decide) hc⟩ | refine ⟨fun _ => ?_, fun hc => absurd hc (by decide)⟩ | refine ⟨fun hc => absurd (by decide) hc, fun _ => ?_⟩); conv => whnf)
      try dsimp only
      refine ⟨by simp, zH_of _, f', a, hA, ha3, rfl, hf, ?_⟩
      conv => whnf
      repeat ((first | refine ⟨zH_of _, ?_⟩ | refine ⟨trivial, ?_⟩ | refine ⟨rfl, ?_⟩ | refine ⟨fun hc => absurd hc (by decide), fun _ => ?_⟩ | refine ⟨fun _ => ?_, fun hc => absurd (by decide) hc⟩ | refine ⟨fun _ => ?_, fun hc => absurd hc (by decide)⟩ | refine ⟨fun hc => absurd (by decide) hc, fun _ => ?_⟩); conv => whnf)
      try dsimp only
      rw [bI_0, Classical.not_not]
      refine ⟨fun hz => ?_, fun hz => ?_⟩
      · rw [zB_like hz] at h
        exact ⟨trivial, h⟩
      · conv => whnf
        repeat ((first | refine ⟨zH_of _, ?_⟩ | refine ⟨trivial, ?_⟩ | refine ⟨rfl, ?_⟩ | refine ⟨fun hc => absurd hc (by decide), fun _ => ?_⟩ | refine ⟨fun _ => ?_, fun hc => absurd (by decide) hc⟩ | refine ⟨fun _ => ?_, fun hc => absurd hc (by decide)⟩ | refine ⟨fun hc => absurd (by decide) hc, fun _ => ?_⟩); conv => whnf)
        try dsimp only
        refine ⟨by simp, zH_of _, g', b, hB, hb3, rfl, hg, ?_⟩
        conv => whnf
        repeat ((first | refine ⟨zH_of _, ?_⟩ | refine ⟨trivial, ?_⟩ | refine ⟨rfl, ?_⟩ | refine ⟨fun hc => absurd hc (by decide), fun _ => ?_⟩ | refine ⟨fun _ => ?_, fun hc => absurd (by decide) hc⟩ | refine ⟨fun _ => ?_, fun hc => absurd hc (by decide)⟩ | refine ⟨fun hc => absurd (by decide) hc, fun _ => ?_⟩); conv => whnf)
        try dsimp only
        rw [bI_0]
        refine ⟨fun hz2 => ?_, fun hz2 => ?_⟩
        · rw [ml_like hq ha hz hz2] at h
          have loop := up_ind (P := fun f => 1 ≤ f → (∀ k, 1 ≤ k → k < f → ¬ mlB q a b k = true) → Jm 22 [some (.ref 45), some (.ref 47), some (.int (nI f')), some (.ref 47), some (.int (nI g')), some (.int (nI f)), none, none] [] (GC ++ (GM ++ r), wi, wl) 0 0) q (fun f hf1 ih h1 hno => by
            refine hs 400 22 _ _ _ _ _ ?_
            conv => whnf
            repeat ((first | refine ⟨zH_of _, ?_⟩ | refine ⟨trivial, ?_⟩ | refine ⟨rfl, ?_⟩ | refine ⟨fun hc => absurd hc (by decide), fun _ => ?_⟩ | refine ⟨fun _ => ?_, fun hc => absurd (by decide) hc⟩ | refine ⟨fun _ => ?_, fun hc => absurd hc (by decide)⟩ | refine ⟨fun hc => absurd (by decide) hc, fun _ => ?_⟩); conv => whnf)
            try dsimp only
            rw [hQ, ltN (by omega) (by omega)]
            refine ⟨fun hc => ?_, fun hc => ?_⟩
            · rw [if_neg (hno 1 (by omega) (by omega)), if_neg (fun z => hno 2 (by omega) (by omega) z.2)] at h
              exact ⟨trivial, h⟩
            · have ihn := ih hc (by omega)
              have fin : ∀ k, Jm 86 [some (.ref 45), some (.ref 47), some (.int (nI f')), some (.ref 47), some (.int (nI g')), some (.int (nI f)), some (.int (bI (mlB q a b f = true))), some (.int (nI k))] [] (GC ++ (GM ++ r), wi, wl) 0 0 := fun k => by
                refine hs 400 86 _ _ _ _ _ ?_
                conv => whnf
                repeat ((first | refine ⟨zH_of _, ?_⟩ | refine ⟨trivial, ?_⟩ | refine ⟨rfl, ?_⟩ | refine ⟨fun hc => absurd hc (by decide), fun _ => ?_⟩ | refine ⟨fun _ => ?_, fun hc => absurd (by decide) hc⟩ | refine ⟨fun _ => ?_, fun hc => absurd hc (by decide)⟩ | refine ⟨fun hc => absurd (by decide) hc, fun _ => ?_⟩); conv => whnf)
                try dsimp only
                rw [bI_0]
                refine ⟨fun hm => ?_, fun hm => ?_⟩
                · conv => whnf
                  repeat ((first | refine ⟨zH_of _, ?_⟩ | refine ⟨trivial, ?_⟩ | refine ⟨rfl, ?_⟩ | refine ⟨fun hc => absurd hc (by decide), fun _ => ?_⟩ | refine ⟨fun _ => ?_, fun hc => absurd (by decide) hc⟩ | refine ⟨fun _ => ?_, fun hc => absurd hc (by decide)⟩ | refine ⟨fun hc => absurd (by decide) hc, fun _ => ?_⟩); conv => whnf)
                  try dsimp only
                  rw [nI_add]
                  refine ihn (fun j hj1 hj => ?_)
                  rcases Nat.lt_or_ge j f with g | g
                  · exact hno j hj1 g
                  · rw [show j = f by omega]
                    exact hm
                · have hm := Classical.not_not.mp hm
                  have e : (if mlB q a b 1 = true then 1 else if q = 3 ∧ mlB q a b 2 = true then 2 else 0) = f := by
                    rcases (show f = 1 ∨ f = 2 by omega) with rfl | rfl
                    · rw [if_pos hm]
                    · rw [if_neg (hno 1 (by omega) (by omega)), if_pos ⟨by omega, hm⟩]
                  rw [e] at h
                  exact ⟨trivial, h⟩
              have inner := up_ind (P := fun k => (∀ p, p < k → b p = a p * f % q) → Jm 37 [some (.ref 45), some (.ref 47), some (.int (nI f')), some (.ref 47), some (.int (nI g')), some (.int (nI f)), some (.int (nI 1)), some (.int (nI k))] [] (GC ++ (GM ++ r), wi, wl) 0 0) 9 (fun k hk ihk hall => by
                refine hs 400 37 _ _ _ _ _ ?_
                conv => whnf
                repeat ((first | refine ⟨zH_of _, ?_⟩ | refine ⟨trivial, ?_⟩ | refine ⟨rfl, ?_⟩ | refine ⟨fun hc => absurd hc (by decide), fun _ => ?_⟩ | refine ⟨fun _ => ?_, fun hc => absurd (by decide) hc⟩ | refine ⟨fun _ => ?_, fun hc => absurd hc (by decide)⟩ | refine ⟨fun hc => absurd (by decide) hc, fun _ => ?_⟩); conv => whnf)
                try dsimp only
                rw [ltN (by omega) (by omega)]
                refine ⟨fun hc2 => ?_, fun hc2 => ?_⟩
                · have e : bI (mlB q a b f = true) = nI 1 := bI_t (mlB_iff.mpr (fun p hp => hall p (by omega)))
                  have fk := fin k
                  rw [e] at fk
                  conv => whnf
                  repeat ((first | refine ⟨zH_of _, ?_⟩ | refine ⟨trivial, ?_⟩ | refine ⟨rfl, ?_⟩ | refine ⟨fun hc => absurd hc (by decide), fun _ => ?_⟩ | refine ⟨fun _ => ?_, fun hc => absurd (by decide) hc⟩ | refine ⟨fun _ => ?_, fun hc => absurd hc (by decide)⟩ | refine ⟨fun hc => absurd (by decide) hc, fun _ => ?_⟩); conv => whnf)
                  try dsimp only
                  exact fk
                · have ihkn := ihk hc2
                  have a3 := ha3 k hc2
                  have b3 := hb3 k hc2
                  have af : a k * f ≤ 2 * 2 := Nat.mul_le_mul (by omega) (by omega)
                  have afq : a k * f % q < q := Nat.mod_lt _ (by omega)
                  conv => whnf
                  repeat ((first | refine ⟨zH_of _, ?_⟩ | refine ⟨trivial, ?_⟩ | refine ⟨rfl, ?_⟩ | refine ⟨fun hc => absurd hc (by decide), fun _ => ?_⟩ | refine ⟨fun _ => ?_, fun hc => absurd (by decide) hc⟩ | refine ⟨fun _ => ?_, fun hc => absurd hc (by decide)⟩ | refine ⟨fun hc => absurd (by decide) hc, fun _ => ?_⟩); conv => whnf)
                  try dsimp only
                  rw [nI_add]
                  refine ⟨vp_in_nI (show g' + k < 1080 by omega) (by decide), ?_⟩
                  conv => whnf
                  repeat ((first | refine ⟨zH_of _, ?_⟩ | refine ⟨trivial, ?_⟩ | refine ⟨rfl, ?_⟩ | refine ⟨fun hc => absurd hc (by decide), fun _ => ?_⟩ | refine ⟨fun _ => ?_, fun hc => absurd (by decide) hc⟩ | refine ⟨fun _ => ?_, fun hc => absurd hc (by decide)⟩ | refine ⟨fun hc => absurd (by decide) hc, fun _ => ?_⟩); conv => whnf)
                  try dsimp only
                  rw [nI_add]
                  refine ⟨vp_in_nI (show f' + k < 1080 by omega) (by decide), ?_⟩
                  conv => whnf
                  repeat ((first | refine ⟨zH_of _, ?_⟩ | refine ⟨trivial, ?_⟩ | refine ⟨rfl, ?_⟩ | refine ⟨fun hc => absurd hc (by decide), fun _ => ?_⟩ | refine ⟨fun _ => ?_, fun hc => absurd (by decide) hc⟩ | refine ⟨fun _ => ?_, fun hc => absurd hc (by decide)⟩ | refine ⟨fun hc => absurd (by decide) hc, fun _ => ?_⟩); conv => whnf)
                  try dsimp only
                  rw [hQ]
                  refine ⟨q_n0 hq, ?_⟩
                  conv => whnf
                  repeat ((first | refine ⟨zH_of _, ?_⟩ | refine ⟨trivial, ?_⟩ | refine ⟨rfl, ?_⟩ | refine ⟨fun hc => absurd hc (by decide), fun _ => ?_⟩ | refine ⟨fun _ => ?_, fun hc => absurd (by decide) hc⟩ | refine ⟨fun _ => ?_, fun hc => absurd hc (by decide)⟩ | refine ⟨fun hc => absurd (by decide) hc, fun _ => ?_⟩); conv => whnf)
                  try dsimp only
                  rw [nI_clamp (n := g' + k) (by omega), nI_clamp (n := f' + k) (by omega), hA k hc2, hB k hc2, pk_mul, z_remN (by omega) (by omega) (by omega), nI_eq (by omega) (by omega)]
                  refine ⟨fun hq2 => ?_, fun hq2 => ?_⟩
                  · have e : bI (mlB q a b f = true) = nI 0 := bI_f (fun z => hq2 (mlB_iff.mp z k hc2))
                    have fk := fin (k + 1)
                    rw [e] at fk
                    conv => whnf
                    repeat ((first | refine ⟨zH_of _, ?_⟩ | refine ⟨trivial, ?_⟩ | refine ⟨rfl, ?_⟩ | refine ⟨fun hc => absurd hc (by decide), fun _ => ?_⟩ | refine ⟨fun _ => ?_, fun hc => absurd (by decide) hc⟩ | refine ⟨fun _ => ?_, fun hc => absurd hc (by decide)⟩ | refine ⟨fun hc => absurd (by decide) hc, fun _ => ?_⟩); conv => whnf)
                    try dsimp only
                    rw [nI_add]
                    refine hs 400 37 _ _ _ _ _ ?_
                    conv => whnf
                    repeat ((first | refine ⟨zH_of _, ?_⟩ | refine ⟨trivial, ?_⟩ | refine ⟨rfl, ?_⟩ | refine ⟨fun hc => absurd hc (by decide), fun _ => ?_⟩ | refine ⟨fun _ => ?_, fun hc => absurd (by decide) hc⟩ | refine ⟨fun _ => ?_, fun hc => absurd hc (by decide)⟩ | refine ⟨fun hc => absurd (by decide) hc, fun _ => ?_⟩); conv => whnf)
                    try dsimp only
                    rw [ltN (by omega) (by omega)]
                    refine ⟨fun _ => ?_, fun _ => ?_⟩
                    · conv => whnf
                      repeat ((first | refine ⟨zH_of _, ?_⟩ | refine ⟨trivial, ?_⟩ | refine ⟨rfl, ?_⟩ | refine ⟨fun hc => absurd hc (by decide), fun _ => ?_⟩ | refine ⟨fun _ => ?_, fun hc => absurd (by decide) hc⟩ | refine ⟨fun _ => ?_, fun hc => absurd hc (by decide)⟩ | refine ⟨fun hc => absurd (by decide) hc, fun _ => ?_⟩); conv => whnf)
                      try dsimp only
                      exact fk
                    · conv => whnf
                      repeat ((first | refine ⟨zH_of _, ?_⟩ | refine ⟨trivial, ?_⟩ | refine ⟨rfl, ?_⟩ | refine ⟨fun hc => absurd hc (by decide), fun _ => ?_⟩ | refine ⟨fun _ => ?_, fun hc => absurd (by decide) hc⟩ | refine ⟨fun _ => ?_, fun hc => absurd hc (by decide)⟩ | refine ⟨fun hc => absurd (by decide) hc, fun _ => ?_⟩); conv => whnf)
                      try dsimp only
                      exact fk
                  · conv => whnf
                    repeat ((first | refine ⟨zH_of _, ?_⟩ | refine ⟨trivial, ?_⟩ | refine ⟨rfl, ?_⟩ | refine ⟨fun hc => absurd hc (by decide), fun _ => ?_⟩ | refine ⟨fun _ => ?_, fun hc => absurd (by decide) hc⟩ | refine ⟨fun _ => ?_, fun hc => absurd hc (by decide)⟩ | refine ⟨fun hc => absurd (by decide) hc, fun _ => ?_⟩); conv => whnf)
                    try dsimp only
                    rw [nI_add]
                    refine ihkn (fun p hp => ?_)
                    rcases Nat.lt_or_ge p k with g | g
                    · exact hall p g
                    · rw [show p = k by omega]
                      exact hq2)
              conv => whnf
              repeat ((first | refine ⟨zH_of _, ?_⟩ | refine ⟨trivial, ?_⟩ | refine ⟨rfl, ?_⟩ | refine ⟨fun hc => absurd hc (by decide), fun _ => ?_⟩ | refine ⟨fun _ => ?_, fun hc => absurd (by decide) hc⟩ | refine ⟨fun _ => ?_, fun hc => absurd hc (by decide)⟩ | refine ⟨fun hc => absurd (by decide) hc, fun _ => ?_⟩); conv => whnf)
              try dsimp only
              exact inner 0 (Nat.zero_le _) (fun p hp => absurd hp (Nat.not_lt_zero p)))
          conv => whnf
          repeat ((first | refine ⟨zH_of _, ?_⟩ | refine ⟨trivial, ?_⟩ | refine ⟨rfl, ?_⟩ | refine ⟨fun hc => absurd hc (by decide), fun _ => ?_⟩ | refine ⟨fun _ => ?_, fun hc => absurd (by decide) hc⟩ | refine ⟨fun _ => ?_, fun hc => absurd hc (by decide)⟩ | refine ⟨fun hc => absurd (by decide) hc, fun _ => ?_⟩); conv => whnf)
          try dsimp only
          exact loop 1 (by omega) (Nat.le_refl 1) (fun k h1 h2 => by omega)
        · rw [zB_like2 (Classical.not_not.mp hz2)] at h
          exact ⟨trivial, h⟩
    · refine ⟨Nat.le_of_ble_eq_true rfl, fun Jm hs => ?_⟩
      refine hs 400 0 _ _ _ _ _ ?_
      conv => whnf
      repeat ((first | refine ⟨zH_of _, ?_⟩ | refine ⟨trivial, ?_⟩ | refine ⟨rfl, ?_⟩ | refine ⟨fun hc => absurd hc (by decide), fun _ => ?_⟩ | refine ⟨fun _ => ?_, fun hc => absurd (by decide) hc⟩ | refine ⟨fun _ => ?_, fun hc => absurd hc (by decide)⟩ | refine ⟨fun hc => absurd (by decide) hc, fun _ => ?_⟩); conv => whnf)
      try dsimp only
      refine ⟨by simp, zH_of _, f', a, hA, ha3, rfl, hf, ?_⟩
      conv => whnf
      repeat ((first | refine ⟨zH_of _, ?_⟩ | refine ⟨trivial, ?_⟩ | refine ⟨rfl, ?_⟩ | refine ⟨fun hc => absurd hc (by decide), fun _ => ?_⟩ | refine ⟨fun _ => ?_, fun hc => absurd (by decide) hc⟩ | refine ⟨fun _ => ?_, fun hc => absurd hc (by decide)⟩ | refine ⟨fun hc => absurd (by decide) hc, fun _ => ?_⟩); conv => whnf)
      try dsimp only
      rw [bI_0, Classical.not_not]
      refine ⟨fun hz => ?_, fun hz => ?_⟩
      · rw [zB_like hz] at h
        exact ⟨trivial, h⟩
      · conv => whnf
        repeat ((first | refine ⟨zH_of _, ?_⟩ | refine ⟨trivial, ?_⟩ | refine ⟨rfl, ?_⟩ | refine ⟨fun hc => absurd hc (by decide), fun _ => ?_⟩ | refine ⟨fun _ => ?_, fun hc => absurd (by decide) hc⟩ | refine ⟨fun _ => ?_, fun hc => absurd hc (by decide)⟩ | refine ⟨fun hc => absurd (by decide) hc, fun _ => ?_⟩); conv => whnf)
        try dsimp only
        refine ⟨by simp, zH_of _, g', b, hB, hb3, rfl, hg, ?_⟩
        conv => whnf
        repeat ((first | refine ⟨zH_of _, ?_⟩ | refine ⟨trivial, ?_⟩ | refine ⟨rfl, ?_⟩ | refine ⟨fun hc => absurd hc (by decide), fun _ => ?_⟩ | refine ⟨fun _ => ?_, fun hc => absurd (by decide) hc⟩ | refine ⟨fun _ => ?_, fun hc => absurd hc (by decide)⟩ | refine ⟨fun hc => absurd (by decide) hc, fun _ => ?_⟩); conv => whnf)
        try dsimp only
        rw [bI_0]
        refine ⟨fun hz2 => ?_, fun hz2 => ?_⟩
        · rw [ml_like hq ha hz hz2] at h
          have loop := up_ind (P := fun f => 1 ≤ f → (∀ k, 1 ≤ k → k < f → ¬ mlB q a b k = true) → Jm 22 [some (.ref 45), some (.ref 47), some (.int (nI f')), some (.ref 57), some (.int (nI g')), some (.int (nI f)), none, none] [] (GC ++ (GM ++ r), wi, wl) 0 0) q (fun f hf1 ih h1 hno => by
            refine hs 400 22 _ _ _ _ _ ?_
            conv => whnf
            repeat ((first | refine ⟨zH_of _, ?_⟩ | refine ⟨trivial, ?_⟩ | refine ⟨rfl, ?_⟩ | refine ⟨fun hc => absurd hc (by decide), fun _ => ?_⟩ | refine ⟨fun _ => ?_, fun hc => absurd (by decide) hc⟩ | refine ⟨fun _ => ?_, fun hc => absurd hc (by decide)⟩ | refine ⟨fun hc => absurd (by decide) hc, fun _ => ?_⟩); conv => whnf)
            try dsimp only
            rw [hQ, ltN (by omega) (by omega)]
            refine ⟨fun hc => ?_, fun hc => ?_⟩
            · rw [if_neg (hno 1 (by omega) (by omega)), if_neg (fun z => hno 2 (by omega) (by omega) z.2)] at h
              exact ⟨trivial, h⟩
            · have ihn := ih hc (by omega)
              have fin : ∀ k, Jm 86 [some (.ref 45), some (.ref 47), some (.int (nI f')), some (.ref 57), some (.int (nI g')), some (.int (nI f)), some (.int (bI (mlB q a b f = true))), some (.int (nI k))] [] (GC ++ (GM ++ r), wi, wl) 0 0 := fun k => by
                refine hs 400 86 _ _ _ _ _ ?_
                conv => whnf
                repeat ((first | refine ⟨zH_of _, ?_⟩ | refine ⟨trivial, ?_⟩ | refine ⟨rfl, ?_⟩ | refine ⟨fun hc => absurd hc (by decide), fun _ => ?_⟩ | refine ⟨fun _ => ?_, fun hc => absurd (by decide) hc⟩ | refine ⟨fun _ => ?_, fun hc => absurd hc (by decide)⟩ | refine ⟨fun hc => absurd (by decide) hc, fun _ => ?_⟩); conv => whnf)
                try dsimp only
                rw [bI_0]
                refine ⟨fun hm => ?_, fun hm => ?_⟩
                · conv => whnf
                  repeat ((first | refine ⟨zH_of _, ?_⟩ | refine ⟨trivial, ?_⟩ | refine ⟨rfl, ?_⟩ | refine ⟨fun hc => absurd hc (by decide), fun _ => ?_⟩ | refine ⟨fun _ => ?_, fun hc => absurd (by decide) hc⟩ | refine ⟨fun _ => ?_, fun hc => absurd hc (by decide)⟩ | refine ⟨fun hc => absurd (by decide) hc, fun _ => ?_⟩); conv => whnf)
                  try dsimp only
                  rw [nI_add]
                  refine ihn (fun j hj1 hj => ?_)
                  rcases Nat.lt_or_ge j f with g | g
                  · exact hno j hj1 g
                  · rw [show j = f by omega]
                    exact hm
                · have hm := Classical.not_not.mp hm
                  have e : (if mlB q a b 1 = true then 1 else if q = 3 ∧ mlB q a b 2 = true then 2 else 0) = f := by
                    rcases (show f = 1 ∨ f = 2 by omega) with rfl | rfl
                    · rw [if_pos hm]
                    · rw [if_neg (hno 1 (by omega) (by omega)), if_pos ⟨by omega, hm⟩]
                  rw [e] at h
                  exact ⟨trivial, h⟩
              have inner := up_ind (P := fun k => (∀ p, p < k → b p = a p * f % q) → Jm 37 [some (.ref 45), some (.ref 47), some (.int (nI f')), some (.ref 57), some (.int (nI g')), some (.int (nI f)), some (.int (nI 1)), some (.int (nI k))] [] (GC ++ (GM ++ r), wi, wl) 0 0) 9 (fun k hk ihk hall => by
                refine hs 400 37 _ _ _ _ _ ?_
                conv => whnf
                repeat ((first | refine ⟨zH_of _, ?_⟩ | refine ⟨trivial, ?_⟩ | refine ⟨rfl, ?_⟩ | refine ⟨fun hc => absurd hc (by decide), fun _ => ?_⟩ | refine ⟨fun _ => ?_, fun hc => absurd (by decide) hc⟩ | refine ⟨fun _ => ?_, fun hc => absurd hc (by decide)⟩ | refine ⟨fun hc => absurd (by decide) hc, fun _ => ?_⟩); conv => whnf)
                try dsimp only
                rw [ltN (by omega) (by omega)]
                refine ⟨fun hc2 => ?_, fun hc2 => ?_⟩
                · have e : bI (mlB q a b f = true) = nI 1 := bI_t (mlB_iff.mpr (fun p hp => hall p (by omega)))
                  have fk := fin k
                  rw [e] at fk
                  conv => whnf
                  repeat ((first | refine ⟨zH_of _, ?_⟩ | refine ⟨trivial, ?_⟩ | refine ⟨rfl, ?_⟩ | refine ⟨fun hc => absurd hc (by decide), fun _ => ?_⟩ | refine ⟨fun _ => ?_, fun hc => absurd (by decide) hc⟩ | refine ⟨fun _ => ?_, fun hc => absurd hc (by decide)⟩ | refine ⟨fun hc => absurd (by decide) hc, fun _ => ?_⟩); conv => whnf)
                  try dsimp only
                  exact fk
                · have ihkn := ihk hc2
                  have a3 := ha3 k hc2
                  have b3 := hb3 k hc2
                  have af : a k * f ≤ 2 * 2 := Nat.mul_le_mul (by omega) (by omega)
                  have afq : a k * f % q < q := Nat.mod_lt _ (by omega)
                  conv => whnf
                  repeat ((first | refine ⟨zH_of _, ?_⟩ | refine ⟨trivial, ?_⟩ | refine ⟨rfl, ?_⟩ | refine ⟨fun hc => absurd hc (by decide), fun _ => ?_⟩ | refine ⟨fun _ => ?_, fun hc => absurd (by decide) hc⟩ | refine ⟨fun _ => ?_, fun hc => absurd hc (by decide)⟩ | refine ⟨fun hc => absurd (by decide) hc, fun _ => ?_⟩); conv => whnf)
                  try dsimp only
                  rw [nI_add]
                  refine ⟨vp_in_nI (show g' + k < 1080 by omega) (by decide), ?_⟩
                  conv => whnf
                  repeat ((first | refine ⟨zH_of _, ?_⟩ | refine ⟨trivial, ?_⟩ | refine ⟨rfl, ?_⟩ | refine ⟨fun hc => absurd hc (by decide), fun _ => ?_⟩ | refine ⟨fun _ => ?_, fun hc => absurd (by decide) hc⟩ | refine ⟨fun _ => ?_, fun hc => absurd hc (by decide)⟩ | refine ⟨fun hc => absurd (by decide) hc, fun _ => ?_⟩); conv => whnf)
                  try dsimp only
                  rw [nI_add]
                  refine ⟨vp_in_nI (show f' + k < 1080 by omega) (by decide), ?_⟩
                  conv => whnf
                  repeat ((first | refine ⟨zH_of _, ?_⟩ | refine ⟨trivial, ?_⟩ | refine ⟨rfl, ?_⟩ | refine ⟨fun hc => absurd hc (by decide), fun _ => ?_⟩ | refine ⟨fun _ => ?_, fun hc => absurd (by decide) hc⟩ | refine ⟨fun _ => ?_, fun hc => absurd hc (by decide)⟩ | refine ⟨fun hc => absurd (by decide) hc, fun _ => ?_⟩); conv => whnf)
                  try dsimp only
                  rw [hQ]
                  refine ⟨q_n0 hq, ?_⟩
                  conv => whnf
                  repeat ((first | refine ⟨zH_of _, ?_⟩ | refine ⟨trivial, ?_⟩ | refine ⟨rfl, ?_⟩ | refine ⟨fun hc => absurd hc (by decide), fun _ => ?_⟩ | refine ⟨fun _ => ?_, fun hc => absurd (by decide) hc⟩ | refine ⟨fun _ => ?_, fun hc => absurd hc (by decide)⟩ | refine ⟨fun hc => absurd (by decide) hc, fun _ => ?_⟩); conv => whnf)
                  try dsimp only
                  rw [nI_clamp (n := g' + k) (by omega), nI_clamp (n := f' + k) (by omega), hA k hc2, hB k hc2, pk_mul, z_remN (by omega) (by omega) (by omega), nI_eq (by omega) (by omega)]
                  refine ⟨fun hq2 => ?_, fun hq2 => ?_⟩
                  · have e : bI (mlB q a b f = true) = nI 0 := bI_f (fun z => hq2 (mlB_iff.mp z k hc2))
                    have fk := fin (k + 1)
                    rw [e] at fk
                    conv => whnf
                    repeat ((first | refine ⟨zH_of _, ?_⟩ | refine ⟨trivial, ?_⟩ | refine ⟨rfl, ?_⟩ | refine ⟨fun hc => absurd hc (by decide), fun _ => ?_⟩ | refine ⟨fun _ => ?_, fun hc => absurd (by decide) hc⟩ | refine ⟨fun _ => ?_, fun hc => absurd hc (by decide)⟩ | refine ⟨fun hc => absurd (by decide) hc, fun _ => ?_⟩); conv => whnf)
                    try dsimp only
                    rw [nI_add]
                    refine hs 400 37 _ _ _ _ _ ?_
                    conv => whnf
                    repeat ((first | refine ⟨zH_of _, ?_⟩ | refine ⟨trivial, ?_⟩ | refine ⟨rfl, ?_⟩ | refine ⟨fun hc => absurd hc (by decide), fun _ => ?_⟩ | refine ⟨fun _ => ?_, fun hc => absurd (by decide) hc⟩ | refine ⟨fun _ => ?_, fun hc => absurd hc (by decide)⟩ | refine ⟨fun hc => absurd (by decide) hc, fun _ => ?_⟩); conv => whnf)
                    try dsimp only
                    rw [ltN (by omega) (by omega)]
                    refine ⟨fun _ => ?_, fun _ => ?_⟩
                    · conv => whnf
                      repeat ((first | refine ⟨zH_of _, ?_⟩ | refine ⟨trivial, ?_⟩ | refine ⟨rfl, ?_⟩ | refine ⟨fun hc => absurd hc (by decide), fun _ => ?_⟩ | refine ⟨fun _ => ?_, fun hc => absurd (by decide) hc⟩ | refine ⟨fun _ => ?_, fun hc => absurd hc (by decide)⟩ | refine ⟨fun hc => absurd (by decide) hc, fun _ => ?_⟩); conv => whnf)
                      try dsimp only
                      exact fk
                    · conv => whnf
                      repeat ((first | refine ⟨zH_of _, ?_⟩ | refine ⟨trivial, ?_⟩ | refine ⟨rfl, ?_⟩ | refine ⟨fun hc => absurd hc (by decide), fun _ => ?_⟩ | refine ⟨fun _ => ?_, fun hc => absurd (by decide) hc⟩ | refine ⟨fun _ => ?_, fun hc => absurd hc (by decide)⟩ | refine ⟨fun hc => absurd (by decide) hc, fun _ => ?_⟩); conv => whnf)
                      try dsimp only
                      exact fk
                  · conv => whnf
                    repeat ((first | refine ⟨zH_of _, ?_⟩ | refine ⟨trivial, ?_⟩ | refine ⟨rfl, ?_⟩ | refine ⟨fun hc => absurd hc (by decide), fun _ => ?_⟩ | refine ⟨fun _ => ?_, fun hc => absurd (by decide) hc⟩ | refine ⟨fun _ => ?_, fun hc => absurd hc (by decide)⟩ | refine ⟨fun hc => absurd (by decide) hc, fun _ => ?_⟩); conv => whnf)
                    try dsimp only
                    rw [nI_add]
                    refine ihkn (fun p hp => ?_)
                    rcases Nat.lt_or_ge p k with g | g
                    · exact hall p g
                    · rw [show p = k by omega]
                      exact hq2)
              conv => whnf
              repeat ((first | refine ⟨zH_of _, ?_⟩ | refine ⟨trivial, ?_⟩ | refine ⟨rfl, ?_⟩ | refine ⟨fun hc => absurd hc (by decide), fun _ => ?_⟩ | refine ⟨fun _ => ?_, fun hc => absurd (by decide) hc⟩ | refine ⟨fun _ => ?_, fun hc => absurd hc (by decide)⟩ | refine ⟨fun hc => absurd (by decide) hc, fun _ => ?_⟩); conv => whnf)
              try dsimp only
              exact inner 0 (Nat.zero_le _) (fun p hp => absurd hp (Nat.not_lt_zero p)))
          conv => whnf
          repeat ((first | refine ⟨zH_of _, ?_⟩ | refine ⟨trivial, ?_⟩ | refine ⟨rfl, ?_⟩ | refine ⟨fun hc => absurd hc (by decide), fun _ => ?_⟩ | refine ⟨fun _ => ?_, fun hc => absurd (by decide) hc⟩ | refine ⟨fun _ => ?_, fun hc => absurd hc (by decide)⟩ | refine ⟨fun hc => absurd (by decide) hc, fun _ => ?_⟩); conv => whnf)
          try dsimp only
          exact loop 1 (by omega) (Nat.le_refl 1) (fun k h1 h2 => by omega)
        · rw [zB_like2 (Classical.not_not.mp hz2)] at h
          exact ⟨trivial, h⟩
    · refine ⟨Nat.le_of_ble_eq_true rfl, fun Jm hs => ?_⟩
      refine hs 400 0 _ _ _ _ _ ?_
      conv => whnf
      repeat ((first | refine ⟨zH_of _, ?_⟩ | refine ⟨trivial, ?_⟩ | refine ⟨rfl, ?_⟩ | refine ⟨fun hc => absurd hc (by decide), fun _ => ?_⟩ | refine ⟨fun _ => ?_, fun hc => absurd (by decide) hc⟩ | refine ⟨fun _ => ?_, fun hc => absurd hc (by decide)⟩ | refine ⟨fun hc => absurd (by decide) hc, fun _ => ?_⟩); conv => whnf)
      try dsimp only
      refine ⟨by simp, zH_of _, f', a, hA, ha3, rfl, hf, ?_⟩
      conv => whnf
      repeat ((first | refine ⟨zH_of _, ?_⟩ | refine ⟨trivial, ?_⟩ | refine ⟨rfl, ?_⟩ | refine ⟨fun hc => absurd hc (by decide), fun _ => ?_⟩ | refine ⟨fun _ => ?_, fun hc => absurd (by decide) hc⟩ | refine ⟨fun _ => ?_, fun hc => absurd hc (by decide)⟩ | refine ⟨fun hc => absurd (by decide) hc, fun _ => ?_⟩); conv => whnf)
      try dsimp only
      rw [bI_0, Classical.not_not]
      refine ⟨fun hz => ?_, fun hz => ?_⟩
      · rw [zB_like hz] at h
        exact ⟨trivial, h⟩
      · conv => whnf
        repeat ((first | refine ⟨zH_of _, ?_⟩ | refine ⟨trivial, ?_⟩ | refine ⟨rfl, ?_⟩ | refine ⟨fun hc => absurd hc (by decide), fun _ => ?_⟩ | refine ⟨fun _ => ?_, fun hc => absurd (by decide) hc⟩ | refine ⟨fun _ => ?_, fun hc => absurd hc (by decide)⟩ | refine ⟨fun hc => absurd (by decide) hc, fun _ => ?_⟩); conv => whnf)
        try dsimp only
        refine ⟨by simp, zH_of _, g', b, hB, hb3, rfl, hg, ?_⟩
        conv => whnf
        repeat ((first | refine ⟨zH_of _, ?_⟩ | refine ⟨trivial, ?_⟩ | refine ⟨rfl, ?_⟩ | refine ⟨fun hc => absurd hc (by decide), fun _ => ?_⟩ | refine ⟨fun _ => ?_, fun hc => absurd (by decide) hc⟩ | refine ⟨fun _ => ?_, fun hc => absurd hc (by decide)⟩ | refine ⟨fun hc => absurd (by decide) hc, fun _ => ?_⟩); conv => whnf)
        try dsimp only
        rw [bI_0]
        refine ⟨fun hz2 => ?_, fun hz2 => ?_⟩
        · rw [ml_like hq ha hz hz2] at h
          have loop := up_ind (P := fun f => 1 ≤ f → (∀ k, 1 ≤ k → k < f → ¬ mlB q a b k = true) → Jm 22 [some (.ref 45), some (.ref 57), some (.int (nI f')), some (.ref 47), some (.int (nI g')), some (.int (nI f)), none, none] [] (GC ++ (GM ++ r), wi, wl) 0 0) q (fun f hf1 ih h1 hno => by
            refine hs 400 22 _ _ _ _ _ ?_
            conv => whnf
            repeat ((first | refine ⟨zH_of _, ?_⟩ | refine ⟨trivial, ?_⟩ | refine ⟨rfl, ?_⟩ | refine ⟨fun hc => absurd hc (by decide), fun _ => ?_⟩ | refine ⟨fun _ => ?_, fun hc => absurd (by decide) hc⟩ | refine ⟨fun _ => ?_, fun hc => absurd hc (by decide)⟩ | refine ⟨fun hc => absurd (by decide) hc, fun _ => ?_⟩); conv => whnf)
            try dsimp only
            rw [hQ, ltN (by omega) (by omega)]
            refine ⟨fun hc => ?_, fun hc => ?_⟩
            · rw [if_neg (hno 1 (by omega) (by omega)), if_neg (fun z => hno 2 (by omega) (by omega) z.2)] at h
              exact ⟨trivial, h⟩
            · have ihn := ih hc (by omega)
              have fin : ∀ k, Jm 86 [some (.ref 45), some (.ref 57), some (.int (nI f')), some (.ref 47), some (.int (nI g')), some (.int (nI f)), some (.int (bI (mlB q a b f = true))), some (.int (nI k))] [] (GC ++ (GM ++ r), wi, wl) 0 0 := fun k => by
                refine hs 400 86 _ _ _ _ _ ?_
                conv => whnf
                repeat ((first | refine ⟨zH_of _, ?_⟩ | refine ⟨trivial, ?_⟩ | refine ⟨rfl, ?_⟩ | refine ⟨fun hc => absurd hc (by decide), fun _ => ?_⟩ | refine ⟨fun _ => ?_, fun hc => absurd (by decide) hc⟩ | refine ⟨fun _ => ?_, fun hc => absurd hc (by decide)⟩ | refine ⟨fun hc => absurd (by decide) hc, fun _ => ?_⟩); conv => whnf)
                try dsimp only
                rw [bI_0]
                refine ⟨fun hm => ?_, fun hm => ?_⟩
                · conv => whnf
                  repeat ((first | refine ⟨zH_of _, ?_⟩ | refine ⟨trivial, ?_⟩ | refine ⟨rfl, ?_⟩ | refine ⟨fun hc => absurd hc (by decide), fun _ => ?_⟩ | refine ⟨fun _ => ?_, fun hc => absurd (by decide) hc⟩ | refine ⟨fun _ => ?_, fun hc => absurd hc (by decide)⟩ | refine ⟨fun hc => absurd (by decide) hc, fun _ => ?_⟩); conv => whnf)
                  try dsimp only
                  rw [nI_add]
                  refine ihn (fun j hj1 hj => ?_)
                  rcases Nat.lt_or_ge j f with g | g
                  · exact hno j hj1 g
                  · rw [show j = f by omega]
                    exact hm
                · have hm := Classical.not_not.mp hm
                  have e : (if mlB q a b 1 = true then 1 else if q = 3 ∧ mlB q a b 2 = true then 2 else 0) = f := by
                    rcases (show f = 1 ∨ f = 2 by omega) with rfl | rfl
                    · rw [if_pos hm]
                    · rw [if_neg (hno 1 (by omega) (by omega)), if_pos ⟨by omega, hm⟩]
                  rw [e] at h
                  exact ⟨trivial, h⟩
              have inner := up_ind (P := fun k => (∀ p, p < k → b p = a p * f % q) → Jm 37 [some (.ref 45), some (.ref 57), some (.int (nI f')), some (.ref 47), some (.int (nI g')), some (.int (nI f)), some (.int (nI 1)), some (.int (nI k))] [] (GC ++ (GM ++ r), wi, wl) 0 0) 9 (fun k hk ihk hall => by
                refine hs 400 37 _ _ _ _ _ ?_
                conv => whnf
                repeat ((first | refine ⟨zH_of _, ?_⟩ | refine ⟨trivial, ?_⟩ | refine ⟨rfl, ?_⟩ | refine ⟨fun hc => absurd hc (by decide), fun _ => ?_⟩ | refine ⟨fun _ => ?_, fun hc => absurd (by decide) hc⟩ | refine ⟨fun _ => ?_, fun hc => absurd hc (by decide)⟩ | refine ⟨fun hc => absurd (by decide) hc, fun _ => ?_⟩); conv => whnf)
                try dsimp only
                rw [ltN (by omega) (by omega)]
                refine ⟨fun hc2 => ?_, fun hc2 => ?_⟩
                · have e : bI (mlB q a b f = true) = nI 1 := bI_t (mlB_iff.mpr (fun p hp => hall p (by omega)))
                  have fk := fin k
                  rw [e] at fk
                  conv => whnf
                  repeat ((first | refine ⟨zH_of _, ?_⟩ | refine ⟨trivial, ?_⟩ | refine ⟨rfl, ?_⟩ | refine ⟨fun hc => absurd hc (by decide), fun _ => ?_⟩ | refine ⟨fun _ => ?_, fun hc => absurd (by decide) hc⟩ | refine ⟨fun _ => ?_, fun hc => absurd hc (by decide)⟩ | refine ⟨fun hc => absurd (by decide) hc, fun _ => ?_⟩); conv => whnf)
                  try dsimp only
                  exact fk
                · have ihkn := ihk hc2
                  have a3 := ha3 k hc2
                  have b3 := hb3 k hc2
                  have af : a k * f ≤ 2 * 2 := Nat.mul_le_mul (by omega) (by omega)
                  have afq : a k * f % q < q := Nat.mod_lt _ (by omega)
                  conv => whnf
                  repeat ((first | refine ⟨zH_of _, ?_⟩ | refine ⟨trivial, ?_⟩ | refine ⟨rfl, ?_⟩ | refine ⟨fun hc => absurd hc (by decide), fun _ => ?_⟩ | refine ⟨fun _ => ?_, fun hc => absurd (by decide) hc⟩ | refine ⟨fun _ => ?_, fun hc => absurd hc (by decide)⟩ | refine ⟨fun hc => absurd (by decide) hc, fun _ => ?_⟩); conv => whnf)
                  try dsimp only
                  rw [nI_add]
                  refine ⟨vp_in_nI (show g' + k < 1080 by omega) (by decide), ?_⟩
                  conv => whnf
                  repeat ((first | refine ⟨zH_of _, ?_⟩ | refine ⟨trivial, ?_⟩ | refine ⟨rfl, ?_⟩ | refine ⟨fun hc => absurd hc (by decide), fun _ => ?_⟩ | refine ⟨fun _ => ?_, fun hc => absurd (by decide) hc⟩ | refine ⟨fun _ => ?_, fun hc => absurd hc (by decide)⟩ | refine ⟨fun hc => absurd (by decide) hc, fun _ => ?_⟩); conv => whnf)
                  try dsimp only
                  rw [nI_add]
                  refine ⟨vp_in_nI (show f' + k < 1080 by omega) (by decide), ?_⟩
                  conv => whnf
                  repeat ((first | refine ⟨zH_of _, ?_⟩ | refine ⟨trivial, ?_⟩ | refine ⟨rfl, ?_⟩ | refine ⟨fun hc => absurd hc (by decide), fun _ => ?_⟩ | refine ⟨fun _ => ?_, fun hc => absurd (by decide) hc⟩ | refine ⟨fun _ => ?_, fun hc => absurd hc (by decide)⟩ | refine ⟨fun hc => absurd (by decide) hc, fun _ => ?_⟩); conv => whnf)
                  try dsimp only
                  rw [hQ]
                  refine ⟨q_n0 hq, ?_⟩
                  conv => whnf
                  repeat ((first | refine ⟨zH_of _, ?_⟩ | refine ⟨trivial, ?_⟩ | refine ⟨rfl, ?_⟩ | refine ⟨fun hc => absurd hc (by decide), fun _ => ?_⟩ | refine ⟨fun _ => ?_, fun hc => absurd (by decide) hc⟩ | refine ⟨fun _ => ?_, fun hc => absurd hc (by decide)⟩ | refine ⟨fun hc => absurd (by decide) hc, fun _ => ?_⟩); conv => whnf)
                  try dsimp only
                  rw [nI_clamp (n := g' + k) (by omega), nI_clamp (n := f' + k) (by omega), hA k hc2, hB k hc2, pk_mul, z_remN (by omega) (by omega) (by omega), nI_eq (by omega) (by omega)]
                  refine ⟨fun hq2 => ?_, fun hq2 => ?_⟩
                  · have e : bI (mlB q a b f = true) = nI 0 := bI_f (fun z => hq2 (mlB_iff.mp z k hc2))
                    have fk := fin (k + 1)
                    rw [e] at fk
                    conv => whnf
                    repeat ((first | refine ⟨zH_of _, ?_⟩ | refine ⟨trivial, ?_⟩ | refine ⟨rfl, ?_⟩ | refine ⟨fun hc => absurd hc (by decide), fun _ => ?_⟩ | refine ⟨fun _ => ?_, fun hc => absurd (by decide) hc⟩ | refine ⟨fun _ => ?_, fun hc => absurd hc (by decide)⟩ | refine ⟨fun hc => absurd (by decide) hc, fun _ => ?_⟩); conv => whnf)
                    try dsimp only
                    rw [nI_add]
                    refine hs 400 37 _ _ _ _ _ ?_
                    conv => whnf
                    repeat ((first | refine ⟨zH_of _, ?_⟩ | refine ⟨trivial, ?_⟩ | refine ⟨rfl, ?_⟩ | refine ⟨fun hc => absurd hc (by decide), fun _ => ?_⟩ | refine ⟨fun _ => ?_, fun hc => absurd (by decide) hc⟩ | refine ⟨fun _ => ?_, fun hc => absurd hc (by decide)⟩ | refine ⟨fun hc => absurd (by decide) hc, fun _ => ?_⟩); conv => whnf)
                    try dsimp only
                    rw [ltN (by omega) (by omega)]
                    refine ⟨fun _ => ?_, fun _ => ?_⟩
                    · conv => whnf
                      repeat ((first | refine ⟨zH_of _, ?_⟩ | refine ⟨trivial, ?_⟩ | refine ⟨rfl, ?_⟩ | refine ⟨fun hc => absurd hc (by decide), fun _ => ?_⟩ | refine ⟨fun _ => ?_, fun hc => absurd (by decide) hc⟩ | refine ⟨fun _ => ?_, fun hc => absurd hc (by decide)⟩ | refine ⟨fun hc => absurd (by decide) hc, fun _ => ?_⟩); conv => whnf)
                      try dsimp only
                      exact fk
                    · conv => whnf
                      repeat ((first | refine ⟨zH_of _, ?_⟩ | refine ⟨trivial, ?_⟩ | refine ⟨rfl, ?_⟩ | refine ⟨fun hc => absurd hc (by decide), fun _ => ?_⟩ | refine ⟨fun _ => ?_, fun hc => absurd (by decide) hc⟩ | refine ⟨fun _ => ?_, fun hc => absurd hc (by decide)⟩ | refine ⟨fun hc => absurd (by decide) hc, fun _ => ?_⟩); conv => whnf)
                      try dsimp only
                      exact fk
                  · conv => whnf
                    repeat ((first | refine ⟨zH_of _, ?_⟩ | refine ⟨trivial, ?_⟩ | refine ⟨rfl, ?_⟩ | refine ⟨fun hc => absurd hc (by decide), fun _ => ?_⟩ | refine ⟨fun _ => ?_, fun hc => absurd (by decide) hc⟩ | refine ⟨fun _ => ?_, fun hc => absurd hc (by decide)⟩ | refine ⟨fun hc => absurd (by decide) hc, fun _ => ?_⟩); conv => whnf)
                    try dsimp only
                    rw [nI_add]
                    refine ihkn (fun p hp => ?_)
                    rcases Nat.lt_or_ge p k with g | g
                    · exact hall p g
                    · rw [show p = k by omega]
                      exact hq2)
              conv => whnf
              repeat ((first | refine ⟨zH_of _, ?_⟩ | refine ⟨trivial, ?_⟩ | refine ⟨rfl, ?_⟩ | refine ⟨fun hc => absurd hc (by decide), fun _ => ?_⟩ | refine ⟨fun _ => ?_, fun hc => absurd (by decide) hc⟩ | refine ⟨fun _ => ?_, fun hc => absurd hc (by decide)⟩ | refine ⟨fun hc => absurd (by decide) hc, fun _ => ?_⟩); conv => whnf)
              try dsimp only
              exact inner 0 (Nat.zero_le _) (fun p hp => absurd hp (Nat.not_lt_zero p)))
          conv => whnf
          repeat ((first | refine ⟨zH_of _, ?_⟩ | refine ⟨trivial, ?_⟩ | refine ⟨rfl, ?_⟩ | refine ⟨fun hc => absurd hc (by decide), fun _ => ?_⟩ | refine ⟨fun _ => ?_, fun hc => absurd (by decide) hc⟩ | refine ⟨fun _ => ?_, fun hc => absurd hc (by decide)⟩ | refine ⟨fun hc => absurd (by decide) hc, fun _ => ?_⟩); conv => whnf)
          try dsimp only
          exact loop 1 (by omega) (Nat.le_refl 1) (fun k h1 h2 => by omega)
        · rw [zB_like2 (Classical.not_not.mp hz2)] at h
          exact ⟨trivial, h⟩
    · refine ⟨Nat.le_of_ble_eq_true rfl, fun Jm hs => ?_⟩
      refine hs 400 0 _ _ _ _ _ ?_
      conv => whnf
      repeat ((first | refine ⟨zH_of _, ?_⟩ | refine ⟨trivial, ?_⟩ | refine ⟨rfl, ?_⟩ | refine ⟨fun hc => absurd hc (by decide), fun _ => ?_⟩ | refine ⟨fun _ => ?_, fun hc => absurd (by decide) hc⟩ | refine ⟨fun _ => ?_, fun hc => absurd hc (by decide)⟩ | refine ⟨fun hc => absurd (by decide) hc, fun _ => ?_⟩); conv => whnf)
      try dsimp only
      refine ⟨by simp, zH_of _, f', a, hA, ha3, rfl, hf, ?_⟩
      conv => whnf
      repeat ((first | refine ⟨zH_of _, ?_⟩ | refine ⟨trivial, ?_⟩ | refine ⟨rfl, ?_⟩ | refine ⟨fun hc => absurd hc (by decide), fun _ => ?_⟩ | refine ⟨fun _ => ?_, fun hc => absurd (by decide) hc⟩ | refine ⟨fun _ => ?_, fun hc => absurd hc (by decide)⟩ | refine ⟨fun hc => absurd (by decide) hc, fun _ => ?_⟩); conv => whnf)
      try dsimp only
      rw [bI_0, Classical.not_not]
      refine ⟨fun hz => ?_, fun hz => ?_⟩
      · rw [zB_like hz] at h
        exact ⟨trivial, h⟩
      · conv => whnf
        repeat ((first | refine ⟨zH_of _, ?_⟩ | refine ⟨trivial, ?_⟩ | refine ⟨rfl, ?_⟩ | refine ⟨fun hc => absurd hc (by decide), fun _ => ?_⟩ | refine ⟨fun _ => ?_, fun hc => absurd (by decide) hc⟩ | refine ⟨fun _ => ?_, fun hc => absurd hc (by decide)⟩ | refine ⟨fun hc => absurd (by decide) hc, fun _ => ?_⟩); conv => whnf)
        try dsimp only
        refine ⟨by simp, zH_of _, g', b, hB, hb3, rfl, hg, ?_⟩
        conv => whnf
        repeat ((first | refine ⟨zH_of _, ?_⟩ | refine ⟨trivial, ?_⟩ | refine ⟨rfl, ?_⟩ | refine ⟨fun hc => absurd hc (by decide), fun _ => ?_⟩ | refine ⟨fun _ => ?_, fun hc => absurd (by decide) hc⟩ | refine ⟨fun _ => ?_, fun hc => absurd hc (by decide)⟩ | refine ⟨fun hc => absurd (by decide) hc, fun _ => ?_⟩); conv => whnf)
        try dsimp only
        rw [bI_0]
        refine ⟨fun hz2 => ?_, fun hz2 => ?_⟩
        · rw [ml_like hq ha hz hz2] at h
          have loop := up_ind (P := fun f => 1 ≤ f → (∀ k, 1 ≤ k → k < f → ¬ mlB q a b k = true) → Jm 22 [some (.ref 45), some (.ref 47), some (.int (nI f')), some (.ref 49), some (.int (nI g')), some (.int (nI f)), none, none] [] (GC ++ (GM ++ r), wi, wl) 0 0) q (fun f hf1 ih h1 hno => by
            refine hs 400 22 _ _ _ _ _ ?_
            conv => whnf
            repeat ((first | refine ⟨zH_of _, ?_⟩ | refine ⟨trivial, ?_⟩ | refine ⟨rfl, ?_⟩ | refine ⟨fun hc => absurd hc (by decide), fun _ => ?_⟩ | refine ⟨fun _ => ?_, fun hc => absurd (by decide) hc⟩ | refine ⟨fun _ => ?_, fun hc => absurd hc (by decide)⟩ | refine ⟨fun hc => absurd (by decide) hc, fun _ => ?_⟩); conv => whnf)
            try dsimp only
            rw [hQ, ltN (by omega) (by omega)]
            refine ⟨fun hc => ?_, fun hc => ?_⟩
            · rw [if_neg (hno 1 (by omega) (by omega)), if_neg (fun z => hno 2 (by omega) (by omega) z.2)] at h
              exact ⟨trivial, h⟩
            · have ihn := ih hc (by omega)
              have fin : ∀ k, Jm 86 [some (.ref 45), some (.ref 47), some (.int (nI f')), some (.ref 49), some (.int (nI g')), some (.int (nI f)), some (.int (bI (mlB q a b f = true))), some (.int (nI k))] [] (GC ++ (GM ++ r), wi, wl) 0 0 := fun k => by
                refine hs 400 86 _ _ _ _ _ ?_
                conv => whnf
                repeat ((first | refine ⟨zH_of _, ?_⟩ | refine ⟨trivial, ?_⟩ | refine ⟨rfl, ?_⟩ | refine ⟨fun hc => absurd hc (by decide), fun _ => ?_⟩ | refine ⟨fun _ => ?_, fun hc => absurd (by decide) hc⟩ | refine ⟨fun _ => ?_, fun hc => absurd hc (by decide)⟩ | refine ⟨fun hc => absurd (by decide) hc, fun _ => ?_⟩); conv => whnf)
                try dsimp only
                rw [bI_0]
                refine ⟨fun hm => ?_, fun hm => ?_⟩
                · conv => whnf
                  repeat ((first | refine ⟨zH_of _, ?_⟩ | refine ⟨trivial, ?_⟩ | refine ⟨rfl, ?_⟩ | refine ⟨fun hc => absurd hc (by decide), fun _ => ?_⟩ | refine ⟨fun _ => ?_, fun hc => absurd (by decide) hc⟩ | refine ⟨fun _ => ?_, fun hc => absurd hc (by decide)⟩ | refine ⟨fun hc => absurd (by decide) hc, fun _ => ?_⟩); conv => whnf)
                  try dsimp only
                  rw [nI_add]
                  refine ihn (fun j hj1 hj => ?_)
                  rcases Nat.lt_or_ge j f with g | g
                  · exact hno j hj1 g
                  · rw [show j = f by omega]
                    exact hm
                · have hm := Classical.not_not.mp hm
                  have e : (if mlB q a b 1 = true then 1 else if q = 3 ∧ mlB q a b 2 = true then 2 else 0) = f := by
                    rcases (show f = 1 ∨ f = 2 by omega) with rfl | rfl
                    · rw [if_pos hm]
                    · rw [if_neg (hno 1 (by omega) (by omega)), if_pos ⟨by omega, hm⟩]
                  rw [e] at h
                  exact ⟨trivial, h⟩
              have inner := up_ind (P := fun k => (∀ p, p < k → b p = a p * f % q) → Jm 37 [some (.ref 45), some (.ref 47), some (.int (nI f')), some (.ref 49), some (.int (nI g')), some (.int (nI f)), some (.int (nI 1)), some (.int (nI k))] [] (GC ++ (GM ++ r), wi, wl) 0 0) 9 (fun k hk ihk hall => by
                refine hs 400 37 _ _ _ _ _ ?_
                conv => whnf
                repeat ((first | refine ⟨zH_of _, ?_⟩ | refine ⟨trivial, ?_⟩ | refine ⟨rfl, ?_⟩ | refine ⟨fun hc => absurd hc (by decide), fun _ => ?_⟩ | refine ⟨fun _ => ?_, fun hc => absurd (by decide) hc⟩ | refine ⟨fun _ => ?_, fun hc => absurd hc (by decide)⟩ | refine ⟨fun hc => absurd (by decide) hc, fun _ => ?_⟩); conv => whnf)
                try dsimp only
                rw [ltN (by omega) (by omega)]
                refine ⟨fun hc2 => ?_, fun hc2 => ?_⟩
                · have e : bI (mlB q a b f = true) = nI 1 := bI_t (mlB_iff.mpr (fun p hp => hall p (by omega)))
                  have fk := fin k
                  rw [e] at fk
                  conv => whnf
                  repeat ((first | refine ⟨zH_of _, ?_⟩ | refine ⟨trivial, ?_⟩ | refine ⟨rfl, ?_⟩ | refine ⟨fun hc => absurd hc (by decide), fun _ => ?_⟩ | refine ⟨fun _ => ?_, fun hc => absurd (by decide) hc⟩ | refine ⟨fun _ => ?_, fun hc => absurd hc (by decide)⟩ | refine ⟨fun hc => absurd (by decide) hc, fun _ => ?_⟩); conv => whnf)
                  try dsimp only
                  exact fk
                · have ihkn := ihk hc2
                  have a3 := ha3 k hc2
                  have b3 := hb3 k hc2
                  have af : a k * f ≤ 2 * 2 := Nat.mul_le_mul (by omega) (by omega)
                  have afq : a k * f % q < q := Nat.mod_lt _ (by omega)
                  conv => whnf
                  repeat ((first | refine ⟨zH_of _, ?_⟩ | refine ⟨trivial, ?_⟩ | refine ⟨rfl, ?_⟩ | refine ⟨fun hc => absurd hc (by decide), fun _ => ?_⟩ | refine ⟨fun _ => ?_, fun hc => absurd (by decide) hc⟩ | refine ⟨fun _ => ?_, fun hc => absurd hc (by decide)⟩ | refine ⟨fun hc => absurd (by decide) hc, fun _ => ?_⟩); conv => whnf)
                  try dsimp only
                  rw [nI_add]
                  refine ⟨vp_in_nI (show g' + k < 1080 by omega) (by decide), ?_⟩
                  conv => whnf
                  repeat ((first | refine ⟨zH_of _, ?_⟩ | refine ⟨trivial, ?_⟩ | refine ⟨rfl, ?_⟩ | refine ⟨fun hc => absurd hc (by decide), fun _ => ?_⟩ | refine ⟨fun _ => ?_, fun hc => absurd (by decide) hc⟩ | refine ⟨fun _ => ?_, fun hc => absurd hc (by decide)⟩ | refine ⟨fun hc => absurd (by decide) hc, fun _ => ?_⟩); conv => whnf)
                  try dsimp only
                  rw [nI_add]
                  refine ⟨vp_in_nI (show f' + k < 1080 by omega) (by decide), ?_⟩
                  conv => whnf
                  repeat ((first | refine ⟨zH_of _, ?_⟩ | refine ⟨trivial, ?_⟩ | refine ⟨rfl, ?_⟩ | refine ⟨fun hc => absurd hc (by decide), fun _ => ?_⟩ | refine ⟨fun _ => ?_, fun hc => absurd (by decide) hc⟩ | refine ⟨fun _ => ?_, fun hc => absurd hc (by decide)⟩ | refine ⟨fun hc => absurd (by decide) hc, fun _ => ?_⟩); conv => whnf)
                  try dsimp only
                  rw [hQ]
                  refine ⟨q_n0 hq, ?_⟩
                  conv => whnf
                  repeat ((first | refine ⟨zH_of _, ?_⟩ | refine ⟨trivial, ?_⟩ | refine ⟨rfl, ?_⟩ | refine ⟨fun hc => absurd hc (by decide), fun _ => ?_⟩ | refine ⟨fun _ => ?_, fun hc => absurd (by decide) hc⟩ | refine ⟨fun _ => ?_, fun hc => absurd hc (by decide)⟩ | refine ⟨fun hc => absurd (by decide) hc, fun _ => ?_⟩); conv => whnf)
                  try dsimp only
                  rw [nI_clamp (n := g' + k) (by omega), nI_clamp (n := f' + k) (by omega), hA k hc2, hB k hc2, pk_mul, z_remN (by omega) (by omega) (by omega), nI_eq (by omega) (by omega)]
                  refine ⟨fun hq2 => ?_, fun hq2 => ?_⟩
                  · have e : bI (mlB q a b f = true) = nI 0 := bI_f (fun z => hq2 (mlB_iff.mp z k hc2))
                    have fk := fin (k + 1)
                    rw [e] at fk
                    conv => whnf
                    repeat ((first | refine ⟨zH_of _, ?_⟩ | refine ⟨trivial, ?_⟩ | refine ⟨rfl, ?_⟩ | refine ⟨fun hc => absurd hc (by decide), fun _ => ?_⟩ | refine ⟨fun _ => ?_, fun hc => absurd (by decide) hc⟩ | refine ⟨fun _ => ?_, fun hc => absurd hc (by decide)⟩ | refine ⟨fun hc => absurd (by decide) hc, fun _ => ?_⟩); conv => whnf)
                    try dsimp only
                    rw [nI_add]
                    refine hs 400 37 _ _ _ _ _ ?_
                    conv => whnf
                    repeat ((first | refine ⟨zH_of _, ?_⟩ | refine ⟨trivial, ?_⟩ | refine ⟨rfl, ?_⟩ | refine ⟨fun hc => absurd hc (by decide), fun _ => ?_⟩ | refine ⟨fun _ => ?_, fun hc => absurd (by decide) hc⟩ | refine ⟨fun _ => ?_, fun hc => absurd hc (by decide)⟩ | refine ⟨fun hc => absurd (by decide) hc, fun _ => ?_⟩); conv => whnf)
                    try dsimp only
                    rw [ltN (by omega) (by omega)]
                    refine ⟨fun _ => ?_, fun _ => ?_⟩
                    · conv => whnf
                      repeat ((first | refine ⟨zH_of _, ?_⟩ | refine ⟨trivial, ?_⟩ | refine ⟨rfl, ?_⟩ | refine ⟨fun hc => absurd hc (by decide), fun _ => ?_⟩ | refine ⟨fun _ => ?_, fun hc => absurd (by decide) hc⟩ | refine ⟨fun _ => ?_, fun hc => absurd hc (by decide)⟩ | refine ⟨fun hc => absurd (by decide) hc, fun _ => ?_⟩); conv => whnf)
                      try dsimp only
                      exact fk
                    · conv => whnf
                      repeat ((first | refine ⟨zH_of _, ?_⟩ | refine ⟨trivial, ?_⟩ | refine ⟨rfl, ?_⟩ | refine ⟨fun hc => absurd hc (by decide), fun _ => ?_⟩ | refine ⟨fun _ => ?_, fun hc => absurd (by decide) hc⟩ | refine ⟨fun _ => ?_, fun hc => absurd hc (by decide)⟩ | refine ⟨fun hc => absurd (by decide) hc, fun _ => ?_⟩); conv => whnf)
                      try dsimp only
                      exact fk
                  · conv => whnf
                    repeat ((first | refine ⟨zH_of _, ?_⟩ | refine ⟨trivial, ?_⟩ | refine ⟨rfl, ?_⟩ | refine ⟨fun hc => absurd hc (by decide), fun _ => ?_⟩ | refine ⟨fun _ => ?_, fun hc => absurd (by decide) hc⟩ | refine ⟨fun _ => ?_, fun hc => absurd hc (by decide)⟩ | refine ⟨fun hc => absurd (by decide) hc, fun _ => ?_⟩); conv => whnf)
                    try dsimp only
                    rw [nI_add]
                    refine ihkn (fun p hp => ?_)
                    rcases Nat.lt_or_ge p k with g | g
                    · exact hall p g
                    · rw [show p = k by omega]
                      exact hq2)
              conv => whnf
              repeat ((first | refine ⟨zH_of _, ?_⟩ | refine ⟨trivial, ?_⟩ | refine ⟨rfl, ?_⟩ | refine ⟨fun hc => absurd hc (by decide), fun _ => ?_⟩ | refine ⟨fun _ => ?_, fun hc => absurd (by decide) hc⟩ | refine ⟨fun _ => ?_, fun hc => absurd hc (by decide)⟩ | refine ⟨fun hc => absurd (by decide) hc, fun _ => ?_⟩); conv => whnf)
              try dsimp only
              exact inner 0 (Nat.zero_le _) (fun p hp => absurd hp (Nat.not_lt_zero p)))
          conv => whnf
          repeat ((first | refine ⟨zH_of _, ?_⟩ | refine ⟨trivial, ?_⟩ | refine ⟨rfl, ?_⟩ | refine ⟨fun hc => absurd hc (by decide), fun _ => ?_⟩ | refine ⟨fun _ => ?_, fun hc => absurd (by decide) hc⟩ | refine ⟨fun _ => ?_, fun hc => absurd hc (by decide)⟩ | refine ⟨fun hc => absurd (by decide) hc, fun _ => ?_⟩); conv => whnf)
          try dsimp only
          exact loop 1 (by omega) (Nat.le_refl 1) (fun k h1 h2 => by omega)
        · rw [zB_like2 (Classical.not_not.mp hz2)] at h
          exact ⟨trivial, h⟩

