/-! forms taken so that none is a sum of others: how many, reduced, made, pivots -/
abbrev zB4 : Type := Nat × (Nat → Nat → Nat) × (Nat → Nat → Nat) × (Nat → Nat)
def b0 : zB4 := (0, fun _ _ => 0, fun _ _ => 0, fun _ => 0)
/-- what is left of a form behind the first k, and its parts -/
def rdB (q : Nat) (B : zB4) (a : Nat → Nat) : Nat → (Nat → Nat) × (Nat → Nat)
  | 0 => (a, fun _ => 0)
  | k + 1 => (fSub q (rdB q B a k).1 (fMul q ((rdB q B a k).1 (B.2.2.2 k)) (B.2.1 k)), fAdd q (rdB q B a k).2 (fMul q ((rdB q B a k).1 (B.2.2.2 k)) (B.2.2.1 k)))
def rest (q : Nat) (B : zB4) (a : Nat → Nat) : Nat → Nat := (rdB q B a B.1).1
def parts (q : Nat) (B : zB4) (a : Nat → Nat) : Nat → Nat := (rdB q B a B.1).2
def fp (a : Nat → Nat) : Nat := if fi (fun p => a p != 0) 9 < 9 then fi (fun p => a p != 0) 9 else 0
/-- a form is taken, if it is no sum -/
def bkB (q : Nat) (B : zB4) (a : Nat → Nat) : Bool := !zB (rest q B a) && decide (B.1 < 9)
def bkS (q : Nat) (B : zB4) (a : Nat → Nat) : zB4 := (B.1 + 1, upA B.2.1 B.1 (fMul q (rest q B a (fp (rest q B a))) (rest q B a)), upA B.2.2.1 B.1 (fMul q (rest q B a (fp (rest q B a))) (fSub q (un B.1) (parts q B a))), setp B.2.2.2 B.1 (fp (rest q B a)))
def BS (wi : Nat → Nat → Int32) (o q : Nat) (B : zB4) : Prop := (wi o 3 = nI q ∧ wi o 4 = nI B.1) ∧ (q = 2 ∨ q = 3) ∧ B.1 ≤ 9 ∧ ∀ k, k < B.1 → wi (o + 2) k = pk (B.2.1 k) ∧ wi (o + 4) k = pk (B.2.2.1 k) ∧ wi (o + 6) k = nI (B.2.2.2 k) ∧ B.2.2.2 k < 9 ∧ (∀ p, p < 9 → B.2.1 k p < q) ∧ ∀ p, p < 9 → B.2.2.1 k p < q
theorem fMul_lt {q : Nat} (hq : q = 2 ∨ q = 3) (f : Nat) (a : Nat → Nat) (p : Nat) : fMul q f a p < q := Nat.mod_lt _ (by omega)
theorem fAdd_lt {q : Nat} (hq : q = 2 ∨ q = 3) (a b : Nat → Nat) (p : Nat) : fAdd q a b p < q := Nat.mod_lt _ (by omega)
theorem fSub_lt {q : Nat} (hq : q = 2 ∨ q = 3) (a b : Nat → Nat) (p : Nat) : fSub q a b p < q := Nat.mod_lt _ (by omega)
theorem rdB_lt {q : Nat} (hq : q = 2 ∨ q = 3) (B : zB4) {a : Nat → Nat} (ha : ∀ p, p < 9 → a p < q) : ∀ k, (∀ p, p < 9 → (rdB q B a k).1 p < q) ∧ ∀ p, p < 9 → (rdB q B a k).2 p < q
  | 0 => ⟨ha, fun _ _ => by show 0 < q; omega⟩
  | _ + 1 => ⟨fun p _ => fSub_lt hq _ _ p, fun p _ => fAdd_lt hq _ _ p⟩
theorem fp_lt (a : Nat → Nat) : fp a < 9 := by
  unfold fp
  split
  · assumption
  · decide
def sp_X0_firstPlace : zSp := fun av w K => match av with
  | [.int x] => ∃ a : Nat → Nat, x = pk a ∧ (∀ p, p < 9 → a p < 3) ∧ K (some (.int (nI (fp a)))) w
  | _ => False
def rm_X0_firstPlace : Room := { frames := 1, cells := 0, slots := 0, locals := 21 }
def M_X0_firstPlace : zM := (k_X0_firstPlace, f_X0, [(43, 0, 0, 2, 0, 0, sp_X2_numberAt)], ([], [], []), [], [(2, [true, true])], 1, false, (false, 0, fun _ => 0), (0, 0, []))
theorem ca_X0_firstPlace_0 (l : Launch) : z_cok l RX0 (headSpec (.code yX0_firstPlace cX0_firstPlace 2 (some .int) :: zTT) rm_X0_firstPlace).room (false, 0, fun _ => 0) (43, 0, 0, 2, 0, 0, sp_X2_numberAt) := z_ca0 (c_X2_numberAt l) mb_X2_numberAt wt_602 wt_390 (by decide)
theorem O_X0_firstPlace (l : Launch) : z_OK l RX0 cX0_firstPlace (headSpec (.code yX0_firstPlace cX0_firstPlace 2 (some .int) :: zTT) rm_X0_firstPlace).room M_X0_firstPlace := ⟨ok_X0_firstPlace, fo_X0, List.forall_mem_cons.mpr ⟨ca_X0_firstPlace_0 l, fun _ h => absurd h List.not_mem_nil⟩, fun _ h => absurd h List.not_mem_nil, fun _ h => absurd h List.not_mem_nil, fun _ h => absurd h List.not_mem_nil, fun _ h => absurd h List.not_mem_nil, rfl, rfl, fun _ h => absurd h List.not_mem_nil⟩
theorem c_X0_firstPlace (l : Launch) : z_CS l yX0_firstPlace cX0_firstPlace 2 (some .int) rm_X0_firstPlace sp_X0_firstPlace := by
  refine z_meth (by decide) (Or.inr (Or.inl ⟨rfl, rfl⟩)) (fun h => by cases h) rfl (O_X0_firstPlace l) ?_
  intro av w K h
  match av, h with
  | [.int x], h =>
    obtain ⟨a, rfl, ha, h⟩ := h
    refine ⟨Nat.le_of_ble_eq_true rfl, fun Jm hs => ?_⟩
    have loop := up_ind (P := fun p => (∀ j, j < p → ¬ (a j != 0) = true) → Jm 2 [some (.int (pk a)), some (.int (nI p))] [] w 0 0) 9 (fun p hp ih hno => by
      refine hs 400 2 _ _ _ _ _ ?_
      conv => whnf
      repeat ((first | refine ⟨zG_of _, ?_⟩ | refine ⟨trivial, ?_⟩ | refine ⟨rfl, ?_⟩ | refine ⟨fun hc => absurd hc (by decide), fun _ => ?_⟩ | refine ⟨fun _ => ?_, fun hc => absurd (by decide) hc⟩ | refine ⟨fun _ => ?_, fun hc => absurd hc (by decide)⟩ | refine ⟨fun hc => absurd (by decide) hc, fun _ => ?_⟩); conv => whnf)
      try dsimp only
      rw [ltN (by omega) (by omega)]
      refine ⟨fun hc => ?_, fun hc => ?_⟩
      · obtain rfl : p = 9 := by omega
        have e : fp a = 0 := by
          unfold fp
          rw [fi_none hno]
          rfl
        rw [e] at h
        exact ⟨trivial, h⟩
      · have ihn := ih hc
        have e := fnum_pk ha hc
        have a3 := ha p hc
        conv => whnf
        repeat ((first | refine ⟨zG_of _, ?_⟩ | refine ⟨trivial, ?_⟩ | refine ⟨rfl, ?_⟩ | refine ⟨fun hc => absurd hc (by decide), fun _ => ?_⟩ | refine ⟨fun _ => ?_, fun hc => absurd (by decide) hc⟩ | refine ⟨fun _ => ?_, fun hc => absurd hc (by decide)⟩ | refine ⟨fun hc => absurd (by decide) hc, fun _ => ?_⟩); conv => whnf)
        try dsimp only
        rw [e, eq0N (by omega)]
        refine ⟨fun hz => ?_, fun hz => ?_⟩
        · conv => whnf
          repeat ((first | refine ⟨zG_of _, ?_⟩ | refine ⟨trivial, ?_⟩ | refine ⟨rfl, ?_⟩ | refine ⟨fun hc => absurd hc (by decide), fun _ => ?_⟩ | refine ⟨fun _ => ?_, fun hc => absurd (by decide) hc⟩ | refine ⟨fun _ => ?_, fun hc => absurd hc (by decide)⟩ | refine ⟨fun hc => absurd (by decide) hc, fun _ => ?_⟩); conv => whnf)
          try dsimp only
          rw [nI_add]
          refine ihn (fun j hj => ?_)
          rcases Nat.lt_or_ge j p with h1 | h1
          · exact hno j h1
          · obtain rfl : j = p := by omega
            simp [hz]
        · have e2 : fp a = p := by
            have := fi_at (f := fun p => a p != 0) hc (by simpa using hz) hno
            unfold fp
            rw [this, if_pos hc]
          rw [e2] at h
          exact ⟨trivial, h⟩)
    exact hs 400 0 _ _ _ _ _ (loop 0 (Nat.zero_le _) (fun j hj => absurd hj (Nat.not_lt_zero j)))
def sp_X0_start : zSp := fun av w K => match av with
  | [.ref o, .int f] => (o = 20 ∨ o = 31) ∧ zG w.1 ∧ ∃ q : Nat, f = nI q ∧ (q = 2 ∨ q = 3) ∧ ∀ wi' : Nat → Nat → Int32, (∀ y, y ≠ o → wi' y = w.2.1 y) → BS wi' o q b0 → K none (w.1, wi', w.2.2)
  | _ => False
def rm_X0_start : Room := { frames := 0, cells := 0, slots := 0, locals := 0 }
def M_X0_start : zM := (k_X0_start, f_X0, [], ([], [], []), [], [], 0, false, (false, 0, fun _ => 0), (0, 0, []))
theorem O_X0_start (l : Launch) : z_OK l RX0 cX0_start (headSpec (.code yX0_start cX0_start 2 none :: zTT) rm_X0_start).room M_X0_start := ⟨ok_X0_start, fo_X0, fun _ h => absurd h List.not_mem_nil, fun _ h => absurd h List.not_mem_nil, fun _ h => absurd h List.not_mem_nil, fun _ h => absurd h List.not_mem_nil, fun _ h => absurd h List.not_mem_nil, rfl, rfl, fun _ h => absurd h List.not_mem_nil⟩
theorem c_X0_start (l : Launch) : z_CS l yX0_start cX0_start 2 none rm_X0_start sp_X0_start := by
  refine z_meth (by decide) (Or.inl ⟨rfl, rfl⟩) (fun h => by cases h) rfl (O_X0_start l) ?_
  intro av w K h
  match av, h with
  | [.ref o, .int f], h =>
    obtain ⟨ho, ⟨r, hG⟩, q, rfl, hq, h⟩ := h
    obtain ⟨G, wi, wl⟩ := w
    subst hG
    try dsimp only at h
    rcases ho with rfl | rfl
    · refine ⟨Nat.le_of_ble_eq_true rfl, fun Jm hs => hs 400 0 _ _ _ _ _ ?_⟩
      conv => whnf
      repeat ((first | refine ⟨zG_of _, ?_⟩ | refine ⟨trivial, ?_⟩ | refine ⟨rfl, ?_⟩ | refine ⟨fun hc => absurd hc (by decide), fun _ => ?_⟩ | refine ⟨fun _ => ?_, fun hc => absurd (by decide) hc⟩ | refine ⟨fun _ => ?_, fun hc => absurd hc (by decide)⟩ | refine ⟨fun hc => absurd (by decide) hc, fun _ => ?_⟩); conv => whnf)
      try dsimp only
      refine h _ (fun y hy => by rw [z_up_ne hy, z_up_ne hy]) ⟨⟨?_, z_up_eq⟩, hq, Nat.zero_le _, fun k hk => absurd hk (Nat.not_lt_zero k)⟩
      rw [z_up_nei (by decide), z_up_eq]
    · refine ⟨Nat.le_of_ble_eq_true rfl, fun Jm hs => hs 400 0 _ _ _ _ _ ?_⟩
      conv => whnf
      repeat ((first | refine ⟨zG_of _, ?_⟩ | refine ⟨trivial, ?_⟩ | refine ⟨rfl, ?_⟩ | refine ⟨fun hc => absurd hc (by decide), fun _ => ?_⟩ | refine ⟨fun _ => ?_, fun hc => absurd (by decide) hc⟩ | refine ⟨fun _ => ?_, fun hc => absurd hc (by decide)⟩ | refine ⟨fun hc => absurd (by decide) hc, fun _ => ?_⟩); conv => whnf)
      try dsimp only
      refine h _ (fun y hy => by rw [z_up_ne hy, z_up_ne hy]) ⟨⟨?_, z_up_eq⟩, hq, Nat.zero_le _, fun k hk => absurd hk (Nat.not_lt_zero k)⟩
      rw [z_up_nei (by decide), z_up_eq]
theorem bs_up {wi : Nat → Nat → Int32} {o q i : Nat} {B : zB4} {v : Int32} (h : BS wi o q B) (hi : i ≠ 3 ∧ i ≠ 4) : BS (z_up wi o i v) o q B := by
  refine ⟨⟨?_, ?_⟩, h.2.1, h.2.2.1, fun k hk => ?_⟩
  · rw [z_up_nei (fun z => hi.1 z.symm)]; exact h.1.1
  · rw [z_up_nei (fun z => hi.2 z.symm)]; exact h.1.2
  · rw [z_up_ne (by omega), z_up_ne (by omega), z_up_ne (by omega)]
    exact h.2.2.2 k hk
def sp_X0_reduce : zSp := fun av w K => match av with
  | [.ref o, .int x] => (o = 20 ∨ o = 31) ∧ zG w.1 ∧ ∃ q B a, BS w.2.1 o q B ∧ x = pk a ∧ (∀ p, p < 9 → a p < q) ∧ ∀ wi' : Nat → Nat → Int32, (∀ y, y ≠ o → wi' y = w.2.1 y) → BS wi' o q B → wi' o 5 = pk (rest q B a) → wi' o 6 = pk (parts q B a) → K none (w.1, wi', w.2.2)
  | _ => False
def rm_X0_reduce : Room := { frames := 2, cells := 0, slots := 0, locals := 50 }
def M_X0_reduce : zM := (k_X0_reduce, f_X0, [(66, 4, 2, 2, 0, 0, sp_X3_at), (43, 0, 0, 2, 0, 0, sp_X2_numberAt), (49, 0, 0, 2, 0, 0, sp_X2_times), (63, 0, 0, 3, 0, 0, sp_X2_less), (69, 0, 0, 3, 0, 0, sp_X2_sum)], ([], [], []), [], [(12, [true, true, true, false])], 0, false, (false, 0, fun _ => 0), (0, 0, []))
theorem ca_X0_reduce_0 (l : Launch) : z_cok l RX0 (headSpec (.code yX0_reduce cX0_reduce 4 none :: zTT) rm_X0_reduce).room (false, 0, fun _ => 0) (66, 4, 2, 2, 0, 0, sp_X3_at) := z_ca4 (c_X3_at l) mb_X3_at ⟨_, rfl, rfl⟩ wt_601 wt_366 wt_367 (by decide)
theorem ca_X0_reduce_1 (l : Launch) : z_cok l RX0 (headSpec (.code yX0_reduce cX0_reduce 4 none :: zTT) rm_X0_reduce).room (false, 0, fun _ => 0) (43, 0, 0, 2, 0, 0, sp_X2_numberAt) := z_ca0 (c_X2_numberAt l) mb_X2_numberAt wt_602 wt_390 (by decide)
theorem ca_X0_reduce_2 (l : Launch) : z_cok l RX0 (headSpec (.code yX0_reduce cX0_reduce 4 none :: zTT) rm_X0_reduce).room (false, 0, fun _ => 0) (49, 0, 0, 2, 0, 0, sp_X2_times) := z_ca0 (c_X2_times l) mb_X2_times wt_603 wt_516 (by decide)
theorem ca_X0_reduce_3 (l : Launch) : z_cok l RX0 (headSpec (.code yX0_reduce cX0_reduce 4 none :: zTT) rm_X0_reduce).room (false, 0, fun _ => 0) (63, 0, 0, 3, 0, 0, sp_X2_less) := z_ca0 (c_X2_less l) mb_X2_less wt_604 wt_532 (by decide)
theorem ca_X0_reduce_4 (l : Launch) : z_cok l RX0 (headSpec (.code yX0_reduce cX0_reduce 4 none :: zTT) rm_X0_reduce).room (false, 0, fun _ => 0) (69, 0, 0, 3, 0, 0, sp_X2_sum) := z_ca0 (c_X2_sum l) mb_X2_sum wt_605 wt_529 (by decide)
theorem O_X0_reduce (l : Launch) : z_OK l RX0 cX0_reduce (headSpec (.code yX0_reduce cX0_reduce 4 none :: zTT) rm_X0_reduce).room M_X0_reduce := ⟨ok_X0_reduce, fo_X0, List.forall_mem_cons.mpr ⟨ca_X0_reduce_0 l, List.forall_mem_cons.mpr ⟨ca_X0_reduce_1 l, List.forall_mem_cons.mpr ⟨ca_X0_reduce_2 l, List.forall_mem_cons.mpr ⟨ca_X0_reduce_3 l, List.forall_mem_cons.mpr ⟨ca_X0_reduce_4 l, fun _ h => absurd h List.not_mem_nil⟩⟩⟩⟩⟩, fun _ h => absurd h List.not_mem_nil, fun _ h => absurd h List.not_mem_nil, fun _ h => absurd h List.not_mem_nil, fun _ h => absurd h List.not_mem_nil, rfl, rfl, fun _ h => absurd h List.not_mem_nil⟩
theorem c_X0_reduce (l : Launch) : z_CS l yX0_reduce cX0_reduce 4 none rm_X0_reduce sp_X0_reduce := by
  refine z_meth (by decide) (Or.inl ⟨rfl, rfl⟩) (fun h => by cases h) rfl (O_X0_reduce l) ?_
  intro av w K h
  match av, h with
  | [.ref o, .int x], h =>
    obtain ⟨ho, ⟨r, hG⟩, q, B, a, hB, rfl, ha, h⟩ := h
    obtain ⟨G, wi, wl⟩ := w
    subst hG
    try dsimp only at h hB
    have hq := hB.2.1
    have h9 := hB.2.2.1
    rcases ho with rfl | rfl
    · refine ⟨Nat.le_of_ble_eq_true rfl, fun Jm hs => ?_⟩
      have loop := up_ind (P := fun k => ∀ wi' : Nat → Nat → Int32, (∀ y, y ≠ 20 → wi' y = wi y) → BS wi' 20 q B → wi' 20 5 = pk (rdB q B a k).1 → wi' 20 6 = pk (rdB q B a k).2 → Jm 12 [some (.ref 20), some (.int (pk a)), some (.int (nI k)), none] [] (GC ++ r, wi', wl) 0 0) B.1 (fun k hk ih => by
        intro wi' hF hB' h5 h6
        refine hs 400 12 _ _ _ _ _ ?_
        conv => whnf
        repeat ((first | refine ⟨zG_of _, ?_⟩ | refine ⟨trivial, ?_⟩ | refine ⟨rfl, ?_⟩ | refine ⟨fun hc => absurd hc (by decide), fun _ => ?_⟩ | refine ⟨fun _ => ?_, fun hc => absurd (by decide) hc⟩ | refine ⟨fun _ => ?_, fun hc => absurd hc (by decide)⟩ | refine ⟨fun hc => absurd (by decide) hc, fun _ => ?_⟩); conv => whnf)
        try dsimp only
        rw [hB'.1.2, ltN (by omega) (by omega)]
        refine ⟨fun hc => ?_, fun hc => ?_⟩
        · obtain hkn : k = B.1 := by omega
          subst hkn
          exact h wi' hF hB' h5 h6
        · have ihn := ih hc
          have lt := rdB_lt hq B ha k
          have hk3 := hB'.2.2.2 k hc
          generalize hS : rdB q B a k = S at *
          have s3 := lt3_of hq lt.1
          have ep : atF (wi' 26) 9 (nI k) = nI (B.2.2.2 k) := by
            rw [atF_in (by omega) (by decide)]; exact hk3.2.2.1
          have er : atF (wi' 22) 9 (nI k) = pk (B.2.1 k) := by
            rw [atF_in (by omega) (by decide)]; exact hk3.1
          have em : atF (wi' 24) 9 (nI k) = pk (B.2.2.1 k) := by
            rw [atF_in (by omega) (by decide)]; exact hk3.2.1
          have en : fnum (pk S.1) (nI (B.2.2.2 k)) = nI (S.1 (B.2.2.2 k)) := fnum_pk s3 hk3.2.2.2.1
          have ln := lt.1 _ hk3.2.2.2.1
          have e5 : pk (rdB q B a (k + 1)).1 = fless (pk S.1) (ftimes (nI (S.1 (B.2.2.2 k))) (pk (B.2.1 k))) (nI q) := by
            rw [ftimes_pk hq ln hk3.2.2.2.2.1, fless_pk hq lt.1 (fun p _ => Nat.mod_lt _ (by omega)), rdB, hS]
            rfl
          have e6 : pk (rdB q B a (k + 1)).2 = fsum (pk S.2) (ftimes (nI (S.1 (B.2.2.2 k))) (pk (B.2.2.1 k))) (nI q) := by
            rw [ftimes_pk hq ln hk3.2.2.2.2.2, fsum_pk hq lt.2 (fun p _ => Nat.mod_lt _ (by omega)), rdB, hS]
            rfl
          conv => whnf
          repeat ((first | refine ⟨zG_of _, ?_⟩ | refine ⟨trivial, ?_⟩ | refine ⟨rfl, ?_⟩ | refine ⟨fun hc => absurd hc (by decide), fun _ => ?_⟩ | refine ⟨fun _ => ?_, fun hc => absurd (by decide) hc⟩ | refine ⟨fun _ => ?_, fun hc => absurd hc (by decide)⟩ | refine ⟨fun hc => absurd (by decide) hc, fun _ => ?_⟩); conv => whnf)
          try dsimp only
          rw [h5, ep, en, eq0N (by omega)]
          refine ⟨fun hz => ?_, fun hz => ?_⟩
          · conv => whnf
            repeat ((first | refine ⟨zG_of _, ?_⟩ | refine ⟨trivial, ?_⟩ | refine ⟨rfl, ?_⟩ | refine ⟨fun hc => absurd hc (by decide), fun _ => ?_⟩ | refine ⟨fun _ => ?_, fun hc => absurd (by decide) hc⟩ | refine ⟨fun _ => ?_, fun hc => absurd hc (by decide)⟩ | refine ⟨fun hc => absurd (by decide) hc, fun _ => ?_⟩); conv => whnf)
            try dsimp only
            rw [nI_add]
            refine ihn wi' hF hB' ?_ ?_
            · rw [h5]
              refine pk_congr (fun p hp => ?_)
              rw [rdB, hS, hz]
              show S.1 p = (S.1 p + (q - 0 * B.2.1 k p % q)) % q
              have := lt.1 p hp
              rw [Nat.zero_mul, Nat.zero_mod, Nat.sub_zero, Nat.add_mod_right, Nat.mod_eq_of_lt this]
            · rw [h6]
              refine pk_congr (fun p hp => ?_)
              rw [rdB, hS, hz]
              show S.2 p = (S.2 p + 0 * B.2.2.1 k p % q) % q
              have := lt.2 p hp
              rw [Nat.zero_mul, Nat.zero_mod, Nat.add_zero, Nat.mod_eq_of_lt this]
          · conv => whnf
            repeat ((first | refine ⟨zG_of _, ?_⟩ | refine ⟨trivial, ?_⟩ | refine ⟨rfl, ?_⟩ | refine ⟨fun hc => absurd hc (by decide), fun _ => ?_⟩ | refine ⟨fun _ => ?_, fun hc => absurd (by decide) hc⟩ | refine ⟨fun _ => ?_, fun hc => absurd hc (by decide)⟩ | refine ⟨fun hc => absurd (by decide) hc, fun _ => ?_⟩); conv => whnf)
            try dsimp only
            have w5 : z_up wi' 20 5 (fless (wi' 20 5) (ftimes (nI (S.1 (B.2.2.2 k))) (atF (wi' 22) 9 (nI k))) (wi' 20 3)) = z_up wi' 20 5 (pk (rdB q B a (k + 1)).1) := by
              rw [h5, er, hB'.1.1, e5]
            rw [w5]
            have w6 : fsum (z_up wi' 20 5 (pk (rdB q B a (k + 1)).1) 20 6) (ftimes (nI (S.1 (B.2.2.2 k))) (atF (z_up wi' 20 5 (pk (rdB q B a (k + 1)).1) 24) 9 (nI k))) (z_up wi' 20 5 (pk (rdB q B a (k + 1)).1) 20 3) = pk (rdB q B a (k + 1)).2 := by
              rw [z_up_nei (by decide), z_up_nei (by decide), z_up_ne (by decide), h6, em, hB'.1.1, e6]
            rw [w6, nI_add]
            refine ihn _ (fun y hy => by rw [z_up_ne hy, z_up_ne hy, hF y hy]) (bs_up (bs_up hB' (by decide)) (by decide)) ?_ z_up_eq
            rw [z_up_nei (by decide), z_up_eq])
      refine hs 400 0 _ _ _ _ _ ?_
      conv => whnf
      repeat ((first | refine ⟨zG_of _, ?_⟩ | refine ⟨trivial, ?_⟩ | refine ⟨rfl, ?_⟩ | refine ⟨fun hc => absurd hc (by decide), fun _ => ?_⟩ | refine ⟨fun _ => ?_, fun hc => absurd (by decide) hc⟩ | refine ⟨fun _ => ?_, fun hc => absurd hc (by decide)⟩ | refine ⟨fun hc => absurd (by decide) hc, fun _ => ?_⟩); conv => whnf)
      try dsimp only
      refine loop 0 (Nat.zero_le _) _ (fun y hy => by rw [z_up_ne hy, z_up_ne hy]) (bs_up (bs_up hB (by decide)) (by decide)) ?_ ?_
      · rw [z_up_nei (by decide), z_up_eq]
        rfl
      · rw [z_up_eq, ← pk_zero]
        rfl
    · refine ⟨Nat.le_of_ble_eq_true rfl, fun Jm hs => ?_⟩
      have loop := up_ind (P := fun k => ∀ wi' : Nat → Nat → Int32, (∀ y, y ≠ 31 → wi' y = wi y) → BS wi' 31 q B → wi' 31 5 = pk (rdB q B a k).1 → wi' 31 6 = pk (rdB q B a k).2 → Jm 12 [some (.ref 31), some (.int (pk a)), some (.int (nI k)), none] [] (GC ++ r, wi', wl) 0 0) B.1 (fun k hk ih => by
        intro wi' hF hB' h5 h6
        refine hs 400 12 _ _ _ _ _ ?_
        conv => whnf
        repeat ((first | refine ⟨zG_of _, ?_⟩ | refine ⟨trivial, ?_⟩ | refine ⟨rfl, ?_⟩ | refine ⟨fun hc => absurd hc (by decide), fun _ => ?_⟩ | refine ⟨fun _ => ?_, fun hc => absurd (by decide) hc⟩ | refine ⟨fun _ => ?_, fun hc => absurd hc (by decide)⟩ | refine ⟨fun hc => absurd (by decide) hc, fun _ => ?_⟩); conv => whnf)
        try dsimp only
        rw [hB'.1.2, ltN (by omega) (by omega)]
        refine ⟨fun hc => ?_, fun hc => ?_⟩
        · obtain hkn : k = B.1 := by omega
          subst hkn
          exact h wi' hF hB' h5 h6
        · have ihn := ih hc
          have lt := rdB_lt hq B ha k
          have hk3 := hB'.2.2.2 k hc
          generalize hS : rdB q B a k = S at *
          have s3 := lt3_of hq lt.1
          have ep : atF (wi' 37) 9 (nI k) = nI (B.2.2.2 k) := by
            rw [atF_in (by omega) (by decide)]; exact hk3.2.2.1
          have er : atF (wi' 33) 9 (nI k) = pk (B.2.1 k) := by
            rw [atF_in (by omega) (by decide)]; exact hk3.1
          have em : atF (wi' 35) 9 (nI k) = pk (B.2.2.1 k) := by
            rw [atF_in (by omega) (by decide)]; exact hk3.2.1
          have en : fnum (pk S.1) (nI (B.2.2.2 k)) = nI (S.1 (B.2.2.2 k)) := fnum_pk s3 hk3.2.2.2.1
          have ln := lt.1 _ hk3.2.2.2.1
          have e5 : pk (rdB q B a (k + 1)).1 = fless (pk S.1) (ftimes (nI (S.1 (B.2.2.2 k))) (pk (B.2.1 k))) (nI q) := by
            rw [ftimes_pk hq ln hk3.2.2.2.2.1, fless_pk hq lt.1 (fun p _ => Nat.mod_lt _ (by omega)), rdB, hS]
            rfl
          have e6 : pk (rdB q B a (k + 1)).2 = fsum (pk S.2) (ftimes (nI (S.1 (B.2.2.2 k))) (pk (B.2.2.1 k))) (nI q) := by
            rw [ftimes_pk hq ln hk3.2.2.2.2.2, fsum_pk hq lt.2 (fun p _ => Nat.mod_lt _ (by omega)), rdB, hS]
            rfl
          conv => whnf
          repeat ((first | refine ⟨zG_of _, ?_⟩ | refine ⟨trivial, ?_⟩ | refine ⟨rfl, ?_⟩ | refine ⟨fun hc => absurd hc (by decide), fun _ => ?_⟩ | refine ⟨fun _ => ?_, fun hc => absurd (by decide) hc⟩ | refine ⟨fun _ => ?_, fun hc => absurd hc (by decide)⟩ | refine ⟨fun hc => absurd (by decide) hc, fun _ => ?_⟩); conv => whnf)
          try dsimp only
          rw [h5, ep, en, eq0N (by omega)]
          refine ⟨fun hz => ?_, fun hz => ?_⟩
          · conv => whnf
            repeat ((first | refine ⟨zG_of _, ?_⟩ | refine ⟨trivial, ?_⟩ | refine ⟨rfl, ?_⟩ | refine ⟨fun hc => absurd hc (by decide), fun _ => ?_⟩ | refine ⟨fun _ => ?_, fun hc => absurd (by decide) hc⟩ | refine ⟨fun _ => ?_, fun hc => absurd hc (by decide)⟩ | refine ⟨fun hc => absurd (by decide) hc, fun _ => ?_⟩); conv => whnf)
            try dsimp only
            rw [nI_add]
            refine ihn wi' hF hB' ?_ ?_
            · rw [h5]
              refine pk_congr (fun p hp => ?_)
              rw [rdB, hS, hz]
              show S.1 p = (S.1 p + (q - 0 * B.2.1 k p % q)) % q
              have := lt.1 p hp
              rw [Nat.zero_mul, Nat.zero_mod, Nat.sub_zero, Nat.add_mod_right, Nat.mod_eq_of_lt this]
            · rw [h6]
              refine pk_congr (fun p hp => ?_)
              rw [rdB, hS, hz]
              show S.2 p = (S.2 p + 0 * B.2.2.1 k p % q) % q
              have := lt.2 p hp
              rw [Nat.zero_mul, Nat.zero_mod, Nat.add_zero, Nat.mod_eq_of_lt this]
          · conv => whnf
            repeat ((first | refine ⟨zG_of _, ?_⟩ | refine ⟨trivial, ?_⟩ | refine ⟨rfl, ?_⟩ | refine ⟨fun hc => absurd hc (by decide), fun _ => ?_⟩ | refine ⟨fun _ => ?_, fun hc => absurd (by decide) hc⟩ | refine ⟨fun _ => ?_, fun hc => absurd hc (by decide)⟩ | refine ⟨fun hc => absurd (by decide) hc, fun _ => ?_⟩); conv => whnf)
            try dsimp only
            have w5 : z_up wi' 31 5 (fless (wi' 31 5) (ftimes (nI (S.1 (B.2.2.2 k))) (atF (wi' 33) 9 (nI k))) (wi' 31 3)) = z_up wi' 31 5 (pk (rdB q B a (k + 1)).1) := by
              rw [h5, er, hB'.1.1, e5]
            rw [w5]
            have w6 : fsum (z_up wi' 31 5 (pk (rdB q B a (k + 1)).1) 31 6) (ftimes (nI (S.1 (B.2.2.2 k))) (atF (z_up wi' 31 5 (pk (rdB q B a (k + 1)).1) 35) 9 (nI k))) (z_up wi' 31 5 (pk (rdB q B a (k + 1)).1) 31 3) = pk (rdB q B a (k + 1)).2 := by
              rw [z_up_nei (by decide), z_up_nei (by decide), z_up_ne (by decide), h6, em, hB'.1.1, e6]
            rw [w6, nI_add]
            refine ihn _ (fun y hy => by rw [z_up_ne hy, z_up_ne hy, hF y hy]) (bs_up (bs_up hB' (by decide)) (by decide)) ?_ z_up_eq
            rw [z_up_nei (by decide), z_up_eq])
      refine hs 400 0 _ _ _ _ _ ?_
      conv => whnf
      repeat ((first | refine ⟨zG_of _, ?_⟩ | refine ⟨trivial, ?_⟩ | refine ⟨rfl, ?_⟩ | refine ⟨fun hc => absurd hc (by decide), fun _ => ?_⟩ | refine ⟨fun _ => ?_, fun hc => absurd (by decide) hc⟩ | refine ⟨fun _ => ?_, fun hc => absurd hc (by decide)⟩ | refine ⟨fun hc => absurd (by decide) hc, fun _ => ?_⟩); conv => whnf)
      try dsimp only
      refine loop 0 (Nat.zero_le _) _ (fun y hy => by rw [z_up_ne hy, z_up_ne hy]) (bs_up (bs_up hB (by decide)) (by decide)) ?_ ?_
      · rw [z_up_nei (by decide), z_up_eq]
        rfl
      · rw [z_up_eq, ← pk_zero]
        rfl

