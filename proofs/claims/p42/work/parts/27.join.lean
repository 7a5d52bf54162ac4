/-! the first two that become one; all that can be joined -/
def jfB (q : Nat) (A : Nat → Nat → Nat) (c n : Nat) : Bool := decide (n / 120 < n / 3 % 40) && decide (n / 3 % 40 < c) && jB q A (n / 120) (n / 3 % 40) (n % 3)
theorem jf_at {q : Nat} {A : Nat → Nat → Nat} {c i j w : Nat} (hj : j < 40) (hw : w < 3) : jfB q A c (i * 120 + j * 3 + w) = (decide (i < j) && decide (j < c) && jB q A i j w) := by
  unfold jfB
  rw [show (i * 120 + j * 3 + w) / 120 = i by omega, show (i * 120 + j * 3 + w) / 3 % 40 = j by omega, show (i * 120 + j * 3 + w) % 3 = w by omega]
def jf (q : Nat) (A : Nat → Nat → Nat) (c : Nat) : Nat := fi (jfB q A c) 4800
def jfA (q : Nat) (A : Nat → Nat → Nat) (c : Nat) : Nat → Nat → Nat := jnA q A (jf q A c / 120) (jf q A c / 3 % 40) (jf q A c % 3)
theorem jf_far {q : Nat} {A : Nat → Nat → Nat} {c i n : Nat} (h1 : i * 120 ≤ n) (h2 : n < (i + 1) * 120) (h : n / 3 % 40 ≤ i ∨ c ≤ n / 3 % 40) : ¬ jfB q A c n = true := by
  intro k
  unfold jfB at k
  simp only [Bool.and_eq_true, decide_eq_true_eq] at k
  omega
def sp_X4_joinFirst : zSp := fun av w K => match av with
  | [.ref o] => o = 6 ∧ zG w.1 ∧ ∃ d q c A, CS w.2.1 6 d q c A ∧ (¬ jf q A c < 4800 → K (some (.int (nI 0))) w) ∧ (jf q A c < 4800 → ∀ wi' : Nat → Nat → Int32, Fr 6 8 w.2.1 wi' → CS wi' 6 d q (c - 1) (jfA q A c) → K (some (.int (nI 1))) (w.1, wi', w.2.2))
  | _ => False
def rm_X4_joinFirst : Room := { frames := 4, cells := 0, slots := 0, locals := 93 }
def M_X4_joinFirst : zM := (k_X4_joinFirst, f_X4, [(35, 0, 0, 4, 0, 0, sp_X4_joinTwo)], ([], [], []), [], [(2, [true, true, false, false]), (14, [true, true, true, false]), (24, [true, true, true, true])], 2, false, (false, 0, fun _ => 0), (0, 0, []))
theorem ca_X4_joinFirst_0 (l : Launch) : z_cok l RX4 (headSpec (.code yX4_joinFirst cX4_joinFirst 4 (some .boolean) :: zTT) rm_X4_joinFirst).room (false, 0, fun _ => 0) (35, 0, 0, 4, 0, 0, sp_X4_joinTwo) := z_ca0 (c_X4_joinTwo l) mb_X4_joinTwo wt_559 wt_560 (by decide)
theorem O_X4_joinFirst (l : Launch) : z_OK l RX4 cX4_joinFirst (headSpec (.code yX4_joinFirst cX4_joinFirst 4 (some .boolean) :: zTT) rm_X4_joinFirst).room M_X4_joinFirst := ⟨ok_X4_joinFirst, fo_X4, List.forall_mem_cons.mpr ⟨ca_X4_joinFirst_0 l, fun _ h => absurd h List.not_mem_nil⟩, fun _ h => absurd h List.not_mem_nil, fun _ h => absurd h List.not_mem_nil, fun _ h => absurd h List.not_mem_nil, fun _ h => absurd h List.not_mem_nil, rfl, rfl, fun _ h => absurd h List.not_mem_nil⟩
theorem c_X4_joinFirst (l : Launch) : z_CS l yX4_joinFirst cX4_joinFirst 4 (some .boolean) rm_X4_joinFirst sp_X4_joinFirst := by
  refine z_meth (by decide) (Or.inr (Or.inr (Or.inl ⟨rfl, rfl⟩))) (fun h => by cases h) rfl (O_X4_joinFirst l) ?_
  intro av w K h
  match av, h with
  | [.ref o], h =>
    obtain ⟨rfl, ⟨r, hG⟩, d, q, c, A, hS, h0, h1⟩ := h
    obtain ⟨G, wi, wl⟩ := w
    subst hG
    try dsimp only at h0 h1 hS
    have h40 := cs_40 hS
    refine ⟨Nat.le_of_ble_eq_true rfl, fun Jm hs => ?_⟩
    have loop := up_ind (P := fun i => (∀ n, n < i * 120 → ¬ jfB q A c n = true) → Jm 2 [some (.ref 6), some (.int (nI i)), none, none] [] (GC ++ r, wi, wl) 0 0) c (fun i hi ih hno => by
      refine hs 400 2 _ _ _ _ _ ?_
      conv => whnf
      repeat ((first | refine ⟨zG_of _, ?_⟩ | refine ⟨trivial, ?_⟩ | refine ⟨rfl, ?_⟩ | refine ⟨fun hc => absurd hc (by decide), fun _ => ?_⟩ | refine ⟨fun _ => ?_, fun hc => absurd (by decide) hc⟩ | refine ⟨fun _ => ?_, fun hc => absurd hc (by decide)⟩ | refine ⟨fun hc => absurd (by decide) hc, fun _ => ?_⟩); conv => whnf)
      try dsimp only
      rw [cs_c hS, ltN (by omega) (by omega)]
      refine ⟨fun hc => ?_, fun hc => ?_⟩
      · obtain rfl : i = c := by omega
        refine ⟨Or.inl rfl, h0 ?_⟩
        have e : jf q A i = 4800 := fi_none (fun n hn => by
          rcases Nat.lt_or_ge n (i * 120) with h2 | h2
          · exact hno n h2
          · refine jf_far (i := n / 120) (by omega) (by omega) ?_
            omega)
        omega
      · have ihn := ih hc
        have loopj := up_ind (P := fun j => i < j → (∀ n, n < i * 120 + j * 3 → ¬ jfB q A c n = true) → Jm 14 [some (.ref 6), some (.int (nI i)), some (.int (nI j)), none] [] (GC ++ r, wi, wl) 0 0) c (fun j hj ihj hij hno => by
          refine hs 400 14 _ _ _ _ _ ?_
          conv => whnf
          repeat ((first | refine ⟨zG_of _, ?_⟩ | refine ⟨trivial, ?_⟩ | refine ⟨rfl, ?_⟩ | refine ⟨fun hc => absurd hc (by decide), fun _ => ?_⟩ | refine ⟨fun _ => ?_, fun hc => absurd (by decide) hc⟩ | refine ⟨fun _ => ?_, fun hc => absurd hc (by decide)⟩ | refine ⟨fun hc => absurd (by decide) hc, fun _ => ?_⟩); conv => whnf)
          try dsimp only
          rw [cs_c hS, ltN (by omega) (by omega)]
          refine ⟨fun hc2 => ?_, fun hc2 => ?_⟩
          · obtain rfl : j = c := by omega
            conv => whnf
            repeat ((first | refine ⟨zG_of _, ?_⟩ | refine ⟨trivial, ?_⟩ | refine ⟨rfl, ?_⟩ | refine ⟨fun hc => absurd hc (by decide), fun _ => ?_⟩ | refine ⟨fun _ => ?_, fun hc => absurd (by decide) hc⟩ | refine ⟨fun _ => ?_, fun hc => absurd hc (by decide)⟩ | refine ⟨fun hc => absurd (by decide) hc, fun _ => ?_⟩); conv => whnf)
            try dsimp only
            rw [nI_add]
            refine ihn (fun n hn => ?_)
            rcases Nat.lt_or_ge n (i * 120 + j * 3) with h2 | h2
            · exact hno n h2
            · exact jf_far (i := i) (by omega) (by omega) (by omega)
          · have ihjn := ihj hc2
            have loopw := up_ind (P := fun w => (∀ n, n < i * 120 + j * 3 + w → ¬ jfB q A c n = true) → Jm 24 [some (.ref 6), some (.int (nI i)), some (.int (nI j)), some (.int (nI w))] [] (GC ++ r, wi, wl) 0 0) 3 (fun w hw ihw hno => by
              refine hs 400 24 _ _ _ _ _ ?_
              conv => whnf
              repeat ((first | refine ⟨zG_of _, ?_⟩ | refine ⟨trivial, ?_⟩ | refine ⟨rfl, ?_⟩ | refine ⟨fun hc => absurd hc (by decide), fun _ => ?_⟩ | refine ⟨fun _ => ?_, fun hc => absurd (by decide) hc⟩ | refine ⟨fun _ => ?_, fun hc => absurd hc (by decide)⟩ | refine ⟨fun hc => absurd (by decide) hc, fun _ => ?_⟩); conv => whnf)
              try dsimp only
              rw [ltN (by omega) (by omega)]
              refine ⟨fun hc3 => ?_, fun hc3 => ?_⟩
              · obtain rfl : w = 3 := by omega
                conv => whnf
                repeat ((first | refine ⟨zG_of _, ?_⟩ | refine ⟨trivial, ?_⟩ | refine ⟨rfl, ?_⟩ | refine ⟨fun hc => absurd hc (by decide), fun _ => ?_⟩ | refine ⟨fun _ => ?_, fun hc => absurd (by decide) hc⟩ | refine ⟨fun _ => ?_, fun hc => absurd hc (by decide)⟩ | refine ⟨fun hc => absurd (by decide) hc, fun _ => ?_⟩); conv => whnf)
                try dsimp only
                rw [nI_add]
                exact ihjn (by omega) (fun n hn => hno n (by omega))
              · have ihwn := ihw hc3
                have ea := jf_at (q := q) (A := A) (c := c) (i := i) (j := j) (w := w) (by omega) hc3
                rw [decide_eq_true hij, decide_eq_true hc2] at ea
                conv => whnf
                repeat ((first | refine ⟨zG_of _, ?_⟩ | refine ⟨trivial, ?_⟩ | refine ⟨rfl, ?_⟩ | refine ⟨fun hc => absurd hc (by decide), fun _ => ?_⟩ | refine ⟨fun _ => ?_, fun hc => absurd (by decide) hc⟩ | refine ⟨fun _ => ?_, fun hc => absurd hc (by decide)⟩ | refine ⟨fun hc => absurd (by decide) hc, fun _ => ?_⟩); conv => whnf)
                try dsimp only
                refine ⟨d, q, c, A, i, j, w, hS, rfl, hc, rfl, hc2, rfl, hc3, fun hB => ?_, fun hB wi' hF hS' => ?_⟩
                · conv => whnf
                  repeat ((first | refine ⟨zG_of _, ?_⟩ | refine ⟨trivial, ?_⟩ | refine ⟨rfl, ?_⟩ | refine ⟨fun hc => absurd hc (by decide), fun _ => ?_⟩ | refine ⟨fun _ => ?_, fun hc => absurd (by decide) hc⟩ | refine ⟨fun _ => ?_, fun hc => absurd hc (by decide)⟩ | refine ⟨fun hc => absurd (by decide) hc, fun _ => ?_⟩); conv => whnf)
                  try dsimp only
                  rw [nI_add]
                  refine ihwn (fun n hn => ?_)
                  rcases Nat.lt_or_ge n (i * 120 + j * 3 + w) with h2 | h2
                  · exact hno n h2
                  · obtain rfl : n = i * 120 + j * 3 + w := by omega
                    rw [ea]
                    simpa using hB
                · have e : jf q A c = i * 120 + j * 3 + w := fi_at (by omega) (by rw [ea]; simpa using hB) hno
                  conv => whnf
                  repeat ((first | refine ⟨zG_of _, ?_⟩ | refine ⟨trivial, ?_⟩ | refine ⟨rfl, ?_⟩ | refine ⟨fun hc => absurd hc (by decide), fun _ => ?_⟩ | refine ⟨fun _ => ?_, fun hc => absurd (by decide) hc⟩ | refine ⟨fun _ => ?_, fun hc => absurd hc (by decide)⟩ | refine ⟨fun hc => absurd (by decide) hc, fun _ => ?_⟩); conv => whnf)
                  try dsimp only
                  refine ⟨Or.inr rfl, h1 (by omega) wi' hF ?_⟩
                  unfold jfA
                  rw [e, show (i * 120 + j * 3 + w) / 120 = i by omega, show (i * 120 + j * 3 + w) / 3 % 40 = j by omega, show (i * 120 + j * 3 + w) % 3 = w by omega]
                  exact hS')
            conv => whnf
            repeat ((first | refine ⟨zG_of _, ?_⟩ | refine ⟨trivial, ?_⟩ | refine ⟨rfl, ?_⟩ | refine ⟨fun hc => absurd hc (by decide), fun _ => ?_⟩ | refine ⟨fun _ => ?_, fun hc => absurd (by decide) hc⟩ | refine ⟨fun _ => ?_, fun hc => absurd hc (by decide)⟩ | refine ⟨fun hc => absurd (by decide) hc, fun _ => ?_⟩); conv => whnf)
            try dsimp only
            exact loopw 0 (Nat.zero_le _) hno)
        conv => whnf
        repeat ((first | refine ⟨zG_of _, ?_⟩ | refine ⟨trivial, ?_⟩ | refine ⟨rfl, ?_⟩ | refine ⟨fun hc => absurd hc (by decide), fun _ => ?_⟩ | refine ⟨fun _ => ?_, fun hc => absurd (by decide) hc⟩ | refine ⟨fun _ => ?_, fun hc => absurd hc (by decide)⟩ | refine ⟨fun hc => absurd (by decide) hc, fun _ => ?_⟩); conv => whnf)
        try dsimp only
        rw [nI_add]
        refine loopj (i + 1) (by omega) (by omega) (fun n hn => ?_)
        rcases Nat.lt_or_ge n (i * 120) with h2 | h2
        · exact hno n h2
        · exact jf_far (i := i) (by omega) (by omega) (by omega))
    exact hs 400 0 _ _ _ _ _ (loop 0 (Nat.zero_le _) (fun n hn => absurd hn (by omega)))
/-- all joined, in at most n steps: products, forms, how many were zero, were like -/
def jAll (q : Nat) : Nat → Nat × (Nat → Nat → Nat) × Nat × Nat → Nat × (Nat → Nat → Nat) × Nat × Nat
  | 0, S => S
  | n + 1, (c, A, z, l) => if fi (hzB A) c < c then jAll q n (c - 1, rmA A (fi (hzB A) c), z + 1, l) else if jf q A c < 4800 then jAll q n (c - 1, jfA q A c, z, l + 1) else (c, A, z, l)
def Fr3 (a b e : Nat) (wi wi' : Nat → Nat → Int32) : Prop := ∀ x, x ≠ a → x ≠ b → x ≠ e → wi' x = wi x
theorem Fr_3 {a b e : Nat} {wi wi' : Nat → Nat → Int32} (h : Fr a b wi wi') : Fr3 a b e wi wi' := fun x h1 h2 _ => h x h1 h2
theorem Fr3_trans {a b e : Nat} {wi wi' wi2 : Nat → Nat → Int32} (h : Fr3 a b e wi wi') (h2 : Fr3 a b e wi' wi2) : Fr3 a b e wi wi2 := fun x h3 h4 h5 => (h2 x h3 h4 h5).trans (h x h3 h4 h5)
theorem Fr3_up {a b e i : Nat} {v : Int32} {wi : Nat → Nat → Int32} : Fr3 a b e wi (z_up wi e i v) := fun x _ _ h => z_up_ne h
def sp_X4_join : zSp := fun av w K => match av with
  | [.ref o, .ref o2] => o = 18 ∧ o2 = 6 ∧ zG w.1 ∧ ∃ d q c A, CS w.2.1 6 d q c A ∧ ∀ wi' : Nat → Nat → Int32, Fr3 6 8 18 w.2.1 wi' → CS wi' 6 d q (jAll q 40 (c, A, 0, 0)).1 (jAll q 40 (c, A, 0, 0)).2.1 → wi' 18 0 = nI (jAll q 40 (c, A, 0, 0)).2.2.1 → wi' 18 1 = nI (jAll q 40 (c, A, 0, 0)).2.2.2 → K none (w.1, wi', w.2.2)
  | _ => False
def rm_X4_join : Room := { frames := 5, cells := 0, slots := 0, locals := 116 }
def M_X4_join : zM := (k_X4_join, f_X4, [(18, 4, 5, 1, 0, 0, sp_X6_firstZero), (24, 4, 5, 2, 0, 0, sp_X6_remove), (28, 0, 0, 1, 0, 0, sp_X4_joinFirst)], ([], [], []), [], [(12, [true, true, true, false])], 0, false, (false, 0, fun _ => 0), (0, 0, []))
theorem ca_X4_join_0 (l : Launch) : z_cok l RX4 (headSpec (.code yX4_join cX4_join 4 none :: zTT) rm_X4_join).room (false, 0, fun _ => 0) (18, 4, 5, 1, 0, 0, sp_X6_firstZero) := z_ca4 (c_X6_firstZero l) mb_X6_firstZero ⟨_, rfl, rfl⟩ wt_551 wt_552 wt_553 (by decide)
theorem ca_X4_join_1 (l : Launch) : z_cok l RX4 (headSpec (.code yX4_join cX4_join 4 none :: zTT) rm_X4_join).room (false, 0, fun _ => 0) (24, 4, 5, 2, 0, 0, sp_X6_remove) := z_ca4 (c_X6_remove l) mb_X6_remove ⟨_, rfl, rfl⟩ wt_555 wt_421 wt_422 (by decide)
theorem ca_X4_join_2 (l : Launch) : z_cok l RX4 (headSpec (.code yX4_join cX4_join 4 none :: zTT) rm_X4_join).room (false, 0, fun _ => 0) (28, 0, 0, 1, 0, 0, sp_X4_joinFirst) := z_ca0 (c_X4_joinFirst l) mb_X4_joinFirst wt_556 wt_557 (by decide)
theorem O_X4_join (l : Launch) : z_OK l RX4 cX4_join (headSpec (.code yX4_join cX4_join 4 none :: zTT) rm_X4_join).room M_X4_join := ⟨ok_X4_join, fo_X4, List.forall_mem_cons.mpr ⟨ca_X4_join_0 l, List.forall_mem_cons.mpr ⟨ca_X4_join_1 l, List.forall_mem_cons.mpr ⟨ca_X4_join_2 l, fun _ h => absurd h List.not_mem_nil⟩⟩⟩, fun _ h => absurd h List.not_mem_nil, fun _ h => absurd h List.not_mem_nil, fun _ h => absurd h List.not_mem_nil, fun _ h => absurd h List.not_mem_nil, rfl, rfl, fun _ h => absurd h List.not_mem_nil⟩
theorem c_X4_join (l : Launch) : z_CS l yX4_join cX4_join 4 none rm_X4_join sp_X4_join := by
  refine z_meth (by decide) (Or.inl ⟨rfl, rfl⟩) (fun h => by cases h) rfl (O_X4_join l) ?_
  intro av w K h
  match av, h with
  | [.ref o, .ref o2], h =>
    obtain ⟨rfl, rfl, ⟨r, hG⟩, d, q, c, A, hS, h⟩ := h
    obtain ⟨G, wi, wl⟩ := w
    subst hG
    try dsimp only at h hS
    generalize hT : jAll q 40 (c, A, 0, 0) = T at h
    refine ⟨Nat.le_of_ble_eq_true rfl, fun Jm hs => ?_⟩
    have loop := up_ind (P := fun k => ∀ (wi' : Nat → Nat → Int32) (c' : Nat) (A' : Nat → Nat → Nat) (z l : Nat), Fr3 6 8 18 wi wi' → CS wi' 6 d q c' A' → wi' 18 0 = nI z → wi' 18 1 = nI l → jAll q (40 - k) (c', A', z, l) = T → Jm 12 [some (.ref 18), some (.ref 6), some (.int (nI k)), none] [] (GC ++ r, wi', wl) 0 0) 40 (fun k hk ih => by
      intro wi' c' A' z l hF hS' hz hl hT'
      refine hs 400 12 _ _ _ _ _ ?_
      conv => whnf
      repeat ((first | refine ⟨zG_of _, ?_⟩ | refine ⟨trivial, ?_⟩ | refine ⟨rfl, ?_⟩ | refine ⟨fun hc => absurd hc (by decide), fun _ => ?_⟩ | refine ⟨fun _ => ?_, fun hc => absurd (by decide) hc⟩ | refine ⟨fun _ => ?_, fun hc => absurd hc (by decide)⟩ | refine ⟨fun hc => absurd (by decide) hc, fun _ => ?_⟩); conv => whnf)
      try dsimp only
      rw [ltN (by omega) (by omega)]
      refine ⟨fun hc => ?_, fun hc => ?_⟩
      · obtain rfl : k = 40 := by omega
        have e : (c', A', z, l) = T := hT'
        subst e
        exact h wi' hF hS' hz hl
      · have ihn := ih hc
        have h40 := cs_40 hS'
        rw [show 40 - k = 40 - (k + 1) + 1 by omega, jAll] at hT'
        conv => whnf
        repeat ((first | refine ⟨zG_of _, ?_⟩ | refine ⟨trivial, ?_⟩ | refine ⟨rfl, ?_⟩ | refine ⟨fun hc => absurd hc (by decide), fun _ => ?_⟩ | refine ⟨fun _ => ?_, fun hc => absurd (by decide) hc⟩ | refine ⟨fun _ => ?_, fun hc => absurd hc (by decide)⟩ | refine ⟨fun hc => absurd (by decide) hc, fun _ => ?_⟩); conv => whnf)
        try dsimp only
        refine ⟨d, q, c', A', hS', ?_⟩
        conv => whnf
        repeat ((first | refine ⟨zG_of _, ?_⟩ | refine ⟨trivial, ?_⟩ | refine ⟨rfl, ?_⟩ | refine ⟨fun hc => absurd hc (by decide), fun _ => ?_⟩ | refine ⟨fun _ => ?_, fun hc => absurd (by decide) hc⟩ | refine ⟨fun _ => ?_, fun hc => absurd hc (by decide)⟩ | refine ⟨fun hc => absurd (by decide) hc, fun _ => ?_⟩); conv => whnf)
        try dsimp only
        by_cases h0 : fi (hzB A') c' < c'
        · rw [if_pos h0] at hT'
          have e : nO (hzB A') c' = nI (fi (hzB A') c') := if_pos h0
          rw [e]
          refine ⟨fun q => absurd q (nI_nlt (Nat.zero_le _) (by omega)), fun _ => ?_⟩
          conv => whnf
          repeat ((first | refine ⟨zG_of _, ?_⟩ | refine ⟨trivial, ?_⟩ | refine ⟨rfl, ?_⟩ | refine ⟨fun hc => absurd hc (by decide), fun _ => ?_⟩ | refine ⟨fun _ => ?_, fun hc => absurd (by decide) hc⟩ | refine ⟨fun _ => ?_, fun hc => absurd hc (by decide)⟩ | refine ⟨fun hc => absurd (by decide) hc, fun _ => ?_⟩); conv => whnf)
          try dsimp only
          refine ⟨d, q, c', A', _, hS', rfl, h0, fun wi2 hF2 hS2 => ?_⟩
          conv => whnf
          repeat ((first | refine ⟨zG_of _, ?_⟩ | refine ⟨trivial, ?_⟩ | refine ⟨rfl, ?_⟩ | refine ⟨fun hc => absurd hc (by decide), fun _ => ?_⟩ | refine ⟨fun _ => ?_, fun hc => absurd (by decide) hc⟩ | refine ⟨fun _ => ?_, fun hc => absurd hc (by decide)⟩ | refine ⟨fun hc => absurd (by decide) hc, fun _ => ?_⟩); conv => whnf)
          try dsimp only
          have e18 : wi2 18 = wi' 18 := hF2 18 (by decide) (by decide)
          rw [nI_add]
          refine ihn _ _ _ (z + 1) l (Fr3_trans (Fr3_trans hF (Fr_3 hF2)) Fr3_up) (cs_fr hS2 (z_up_ne (by decide)) (z_up_ne (by decide))) ?_ ?_ hT'
          · rw [z_up_eq, e18, hz, nI_add]
          · rw [z_up_nei (by decide), e18, hl]
        · rw [if_neg h0] at hT'
          have e : nO (hzB A') c' = mI 1 := if_neg h0
          rw [e]
          refine ⟨fun _ => ?_, fun q => absurd (by decide) q⟩
          conv => whnf
          repeat ((first | refine ⟨zG_of _, ?_⟩ | refine ⟨trivial, ?_⟩ | refine ⟨rfl, ?_⟩ | refine ⟨fun hc => absurd hc (by decide), fun _ => ?_⟩ | refine ⟨fun _ => ?_, fun hc => absurd (by decide) hc⟩ | refine ⟨fun _ => ?_, fun hc => absurd hc (by decide)⟩ | refine ⟨fun hc => absurd (by decide) hc, fun _ => ?_⟩); conv => whnf)
          try dsimp only
          refine ⟨d, q, c', A', hS', fun h1 => ?_, fun h1 wi2 hF2 hS2 => ?_⟩
          · rw [if_neg h1] at hT'
            subst hT'
            conv => whnf
            repeat ((first | refine ⟨zG_of _, ?_⟩ | refine ⟨trivial, ?_⟩ | refine ⟨rfl, ?_⟩ | refine ⟨fun hc => absurd hc (by decide), fun _ => ?_⟩ | refine ⟨fun _ => ?_, fun hc => absurd (by decide) hc⟩ | refine ⟨fun _ => ?_, fun hc => absurd hc (by decide)⟩ | refine ⟨fun hc => absurd (by decide) hc, fun _ => ?_⟩); conv => whnf)
            try dsimp only
            exact h wi' hF hS' hz hl
          · rw [if_pos h1] at hT'
            conv => whnf
            repeat ((first | refine ⟨zG_of _, ?_⟩ | refine ⟨trivial, ?_⟩ | refine ⟨rfl, ?_⟩ | refine ⟨fun hc => absurd hc (by decide), fun _ => ?_⟩ | refine ⟨fun _ => ?_, fun hc => absurd (by decide) hc⟩ | refine ⟨fun _ => ?_, fun hc => absurd hc (by decide)⟩ | refine ⟨fun hc => absurd (by decide) hc, fun _ => ?_⟩); conv => whnf)
            try dsimp only
            have e18 : wi2 18 = wi' 18 := hF2 18 (by decide) (by decide)
            rw [nI_add]
            refine ihn _ _ _ z (l + 1) (Fr3_trans (Fr3_trans hF (Fr_3 hF2)) Fr3_up) (cs_fr hS2 (z_up_ne (by decide)) (z_up_ne (by decide))) ?_ ?_ hT'
            · rw [z_up_nei (by decide), e18, hz]
            · rw [z_up_eq, e18, hl, nI_add])
    refine hs 400 0 _ _ _ _ _ ?_
    conv => whnf
    repeat ((first | refine ⟨zG_of _, ?_⟩ | refine ⟨trivial, ?_⟩ | refine ⟨rfl, ?_⟩ | refine ⟨fun hc => absurd hc (by decide), fun _ => ?_⟩ | refine ⟨fun _ => ?_, fun hc => absurd (by decide) hc⟩ | refine ⟨fun _ => ?_, fun hc => absurd hc (by decide)⟩ | refine ⟨fun hc => absurd (by decide) hc, fun _ => ?_⟩); conv => whnf)
    try dsimp only
    refine loop 0 (Nat.zero_le _) _ c A 0 0 (Fr3_trans Fr3_up Fr3_up) (cs_fr hS ?_ ?_) ?_ ?_ hT
    · rw [z_up_ne (by decide), z_up_ne (by decide)]
    · rw [z_up_ne (by decide), z_up_ne (by decide)]
    · rw [z_up_nei (by decide), z_up_eq]
    · rw [z_up_eq]

