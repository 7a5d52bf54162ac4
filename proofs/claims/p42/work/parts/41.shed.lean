/-! the first product that is shed -/
def uN (w : Nat) : Nat → Nat
  | 0 => w
  | b + 1 => nx (uN w b)
theorem uN_lt {w : Nat} (h : w < 3) : ∀ b, uN w b < 3
  | 0 => h
  | _ + 1 => nx_lt _
theorem uN_v : ∀ w, w < 3 → ∀ b, b < 3 → 1 ≤ b → nI 3 - nI w - nI (uN w b) = nI (uN w (3 - b)) := by decide
def sfB (q : Nat) (A : Nat → Nat → Nat) (c m : Nat) : Bool := decide (m % 40 < c) && !hzB A (m % 40) && zB (rest q (saL q A (m / 80) (uN (m / 80) (m / 40 % 2 + 1)) (m % 40) (m % 40)).1 (A (3 * (m % 40) + uN (m / 80) (m / 40 % 2 + 1))))
def sf (q : Nat) (A : Nat → Nat → Nat) (c : Nat) : Nat := fi (sfB q A c) 240
def sfX (q : Nat) (A : Nat → Nat → Nat) (w b j : Nat) : Nat → Nat → Nat := rmA (shX q A (uN w (3 - b)) j (saL q A w (uN w b) j j).2 (parts q (saL q A w (uN w b) j j).1 (A (3 * j + uN w b))) (saL q A w (uN w b) j j).1.1) j
def sfA (q : Nat) (A : Nat → Nat → Nat) (c : Nat) : Nat → Nat → Nat := sfX q A (sf q A c / 80) (sf q A c / 40 % 2 + 1) (sf q A c % 40)
theorem sf_at {q : Nat} {A : Nat → Nat → Nat} {c w b j : Nat} (hj : j < 40) (hb : 1 ≤ b) (hb3 : b < 3) : sfB q A c (w * 80 + (b - 1) * 40 + j) = (decide (j < c) && !hzB A j && zB (rest q (saL q A w (uN w b) j j).1 (A (3 * j + uN w b)))) := by
  unfold sfB
  rw [show (w * 80 + (b - 1) * 40 + j) / 80 = w by omega, show (w * 80 + (b - 1) * 40 + j) / 40 % 2 + 1 = b by omega, show (w * 80 + (b - 1) * 40 + j) % 40 = j by omega]
theorem sf_far {q : Nat} {A : Nat → Nat → Nat} {c n : Nat} (h : c ≤ n % 40) : ¬ sfB q A c n = true := by
  intro k
  unfold sfB at k
  simp only [Bool.and_eq_true, decide_eq_true_eq] at k
  omega
def FX (wi wi' : Nat → Nat → Int32) : Prop := ∀ y, ¬ y = 6 → ¬ y = 8 → ¬ (20 ≤ y ∧ y ≤ 30) → wi' y = wi y
def sp_X7_shedFirst : zSp := fun av w K => match av with
  | [.ref o, .ref o2] => o = 19 ∧ o2 = 6 ∧ zG w.1 ∧ ∃ d q c A W, CS w.2.1 6 d q c A ∧ (∀ t, t < 3 → w.2.1 30 t = nI (W t)) ∧ (¬ sf q A c < 240 → ∀ wi' : Nat → Nat → Int32, FB w.2.1 wi' → K (some (.int (nI 0))) (w.1, wi', w.2.2)) ∧ (sf q A c < 240 → ∀ wi' : Nat → Nat → Int32, FX w.2.1 wi' → CS wi' 6 d q (c - 1) (sfA q A c) → (∀ t, t < 3 → wi' 30 t = nI (setp W (sf q A c / 80) (W (sf q A c / 80) + 1) t)) → K (some (.int (nI 1))) (w.1, wi', w.2.2))
  | _ => False
def rm_X7_shedFirst : Room := { frames := 5, cells := 0, slots := 0, locals := 122 }
def M_X7_shedFirst : zM := (k_X7_shedFirst, f_X7, [(30, 2, 0, 1, 0, 0, sp_X11_behind), (40, 4, 5, 2, 0, 0, sp_X6_hasZero), (44, 4, 6, 5, 0, 0, sp_X7_isSumOfAhead), (48, 4, 6, 4, 0, 0, sp_X7_share), (52, 4, 5, 2, 0, 0, sp_X6_remove), (55, 4, 2, 2, 0, 0, sp_X3_at), (58, 4, 2, 3, 0, 0, sp_X3_put)], ([], [], []), [], [(2, [true, true, true, false, false, false]), (12, [true, true, true, true, true, false]), (26, [true, true, true, true, true, true])], 2, false, (false, 0, fun _ => 0), (0, 0, []))
theorem ca_X7_shedFirst_0 (l : Launch) : z_cok l RX7 (headSpec (.code yX7_shedFirst cX7_shedFirst 6 (some .boolean) :: zTT) rm_X7_shedFirst).room (false, 0, fun _ => 0) (30, 2, 0, 1, 0, 0, sp_X11_behind) := z_ca2 (host := "FewProducts") (c_X11_behind l) mb_X11_behind (by decide +kernel) wt_386 (by decide)
theorem ca_X7_shedFirst_1 (l : Launch) : z_cok l RX7 (headSpec (.code yX7_shedFirst cX7_shedFirst 6 (some .boolean) :: zTT) rm_X7_shedFirst).room (false, 0, fun _ => 0) (40, 4, 5, 2, 0, 0, sp_X6_hasZero) := z_ca4 (c_X6_hasZero l) mb_X6_hasZero ⟨_, rfl, rfl⟩ wt_581 wt_540 wt_541 (by decide)
theorem ca_X7_shedFirst_2 (l : Launch) : z_cok l RX7 (headSpec (.code yX7_shedFirst cX7_shedFirst 6 (some .boolean) :: zTT) rm_X7_shedFirst).room (false, 0, fun _ => 0) (44, 4, 6, 5, 0, 0, sp_X7_isSumOfAhead) := z_ca4 (c_X7_isSumOfAhead l) mb_X7_isSumOfAhead ⟨_, rfl, rfl⟩ wt_582 wt_584 wt_10 (by decide)
theorem ca_X7_shedFirst_3 (l : Launch) : z_cok l RX7 (headSpec (.code yX7_shedFirst cX7_shedFirst 6 (some .boolean) :: zTT) rm_X7_shedFirst).room (false, 0, fun _ => 0) (48, 4, 6, 4, 0, 0, sp_X7_share) := z_ca4 (c_X7_share l) mb_X7_share ⟨_, rfl, rfl⟩ wt_616 wt_618 wt_12 (by decide)
theorem ca_X7_shedFirst_4 (l : Launch) : z_cok l RX7 (headSpec (.code yX7_shedFirst cX7_shedFirst 6 (some .boolean) :: zTT) rm_X7_shedFirst).room (false, 0, fun _ => 0) (52, 4, 5, 2, 0, 0, sp_X6_remove) := z_ca4 (c_X6_remove l) mb_X6_remove ⟨_, rfl, rfl⟩ wt_624 wt_421 wt_422 (by decide)
theorem ca_X7_shedFirst_5 (l : Launch) : z_cok l RX7 (headSpec (.code yX7_shedFirst cX7_shedFirst 6 (some .boolean) :: zTT) rm_X7_shedFirst).room (false, 0, fun _ => 0) (55, 4, 2, 2, 0, 0, sp_X3_at) := z_ca4 (c_X3_at l) mb_X3_at ⟨_, rfl, rfl⟩ wt_621 wt_366 wt_367 (by decide)
theorem ca_X7_shedFirst_6 (l : Launch) : z_cok l RX7 (headSpec (.code yX7_shedFirst cX7_shedFirst 6 (some .boolean) :: zTT) rm_X7_shedFirst).room (false, 0, fun _ => 0) (58, 4, 2, 3, 0, 0, sp_X3_put) := z_ca4 (c_X3_put l) mb_X3_put ⟨_, rfl, rfl⟩ wt_611 wt_293 wt_294 (by decide)
theorem O_X7_shedFirst (l : Launch) : z_OK l RX7 cX7_shedFirst (headSpec (.code yX7_shedFirst cX7_shedFirst 6 (some .boolean) :: zTT) rm_X7_shedFirst).room M_X7_shedFirst := ⟨ok_X7_shedFirst, fo_X7, List.forall_mem_cons.mpr ⟨ca_X7_shedFirst_0 l, List.forall_mem_cons.mpr ⟨ca_X7_shedFirst_1 l, List.forall_mem_cons.mpr ⟨ca_X7_shedFirst_2 l, List.forall_mem_cons.mpr ⟨ca_X7_shedFirst_3 l, List.forall_mem_cons.mpr ⟨ca_X7_shedFirst_4 l, List.forall_mem_cons.mpr ⟨ca_X7_shedFirst_5 l, List.forall_mem_cons.mpr ⟨ca_X7_shedFirst_6 l, fun _ h => absurd h List.not_mem_nil⟩⟩⟩⟩⟩⟩⟩, fun _ h => absurd h List.not_mem_nil, fun _ h => absurd h List.not_mem_nil, fun _ h => absurd h List.not_mem_nil, fun _ h => absurd h List.not_mem_nil, rfl, rfl, fun _ h => absurd h List.not_mem_nil⟩
theorem c_X7_shedFirst (l : Launch) : z_CS l yX7_shedFirst cX7_shedFirst 6 (some .boolean) rm_X7_shedFirst sp_X7_shedFirst := by
  refine z_meth (by decide) (Or.inr (Or.inr (Or.inl ⟨rfl, rfl⟩))) (fun h => by cases h) rfl (O_X7_shedFirst l) ?_
  intro av w K h
  match av, h with
  | [.ref o, .ref o2], h =>
    obtain ⟨rfl, rfl, ⟨r, hG⟩, d, q, c, A, W, hS, hW, h0, h1⟩ := h
    obtain ⟨G, wi, wl⟩ := w
    subst hG
    try dsimp only at h0 h1 hS hW
    have h40 := cs_40 hS
    have q23 := cs_q23 hS
    refine ⟨Nat.le_of_ble_eq_true rfl, fun Jm hs => ?_⟩
    have loop := up_ind (P := fun w => ∀ wi' : Nat → Nat → Int32, FB wi wi' → (∀ n, n < w * 80 → ¬ sfB q A c n = true) → Jm 2 [some (.ref 19), some (.ref 6), some (.int (nI w)), none, none, none] [] (GC ++ r, wi', wl) 0 0) 3 (fun w hw ih => by
      intro wi' hF hno
      refine hs 400 2 _ _ _ _ _ ?_
      conv => whnf
      repeat ((first | refine ⟨zG_of _, ?_⟩ | refine ⟨trivial, ?_⟩ | refine ⟨rfl, ?_⟩ | refine ⟨fun hc => absurd hc (by decide), fun _ => ?_⟩ | refine ⟨fun _ => ?_, fun hc => absurd (by decide) hc⟩ | refine ⟨fun _ => ?_, fun hc => absurd hc (by decide)⟩ | refine ⟨fun hc => absurd (by decide) hc, fun _ => ?_⟩); conv => whnf)
      try dsimp only
      rw [ltN (by omega) (by omega)]
      refine ⟨fun hc => ?_, fun hc => ?_⟩
      · have e : sf q A c = 240 := fi_none (fun n hn => hno n (by omega))
        exact ⟨Or.inl rfl, h0 (by omega) wi' hF⟩
      · have ihn := ih hc
        have loopb := up_ind (P := fun b => 1 ≤ b → ∀ wi' : Nat → Nat → Int32, FB wi wi' → (∀ n, n < w * 80 + (b - 1) * 40 → ¬ sfB q A c n = true) → Jm 12 [some (.ref 19), some (.ref 6), some (.int (nI w)), some (.int (nI (uN w (b - 1)))), some (.int (nI b)), none] [] (GC ++ r, wi', wl) 0 0) 3 (fun b hb ihb => by
          intro hb1 wi' hF hno
          refine hs 400 12 _ _ _ _ _ ?_
          conv => whnf
          repeat ((first | refine ⟨zG_of _, ?_⟩ | refine ⟨trivial, ?_⟩ | refine ⟨rfl, ?_⟩ | refine ⟨fun hc => absurd hc (by decide), fun _ => ?_⟩ | refine ⟨fun _ => ?_, fun hc => absurd (by decide) hc⟩ | refine ⟨fun _ => ?_, fun hc => absurd hc (by decide)⟩ | refine ⟨fun hc => absurd (by decide) hc, fun _ => ?_⟩); conv => whnf)
          try dsimp only
          rw [ltN (by omega) (by omega)]
          refine ⟨fun hc2 => ?_, fun hc2 => ?_⟩
          · conv => whnf
            repeat ((first | refine ⟨zG_of _, ?_⟩ | refine ⟨trivial, ?_⟩ | refine ⟨rfl, ?_⟩ | refine ⟨fun hc => absurd hc (by decide), fun _ => ?_⟩ | refine ⟨fun _ => ?_, fun hc => absurd (by decide) hc⟩ | refine ⟨fun _ => ?_, fun hc => absurd hc (by decide)⟩ | refine ⟨fun hc => absurd (by decide) hc, fun _ => ?_⟩); conv => whnf)
            try dsimp only
            rw [nI_add]
            exact ihn wi' hF (fun n hn => hno n (by omega))
          · have ihbn := ihb hc2 (by omega)
            rw [show b + 1 - 1 = b by omega] at ihbn
            have eu : behF (nI (uN w (b - 1))) = nI (uN w b) := by
              rw [beh_nx (uN_lt hc _)]
              rw [show b = (b - 1) + 1 by omega]
              rfl
            have loopj := up_ind (P := fun j => ∀ wi' : Nat → Nat → Int32, FB wi wi' → (∀ n, n < w * 80 + (b - 1) * 40 + j → ¬ sfB q A c n = true) → Jm 26 [some (.ref 19), some (.ref 6), some (.int (nI w)), some (.int (nI (uN w b))), some (.int (nI b)), some (.int (nI j))] [] (GC ++ r, wi', wl) 0 0) c (fun j hj ihj => by
              intro wi' hF hno
              have hS' : CS wi' 6 d q c A := cs_fr hS (hF 6 (by omega)) (hF 8 (by omega))
              refine hs 400 26 _ _ _ _ _ ?_
              conv => whnf
              repeat ((first | refine ⟨zG_of _, ?_⟩ | refine ⟨trivial, ?_⟩ | refine ⟨rfl, ?_⟩ | refine ⟨fun hc => absurd hc (by decide), fun _ => ?_⟩ | refine ⟨fun _ => ?_, fun hc => absurd (by decide) hc⟩ | refine ⟨fun _ => ?_, fun hc => absurd hc (by decide)⟩ | refine ⟨fun hc => absurd (by decide) hc, fun _ => ?_⟩); conv => whnf)
              try dsimp only
              rw [cs_c hS', ltN (by omega) (by omega)]
              refine ⟨fun hc3 => ?_, fun hc3 => ?_⟩
              · conv => whnf
                repeat ((first | refine ⟨zG_of _, ?_⟩ | refine ⟨trivial, ?_⟩ | refine ⟨rfl, ?_⟩ | refine ⟨fun hc => absurd hc (by decide), fun _ => ?_⟩ | refine ⟨fun _ => ?_, fun hc => absurd (by decide) hc⟩ | refine ⟨fun _ => ?_, fun hc => absurd hc (by decide)⟩ | refine ⟨fun hc => absurd (by decide) hc, fun _ => ?_⟩); conv => whnf)
                try dsimp only
                rw [nI_add]
                refine ihbn wi' hF (fun n hn => ?_)
                rcases Nat.lt_or_ge n (w * 80 + (b - 1) * 40 + j) with g | g
                · exact hno n g
                · exact sf_far (by omega)
              · have ihjn := ihj hc3
                have ea := sf_at (q := q) (A := A) (c := c) (w := w) (b := b) (j := j) (by omega) hb1 hc2
                have skip : ¬ sfB q A c (w * 80 + (b - 1) * 40 + j) = true → ∀ wi1 : Nat → Nat → Int32, FB wi wi1 → Jm 26 [some (.ref 19), some (.ref 6), some (.int (nI w)), some (.int (nI (uN w b))), some (.int (nI b)), some (.int (nI (j + 1)))] [] (GC ++ r, wi1, wl) 0 0 := fun hn wi1 hF1 => ihjn wi1 hF1 (fun n hn2 => by
                  rcases Nat.lt_or_ge n (w * 80 + (b - 1) * 40 + j) with g | g
                  · exact hno n g
                  · rw [show n = w * 80 + (b - 1) * 40 + j by omega]
                    exact hn)
                conv => whnf
                repeat ((first | refine ⟨zG_of _, ?_⟩ | refine ⟨trivial, ?_⟩ | refine ⟨rfl, ?_⟩ | refine ⟨fun hc => absurd hc (by decide), fun _ => ?_⟩ | refine ⟨fun _ => ?_, fun hc => absurd (by decide) hc⟩ | refine ⟨fun _ => ?_, fun hc => absurd hc (by decide)⟩ | refine ⟨fun hc => absurd (by decide) hc, fun _ => ?_⟩); conv => whnf)
                try dsimp only
                rw [hz_S hS' hc3, bI_0]
                refine ⟨fun hz => ?_, fun hz => ?_⟩
                · conv => whnf
                  repeat ((first | refine ⟨zG_of _, ?_⟩ | refine ⟨trivial, ?_⟩ | refine ⟨rfl, ?_⟩ | refine ⟨fun hc => absurd hc (by decide), fun _ => ?_⟩ | refine ⟨fun _ => ?_, fun hc => absurd (by decide) hc⟩ | refine ⟨fun _ => ?_, fun hc => absurd hc (by decide)⟩ | refine ⟨fun hc => absurd (by decide) hc, fun _ => ?_⟩); conv => whnf)
                  try dsimp only
                  rw [nI_add]
                  exact skip (by rw [ea]; simp [Classical.not_not.mp hz]) wi' hF
                · have hz' : hzB A j = false := by simpa using hz
                  conv => whnf
                  repeat ((first | refine ⟨zG_of _, ?_⟩ | refine ⟨trivial, ?_⟩ | refine ⟨rfl, ?_⟩ | refine ⟨fun hc => absurd hc (by decide), fun _ => ?_⟩ | refine ⟨fun _ => ?_, fun hc => absurd (by decide) hc⟩ | refine ⟨fun _ => ?_, fun hc => absurd hc (by decide)⟩ | refine ⟨fun hc => absurd (by decide) hc, fun _ => ?_⟩); conv => whnf)
                  try dsimp only
                  refine ⟨d, q, c, A, w, uN w b, j, hS', rfl, hc, rfl, uN_lt hc b, rfl, hc3, fun wi1 hF1 hB1 hT1 h6 => ?_⟩
                  have hF2 := FB_trans hF hF1
                  have hS1 : CS wi1 6 d q c A := cs_fr hS (hF2 6 (by omega)) (hF2 8 (by omega))
                  conv => whnf
                  repeat ((first | refine ⟨zG_of _, ?_⟩ | refine ⟨trivial, ?_⟩ | refine ⟨rfl, ?_⟩ | refine ⟨fun hc => absurd hc (by decide), fun _ => ?_⟩ | refine ⟨fun _ => ?_, fun hc => absurd (by decide) hc⟩ | refine ⟨fun _ => ?_, fun hc => absurd hc (by decide)⟩ | refine ⟨fun hc => absurd (by decide) hc, fun _ => ?_⟩); conv => whnf)
                  try dsimp only
                  rw [bI_0]
                  refine ⟨fun hq => ?_, fun hq => ?_⟩
                  · conv => whnf
                    repeat ((first | refine ⟨zG_of _, ?_⟩ | refine ⟨trivial, ?_⟩ | refine ⟨rfl, ?_⟩ | refine ⟨fun hc => absurd hc (by decide), fun _ => ?_⟩ | refine ⟨fun _ => ?_, fun hc => absurd (by decide) hc⟩ | refine ⟨fun _ => ?_, fun hc => absurd hc (by decide)⟩ | refine ⟨fun hc => absurd (by decide) hc, fun _ => ?_⟩); conv => whnf)
                    try dsimp only
                    rw [nI_add]
                    exact skip (by rw [ea]; simp [hq]) wi1 hF2
                  · have hq := Classical.not_not.mp hq
                    have em : sf q A c = w * 80 + (b - 1) * 40 + j := fi_at (by omega) (by rw [ea]; simp [hc3, hz', hq]) hno
                    have h1 := h1 (by omega)
                    have e1 : sf q A c / 80 = w := by omega
                    have e2 : sf q A c / 40 % 2 + 1 = b := by omega
                    have e3 : sf q A c % 40 = j := by omega
                    unfold sfA at h1
                    rw [e1, e2, e3] at h1
                    have pq := (rdB_lt q23 (saL q A w (uN w b) j j).1 (cs_A hS (3 * j + uN w b) (by have := uN_lt hc b; omega)) (saL q A w (uN w b) j j).1.1).2
                    conv => whnf
                    repeat ((first | refine ⟨zG_of _, ?_⟩ | refine ⟨trivial, ?_⟩ | refine ⟨rfl, ?_⟩ | refine ⟨fun hc => absurd hc (by decide), fun _ => ?_⟩ | refine ⟨fun _ => ?_, fun hc => absurd (by decide) hc⟩ | refine ⟨fun _ => ?_, fun hc => absurd hc (by decide)⟩ | refine ⟨fun hc => absurd (by decide) hc, fun _ => ?_⟩); conv => whnf)
                    try dsimp only
                    rw [uN_v w hc b hc2 hb1]
                    refine ⟨d, q, c, A, uN w (3 - b), j, _, _, _, hS1, rfl, uN_lt hc _, rfl, hc3, hB1.1.2, hB1.2.2.1, h6, pq, fun m hm => ⟨hT1 m hm, by have := saL_T q A w (uN w b) j j m hm; omega⟩, fun wi2 hF3 hS2 => ?_⟩
                    conv => whnf
                    repeat ((first | refine ⟨zG_of _, ?_⟩ | refine ⟨trivial, ?_⟩ | refine ⟨rfl, ?_⟩ | refine ⟨fun hc => absurd hc (by decide), fun _ => ?_⟩ | refine ⟨fun _ => ?_, fun hc => absurd (by decide) hc⟩ | refine ⟨fun _ => ?_, fun hc => absurd hc (by decide)⟩ | refine ⟨fun hc => absurd (by decide) hc, fun _ => ?_⟩); conv => whnf)
                    try dsimp only
                    refine ⟨d, q, c, _, j, hS2, rfl, hc3, fun wi3 hF4 hS3 => ?_⟩
                    have w30 : wi3 30 = wi 30 := by rw [hF4 30 (by decide) (by decide), hF3 30 (by decide) (by decide), hF2 30 (by omega)]
                    have ep : putF wi3 30 3 (nI w) (atF (wi3 30) 3 (nI w) + nI 1) = z_up wi3 30 w (nI (W w + 1)) := by
                      rw [putF_in hc (by decide), atF_in hc (by decide), w30, hW w hc, nI_add]
                    conv => whnf
                    repeat ((first | refine ⟨zG_of _, ?_⟩ | refine ⟨trivial, ?_⟩ | refine ⟨rfl, ?_⟩ | refine ⟨fun hc => absurd hc (by decide), fun _ => ?_⟩ | refine ⟨fun _ => ?_, fun hc => absurd (by decide) hc⟩ | refine ⟨fun _ => ?_, fun hc => absurd hc (by decide)⟩ | refine ⟨fun hc => absurd (by decide) hc, fun _ => ?_⟩); conv => whnf)
                    try dsimp only
                    rw [ep]
                    refine ⟨Or.inr rfl, h1 _ (fun y g1 g2 g3 => ?_) (cs_fr hS3 (z_up_ne (by decide)) (z_up_ne (by decide))) (fun t ht => ?_)⟩
                    · rw [z_up_ne (by omega), hF4 y g1 g2, hF3 y g1 g2, hF2 y (by omega)]
                    · unfold setp
                      by_cases e : t = w
                      · subst e
                        rw [z_up_eq, if_pos rfl]
                      · rw [z_up_nei e, if_neg e, w30]
                        exact hW t ht)
            conv => whnf
            repeat ((first | refine ⟨zG_of _, ?_⟩ | refine ⟨trivial, ?_⟩ | refine ⟨rfl, ?_⟩ | refine ⟨fun hc => absurd hc (by decide), fun _ => ?_⟩ | refine ⟨fun _ => ?_, fun hc => absurd (by decide) hc⟩ | refine ⟨fun _ => ?_, fun hc => absurd hc (by decide)⟩ | refine ⟨fun hc => absurd (by decide) hc, fun _ => ?_⟩); conv => whnf)
            try dsimp only
            rw [eu]
            exact loopj 0 (Nat.zero_le _) wi' hF hno)
        conv => whnf
        repeat ((first | refine ⟨zG_of _, ?_⟩ | refine ⟨trivial, ?_⟩ | refine ⟨rfl, ?_⟩ | refine ⟨fun hc => absurd hc (by decide), fun _ => ?_⟩ | refine ⟨fun _ => ?_, fun hc => absurd (by decide) hc⟩ | refine ⟨fun _ => ?_, fun hc => absurd hc (by decide)⟩ | refine ⟨fun hc => absurd (by decide) hc, fun _ => ?_⟩); conv => whnf)
        try dsimp only
        exact loopb 1 (by omega) (by omega) wi' hF (fun n hn => hno n (by omega)))
    exact hs 400 0 _ _ _ _ _ (loop 0 (Nat.zero_le _) wi (FB_refl _) (fun n hn => absurd hn (by omega)))

