/-! the reference: what is joined -/
theorem both_N {q a b : Nat} (hq : q = 2 ∨ q = 3) (ha : a < q) (hb : b < q) (h0 : ¬ a * b = 0) {x y : Nat} : (x + a * b * y) % q = (x + (if a = b then 1 else 2) * y % q) % q := by
  have e : (a * b) % q = (if a = b then 1 else 2) % q := by
    have h : ∀ a, a < 3 → ∀ b, b < 3 → ¬ a * b = 0 → (a < 2 → b < 2 → (a * b) % 2 = (if a = b then 1 else 2) % 2) ∧ (a * b) % 3 = (if a = b then 1 else 2) % 3 := by decide
    rcases hq with rfl | rfl
    · exact (h a (by omega) b (by omega) h0).1 ha hb
    · exact (h a ha b hb h0).2
  rw [Nat.add_mod, Nat.mul_mod, e, ← Nat.mul_mod, ← Nat.add_mod, Nat.add_mod_mod]
def joW (q : Nat) (A : Nat → Nat → Nat) (i j w : Nat) : Nat → Nat → Nat := upA A (3 * i + w) (fAdd q (A (3 * i + w)) (fMul q (bothN q A i j w) (A (3 * j + w))))
def FJ (wi wi' : Nat → Nat → Int32) : Prop := (∀ y, y ≠ 45 → y ≠ 47 → wi' y = wi y) ∧ ∀ i, i ≠ 2 → i ≠ 20 → i ≠ 21 → wi' 45 i = wi 45 i
def sp_X12_joinsTwo : zSp := fun av w K => match av with
  | [.ref o] => o = 45 ∧ zH w.1 ∧ ∃ d q c A, MS w.2.1 d q c A ∧ (¬ jf q A c < 4800 → K (some (.int (nI 0))) w) ∧ (jf q A c < 4800 → ∀ wi' : Nat → Nat → Int32, (∀ y, y ≠ 45 → y ≠ 47 → wi' y = w.2.1 y) → (∀ i, i ≠ 2 → wi' 45 i = w.2.1 45 i) → MS wi' d q (c - 1) (jfA q A c) → K (some (.int (nI 1))) (w.1, wi', w.2.2))
  | _ => False
def rm_X12_joinsTwo : Room := { frames := 3, cells := 0, slots := 0, locals := 72 }
def M_X12_joinsTwo : zM := (k_X12_joinsTwo, f_X12, [(217, 4, 10, 4, 0, 0, sp_X12_likeAt), (107, 0, 0, 3, 0, 0, sp_X12_at), (167, 4, 10, 2, 0, 0, sp_X12_goes)], ([], [], []), [], [(2, [true, true, false, false, false, false]), (14, [true, true, true, false, false, false]), (24, [true, true, true, true, false, false]), (65, [true, true, true, true, true, true])], 2, false, (false, 0, fun _ => 0), (0, 0))
theorem ca_X12_joinsTwo_0 (l : Launch) : z_cok l RX12 (headSpec (.code yX12_joinsTwo cX12_joinsTwo 6 (some .boolean) :: zTT) rm_X12_joinsTwo).room (217, 4, 10, 4, 0, 0, sp_X12_likeAt) := z_ca4 (c_X12_likeAt l) mb_X12_likeAt ⟨_, rfl, rfl⟩ wt_1404 wt_1406 wt_53 (by decide)
theorem ca_X12_joinsTwo_1 (l : Launch) : z_cok l RX12 (headSpec (.code yX12_joinsTwo cX12_joinsTwo 6 (some .boolean) :: zTT) rm_X12_joinsTwo).room (107, 0, 0, 3, 0, 0, sp_X12_at) := z_ca0 (c_X12_at l) mb_X12_at wt_1136 wt_1137 (by decide)
theorem ca_X12_joinsTwo_2 (l : Launch) : z_cok l RX12 (headSpec (.code yX12_joinsTwo cX12_joinsTwo 6 (some .boolean) :: zTT) rm_X12_joinsTwo).room (167, 4, 10, 2, 0, 0, sp_X12_goes) := z_ca4 (c_X12_goes l) mb_X12_goes ⟨_, rfl, rfl⟩ wt_1330 wt_1332 wt_43 (by decide)
theorem O_X12_joinsTwo (l : Launch) : z_OK l RX12 cX12_joinsTwo (headSpec (.code yX12_joinsTwo cX12_joinsTwo 6 (some .boolean) :: zTT) rm_X12_joinsTwo).room M_X12_joinsTwo := ⟨ok_X12_joinsTwo, fo_X12, List.forall_mem_cons.mpr ⟨ca_X12_joinsTwo_0 l, List.forall_mem_cons.mpr ⟨ca_X12_joinsTwo_1 l, List.forall_mem_cons.mpr ⟨ca_X12_joinsTwo_2 l, fun _ h => absurd h List.not_mem_nil⟩⟩⟩, fun _ h => absurd h List.not_mem_nil, fun _ h => absurd h List.not_mem_nil, fun _ h => absurd h List.not_mem_nil, fun _ h => absurd h List.not_mem_nil, rfl, rfl⟩
theorem c_X12_joinsTwo (l : Launch) : z_CS l yX12_joinsTwo cX12_joinsTwo 6 (some .boolean) rm_X12_joinsTwo sp_X12_joinsTwo := by
  refine z_meth (by decide) (Or.inr (Or.inr (Or.inl ⟨rfl, rfl⟩))) (fun h => by cases h) rfl (O_X12_joinsTwo l) ?_
  intro av w K h
  match av, h with
  | [.ref o], h =>
    obtain ⟨rfl, ⟨r, hG⟩, d, q, c, A, hS, h0, h1⟩ := h
    obtain ⟨G, wi, wl⟩ := w
    subst hG
    try dsimp only at h0 h1 hS
    have h40 := ms_40 hS
    have q23 := ms_q23 hS
    refine ⟨Nat.le_of_ble_eq_true rfl, fun Jm hs => ?_⟩
    have loop := up_ind (P := fun i => (∀ n, n < i * 120 → ¬ jfB q A c n = true) → Jm 2 [some (.ref 45), some (.int (nI i)), none, none, none, none] [] (GC ++ (GM ++ r), wi, wl) 0 0) c (fun i hi ih hno => by
      refine hs 400 2 _ _ _ _ _ ?_
      conv => whnf
      repeat ((first | refine ⟨zH_of _, ?_⟩ | refine ⟨trivial, ?_⟩ | refine ⟨rfl, ?_⟩ | refine ⟨fun hc => absurd hc (by decide), fun _ => ?_⟩ | refine ⟨fun _ => ?_, fun hc => absurd (by decide) hc⟩ | refine ⟨fun _ => ?_, fun hc => absurd hc (by decide)⟩ | refine ⟨fun hc => absurd (by decide) hc, fun _ => ?_⟩); conv => whnf)
      try dsimp only
      rw [ms_c hS, ltN (by omega) (by omega)]
      refine ⟨fun hc => ?_, fun hc => ?_⟩
      · obtain rfl : i = c := by omega
        refine ⟨Or.inl rfl, h0 ?_⟩
        have e : jf q A i = 4800 := fi_none (fun n hn => by
          rcases Nat.lt_or_ge n (i * 120) with h2 | h2
          · exact hno n h2
          · refine jf_far (i := n / 120) (by omega) (by omega) ?_
            omega)
        omega
      · have ihn := ih hc
        have loopj := up_ind (P := fun j => i < j → (∀ n, n < i * 120 + j * 3 → ¬ jfB q A c n = true) → Jm 14 [some (.ref 45), some (.int (nI i)), some (.int (nI j)), none, none, none] [] (GC ++ (GM ++ r), wi, wl) 0 0) c (fun j hj ihj hij hno => by
          refine hs 400 14 _ _ _ _ _ ?_
          conv => whnf
          repeat ((first | refine ⟨zH_of _, ?_⟩ | refine ⟨trivial, ?_⟩ | refine ⟨rfl, ?_⟩ | refine ⟨fun hc => absurd hc (by decide), fun _ => ?_⟩ | refine ⟨fun _ => ?_, fun hc => absurd (by decide) hc⟩ | refine ⟨fun _ => ?_, fun hc => absurd hc (by decide)⟩ | refine ⟨fun hc => absurd (by decide) hc, fun _ => ?_⟩); conv => whnf)
          try dsimp only
          rw [ms_c hS, ltN (by omega) (by omega)]
          refine ⟨fun hc2 => ?_, fun hc2 => ?_⟩
          · obtain rfl : j = c := by omega
            conv => whnf
            repeat ((first | refine ⟨zH_of _, ?_⟩ | refine ⟨trivial, ?_⟩ | refine ⟨rfl, ?_⟩ | refine ⟨fun hc => absurd hc (by decide), fun _ => ?_⟩ | refine ⟨fun _ => ?_, fun hc => absurd (by decide) hc⟩ | refine ⟨fun _ => ?_, fun hc => absurd hc (by decide)⟩ | refine ⟨fun hc => absurd (by decide) hc, fun _ => ?_⟩); conv => whnf)
            try dsimp only
            rw [nI_add]
            refine ihn (fun n hn => ?_)
            rcases Nat.lt_or_ge n (i * 120 + j * 3) with h2 | h2
            · exact hno n h2
            · exact jf_far (i := i) (by omega) (by omega) (by omega)
          · have ihjn := ihj hc2
            have loopw := up_ind (P := fun w => (∀ n, n < i * 120 + j * 3 + w → ¬ jfB q A c n = true) → Jm 24 [some (.ref 45), some (.int (nI i)), some (.int (nI j)), some (.int (nI w)), none, none] [] (GC ++ (GM ++ r), wi, wl) 0 0) 3 (fun w hw ihw hno => by
              refine hs 400 24 _ _ _ _ _ ?_
              conv => whnf
              repeat ((first | refine ⟨zH_of _, ?_⟩ | refine ⟨trivial, ?_⟩ | refine ⟨rfl, ?_⟩ | refine ⟨fun hc => absurd hc (by decide), fun _ => ?_⟩ | refine ⟨fun _ => ?_, fun hc => absurd (by decide) hc⟩ | refine ⟨fun _ => ?_, fun hc => absurd hc (by decide)⟩ | refine ⟨fun hc => absurd (by decide) hc, fun _ => ?_⟩); conv => whnf)
              try dsimp only
              rw [ltN (by omega) (by omega)]
              refine ⟨fun hc3 => ?_, fun hc3 => ?_⟩
              · obtain rfl : w = 3 := by omega
                conv => whnf
                repeat ((first | refine ⟨zH_of _, ?_⟩ | refine ⟨trivial, ?_⟩ | refine ⟨rfl, ?_⟩ | refine ⟨fun hc => absurd hc (by decide), fun _ => ?_⟩ | refine ⟨fun _ => ?_, fun hc => absurd (by decide) hc⟩ | refine ⟨fun _ => ?_, fun hc => absurd hc (by decide)⟩ | refine ⟨fun hc => absurd (by decide) hc, fun _ => ?_⟩); conv => whnf)
                try dsimp only
                rw [nI_add]
                exact ihjn (by omega) (fun n hn => hno n (by omega))
              · have ihwn := ihw hc3
                have ea := jf_at (q := q) (A := A) (c := c) (i := i) (j := j) (w := w) (by omega) hc3
                rw [decide_eq_true hij, decide_eq_true hc2] at ea
                have n1 := nx_lt w
                have n2 := nx_lt (nx w)
                have l1 := likeN_lt_q q23 (A (3 * i + nx w)) (A (3 * j + nx w))
                have l2 := likeN_lt_q q23 (A (3 * i + nx (nx w))) (A (3 * j + nx (nx w)))
                have lm : likeN q (A (3 * i + nx w)) (A (3 * j + nx w)) * likeN q (A (3 * i + nx (nx w))) (A (3 * j + nx (nx w))) ≤ 2 * 2 := Nat.mul_le_mul (by omega) (by omega)
                conv => whnf
                repeat ((first | refine ⟨zH_of _, ?_⟩ | refine ⟨trivial, ?_⟩ | refine ⟨rfl, ?_⟩ | refine ⟨fun hc => absurd hc (by decide), fun _ => ?_⟩ | refine ⟨fun _ => ?_, fun hc => absurd (by decide) hc⟩ | refine ⟨fun _ => ?_, fun hc => absurd hc (by decide)⟩ | refine ⟨fun hc => absurd (by decide) hc, fun _ => ?_⟩); conv => whnf)
                try dsimp only
                refine ⟨n30, ?_⟩
                rw [rem3 hc3]
                conv => whnf
                repeat ((first | refine ⟨zH_of _, ?_⟩ | refine ⟨trivial, ?_⟩ | refine ⟨rfl, ?_⟩ | refine ⟨fun hc => absurd hc (by decide), fun _ => ?_⟩ | refine ⟨fun _ => ?_, fun hc => absurd (by decide) hc⟩ | refine ⟨fun _ => ?_, fun hc => absurd hc (by decide)⟩ | refine ⟨fun hc => absurd (by decide) hc, fun _ => ?_⟩); conv => whnf)
                try dsimp only
                refine ⟨d, q, c, A, i, j, nx w, hS, rfl, hc, rfl, hc2, rfl, n1, ?_⟩
                conv => whnf
                repeat ((first | refine ⟨zH_of _, ?_⟩ | refine ⟨trivial, ?_⟩ | refine ⟨rfl, ?_⟩ | refine ⟨fun hc => absurd hc (by decide), fun _ => ?_⟩ | refine ⟨fun _ => ?_, fun hc => absurd (by decide) hc⟩ | refine ⟨fun _ => ?_, fun hc => absurd hc (by decide)⟩ | refine ⟨fun hc => absurd (by decide) hc, fun _ => ?_⟩); conv => whnf)
                try dsimp only
                refine ⟨n30, ?_⟩
                rw [nI_add, z_remN (by omega) (by decide) (by decide), mod2 hc3]
                conv => whnf
                repeat ((first | refine ⟨zH_of _, ?_⟩ | refine ⟨trivial, ?_⟩ | refine ⟨rfl, ?_⟩ | refine ⟨fun hc => absurd hc (by decide), fun _ => ?_⟩ | refine ⟨fun _ => ?_, fun hc => absurd (by decide) hc⟩ | refine ⟨fun _ => ?_, fun hc => absurd hc (by decide)⟩ | refine ⟨fun hc => absurd (by decide) hc, fun _ => ?_⟩); conv => whnf)
                try dsimp only
                refine ⟨d, q, c, A, i, j, nx (nx w), hS, rfl, hc, rfl, hc2, rfl, n2, ?_⟩
                conv => whnf
                repeat ((first | refine ⟨zH_of _, ?_⟩ | refine ⟨trivial, ?_⟩ | refine ⟨rfl, ?_⟩ | refine ⟨fun hc => absurd hc (by decide), fun _ => ?_⟩ | refine ⟨fun _ => ?_, fun hc => absurd (by decide) hc⟩ | refine ⟨fun _ => ?_, fun hc => absurd hc (by decide)⟩ | refine ⟨fun hc => absurd (by decide) hc, fun _ => ?_⟩); conv => whnf)
                try dsimp only
                rw [pk_mul, eq0N (by omega)]
                have eB : jB q A i j w = true ↔ ¬ likeN q (A (3 * i + nx w)) (A (3 * j + nx w)) * likeN q (A (3 * i + nx (nx w))) (A (3 * j + nx (nx w))) = 0 := by
                  unfold jB lkB
                  rw [Nat.mul_eq_zero]
                  simp
                refine ⟨fun hB => ?_, fun hB => ?_⟩
                · have hB := eB.mpr hB
                  have e : jf q A c = i * 120 + j * 3 + w := fi_at (by omega) (by rw [ea]; simpa using hB) hno
                  have h1 := h1 (by omega)
                  unfold jfA at h1
                  rw [e, show (i * 120 + j * 3 + w) / 120 = i by omega, show (i * 120 + j * 3 + w) / 3 % 40 = j by omega, show (i * 120 + j * 3 + w) % 3 = w by omega] at h1
                  have h1 : ∀ wi' : Nat → Nat → Int32, (∀ y, y ≠ 45 → y ≠ 47 → wi' y = wi y) → (∀ i, i ≠ 2 → wi' 45 i = wi 45 i) → MS wi' d q (c - 1) (rmA (joW q A i j w) j) → K (some (.int (nI 1))) (GC ++ (GM ++ r), wi', wl) := h1
                  have hw : ∀ p, joW q A i j w (3 * i + w) p = (A (3 * i + w) p + likeN q (A (3 * i + nx w)) (A (3 * j + nx w)) * likeN q (A (3 * i + nx (nx w))) (A (3 * j + nx (nx w))) * A (3 * j + w) p) % q := fun p => by
                    unfold joW upA
                    rw [if_pos rfl, both_N q23 l1 l2 (eB.mp hB)]
                    rfl
                  have hw0 : ∀ n p, n ≠ 3 * i + w → joW q A i j w n p = A n p := fun n p hn => by
                    unfold joW upA
                    rw [if_neg hn]
                  generalize likeN q (A (3 * i + nx w)) (A (3 * j + nx w)) * likeN q (A (3 * i + nx (nx w))) (A (3 * j + nx (nx w))) = f at *
                  generalize joW q A i j w = W at *
                  clear eB ihwn ea e hno ihw
                  have lk := up_ind (P := fun k => ∀ wi' : Nat → Nat → Int32, (∀ y, y ≠ 47 → wi' y = wi y) → RW wi' 47 (27 * c) (mixA k A W) → Jm 65 [some (.ref 45), some (.int (nI i)), some (.int (nI j)), some (.int (nI w)), some (.int (nI f)), some (.int (nI k))] [] (GC ++ (GM ++ r), wi', wl) 0 0) 9 (fun k hk ihk => by
                    intro wi' hF hR
                    have eq := ms_q hS
                    rw [← hF 45 (by decide)] at eq
                    refine hs 400 65 _ _ _ _ _ ?_
                    conv => whnf
                    repeat ((first | refine ⟨zH_of _, ?_⟩ | refine ⟨trivial, ?_⟩ | refine ⟨rfl, ?_⟩ | refine ⟨fun hc => absurd hc (by decide), fun _ => ?_⟩ | refine ⟨fun _ => ?_, fun hc => absurd (by decide) hc⟩ | refine ⟨fun _ => ?_, fun hc => absurd hc (by decide)⟩ | refine ⟨fun hc => absurd (by decide) hc, fun _ => ?_⟩); conv => whnf)
                    try dsimp only
                    rw [ltN (by omega) (by omega)]
                    refine ⟨fun hc4 => ?_, fun hc4 => ?_⟩
                    · obtain rfl : k = 9 := by omega
                      conv => whnf
                      repeat ((first | refine ⟨zH_of _, ?_⟩ | refine ⟨trivial, ?_⟩ | refine ⟨rfl, ?_⟩ | refine ⟨fun hc => absurd hc (by decide), fun _ => ?_⟩ | refine ⟨fun _ => ?_, fun hc => absurd (by decide) hc⟩ | refine ⟨fun _ => ?_, fun hc => absurd hc (by decide)⟩ | refine ⟨fun hc => absurd (by decide) hc, fun _ => ?_⟩); conv => whnf)
                      try dsimp only
                      refine ⟨d, q, c, W, j, ⟨fun t ht => by rw [hF 46 (by decide)]; exact ms_d hS t ht, ⟨eq, by rw [hF 45 (by decide)]; exact ms_c hS⟩, fun n hn => ?_, q23, ms_hd hS, h40, fun n hn p hp => ?_⟩, rfl, hc2, fun wi2 hF2 hI2 hS2 => ?_⟩
                      · rw [hR n hn]
                        unfold fl mixA
                        rw [if_pos (by omega)]
                      · by_cases g : n = 3 * i + w
                        · rw [g, hw]
                          exact Nat.mod_lt _ (by omega)
                        · rw [hw0 n p g]
                          exact ms_A hS n hn p hp
                      · exact ⟨Or.inr rfl, h1 wi2 (fun y g1 g2 => by rw [hF2 y g1 g2, hF y g2]) (fun i g => by rw [hI2 i g, hF 45 (by decide)]) hS2⟩
                    · have ihk := ihk hc4
                      have rd : ∀ m, m < c → wi' 47 (27 * m + 9 * w + k) = nI (A (3 * m + w) k) := fun m h1 => by
                        rw [hR _ (by omega)]
                        unfold fl mixA
                        rw [show (27 * m + 9 * w + k) / 9 = 3 * m + w by omega, show (27 * m + 9 * w + k) % 9 = k by omega, if_neg (Nat.lt_irrefl k)]
                      have e1 := rd i hc
                      have e2 := rd j hc2
                      have x1 := ms_A3 hS (3 * i + w) (by omega) k hc4
                      have x2 := ms_A3 hS (3 * j + w) (by omega) k hc4
                      have xf : f * A (3 * j + w) k ≤ 4 * 2 := Nat.mul_le_mul (by omega) (by omega)
                      have hw := hw k
                      conv => whnf
                      repeat ((first | refine ⟨zH_of _, ?_⟩ | refine ⟨trivial, ?_⟩ | refine ⟨rfl, ?_⟩ | refine ⟨fun hc => absurd hc (by decide), fun _ => ?_⟩ | refine ⟨fun _ => ?_, fun hc => absurd (by decide) hc⟩ | refine ⟨fun _ => ?_, fun hc => absurd hc (by decide)⟩ | refine ⟨fun hc => absurd (by decide) hc, fun _ => ?_⟩); conv => whnf)
                      try dsimp only
                      rw [at_N i w k]
                      refine ⟨vp_in_nI (show 27 * i + 9 * w + k < 1080 by omega) (by decide), ?_⟩
                      conv => whnf
                      repeat ((first | refine ⟨zH_of _, ?_⟩ | refine ⟨trivial, ?_⟩ | refine ⟨rfl, ?_⟩ | refine ⟨fun hc => absurd hc (by decide), fun _ => ?_⟩ | refine ⟨fun _ => ?_, fun hc => absurd (by decide) hc⟩ | refine ⟨fun _ => ?_, fun hc => absurd hc (by decide)⟩ | refine ⟨fun hc => absurd (by decide) hc, fun _ => ?_⟩); conv => whnf)
                      try dsimp only
                      rw [at_N j w k]
                      refine ⟨vp_in_nI (show 27 * j + 9 * w + k < 1080 by omega) (by decide), ?_⟩
                      conv => whnf
                      repeat ((first | refine ⟨zH_of _, ?_⟩ | refine ⟨trivial, ?_⟩ | refine ⟨rfl, ?_⟩ | refine ⟨fun hc => absurd hc (by decide), fun _ => ?_⟩ | refine ⟨fun _ => ?_, fun hc => absurd (by decide) hc⟩ | refine ⟨fun _ => ?_, fun hc => absurd hc (by decide)⟩ | refine ⟨fun hc => absurd (by decide) hc, fun _ => ?_⟩); conv => whnf)
                      try dsimp only
                      rw [eq]
                      refine ⟨q_n0 q23, ?_⟩
                      conv => whnf
                      repeat ((first | refine ⟨zH_of _, ?_⟩ | refine ⟨trivial, ?_⟩ | refine ⟨rfl, ?_⟩ | refine ⟨fun hc => absurd hc (by decide), fun _ => ?_⟩ | refine ⟨fun _ => ?_, fun hc => absurd (by decide) hc⟩ | refine ⟨fun _ => ?_, fun hc => absurd hc (by decide)⟩ | refine ⟨fun hc => absurd (by decide) hc, fun _ => ?_⟩); conv => whnf)
                      try dsimp only
                      refine ⟨vp_in_nI (show 27 * i + 9 * w + k < 1080 by omega) (by decide), ?_⟩
                      rw [nI_clamp (n := 27 * i + 9 * w + k) (by omega), nI_clamp (n := 27 * j + 9 * w + k) (by omega), e1, e2, pk_mul, nI_add, z_remN (by omega) (by omega) (by omega), ← hw]
                      conv => whnf
                      repeat ((first | refine ⟨zH_of _, ?_⟩ | refine ⟨trivial, ?_⟩ | refine ⟨rfl, ?_⟩ | refine ⟨fun hc => absurd hc (by decide), fun _ => ?_⟩ | refine ⟨fun _ => ?_, fun hc => absurd (by decide) hc⟩ | refine ⟨fun _ => ?_, fun hc => absurd hc (by decide)⟩ | refine ⟨fun hc => absurd (by decide) hc, fun _ => ?_⟩); conv => whnf)
                      try dsimp only
                      rw [nI_add]
                      refine ihk _ (fun y hy => by rw [z_up_ne hy, hF y hy]) (fun n hn => ?_)
                      unfold fl mixA
                      by_cases g1 : n = 27 * i + 9 * w + k
                      · rw [g1, z_up_eq, show (27 * i + 9 * w + k) / 9 = 3 * i + w by omega, show (27 * i + 9 * w + k) % 9 = k by omega, if_pos (Nat.lt_succ_self k)]
                      · rw [z_up_nei g1, hR n hn]
                        unfold fl mixA
                        by_cases g : n % 9 < k
                        · rw [if_pos g, if_pos (by omega)]
                        · rw [if_neg g]
                          by_cases g0 : n % 9 = k
                          · rw [if_pos (by omega), hw0 _ _ (by omega)]
                          · rw [if_neg (by omega)])
                  conv => whnf
                  repeat ((first | refine ⟨zH_of _, ?_⟩ | refine ⟨trivial, ?_⟩ | refine ⟨rfl, ?_⟩ | refine ⟨fun hc => absurd hc (by decide), fun _ => ?_⟩ | refine ⟨fun _ => ?_, fun hc => absurd (by decide) hc⟩ | refine ⟨fun _ => ?_, fun hc => absurd hc (by decide)⟩ | refine ⟨fun hc => absurd (by decide) hc, fun _ => ?_⟩); conv => whnf)
                  try dsimp only
                  refine lk 0 (Nat.zero_le _) wi (fun _ _ => rfl) (fun n hn => ?_)
                  rw [ms_f hS n hn]
                  rfl
                · have hB : ¬ jB q A i j w = true := fun z => eB.mp z hB
                  conv => whnf
                  repeat ((first | refine ⟨zH_of _, ?_⟩ | refine ⟨trivial, ?_⟩ | refine ⟨rfl, ?_⟩ | refine ⟨fun hc => absurd hc (by decide), fun _ => ?_⟩ | refine ⟨fun _ => ?_, fun hc => absurd (by decide) hc⟩ | refine ⟨fun _ => ?_, fun hc => absurd hc (by decide)⟩ | refine ⟨fun hc => absurd (by decide) hc, fun _ => ?_⟩); conv => whnf)
                  try dsimp only
                  rw [nI_add]
                  refine ihwn (fun n hn => ?_)
                  rcases Nat.lt_or_ge n (i * 120 + j * 3 + w) with h2 | h2
                  · exact hno n h2
                  · obtain rfl : n = i * 120 + j * 3 + w := by omega
                    rw [ea]
                    simpa using hB)
            conv => whnf
            repeat ((first | refine ⟨zH_of _, ?_⟩ | refine ⟨trivial, ?_⟩ | refine ⟨rfl, ?_⟩ | refine ⟨fun hc => absurd hc (by decide), fun _ => ?_⟩ | refine ⟨fun _ => ?_, fun hc => absurd (by decide) hc⟩ | refine ⟨fun _ => ?_, fun hc => absurd hc (by decide)⟩ | refine ⟨fun hc => absurd (by decide) hc, fun _ => ?_⟩); conv => whnf)
            try dsimp only
            exact loopw 0 (Nat.zero_le _) hno)
        conv => whnf
        repeat ((first | refine ⟨zH_of _, ?_⟩ | refine ⟨trivial, ?_⟩ | refine ⟨rfl, ?_⟩ | refine ⟨fun hc => absurd hc (by decide), fun _ => ?_⟩ | refine ⟨fun _ => ?_, fun hc => absurd (by decide) hc⟩ | refine ⟨fun _ => ?_, fun hc => absurd hc (by decide)⟩ | refine ⟨fun hc => absurd (by decide) hc, fun _ => ?_⟩); conv => whnf)
        try dsimp only
        rw [nI_add]
        refine loopj (i + 1) (by omega) (by omega) (fun n hn => ?_)
        rcases Nat.lt_or_ge n (i * 120) with h2 | h2
        · exact hno n h2
        · exact jf_far (i := i) (by omega) (by omega) (by omega))
    exact hs 400 0 _ _ _ _ _ (loop 0 (Nat.zero_le _) (fun n hn => absurd hn (by omega)))
theorem jf_0 {q : Nat} {A : Nat → Nat → Nat} : ¬ jf q A 0 < 4800 := fun h => by
  have k := (fi_lt h).1
  unfold jfB at k
  simp at k
def sp_X12_joinsAll : zSp := fun av w K => match av with
  | [.ref o] => o = 45 ∧ zH w.1 ∧ ∃ d q c A, MS w.2.1 d q c A ∧ ∀ wi' : Nat → Nat → Int32, FJ w.2.1 wi' → MS wi' d q (jAll q 40 (c, A, 0, 0)).1 (jAll q 40 (c, A, 0, 0)).2.1 → wi' 45 20 = nI (jAll q 40 (c, A, 0, 0)).2.2.1 → wi' 45 21 = nI (jAll q 40 (c, A, 0, 0)).2.2.2 → K none (w.1, wi', w.2.2)
  | _ => False
def rm_X12_joinsAll : Room := { frames := 4, cells := 0, slots := 0, locals := 97 }
def M_X12_joinsAll : zM := (k_X12_joinsAll, f_X12, [(241, 4, 10, 1, 0, 0, sp_X12_firstZero), (167, 4, 10, 2, 0, 0, sp_X12_goes), (244, 4, 10, 1, 0, 0, sp_X12_joinsTwo)], ([], [], []), [], [(12, [true, true, false])], 0, false, (false, 0, fun _ => 0), (0, 0))
theorem ca_X12_joinsAll_0 (l : Launch) : z_cok l RX12 (headSpec (.code yX12_joinsAll cX12_joinsAll 3 none :: zTT) rm_X12_joinsAll).room (241, 4, 10, 1, 0, 0, sp_X12_firstZero) := z_ca4 (c_X12_firstZero l) mb_X12_firstZero ⟨_, rfl, rfl⟩ wt_1451 wt_1453 wt_61 (by decide)
theorem ca_X12_joinsAll_1 (l : Launch) : z_cok l RX12 (headSpec (.code yX12_joinsAll cX12_joinsAll 3 none :: zTT) rm_X12_joinsAll).room (167, 4, 10, 2, 0, 0, sp_X12_goes) := z_ca4 (c_X12_goes l) mb_X12_goes ⟨_, rfl, rfl⟩ wt_1330 wt_1332 wt_43 (by decide)
theorem ca_X12_joinsAll_2 (l : Launch) : z_cok l RX12 (headSpec (.code yX12_joinsAll cX12_joinsAll 3 none :: zTT) rm_X12_joinsAll).room (244, 4, 10, 1, 0, 0, sp_X12_joinsTwo) := z_ca4 (c_X12_joinsTwo l) mb_X12_joinsTwo ⟨_, rfl, rfl⟩ wt_1455 wt_1457 wt_62 (by decide)
theorem O_X12_joinsAll (l : Launch) : z_OK l RX12 cX12_joinsAll (headSpec (.code yX12_joinsAll cX12_joinsAll 3 none :: zTT) rm_X12_joinsAll).room M_X12_joinsAll := ⟨ok_X12_joinsAll, fo_X12, List.forall_mem_cons.mpr ⟨ca_X12_joinsAll_0 l, List.forall_mem_cons.mpr ⟨ca_X12_joinsAll_1 l, List.forall_mem_cons.mpr ⟨ca_X12_joinsAll_2 l, fun _ h => absurd h List.not_mem_nil⟩⟩⟩, fun _ h => absurd h List.not_mem_nil, fun _ h => absurd h List.not_mem_nil, fun _ h => absurd h List.not_mem_nil, fun _ h => absurd h List.not_mem_nil, rfl, rfl⟩
theorem c_X12_joinsAll (l : Launch) : z_CS l yX12_joinsAll cX12_joinsAll 3 none rm_X12_joinsAll sp_X12_joinsAll := by
  refine z_meth (by decide) (Or.inl ⟨rfl, rfl⟩) (fun h => by cases h) rfl (O_X12_joinsAll l) ?_
  intro av w K h
  match av, h with
  | [.ref o], h =>
    obtain ⟨rfl, ⟨r, hG⟩, d, q, c, A, hS, h⟩ := h
    obtain ⟨G, wi, wl⟩ := w
    subst hG
    try dsimp only at h hS
    generalize hT : jAll q 40 (c, A, 0, 0) = T at h
    refine ⟨Nat.le_of_ble_eq_true rfl, fun Jm hs => ?_⟩
    have step : ∀ (n : Nat) (S : Nat × (Nat → Nat → Nat) × Nat × Nat), S.1 ≤ n → jAll q n S = T → (∀ m c' A' z l, n = m + 1 → c' ≤ m → jAll q m (c', A', z, l) = T → ∀ wi' : Nat → Nat → Int32, FJ wi wi' → MS wi' d q c' A' → wi' 45 20 = nI z → wi' 45 21 = nI l → Jm 12 [some (.ref 45), some (.int (nI 1)), none] [] (GC ++ (GM ++ r), wi', wl) 0 0) → ∀ wi' : Nat → Nat → Int32, FJ wi wi' → MS wi' d q S.1 S.2.1 → wi' 45 20 = nI S.2.2.1 → wi' 45 21 = nI S.2.2.2 → Jm 12 [some (.ref 45), some (.int (nI 1)), none] [] (GC ++ (GM ++ r), wi', wl) 0 0 := fun n S hn hT' k wi' hF hS' hz hl => by
      obtain ⟨c', A', z, l⟩ := S
      dsimp only at hn hS' hz hl
      have h40 := ms_40 hS'
      refine hs 400 12 _ _ _ _ _ ?_
      conv => whnf
      repeat ((first | refine ⟨zH_of _, ?_⟩ | refine ⟨trivial, ?_⟩ | refine ⟨rfl, ?_⟩ | refine ⟨fun hc => absurd hc (by decide), fun _ => ?_⟩ | refine ⟨fun _ => ?_, fun hc => absurd (by decide) hc⟩ | refine ⟨fun _ => ?_, fun hc => absurd hc (by decide)⟩ | refine ⟨fun hc => absurd (by decide) hc, fun _ => ?_⟩); conv => whnf)
      try dsimp only
      refine ⟨d, q, c', A', hS', ?_⟩
      conv => whnf
      repeat ((first | refine ⟨zH_of _, ?_⟩ | refine ⟨trivial, ?_⟩ | refine ⟨rfl, ?_⟩ | refine ⟨fun hc => absurd hc (by decide), fun _ => ?_⟩ | refine ⟨fun _ => ?_, fun hc => absurd (by decide) hc⟩ | refine ⟨fun _ => ?_, fun hc => absurd hc (by decide)⟩ | refine ⟨fun hc => absurd (by decide) hc, fun _ => ?_⟩); conv => whnf)
      try dsimp only
      by_cases h0 : fi (hzB A') c' < c'
      · have e : fvI (hzB A') c' = nI (fi (hzB A') c') := if_pos h0
        rw [e]
        refine ⟨fun q => ?_, fun _ => ?_⟩
        · exfalso
          have q := congrArg Int32.toInt q
          rw [nI_toInt (by omega)] at q
          have : (mI 1).toInt = -1 := by decide
          omega
        · obtain ⟨m, rfl⟩ : ∃ m, n = m + 1 := ⟨n - 1, by omega⟩
          rw [jAll, if_pos h0] at hT'
          conv => whnf
          repeat ((first | refine ⟨zH_of _, ?_⟩ | refine ⟨trivial, ?_⟩ | refine ⟨rfl, ?_⟩ | refine ⟨fun hc => absurd hc (by decide), fun _ => ?_⟩ | refine ⟨fun _ => ?_, fun hc => absurd (by decide) hc⟩ | refine ⟨fun _ => ?_, fun hc => absurd hc (by decide)⟩ | refine ⟨fun hc => absurd (by decide) hc, fun _ => ?_⟩); conv => whnf)
          try dsimp only
          refine ⟨d, q, c', A', _, hS', rfl, h0, fun wi2 hF2 hI2 hS2 => ?_⟩
          conv => whnf
          repeat ((first | refine ⟨zH_of _, ?_⟩ | refine ⟨trivial, ?_⟩ | refine ⟨rfl, ?_⟩ | refine ⟨fun hc => absurd hc (by decide), fun _ => ?_⟩ | refine ⟨fun _ => ?_, fun hc => absurd (by decide) hc⟩ | refine ⟨fun _ => ?_, fun hc => absurd hc (by decide)⟩ | refine ⟨fun hc => absurd (by decide) hc, fun _ => ?_⟩); conv => whnf)
          try dsimp only
          rw [hI2 20 (by decide), hz, nI_add]
          refine k m _ _ (z + 1) l rfl (by omega) hT' _ ⟨fun y g1 g2 => by rw [z_up_ne g1, hF2 y g1 g2, hF.1 y g1 g2], fun i g1 g2 g3 => by rw [z_up_nei g2, hI2 i g1, hF.2 i g1 g2 g3]⟩ (ms_fr hS2 (z_up_ne (by decide)) (z_up_nei (by decide)) (z_up_nei (by decide)) (z_up_ne (by decide))) z_up_eq ?_
          rw [z_up_nei (by decide), hI2 21 (by decide), hl]
      · have e : fvI (hzB A') c' = mI 1 := if_neg h0
        rw [e]
        refine ⟨fun _ => ?_, fun q => absurd rfl q⟩
        conv => whnf
        repeat ((first | refine ⟨zH_of _, ?_⟩ | refine ⟨trivial, ?_⟩ | refine ⟨rfl, ?_⟩ | refine ⟨fun hc => absurd hc (by decide), fun _ => ?_⟩ | refine ⟨fun _ => ?_, fun hc => absurd (by decide) hc⟩ | refine ⟨fun _ => ?_, fun hc => absurd hc (by decide)⟩ | refine ⟨fun hc => absurd (by decide) hc, fun _ => ?_⟩); conv => whnf)
        try dsimp only
        refine ⟨d, q, c', A', hS', fun h1 => ?_, fun h1 wi2 hF2 hI2 hS2 => ?_⟩
        · have eT : T = (c', A', z, l) := by
            cases n with
            | zero => exact hT'.symm
            | succ m =>
              rw [jAll, if_neg h0, if_neg h1] at hT'
              exact hT'.symm
          subst eT
          conv => whnf
          repeat ((first | refine ⟨zH_of _, ?_⟩ | refine ⟨trivial, ?_⟩ | refine ⟨rfl, ?_⟩ | refine ⟨fun hc => absurd hc (by decide), fun _ => ?_⟩ | refine ⟨fun _ => ?_, fun hc => absurd (by decide) hc⟩ | refine ⟨fun _ => ?_, fun hc => absurd hc (by decide)⟩ | refine ⟨fun hc => absurd (by decide) hc, fun _ => ?_⟩); conv => whnf)
          try dsimp only
          refine hs 400 12 _ _ _ _ _ ?_
          conv => whnf
          repeat ((first | refine ⟨zH_of _, ?_⟩ | refine ⟨trivial, ?_⟩ | refine ⟨rfl, ?_⟩ | refine ⟨fun hc => absurd hc (by decide), fun _ => ?_⟩ | refine ⟨fun _ => ?_, fun hc => absurd (by decide) hc⟩ | refine ⟨fun _ => ?_, fun hc => absurd hc (by decide)⟩ | refine ⟨fun hc => absurd (by decide) hc, fun _ => ?_⟩); conv => whnf)
          try dsimp only
          exact h wi' hF hS' hz hl
        · obtain ⟨m, rfl⟩ : ∃ m, n = m + 1 := by
            cases n with
            | zero =>
              obtain rfl : c' = 0 := by omega
              exact absurd h1 jf_0
            | succ m => exact ⟨m, rfl⟩
          have hc0 : 0 < c' := by
            rcases Nat.eq_zero_or_pos c' with g | g
            · subst g
              exact absurd h1 jf_0
            · exact g
          rw [jAll, if_neg h0, if_pos h1] at hT'
          conv => whnf
          repeat ((first | refine ⟨zH_of _, ?_⟩ | refine ⟨trivial, ?_⟩ | refine ⟨rfl, ?_⟩ | refine ⟨fun hc => absurd hc (by decide), fun _ => ?_⟩ | refine ⟨fun _ => ?_, fun hc => absurd (by decide) hc⟩ | refine ⟨fun _ => ?_, fun hc => absurd hc (by decide)⟩ | refine ⟨fun hc => absurd (by decide) hc, fun _ => ?_⟩); conv => whnf)
          try dsimp only
          rw [hI2 21 (by decide), hl, nI_add]
          refine k m _ _ z (l + 1) rfl (by omega) hT' _ ⟨fun y g1 g2 => by rw [z_up_ne g1, hF2 y g1 g2, hF.1 y g1 g2], fun i g1 g2 g3 => by rw [z_up_nei g3, hI2 i g1, hF.2 i g1 g2 g3]⟩ (ms_fr hS2 (z_up_ne (by decide)) (z_up_nei (by decide)) (z_up_nei (by decide)) (z_up_ne (by decide))) ?_ z_up_eq
          rw [z_up_nei (by decide), hI2 20 (by decide), hz]
    have loop : ∀ (n : Nat) c' A' z l, c' ≤ n → jAll q n (c', A', z, l) = T → ∀ wi' : Nat → Nat → Int32, FJ wi wi' → MS wi' d q c' A' → wi' 45 20 = nI z → wi' 45 21 = nI l → Jm 12 [some (.ref 45), some (.int (nI 1)), none] [] (GC ++ (GM ++ r), wi', wl) 0 0 := by
      intro n
      induction n with
      | zero =>
        intro c' A' z l hn hT' wi' hF hS' hz hl
        exact step 0 (c', A', z, l) hn hT' (fun m _ _ _ _ hm => absurd hm (by omega)) wi' hF hS' hz hl
      | succ n ih =>
        intro c' A' z l hn hT' wi' hF hS' hz hl
        refine step (n + 1) (c', A', z, l) hn hT' (fun m c2 A2 z2 l2 hm => ?_) wi' hF hS' hz hl
        obtain rfl : n = m := by omega
        exact ih c2 A2 z2 l2
    have h40 := ms_40 hS
    refine hs 400 0 _ _ _ _ _ ?_
    conv => whnf
    repeat ((first | refine ⟨zH_of _, ?_⟩ | refine ⟨trivial, ?_⟩ | refine ⟨rfl, ?_⟩ | refine ⟨fun hc => absurd hc (by decide), fun _ => ?_⟩ | refine ⟨fun _ => ?_, fun hc => absurd (by decide) hc⟩ | refine ⟨fun _ => ?_, fun hc => absurd hc (by decide)⟩ | refine ⟨fun hc => absurd (by decide) hc, fun _ => ?_⟩); conv => whnf)
    try dsimp only
    refine loop 40 c A 0 0 h40 hT _ ⟨fun y g1 g2 => by rw [z_up_ne g1, z_up_ne g1], fun i g1 g2 g3 => by rw [z_up_nei g3, z_up_nei g2]⟩ (ms_fr hS (by rw [z_up_ne (by decide), z_up_ne (by decide)]) (by rw [z_up_nei (by decide), z_up_nei (by decide)]) (by rw [z_up_nei (by decide), z_up_nei (by decide)]) (by rw [z_up_ne (by decide), z_up_ne (by decide)])) ?_ z_up_eq
    rw [z_up_nei (by decide), z_up_eq]
def sp_X12_joins : zSp := fun av w K => match av with
  | [.ref o] => o = 45 ∧ zH w.1 ∧ ∃ T, MT w.2.1 w.2.2 T ∧ ZT T ∧ ∀ wi' wl', FrM w.2.1 w.2.2 wi' wl' → MT wi' wl' (st_joins T).1 → K (some (.int (st_joins T).2)) (w.1, wi', wl')
  | _ => False
def rm_X12_joins : Room := { frames := 5, cells := 0, slots := 0, locals := 119 }
def M_X12_joins : zM := (k_X12_joins, f_X12, [(248, 4, 10, 1, 0, 0, sp_X12_joinsAll), (192, 4, 10, 2, 0, 0, sp_X12_tell)], ([], [], []), [], [], 1, false, (false, 0, fun _ => 0), (0, 0))
theorem ca_X12_joins_0 (l : Launch) : z_cok l RX12 (headSpec (.code yX12_joins cX12_joins 1 (some .int) :: zTT) rm_X12_joins).room (248, 4, 10, 1, 0, 0, sp_X12_joinsAll) := z_ca4 (c_X12_joinsAll l) mb_X12_joinsAll ⟨_, rfl, rfl⟩ wt_1447 wt_1449 wt_60 (by decide)
theorem ca_X12_joins_1 (l : Launch) : z_cok l RX12 (headSpec (.code yX12_joins cX12_joins 1 (some .int) :: zTT) rm_X12_joins).room (192, 4, 10, 2, 0, 0, sp_X12_tell) := z_ca4 (c_X12_tell l) mb_X12_tell ⟨_, rfl, rfl⟩ wt_1369 wt_1371 wt_49 (by decide)
theorem O_X12_joins (l : Launch) : z_OK l RX12 cX12_joins (headSpec (.code yX12_joins cX12_joins 1 (some .int) :: zTT) rm_X12_joins).room M_X12_joins := ⟨ok_X12_joins, fo_X12, List.forall_mem_cons.mpr ⟨ca_X12_joins_0 l, List.forall_mem_cons.mpr ⟨ca_X12_joins_1 l, fun _ h => absurd h List.not_mem_nil⟩⟩, fun _ h => absurd h List.not_mem_nil, fun _ h => absurd h List.not_mem_nil, fun _ h => absurd h List.not_mem_nil, fun _ h => absurd h List.not_mem_nil, rfl, rfl⟩
theorem c_X12_joins (l : Launch) : z_CS l yX12_joins cX12_joins 1 (some .int) rm_X12_joins sp_X12_joins := by
  refine z_meth (by decide) (Or.inr (Or.inl ⟨rfl, rfl⟩)) (fun h => by cases h) rfl (O_X12_joins l) ?_
  intro av w K h
  match av, h with
  | [.ref o], h =>
    obtain ⟨rfl, ⟨r, hG⟩, ⟨d, q, c, A, kp, tx, tl⟩, hC, hZ, h⟩ := h
    obtain ⟨G, wi, wl⟩ := w
    subst hG
    try dsimp only at h hC hZ
    have hC := mt_fld (i := 11) (v := nI 0) hC (by decide)
    have hF0 : FrM wi wl (z_up wi 45 11 (nI 0)) wl := fm_fld
    refine ⟨Nat.le_of_ble_eq_true rfl, fun Jm hs => hs 400 0 _ _ _ _ _ ?_⟩
    unfold st_joins at h
    dsimp only at h
    conv => whnf
    repeat ((first | refine ⟨zH_of _, ?_⟩ | refine ⟨trivial, ?_⟩ | refine ⟨rfl, ?_⟩ | refine ⟨fun hc => absurd hc (by decide), fun _ => ?_⟩ | refine ⟨fun _ => ?_, fun hc => absurd (by decide) hc⟩ | refine ⟨fun _ => ?_, fun hc => absurd hc (by decide)⟩ | refine ⟨fun hc => absurd (by decide) hc, fun _ => ?_⟩); conv => whnf)
    try dsimp only
    generalize z_up wi 45 11 (nI 0) = wi0 at *
    have hS := mt_S hC
    have h40 := ms_40 hS
    have hl := jAll_c (q := q) 40 c A 0 0
    refine ⟨d, q, c, A, hS, fun wi1 hF1 hS1 z1 l1 => ?_⟩
    generalize jAll q 40 (c, A, 0, 0) = J at h hl hS1 z1 l1
    have hC1 : MT wi1 wl (d, q, J.1, J.2.1, kp, tx, tl) := mt_now hC hS1 (fun i hi => hF1.2 i (by omega) (by omega) (by omega)) (fun y hy => hF1.1 y (by omega) (by omega)) rfl
    have hF1 : FrM wi0 wl wi1 wl := FrM_of hF1.1
    have T1 : TF wi1 wl (z_up wi1 45 10 (nI 0)) wl := tf_fld (by decide)
    have M1 : TM (z_up wi1 45 10 (nI 0)) wl 0 (fun _ => 0) := tm_0
    have z2 : z_up wi1 45 10 (nI 0) 45 20 = nI J.2.2.1 := by rw [z_up_nei (by decide), z1]
    have l2 : z_up wi1 45 10 (nI 0) 45 21 = nI J.2.2.2 := by rw [z_up_nei (by decide), l1]
    conv => whnf
    repeat ((first | refine ⟨zH_of _, ?_⟩ | refine ⟨trivial, ?_⟩ | refine ⟨rfl, ?_⟩ | refine ⟨fun hc => absurd hc (by decide), fun _ => ?_⟩ | refine ⟨fun _ => ?_, fun hc => absurd (by decide) hc⟩ | refine ⟨fun _ => ?_, fun hc => absurd hc (by decide)⟩ | refine ⟨fun hc => absurd (by decide) hc, fun _ => ?_⟩); conv => whnf)
    try dsimp only
    generalize z_up wi1 45 10 (nI 0) = wi2 at *
    rw [z2, nI_l (by omega)]
    refine ⟨0, _, M1, by decide, fun wi3 wl3 a1 a2 a3 M2 => ?_⟩
    have T2 := tf_trans T1 (tf_tell a1 a2 a3)
    have z3 : wi3 45 20 = nI J.2.2.1 := by rw [a2 20 (by decide), z2]
    have l3 : wi3 45 21 = nI J.2.2.2 := by rw [a2 21 (by decide), l2]
    conv => whnf
    repeat ((first | refine ⟨zH_of _, ?_⟩ | refine ⟨trivial, ?_⟩ | refine ⟨rfl, ?_⟩ | refine ⟨fun hc => absurd hc (by decide), fun _ => ?_⟩ | refine ⟨fun _ => ?_, fun hc => absurd (by decide) hc⟩ | refine ⟨fun _ => ?_, fun hc => absurd hc (by decide)⟩ | refine ⟨fun hc => absurd (by decide) hc, fun _ => ?_⟩); conv => whnf)
    try dsimp only
    rw [l3, nI_l (by omega)]
    refine ⟨1, _, M2, by decide, fun wi4 wl4 a1 a2 a3 M3 => ?_⟩
    have T3 := tf_trans T2 (tf_tell a1 a2 a3)
    have z4 : wi4 45 20 = nI J.2.2.1 := by rw [a2 20 (by decide), z3]
    have l4 : wi4 45 21 = nI J.2.2.2 := by rw [a2 21 (by decide), l3]
    conv => whnf
    repeat ((first | refine ⟨zH_of _, ?_⟩ | refine ⟨trivial, ?_⟩ | refine ⟨rfl, ?_⟩ | refine ⟨fun hc => absurd hc (by decide), fun _ => ?_⟩ | refine ⟨fun _ => ?_, fun hc => absurd (by decide) hc⟩ | refine ⟨fun _ => ?_, fun hc => absurd hc (by decide)⟩ | refine ⟨fun hc => absurd (by decide) hc, fun _ => ?_⟩); conv => whnf)
    try dsimp only
    rw [z4, l4, nI_add]
    exact h wi4 wl4 (FrM_trans hF0 (FrM_trans hF1 (tf_fr T3))) (tf_mt T3 hC1 M3)

