/-! the reference: one product added to another -/
theorem plX_n {q c i j t : Nat} {A : Nat → Nat → Nat} (hij : i ≠ j) (hi : i < c) (hj : j < c) (ht : t < 3) (n : Nat) : plX q A c i j t n = if n = 3 * i + nx t then fAdd q (A (3 * i + nx t)) (A (3 * j + nx t)) else if n = 3 * j + nx (nx t) then fSub q (A (3 * j + nx (nx t))) (A (3 * i + nx (nx t))) else if n = 3 * j + t then A (3 * i + t) else if n = 3 * c + t then fSub q (A (3 * j + t)) (A (3 * i + t)) else if n < 3 * c then A n else A (3 * j + (n - 3 * c)) := by
  have n1 := nx_lt t
  have n2 := nx_lt (nx t)
  have ne := nx_ne ht
  unfold plX upA adA
  generalize nx (nx t) = v at *
  generalize nx t = u at *
  simp only [show (3 * j + t = 3 * c + t) = False from eq_false (by omega), show (3 * i + t = 3 * c + t) = False from eq_false (by omega), show (3 * j + v = 3 * j + t) = False from eq_false (by omega), show (3 * j + v = 3 * c + t) = False from eq_false (by omega), show (3 * i + v = 3 * j + t) = False from eq_false (by omega), show (3 * i + v = 3 * c + t) = False from eq_false (by omega), show (3 * i + u = 3 * j + v) = False from eq_false (by omega), show (3 * i + u = 3 * j + t) = False from eq_false (by omega), show (3 * i + u = 3 * c + t) = False from eq_false (by omega), show (3 * j + u = 3 * j + v) = False from eq_false (by omega), show (3 * j + u = 3 * j + t) = False from eq_false (by omega), show (3 * j + u = 3 * c + t) = False from eq_false (by omega), show (3 * j + t < 3 * c) = True from eq_true (by omega), show (3 * i + t < 3 * c) = True from eq_true (by omega), show (3 * j + v < 3 * c) = True from eq_true (by omega), show (3 * i + v < 3 * c) = True from eq_true (by omega), show (3 * i + u < 3 * c) = True from eq_true (by omega), show (3 * j + u < 3 * c) = True from eq_true (by omega), if_false, if_true]
def sp_X12_plus : zSp := fun av w K => match av with
  | [.ref o, .int i, .int j, .int t] => o = 45 ∧ zH w.1 ∧ ∃ T, MT w.2.1 w.2.2 T ∧ ZT T ∧ ∀ wi' wl', FrM w.2.1 w.2.2 wi' wl' → MT wi' wl' (st_plus T i j t).1 → K (some (.int (st_plus T i j t).2)) (w.1, wi', wl')
  | _ => False
def rm_X12_plus : Room := { frames := 2, cells := 0, slots := 0, locals := 46 }
def M_X12_plus : zM := (k_X12_plus, f_X12, [(163, 4, 10, 2, 0, 0, sp_X12_isProduct), (170, 0, 0, 1, 0, 0, sp_X12_isTable), (107, 0, 0, 3, 0, 0, sp_X12_at), (223, 4, 10, 2, 0, 0, sp_X12_mod)], ([], [], []), [], [(67, [true, true, true, true, true, true, true])], 1, false, (false, 0, fun _ => 0), (0, 0))
theorem ca_X12_plus_0 (l : Launch) : z_cok l RX12 (headSpec (.code yX12_plus cX12_plus 7 (some .int) :: zTT) rm_X12_plus).room (163, 4, 10, 2, 0, 0, sp_X12_isProduct) := z_ca4 (c_X12_isProduct l) mb_X12_isProduct ⟨_, rfl, rfl⟩ wt_1326 wt_1328 wt_42 (by decide)
theorem ca_X12_plus_1 (l : Launch) : z_cok l RX12 (headSpec (.code yX12_plus cX12_plus 7 (some .int) :: zTT) rm_X12_plus).room (170, 0, 0, 1, 0, 0, sp_X12_isTable) := z_ca0 (c_X12_isTable l) mb_X12_isTable wt_1338 wt_1339 (by decide)
theorem ca_X12_plus_2 (l : Launch) : z_cok l RX12 (headSpec (.code yX12_plus cX12_plus 7 (some .int) :: zTT) rm_X12_plus).room (107, 0, 0, 3, 0, 0, sp_X12_at) := z_ca0 (c_X12_at l) mb_X12_at wt_1136 wt_1137 (by decide)
theorem ca_X12_plus_3 (l : Launch) : z_cok l RX12 (headSpec (.code yX12_plus cX12_plus 7 (some .int) :: zTT) rm_X12_plus).room (223, 4, 10, 2, 0, 0, sp_X12_mod) := z_ca4 (c_X12_mod l) mb_X12_mod ⟨_, rfl, rfl⟩ wt_1431 wt_1433 wt_57 (by decide)
theorem O_X12_plus (l : Launch) : z_OK l RX12 cX12_plus (headSpec (.code yX12_plus cX12_plus 7 (some .int) :: zTT) rm_X12_plus).room M_X12_plus := ⟨ok_X12_plus, fo_X12, List.forall_mem_cons.mpr ⟨ca_X12_plus_0 l, List.forall_mem_cons.mpr ⟨ca_X12_plus_1 l, List.forall_mem_cons.mpr ⟨ca_X12_plus_2 l, List.forall_mem_cons.mpr ⟨ca_X12_plus_3 l, fun _ h => absurd h List.not_mem_nil⟩⟩⟩⟩, fun _ h => absurd h List.not_mem_nil, fun _ h => absurd h List.not_mem_nil, fun _ h => absurd h List.not_mem_nil, fun _ h => absurd h List.not_mem_nil, rfl, rfl⟩
theorem c_X12_plus (l : Launch) : z_CS l yX12_plus cX12_plus 7 (some .int) rm_X12_plus sp_X12_plus := by
  refine z_meth (by decide) (Or.inr (Or.inl ⟨rfl, rfl⟩)) (fun h => by cases h) rfl (O_X12_plus l) ?_
  intro av w K h
  match av, h with
  | [.ref o, .int i, .int j, .int t], h =>
    obtain ⟨rfl, ⟨r, hG⟩, ⟨d, q, c, A, kp, tx, tl⟩, hC, hZ, h⟩ := h
    obtain ⟨G, wi, wl⟩ := w
    subst hG
    try dsimp only at h hC hZ
    have hC := mt_fld (i := 11) (v := nI 0) hC (by decide)
    have hF0 : FrM wi wl (z_up wi 45 11 (nI 0)) wl := fm_fld
    refine ⟨Nat.le_of_ble_eq_true rfl, fun Jm hs => ?_⟩
    unfold st_plus at h
    dsimp only at h
    have q23 := ms_q23 (mt_S hC)
    have hd3 := ms_hd (mt_S hC)
    refine hs 400 0 _ _ _ _ _ ?_
    conv => whnf
    repeat ((first | refine ⟨zH_of _, ?_⟩ | refine ⟨trivial, ?_⟩ | refine ⟨rfl, ?_⟩ | refine ⟨fun hc => absurd hc (by decide), fun _ => ?_⟩ | refine ⟨fun _ => ?_, fun hc => absurd (by decide) hc⟩ | refine ⟨fun _ => ?_, fun hc => absurd hc (by decide)⟩ | refine ⟨fun hc => absurd (by decide) hc, fun _ => ?_⟩); conv => whnf)
    try dsimp only
    generalize z_up wi 45 11 (nI 0) = wi0 at *
    have hS := mt_S hC
    have h40 := ms_40 hS
    have no : ¬ (idB c i && (idB c j && idB 3 t)) = true → K (some (.int (mI 1))) (GC ++ (GM ++ r), wi0, wl) := fun hn => by
      rw [if_neg hn] at h
      exact h wi0 wl hF0 hC
    refine ⟨c, ms_c hS, by omega, ?_⟩
    conv => whnf
    repeat ((first | refine ⟨zH_of _, ?_⟩ | refine ⟨trivial, ?_⟩ | refine ⟨rfl, ?_⟩ | refine ⟨fun hc => absurd hc (by decide), fun _ => ?_⟩ | refine ⟨fun _ => ?_, fun hc => absurd (by decide) hc⟩ | refine ⟨fun _ => ?_, fun hc => absurd hc (by decide)⟩ | refine ⟨fun hc => absurd (by decide) hc, fun _ => ?_⟩); conv => whnf)
    try dsimp only
    rw [bI_0]
    refine ⟨fun h1 => ⟨trivial, no (by simp [h1])⟩, fun h1 => ?_⟩
    conv => whnf
    repeat ((first | refine ⟨zH_of _, ?_⟩ | refine ⟨trivial, ?_⟩ | refine ⟨rfl, ?_⟩ | refine ⟨fun hc => absurd hc (by decide), fun _ => ?_⟩ | refine ⟨fun _ => ?_, fun hc => absurd (by decide) hc⟩ | refine ⟨fun _ => ?_, fun hc => absurd hc (by decide)⟩ | refine ⟨fun hc => absurd (by decide) hc, fun _ => ?_⟩); conv => whnf)
    try dsimp only
    refine ⟨c, ms_c hS, by omega, ?_⟩
    conv => whnf
    repeat ((first | refine ⟨zH_of _, ?_⟩ | refine ⟨trivial, ?_⟩ | refine ⟨rfl, ?_⟩ | refine ⟨fun hc => absurd hc (by decide), fun _ => ?_⟩ | refine ⟨fun _ => ?_, fun hc => absurd (by decide) hc⟩ | refine ⟨fun _ => ?_, fun hc => absurd hc (by decide)⟩ | refine ⟨fun hc => absurd (by decide) hc, fun _ => ?_⟩); conv => whnf)
    try dsimp only
    rw [bI_0]
    refine ⟨fun h2 => ⟨trivial, no (by simp [h2])⟩, fun h2 => ?_⟩
    conv => whnf
    repeat ((first | refine ⟨zH_of _, ?_⟩ | refine ⟨trivial, ?_⟩ | refine ⟨rfl, ?_⟩ | refine ⟨fun hc => absurd hc (by decide), fun _ => ?_⟩ | refine ⟨fun _ => ?_, fun hc => absurd (by decide) hc⟩ | refine ⟨fun _ => ?_, fun hc => absurd hc (by decide)⟩ | refine ⟨fun hc => absurd (by decide) hc, fun _ => ?_⟩); conv => whnf)
    try dsimp only
    rw [bI_0, Classical.not_not]
    refine ⟨fun h3 => ?_, fun h3 => ⟨trivial, no (by simp [h3])⟩⟩
    have h1 := Classical.not_not.mp h1
    have h2 := Classical.not_not.mp h2
    rw [if_pos (by simp [h1, h2, h3])] at h
    conv => whnf
    repeat ((first | refine ⟨zH_of _, ?_⟩ | refine ⟨trivial, ?_⟩ | refine ⟨rfl, ?_⟩ | refine ⟨fun hc => absurd hc (by decide), fun _ => ?_⟩ | refine ⟨fun _ => ?_, fun hc => absurd (by decide) hc⟩ | refine ⟨fun _ => ?_, fun hc => absurd hc (by decide)⟩ | refine ⟨fun hc => absurd (by decide) hc, fun _ => ?_⟩); conv => whnf)
    try dsimp only
    refine ⟨fun h4 => ?_, fun h4 => ?_⟩
    · rw [if_neg h4] at h
      obtain ⟨i', hi, rfl⟩ := idB_N h1 (by omega)
      obtain ⟨j', hj, rfl⟩ := idB_N h2 (by omega)
      obtain ⟨t', ht, rfl⟩ := idB_N h3 (by omega)
      rw [nc_N (by omega), nc_N (by omega), nc_N (by omega)] at h
      have hij : i' ≠ j' := fun z => h4 (by rw [z])
      conv => whnf
      repeat ((first | refine ⟨zH_of _, ?_⟩ | refine ⟨trivial, ?_⟩ | refine ⟨rfl, ?_⟩ | refine ⟨fun hc => absurd hc (by decide), fun _ => ?_⟩ | refine ⟨fun _ => ?_, fun hc => absurd (by decide) hc⟩ | refine ⟨fun _ => ?_, fun hc => absurd hc (by decide)⟩ | refine ⟨fun hc => absurd (by decide) hc, fun _ => ?_⟩); conv => whnf)
      try dsimp only
      rw [ms_c hS, nI_eq (by omega) (by omega)]
      by_cases hc4 : c = 40
      · rw [if_pos hc4] at h
        refine ⟨fun z => absurd hc4 z, fun _ => ⟨trivial, h wi0 wl hF0 hC⟩⟩
      rw [if_neg hc4] at h
      refine ⟨fun _ => ?_, fun z => absurd z hc4⟩
      have n1 := nx_lt t'
      have n2 := nx_lt (nx t')
      have ne := nx_ne ht
      have hW := fun n => plX_n (q := q) (A := A) hij hi hj ht n
      generalize plX q A c i' j' t' = W at *
      conv => whnf
      repeat ((first | refine ⟨zH_of _, ?_⟩ | refine ⟨trivial, ?_⟩ | refine ⟨rfl, ?_⟩ | refine ⟨fun hc => absurd hc (by decide), fun _ => ?_⟩ | refine ⟨fun _ => ?_, fun hc => absurd (by decide) hc⟩ | refine ⟨fun _ => ?_, fun hc => absurd hc (by decide)⟩ | refine ⟨fun hc => absurd (by decide) hc, fun _ => ?_⟩); conv => whnf)
      try dsimp only
      refine ⟨n30, ?_⟩
      conv => whnf
      repeat ((first | refine ⟨zH_of _, ?_⟩ | refine ⟨trivial, ?_⟩ | refine ⟨rfl, ?_⟩ | refine ⟨fun hc => absurd hc (by decide), fun _ => ?_⟩ | refine ⟨fun _ => ?_, fun hc => absurd (by decide) hc⟩ | refine ⟨fun _ => ?_, fun hc => absurd hc (by decide)⟩ | refine ⟨fun hc => absurd (by decide) hc, fun _ => ?_⟩); conv => whnf)
      try dsimp only
      refine ⟨n30, ?_⟩
      rw [nI_add, nI_add, z_remN (by omega) (by decide) (by decide), z_remN (by omega) (by decide) (by decide), mod2 ht, show (t' + 1) % 3 = nx t' from rfl]
      conv => whnf
      repeat ((first | refine ⟨zH_of _, ?_⟩ | refine ⟨trivial, ?_⟩ | refine ⟨rfl, ?_⟩ | refine ⟨fun hc => absurd hc (by decide), fun _ => ?_⟩ | refine ⟨fun _ => ?_, fun hc => absurd (by decide) hc⟩ | refine ⟨fun _ => ?_, fun hc => absurd hc (by decide)⟩ | refine ⟨fun hc => absurd (by decide) hc, fun _ => ?_⟩); conv => whnf)
      try dsimp only
      generalize nx (nx t') = v at *
      generalize nx t' = u at *
      have hq : ∀ k t p, k < c → t < 3 → p < 9 → A (3 * k + t) p < q := fun k t p h1 h2 h3 => ms_A hS _ (by omega) p h3
      have w1 : ∀ p, W (3 * c + t') p = (A (3 * j' + t') p + (q - A (3 * i' + t') p)) % q := fun p => by rw [hW, if_neg (by omega), if_neg (by omega), if_neg (by omega), if_pos rfl]; rfl
      have w2 : ∀ s p, s < 3 → s ≠ t' → W (3 * c + s) p = A (3 * j' + s) p := fun s p h1 h2 => by rw [hW, if_neg (by omega), if_neg (by omega), if_neg (by omega), if_neg (by omega), if_neg (by omega), show 3 * c + s - 3 * c = s by omega]
      have w4 : ∀ p, W (3 * j' + t') p = A (3 * i' + t') p := fun p => by rw [hW, if_neg (by omega), if_neg (by omega), if_pos rfl]
      have w5 : ∀ p, W (3 * j' + v) p = (A (3 * j' + v) p + (q - A (3 * i' + v) p)) % q := fun p => by rw [hW, if_neg (by omega), if_pos rfl]; rfl
      have w6 : ∀ p, W (3 * i' + u) p = (A (3 * i' + u) p + A (3 * j' + u) p) % q := fun p => by rw [hW, if_pos rfl]; rfl
      have w0 : ∀ n p, n < 3 * c → n ≠ 3 * i' + u → n ≠ 3 * j' + v → n ≠ 3 * j' + t' → W n p = A n p := fun n p g0 g1 g2 g3 => by rw [hW, if_neg g1, if_neg g2, if_neg g3, if_neg (by omega), if_pos g0]
      clear hW
      have loop := up_ind (P := fun k => ∀ wi' : Nat → Nat → Int32, (∀ y, y ≠ 47 → wi' y = wi0 y) → RW wi' 47 (27 * c) (mixA k A W) → (∀ s, s < 3 → ∀ p, p < k → wi' 47 (27 * c + 9 * s + p) = nI (W (3 * c + s) p)) → Jm 67 [some (.ref 45), some (.int (nI i')), some (.int (nI j')), some (.int (nI t')), some (.int (nI u)), some (.int (nI v)), some (.int (nI k))] [] (GC ++ (GM ++ r), wi', wl) 0 0) 9 (fun k hk ih => by
        intro wi' hF hR hB
        refine hs 400 67 _ _ _ _ _ ?_
        conv => whnf
        repeat ((first | refine ⟨zH_of _, ?_⟩ | refine ⟨trivial, ?_⟩ | refine ⟨rfl, ?_⟩ | refine ⟨fun hc => absurd hc (by decide), fun _ => ?_⟩ | refine ⟨fun _ => ?_, fun hc => absurd (by decide) hc⟩ | refine ⟨fun _ => ?_, fun hc => absurd hc (by decide)⟩ | refine ⟨fun hc => absurd (by decide) hc, fun _ => ?_⟩); conv => whnf)
        try dsimp only
        rw [ltN (by omega) (by omega)]
        refine ⟨fun hc => ?_, fun hc => ?_⟩
        · obtain rfl : k = 9 := by omega
          have e2 : wi' 45 2 = nI c := by rw [hF 45 (by decide)]; exact ms_c hS
          have hS2 : MS (z_up wi' 45 2 (nI (c + 1))) d q (c + 1) W := by
            refine ⟨fun t ht => by rw [z_up_ne (by decide), hF 46 (by decide)]; exact ms_d hS t ht, ⟨by rw [z_up_nei (by decide), hF 45 (by decide)]; exact ms_q hS, z_up_eq⟩, fun n hn => ?_, q23, hd3, by omega, fun n hn p hp => ?_⟩
            · rw [z_up_ne (by decide)]
              by_cases g : n < 27 * c
              · rw [hR n g]
                unfold fl mixA
                rw [if_pos (by omega)]
              · have k := hB ((n - 27 * c) / 9) (by omega) (n % 9) (by omega)
                rw [show 27 * c + 9 * ((n - 27 * c) / 9) + n % 9 = n by omega, show 3 * c + (n - 27 * c) / 9 = n / 9 by omega] at k
                exact k
            · by_cases g1 : n = 3 * i' + u
              · rw [g1, w6]
                exact Nat.mod_lt _ (by omega)
              · by_cases g2 : n = 3 * j' + v
                · rw [g2, w5]
                  exact Nat.mod_lt _ (by omega)
                · by_cases g3 : n = 3 * j' + t'
                  · rw [g3, w4]
                    exact hq _ _ p hi ht hp
                  · by_cases g4 : n < 3 * c
                    · rw [w0 n p g4 g1 g2 g3]
                      exact ms_A hS n g4 p hp
                    · by_cases g5 : n = 3 * c + t'
                      · rw [g5, w1]
                        exact Nat.mod_lt _ (by omega)
                      · have k := w2 (n - 3 * c) p (by omega) (by omega)
                        rw [show 3 * c + (n - 3 * c) = n by omega] at k
                        rw [k]
                        exact hq _ _ p hj (by omega) hp
          have h := h _ wl (FrM_trans hF0 (fun y hy => ⟨by rw [z_up_ne (by omega), hF y (by omega)], rfl⟩)) (mt_now hC hS2 (fun i hi => by rw [z_up_nei (by omega), hF 45 (by decide)]) (fun y hy => by rw [z_up_ne (by omega), hF y (by omega)]) rfl)
          conv => whnf
          repeat ((first | refine ⟨zH_of _, ?_⟩ | refine ⟨trivial, ?_⟩ | refine ⟨rfl, ?_⟩ | refine ⟨fun hc => absurd hc (by decide), fun _ => ?_⟩ | refine ⟨fun _ => ?_, fun hc => absurd (by decide) hc⟩ | refine ⟨fun _ => ?_, fun hc => absurd hc (by decide)⟩ | refine ⟨fun hc => absurd (by decide) hc, fun _ => ?_⟩); conv => whnf)
          try dsimp only
          rw [e2, nI_add, z_up_eq]
          exact h
        · have ih := ih hc
          have rd : ∀ m s, m < c → s < 3 → wi' 47 (27 * m + 9 * s + k) = nI (A (3 * m + s) k) := fun m s h1 h2 => by
            rw [hR _ (by omega)]
            unfold fl mixA
            rw [show (27 * m + 9 * s + k) / 9 = 3 * m + s by omega, show (27 * m + 9 * s + k) % 9 = k by omega, if_neg (Nat.lt_irrefl k)]
          have c0 : wi' 45 2 = nI c := by rw [hF 45 (by decide)]; exact ms_c hS
          have q0 : wi' 45 1 = nI q := by rw [hF 45 (by decide)]; exact ms_q hS
          have eit := rd i' t' hi ht
          have leit := hq i' t' k hi ht hc
          have eiu := rd i' u hi n1
          have leiu := hq i' u k hi n1 hc
          have eiv := rd i' v hi n2
          have leiv := hq i' v k hi n2 hc
          have ejt := rd j' t' hj ht
          have lejt := hq j' t' k hj ht hc
          have eju := rd j' u hj n1
          have leju := hq j' u k hj n1 hc
          have ejv := rd j' v hj n2
          have lejv := hq j' v k hj n2 hc
          have w1 := w1 k
          have w2 := fun s => w2 s k
          have w4 := w4 k
          have w5 := w5 k
          have w6 := w6 k
          conv => whnf
          repeat ((first | refine ⟨zH_of _, ?_⟩ | refine ⟨trivial, ?_⟩ | refine ⟨rfl, ?_⟩ | refine ⟨fun hc => absurd hc (by decide), fun _ => ?_⟩ | refine ⟨fun _ => ?_, fun hc => absurd (by decide) hc⟩ | refine ⟨fun _ => ?_, fun hc => absurd hc (by decide)⟩ | refine ⟨fun hc => absurd (by decide) hc, fun _ => ?_⟩); conv => whnf)
          try dsimp only
          rw [c0, at_N c t' k, at_N j' t' k]
          refine ⟨vp_in_nI (show 27 * j' + 9 * t' + k < 1080 by omega) (by decide), ?_⟩
          conv => whnf
          repeat ((first | refine ⟨zH_of _, ?_⟩ | refine ⟨trivial, ?_⟩ | refine ⟨rfl, ?_⟩ | refine ⟨fun hc => absurd hc (by decide), fun _ => ?_⟩ | refine ⟨fun _ => ?_, fun hc => absurd (by decide) hc⟩ | refine ⟨fun _ => ?_, fun hc => absurd hc (by decide)⟩ | refine ⟨fun hc => absurd (by decide) hc, fun _ => ?_⟩); conv => whnf)
          try dsimp only
          rw [at_N i' t' k]
          refine ⟨vp_in_nI (show 27 * i' + 9 * t' + k < 1080 by omega) (by decide), ?_⟩
          conv => whnf
          repeat ((first | refine ⟨zH_of _, ?_⟩ | refine ⟨trivial, ?_⟩ | refine ⟨rfl, ?_⟩ | refine ⟨fun hc => absurd hc (by decide), fun _ => ?_⟩ | refine ⟨fun _ => ?_, fun hc => absurd (by decide) hc⟩ | refine ⟨fun _ => ?_, fun hc => absurd hc (by decide)⟩ | refine ⟨fun hc => absurd (by decide) hc, fun _ => ?_⟩); conv => whnf)
          try dsimp only
          rw [nI_clamp (n := 27 * j' + 9 * t' + k) (by omega), nI_clamp (n := 27 * i' + 9 * t' + k) (by omega), ejt, eit]
          refine ⟨q, q0, q23, ?_⟩
          rw [mod_sub q23 (by omega) (by omega), Nat.mod_eq_of_lt leit]
          conv => whnf
          repeat ((first | refine ⟨zH_of _, ?_⟩ | refine ⟨trivial, ?_⟩ | refine ⟨rfl, ?_⟩ | refine ⟨fun hc => absurd hc (by decide), fun _ => ?_⟩ | refine ⟨fun _ => ?_, fun hc => absurd (by decide) hc⟩ | refine ⟨fun _ => ?_, fun hc => absurd hc (by decide)⟩ | refine ⟨fun hc => absurd (by decide) hc, fun _ => ?_⟩); conv => whnf)
          try dsimp only
          refine ⟨vp_in_nI (show 27 * c + 9 * t' + k < 1080 by omega) (by decide), ?_⟩
          rw [nI_clamp (n := 27 * c + 9 * t' + k) (by omega)]
          obtain ⟨wu1, hwu1⟩ : ∃ wu1, wu1 = z_up wi' 47 (27 * c + 9 * t' + k) (nI ((A (3 * j' + t') k + (q - A (3 * i' + t') k)) % q)) := ⟨_, rfl⟩
          rw [← hwu1]
          have r1 : ∀ x, x ≠ 27 * c + 9 * t' + k → wu1 47 x = wi' 47 x := fun x hx => by rw [hwu1]; exact z_up_nei hx
          have v1 : wu1 47 (27 * c + 9 * t' + k) = nI ((A (3 * j' + t') k + (q - A (3 * i' + t') k)) % q) := by rw [hwu1]; exact z_up_eq
          have f1 : ∀ y, y ≠ 47 → wu1 y = wi' y := fun y hy => by rw [hwu1]; exact z_up_ne hy
          clear hwu1
          have c1 : wu1 45 2 = nI c := by rw [f1 45 (by decide)]; exact c0
          have q1 : wu1 45 1 = nI q := by rw [f1 45 (by decide)]; exact q0
          conv => whnf
          repeat ((first | refine ⟨zH_of _, ?_⟩ | refine ⟨trivial, ?_⟩ | refine ⟨rfl, ?_⟩ | refine ⟨fun hc => absurd hc (by decide), fun _ => ?_⟩ | refine ⟨fun _ => ?_, fun hc => absurd (by decide) hc⟩ | refine ⟨fun _ => ?_, fun hc => absurd hc (by decide)⟩ | refine ⟨fun hc => absurd (by decide) hc, fun _ => ?_⟩); conv => whnf)
          try dsimp only
          rw [c1, at_N c u k, at_N j' u k]
          refine ⟨vp_in_nI (show 27 * j' + 9 * u + k < 1080 by omega) (by decide), ?_⟩
          conv => whnf
          repeat ((first | refine ⟨zH_of _, ?_⟩ | refine ⟨trivial, ?_⟩ | refine ⟨rfl, ?_⟩ | refine ⟨fun hc => absurd hc (by decide), fun _ => ?_⟩ | refine ⟨fun _ => ?_, fun hc => absurd (by decide) hc⟩ | refine ⟨fun _ => ?_, fun hc => absurd hc (by decide)⟩ | refine ⟨fun hc => absurd (by decide) hc, fun _ => ?_⟩); conv => whnf)
          try dsimp only
          refine ⟨vp_in_nI (show 27 * c + 9 * u + k < 1080 by omega) (by decide), ?_⟩
          rw [nI_clamp (n := 27 * j' + 9 * u + k) (by omega), nI_clamp (n := 27 * c + 9 * u + k) (by omega), r1 (27 * j' + 9 * u + k) (by omega), eju]
          obtain ⟨wu2, hwu2⟩ : ∃ wu2, wu2 = z_up wu1 47 (27 * c + 9 * u + k) (nI (A (3 * j' + u) k)) := ⟨_, rfl⟩
          rw [← hwu2]
          have r2 : ∀ x, x ≠ 27 * c + 9 * u + k → wu2 47 x = wu1 47 x := fun x hx => by rw [hwu2]; exact z_up_nei hx
          have v2 : wu2 47 (27 * c + 9 * u + k) = nI (A (3 * j' + u) k) := by rw [hwu2]; exact z_up_eq
          have f2 : ∀ y, y ≠ 47 → wu2 y = wu1 y := fun y hy => by rw [hwu2]; exact z_up_ne hy
          clear hwu2
          have c2 : wu2 45 2 = nI c := by rw [f2 45 (by decide)]; exact c1
          have q2 : wu2 45 1 = nI q := by rw [f2 45 (by decide)]; exact q1
          conv => whnf
          repeat ((first | refine ⟨zH_of _, ?_⟩ | refine ⟨trivial, ?_⟩ | refine ⟨rfl, ?_⟩ | refine ⟨fun hc => absurd hc (by decide), fun _ => ?_⟩ | refine ⟨fun _ => ?_, fun hc => absurd (by decide) hc⟩ | refine ⟨fun _ => ?_, fun hc => absurd hc (by decide)⟩ | refine ⟨fun hc => absurd (by decide) hc, fun _ => ?_⟩); conv => whnf)
          try dsimp only
          rw [c2, at_N c v k, at_N j' v k]
          refine ⟨vp_in_nI (show 27 * j' + 9 * v + k < 1080 by omega) (by decide), ?_⟩
          conv => whnf
          repeat ((first | refine ⟨zH_of _, ?_⟩ | refine ⟨trivial, ?_⟩ | refine ⟨rfl, ?_⟩ | refine ⟨fun hc => absurd hc (by decide), fun _ => ?_⟩ | refine ⟨fun _ => ?_, fun hc => absurd (by decide) hc⟩ | refine ⟨fun _ => ?_, fun hc => absurd hc (by decide)⟩ | refine ⟨fun hc => absurd (by decide) hc, fun _ => ?_⟩); conv => whnf)
          try dsimp only
          refine ⟨vp_in_nI (show 27 * c + 9 * v + k < 1080 by omega) (by decide), ?_⟩
          rw [nI_clamp (n := 27 * j' + 9 * v + k) (by omega), nI_clamp (n := 27 * c + 9 * v + k) (by omega), r2 (27 * j' + 9 * v + k) (by omega), r1 (27 * j' + 9 * v + k) (by omega), ejv]
          obtain ⟨wu3, hwu3⟩ : ∃ wu3, wu3 = z_up wu2 47 (27 * c + 9 * v + k) (nI (A (3 * j' + v) k)) := ⟨_, rfl⟩
          rw [← hwu3]
          have r3 : ∀ x, x ≠ 27 * c + 9 * v + k → wu3 47 x = wu2 47 x := fun x hx => by rw [hwu3]; exact z_up_nei hx
          have v3 : wu3 47 (27 * c + 9 * v + k) = nI (A (3 * j' + v) k) := by rw [hwu3]; exact z_up_eq
          have f3 : ∀ y, y ≠ 47 → wu3 y = wu2 y := fun y hy => by rw [hwu3]; exact z_up_ne hy
          clear hwu3
          have c3 : wu3 45 2 = nI c := by rw [f3 45 (by decide)]; exact c2
          have q3 : wu3 45 1 = nI q := by rw [f3 45 (by decide)]; exact q2
          conv => whnf
          repeat ((first | refine ⟨zH_of _, ?_⟩ | refine ⟨trivial, ?_⟩ | refine ⟨rfl, ?_⟩ | refine ⟨fun hc => absurd hc (by decide), fun _ => ?_⟩ | refine ⟨fun _ => ?_, fun hc => absurd (by decide) hc⟩ | refine ⟨fun _ => ?_, fun hc => absurd hc (by decide)⟩ | refine ⟨fun hc => absurd (by decide) hc, fun _ => ?_⟩); conv => whnf)
          try dsimp only
          rw [at_N j' t' k, at_N i' t' k]
          refine ⟨vp_in_nI (show 27 * i' + 9 * t' + k < 1080 by omega) (by decide), ?_⟩
          conv => whnf
          repeat ((first | refine ⟨zH_of _, ?_⟩ | refine ⟨trivial, ?_⟩ | refine ⟨rfl, ?_⟩ | refine ⟨fun hc => absurd hc (by decide), fun _ => ?_⟩ | refine ⟨fun _ => ?_, fun hc => absurd (by decide) hc⟩ | refine ⟨fun _ => ?_, fun hc => absurd hc (by decide)⟩ | refine ⟨fun hc => absurd (by decide) hc, fun _ => ?_⟩); conv => whnf)
          try dsimp only
          refine ⟨vp_in_nI (show 27 * j' + 9 * t' + k < 1080 by omega) (by decide), ?_⟩
          rw [nI_clamp (n := 27 * i' + 9 * t' + k) (by omega), nI_clamp (n := 27 * j' + 9 * t' + k) (by omega), r3 (27 * i' + 9 * t' + k) (by omega), r2 (27 * i' + 9 * t' + k) (by omega), r1 (27 * i' + 9 * t' + k) (by omega), eit]
          obtain ⟨wu4, hwu4⟩ : ∃ wu4, wu4 = z_up wu3 47 (27 * j' + 9 * t' + k) (nI (A (3 * i' + t') k)) := ⟨_, rfl⟩
          rw [← hwu4]
          have r4 : ∀ x, x ≠ 27 * j' + 9 * t' + k → wu4 47 x = wu3 47 x := fun x hx => by rw [hwu4]; exact z_up_nei hx
          have v4 : wu4 47 (27 * j' + 9 * t' + k) = nI (A (3 * i' + t') k) := by rw [hwu4]; exact z_up_eq
          have f4 : ∀ y, y ≠ 47 → wu4 y = wu3 y := fun y hy => by rw [hwu4]; exact z_up_ne hy
          clear hwu4
          have c4 : wu4 45 2 = nI c := by rw [f4 45 (by decide)]; exact c3
          have q4 : wu4 45 1 = nI q := by rw [f4 45 (by decide)]; exact q3
          conv => whnf
          repeat ((first | refine ⟨zH_of _, ?_⟩ | refine ⟨trivial, ?_⟩ | refine ⟨rfl, ?_⟩ | refine ⟨fun hc => absurd hc (by decide), fun _ => ?_⟩ | refine ⟨fun _ => ?_, fun hc => absurd (by decide) hc⟩ | refine ⟨fun _ => ?_, fun hc => absurd hc (by decide)⟩ | refine ⟨fun hc => absurd (by decide) hc, fun _ => ?_⟩); conv => whnf)
          try dsimp only
          rw [at_N j' v k]
          refine ⟨vp_in_nI (show 27 * j' + 9 * v + k < 1080 by omega) (by decide), ?_⟩
          conv => whnf
          repeat ((first | refine ⟨zH_of _, ?_⟩ | refine ⟨trivial, ?_⟩ | refine ⟨rfl, ?_⟩ | refine ⟨fun hc => absurd hc (by decide), fun _ => ?_⟩ | refine ⟨fun _ => ?_, fun hc => absurd (by decide) hc⟩ | refine ⟨fun _ => ?_, fun hc => absurd hc (by decide)⟩ | refine ⟨fun hc => absurd (by decide) hc, fun _ => ?_⟩); conv => whnf)
          try dsimp only
          rw [at_N i' v k]
          refine ⟨vp_in_nI (show 27 * i' + 9 * v + k < 1080 by omega) (by decide), ?_⟩
          conv => whnf
          repeat ((first | refine ⟨zH_of _, ?_⟩ | refine ⟨trivial, ?_⟩ | refine ⟨rfl, ?_⟩ | refine ⟨fun hc => absurd hc (by decide), fun _ => ?_⟩ | refine ⟨fun _ => ?_, fun hc => absurd (by decide) hc⟩ | refine ⟨fun _ => ?_, fun hc => absurd hc (by decide)⟩ | refine ⟨fun hc => absurd (by decide) hc, fun _ => ?_⟩); conv => whnf)
          try dsimp only
          rw [nI_clamp (n := 27 * j' + 9 * v + k) (by omega), nI_clamp (n := 27 * i' + 9 * v + k) (by omega), r4 (27 * j' + 9 * v + k) (by omega), r3 (27 * j' + 9 * v + k) (by omega), r2 (27 * j' + 9 * v + k) (by omega), r1 (27 * j' + 9 * v + k) (by omega), ejv, r4 (27 * i' + 9 * v + k) (by omega), r3 (27 * i' + 9 * v + k) (by omega), r2 (27 * i' + 9 * v + k) (by omega), r1 (27 * i' + 9 * v + k) (by omega), eiv]
          refine ⟨q, q4, q23, ?_⟩
          rw [mod_sub q23 (by omega) (by omega), Nat.mod_eq_of_lt leiv]
          conv => whnf
          repeat ((first | refine ⟨zH_of _, ?_⟩ | refine ⟨trivial, ?_⟩ | refine ⟨rfl, ?_⟩ | refine ⟨fun hc => absurd hc (by decide), fun _ => ?_⟩ | refine ⟨fun _ => ?_, fun hc => absurd (by decide) hc⟩ | refine ⟨fun _ => ?_, fun hc => absurd hc (by decide)⟩ | refine ⟨fun hc => absurd (by decide) hc, fun _ => ?_⟩); conv => whnf)
          try dsimp only
          refine ⟨vp_in_nI (show 27 * j' + 9 * v + k < 1080 by omega) (by decide), ?_⟩
          rw [nI_clamp (n := 27 * j' + 9 * v + k) (by omega)]
          obtain ⟨wu5, hwu5⟩ : ∃ wu5, wu5 = z_up wu4 47 (27 * j' + 9 * v + k) (nI ((A (3 * j' + v) k + (q - A (3 * i' + v) k)) % q)) := ⟨_, rfl⟩
          rw [← hwu5]
          have r5 : ∀ x, x ≠ 27 * j' + 9 * v + k → wu5 47 x = wu4 47 x := fun x hx => by rw [hwu5]; exact z_up_nei hx
          have v5 : wu5 47 (27 * j' + 9 * v + k) = nI ((A (3 * j' + v) k + (q - A (3 * i' + v) k)) % q) := by rw [hwu5]; exact z_up_eq
          have f5 : ∀ y, y ≠ 47 → wu5 y = wu4 y := fun y hy => by rw [hwu5]; exact z_up_ne hy
          clear hwu5
          have c5 : wu5 45 2 = nI c := by rw [f5 45 (by decide)]; exact c4
          have q5 : wu5 45 1 = nI q := by rw [f5 45 (by decide)]; exact q4
          conv => whnf
          repeat ((first | refine ⟨zH_of _, ?_⟩ | refine ⟨trivial, ?_⟩ | refine ⟨rfl, ?_⟩ | refine ⟨fun hc => absurd hc (by decide), fun _ => ?_⟩ | refine ⟨fun _ => ?_, fun hc => absurd (by decide) hc⟩ | refine ⟨fun _ => ?_, fun hc => absurd hc (by decide)⟩ | refine ⟨fun hc => absurd (by decide) hc, fun _ => ?_⟩); conv => whnf)
          try dsimp only
          rw [at_N i' u k]
          refine ⟨vp_in_nI (show 27 * i' + 9 * u + k < 1080 by omega) (by decide), ?_⟩
          conv => whnf
          repeat ((first | refine ⟨zH_of _, ?_⟩ | refine ⟨trivial, ?_⟩ | refine ⟨rfl, ?_⟩ | refine ⟨fun hc => absurd hc (by decide), fun _ => ?_⟩ | refine ⟨fun _ => ?_, fun hc => absurd (by decide) hc⟩ | refine ⟨fun _ => ?_, fun hc => absurd hc (by decide)⟩ | refine ⟨fun hc => absurd (by decide) hc, fun _ => ?_⟩); conv => whnf)
          try dsimp only
          rw [at_N j' u k]
          refine ⟨vp_in_nI (show 27 * j' + 9 * u + k < 1080 by omega) (by decide), ?_⟩
          conv => whnf
          repeat ((first | refine ⟨zH_of _, ?_⟩ | refine ⟨trivial, ?_⟩ | refine ⟨rfl, ?_⟩ | refine ⟨fun hc => absurd hc (by decide), fun _ => ?_⟩ | refine ⟨fun _ => ?_, fun hc => absurd (by decide) hc⟩ | refine ⟨fun _ => ?_, fun hc => absurd hc (by decide)⟩ | refine ⟨fun hc => absurd (by decide) hc, fun _ => ?_⟩); conv => whnf)
          try dsimp only
          rw [nI_clamp (n := 27 * i' + 9 * u + k) (by omega), nI_clamp (n := 27 * j' + 9 * u + k) (by omega), r5 (27 * i' + 9 * u + k) (by omega), r4 (27 * i' + 9 * u + k) (by omega), r3 (27 * i' + 9 * u + k) (by omega), r2 (27 * i' + 9 * u + k) (by omega), r1 (27 * i' + 9 * u + k) (by omega), eiu, r5 (27 * j' + 9 * u + k) (by omega), r4 (27 * j' + 9 * u + k) (by omega), r3 (27 * j' + 9 * u + k) (by omega), r2 (27 * j' + 9 * u + k) (by omega), r1 (27 * j' + 9 * u + k) (by omega), eju]
          refine ⟨q, q5, q23, ?_⟩
          rw [nI_add, mod_add q23 (by omega)]
          conv => whnf
          repeat ((first | refine ⟨zH_of _, ?_⟩ | refine ⟨trivial, ?_⟩ | refine ⟨rfl, ?_⟩ | refine ⟨fun hc => absurd hc (by decide), fun _ => ?_⟩ | refine ⟨fun _ => ?_, fun hc => absurd (by decide) hc⟩ | refine ⟨fun _ => ?_, fun hc => absurd hc (by decide)⟩ | refine ⟨fun hc => absurd (by decide) hc, fun _ => ?_⟩); conv => whnf)
          try dsimp only
          refine ⟨vp_in_nI (show 27 * i' + 9 * u + k < 1080 by omega) (by decide), ?_⟩
          rw [nI_clamp (n := 27 * i' + 9 * u + k) (by omega)]
          obtain ⟨wu6, hwu6⟩ : ∃ wu6, wu6 = z_up wu5 47 (27 * i' + 9 * u + k) (nI ((A (3 * i' + u) k + A (3 * j' + u) k) % q)) := ⟨_, rfl⟩
          rw [← hwu6]
          have r6 : ∀ x, x ≠ 27 * i' + 9 * u + k → wu6 47 x = wu5 47 x := fun x hx => by rw [hwu6]; exact z_up_nei hx
          have v6 : wu6 47 (27 * i' + 9 * u + k) = nI ((A (3 * i' + u) k + A (3 * j' + u) k) % q) := by rw [hwu6]; exact z_up_eq
          have f6 : ∀ y, y ≠ 47 → wu6 y = wu5 y := fun y hy => by rw [hwu6]; exact z_up_ne hy
          clear hwu6
          have c6 : wu6 45 2 = nI c := by rw [f6 45 (by decide)]; exact c5
          have q6 : wu6 45 1 = nI q := by rw [f6 45 (by decide)]; exact q5
          conv => whnf
          repeat ((first | refine ⟨zH_of _, ?_⟩ | refine ⟨trivial, ?_⟩ | refine ⟨rfl, ?_⟩ | refine ⟨fun hc => absurd hc (by decide), fun _ => ?_⟩ | refine ⟨fun _ => ?_, fun hc => absurd (by decide) hc⟩ | refine ⟨fun _ => ?_, fun hc => absurd hc (by decide)⟩ | refine ⟨fun hc => absurd (by decide) hc, fun _ => ?_⟩); conv => whnf)
          try dsimp only
          rw [nI_add]
          refine ih _ (fun y hy => by rw [f6 y hy, f5 y hy, f4 y hy, f3 y hy, f2 y hy, f1 y hy, hF y hy]) (fun n hn => ?_) (fun s hs p hp => ?_)
          · unfold fl mixA
            by_cases b6 : n = 27 * i' + 9 * u + k
            · rw [b6, v6, show (27 * i' + 9 * u + k) / 9 = 3 * i' + u by omega, show (27 * i' + 9 * u + k) % 9 = k by omega, if_pos (Nat.lt_succ_self k), w6]
            · skip
              by_cases b5 : n = 27 * j' + 9 * v + k
              · rw [b5, r6 (27 * j' + 9 * v + k) (by omega), v5, show (27 * j' + 9 * v + k) / 9 = 3 * j' + v by omega, show (27 * j' + 9 * v + k) % 9 = k by omega, if_pos (Nat.lt_succ_self k), w5]
              · skip
                by_cases b4 : n = 27 * j' + 9 * t' + k
                · rw [b4, r6 (27 * j' + 9 * t' + k) (by omega), r5 (27 * j' + 9 * t' + k) (by omega), v4, show (27 * j' + 9 * t' + k) / 9 = 3 * j' + t' by omega, show (27 * j' + 9 * t' + k) % 9 = k by omega, if_pos (Nat.lt_succ_self k), w4]
                · skip
                  rw [r6 n b6, r5 n b5, r4 n b4, r3 n (by omega), r2 n (by omega), r1 n (by omega), hR n hn]
                  unfold fl mixA
                  by_cases g : n % 9 < k
                  · rw [if_pos g, if_pos (by omega)]
                  · rw [if_neg g]
                    by_cases g0 : n % 9 = k
                    · rw [if_pos (by omega), w0 _ _ (by omega) (by omega) (by omega) (by omega)]
                    · rw [if_neg (by omega)]
          · have hx : ∀ x, 27 * c ≤ x → wu6 47 x = wu3 47 x := fun x hx => by rw [r6 x (by omega), r5 x (by omega), r4 x (by omega)]
            rw [hx _ (by omega)]
            by_cases e : p = k
            · subst e
              by_cases g1 : s = t'
              · rw [g1, r3 _ (by omega), r2 _ (by omega), v1, w1]
              · rw [w2 s hs g1]
                by_cases g2 : s = u
                · rw [g2, r3 _ (by omega), v2]
                · obtain rfl : s = v := by omega
                  rw [v3]
            · rw [r3 _ (by omega), r2 _ (by omega), r1 _ (by omega)]
              exact hB s hs p (by omega))
      exact loop 0 (Nat.zero_le _) wi0 (fun _ _ => rfl) (fun n hn => by rw [ms_f hS n hn]; rfl) (fun s _ p hp => absurd hp (Nat.not_lt_zero p))
    · rw [if_pos h4] at h
      exact ⟨trivial, h wi0 wl hF0 hC⟩

