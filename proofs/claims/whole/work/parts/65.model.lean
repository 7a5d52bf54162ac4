/-! the reference: a flip -/
theorem tfA_n {q i j t : Nat} {A : Nat → Nat → Nat} (hij : i ≠ j) (ht : t < 3) (n : Nat) : tfA q A i j t n = if n = 3 * j + nx (nx t) then fSub q (A (3 * j + nx (nx t))) (A (3 * i + nx (nx t))) else if n = 3 * i + nx t then fAdd q (A (3 * i + nx t)) (fMul q (likeN q (A (3 * i + t)) (A (3 * j + t))) (A (3 * j + nx t))) else if n = 3 * j + nx t then fMul q (likeN q (A (3 * i + t)) (A (3 * j + t))) (A (3 * j + nx t)) else if n = 3 * j + t then A (3 * i + t) else A n := by
  have n1 := nx_lt t
  have n2 := nx_lt (nx t)
  have ne := nx_ne ht
  unfold tfA tf4 tf3 tf2 tf1 upA
  generalize nx (nx t) = v at *
  generalize nx t = u at *
  simp only [show (3 * j + u = 3 * j + t) = False from eq_false (by omega), show (3 * i + u = 3 * j + u) = False from eq_false (by omega), show (3 * i + u = 3 * j + t) = False from eq_false (by omega), show (3 * j + v = 3 * i + u) = False from eq_false (by omega), show (3 * j + v = 3 * j + u) = False from eq_false (by omega), show (3 * j + v = 3 * j + t) = False from eq_false (by omega), show (3 * i + v = 3 * i + u) = False from eq_false (by omega), show (3 * i + v = 3 * j + u) = False from eq_false (by omega), show (3 * i + v = 3 * j + t) = False from eq_false (by omega), if_false, if_true]
theorem mod2 {t : Nat} (h : t < 3) : (t + 2) % 3 = nx (nx t) := by
  rcases lt3 h with rfl | rfl | rfl <;> rfl
def mixA (k : Nat) (A W : Nat → Nat → Nat) : Nat → Nat → Nat := fun n p => if p < k then W n p else A n p
def sp_X12_goFlip : zSp := fun av w K => match av with
  | [.ref o, .int i, .int j, .int t] => o = 45 ∧ zH w.1 ∧ ∃ d q c A i' j' t', MS w.2.1 d q c A ∧ i = nI i' ∧ i' < c ∧ j = nI j' ∧ j' < c ∧ i' ≠ j' ∧ t = nI t' ∧ t' < 3 ∧ ∀ wi' : Nat → Nat → Int32, (∀ y, y ≠ 47 → wi' y = w.2.1 y) → MS wi' d q c (tfA q A i' j' t') → K none (w.1, wi', w.2.2)
  | _ => False
def rm_X12_goFlip : Room := { frames := 3, cells := 0, slots := 0, locals := 72 }
def M_X12_goFlip : zM := (k_X12_goFlip, f_X12, [(217, 4, 10, 4, 0, 0, sp_X12_likeAt), (107, 0, 0, 3, 0, 0, sp_X12_at), (223, 4, 10, 2, 0, 0, sp_X12_mod)], ([], [], []), [], [(26, [true, true, true, true, true, true, true, true])], 0, false, (false, 0, fun _ => 0), (0, 0))
theorem ca_X12_goFlip_0 (l : Launch) : z_cok l RX12 (headSpec (.code yX12_goFlip cX12_goFlip 8 none :: zTT) rm_X12_goFlip).room (217, 4, 10, 4, 0, 0, sp_X12_likeAt) := z_ca4 (c_X12_likeAt l) mb_X12_likeAt ⟨_, rfl, rfl⟩ wt_1404 wt_1406 wt_53 (by decide)
theorem ca_X12_goFlip_1 (l : Launch) : z_cok l RX12 (headSpec (.code yX12_goFlip cX12_goFlip 8 none :: zTT) rm_X12_goFlip).room (107, 0, 0, 3, 0, 0, sp_X12_at) := z_ca0 (c_X12_at l) mb_X12_at wt_1136 wt_1137 (by decide)
theorem ca_X12_goFlip_2 (l : Launch) : z_cok l RX12 (headSpec (.code yX12_goFlip cX12_goFlip 8 none :: zTT) rm_X12_goFlip).room (223, 4, 10, 2, 0, 0, sp_X12_mod) := z_ca4 (c_X12_mod l) mb_X12_mod ⟨_, rfl, rfl⟩ wt_1431 wt_1433 wt_57 (by decide)
theorem O_X12_goFlip (l : Launch) : z_OK l RX12 cX12_goFlip (headSpec (.code yX12_goFlip cX12_goFlip 8 none :: zTT) rm_X12_goFlip).room M_X12_goFlip := ⟨ok_X12_goFlip, fo_X12, List.forall_mem_cons.mpr ⟨ca_X12_goFlip_0 l, List.forall_mem_cons.mpr ⟨ca_X12_goFlip_1 l, List.forall_mem_cons.mpr ⟨ca_X12_goFlip_2 l, fun _ h => absurd h List.not_mem_nil⟩⟩⟩, fun _ h => absurd h List.not_mem_nil, fun _ h => absurd h List.not_mem_nil, fun _ h => absurd h List.not_mem_nil, fun _ h => absurd h List.not_mem_nil, rfl, rfl⟩
theorem c_X12_goFlip (l : Launch) : z_CS l yX12_goFlip cX12_goFlip 8 none rm_X12_goFlip sp_X12_goFlip := by
  refine z_meth (by decide) (Or.inl ⟨rfl, rfl⟩) (fun h => by cases h) rfl (O_X12_goFlip l) ?_
  intro av w K h
  match av, h with
  | [.ref o, .int i, .int j, .int t], h =>
    obtain ⟨rfl, ⟨r, hG⟩, d, q, c, A, i', j', t', hS, rfl, hi, rfl, hj, hij, rfl, ht, h⟩ := h
    obtain ⟨G, wi, wl⟩ := w
    subst hG
    try dsimp only at h hS
    have h40 := ms_40 hS
    have q23 := ms_q23 hS
    have n1 := nx_lt t'
    have n2 := nx_lt (nx t')
    have ne := nx_ne ht
    have l3 := likeN_lt q (A (3 * i' + t')) (A (3 * j' + t'))
    have hW := fun n => tfA_n (q := q) (A := A) hij ht n
    have hq : ∀ k t p, k < c → t < 3 → p < 9 → A (3 * k + t) p < q := fun k t p h1 h2 h3 => ms_A hS _ (by omega) p h3
    generalize tfA q A i' j' t' = W at h hW
    refine ⟨Nat.le_of_ble_eq_true rfl, fun Jm hs => hs 400 0 _ _ _ _ _ ?_⟩
    conv => whnf
    repeat ((first | refine ⟨zH_of _, ?_⟩ | refine ⟨trivial, ?_⟩ | refine ⟨rfl, ?_⟩ | refine ⟨fun hc => absurd hc (by decide), fun _ => ?_⟩ | refine ⟨fun _ => ?_, fun hc => absurd (by decide) hc⟩ | refine ⟨fun _ => ?_, fun hc => absurd hc (by decide)⟩ | refine ⟨fun hc => absurd (by decide) hc, fun _ => ?_⟩); conv => whnf)
    try dsimp only
    refine ⟨d, q, c, A, i', j', t', hS, rfl, hi, rfl, hj, rfl, ht, ?_⟩
    generalize likeN q (A (3 * i' + t')) (A (3 * j' + t')) = f at *
    conv => whnf
    repeat ((first | refine ⟨zH_of _, ?_⟩ | refine ⟨trivial, ?_⟩ | refine ⟨rfl, ?_⟩ | refine ⟨fun hc => absurd hc (by decide), fun _ => ?_⟩ | refine ⟨fun _ => ?_, fun hc => absurd (by decide) hc⟩ | refine ⟨fun _ => ?_, fun hc => absurd hc (by decide)⟩ | refine ⟨fun hc => absurd (by decide) hc, fun _ => ?_⟩); conv => whnf)
    try dsimp only
    refine ⟨n30, ?_⟩
    conv => whnf
    repeat ((first | refine ⟨zH_of _, ?_⟩ | refine ⟨trivial, ?_⟩ | refine ⟨rfl, ?_⟩ | refine ⟨fun hc => absurd hc (by decide), fun _ => ?_⟩ | refine ⟨fun _ => ?_, fun hc => absurd (by decide) hc⟩ | refine ⟨fun _ => ?_, fun hc => absurd hc (by decide)⟩ | refine ⟨fun hc => absurd (by decide) hc, fun _ => ?_⟩); conv => whnf)
    try dsimp only
    refine ⟨n30, ?_⟩
    rw [nI_add, nI_add, z_remN (by omega) (by decide) (by decide), z_remN (by omega) (by decide) (by decide), mod2 ht, show (t' + 1) % 3 = nx t' from rfl]
    conv => whnf
    repeat ((first | refine ⟨zH_of _, ?_⟩ | refine ⟨trivial, ?_⟩ | refine ⟨rfl, ?_⟩ | refine ⟨fun hc => absurd hc (by decide), fun _ => ?_⟩ | refine ⟨fun _ => ?_, fun hc => absurd (by decide) hc⟩ | refine ⟨fun _ => ?_, fun hc => absurd hc (by decide)⟩ | refine ⟨fun hc => absurd (by decide) hc, fun _ => ?_⟩); conv => whnf)
    try dsimp only
    generalize nx (nx t') = v at *
    generalize nx t' = u at *
    have w1 : ∀ p, W (3 * j' + t') p = A (3 * i' + t') p := fun p => by rw [hW, if_neg (by omega), if_neg (by omega), if_neg (by omega), if_pos rfl]
    have w2 : ∀ p, W (3 * j' + u) p = A (3 * j' + u) p * f % q := fun p => by rw [hW, if_neg (by omega), if_neg (by omega), if_pos rfl]; unfold fMul; rw [Nat.mul_comm]
    have w3 : ∀ p, W (3 * i' + u) p = (A (3 * i' + u) p + A (3 * j' + u) p * f % q) % q := fun p => by rw [hW, if_neg (by omega), if_pos rfl]; unfold fAdd fMul; rw [Nat.mul_comm f]
    have w4 : ∀ p, W (3 * j' + v) p = (A (3 * j' + v) p + (q - A (3 * i' + v) p)) % q := fun p => by rw [hW, if_pos rfl]; rfl
    have w0 : ∀ n p, n ≠ 3 * j' + t' → n ≠ 3 * j' + u → n ≠ 3 * i' + u → n ≠ 3 * j' + v → W n p = A n p := fun n p g1 g2 g3 g4 => by rw [hW, if_neg g4, if_neg g3, if_neg g2, if_neg g1]
    clear hW
    have loop := up_ind (P := fun k => ∀ wi' : Nat → Nat → Int32, (∀ y, y ≠ 47 → wi' y = wi y) → RW wi' 47 (27 * c) (mixA k A W) → Jm 26 [some (.ref 45), some (.int (nI i')), some (.int (nI j')), some (.int (nI t')), some (.int (nI f)), some (.int (nI u)), some (.int (nI v)), some (.int (nI k))] [] (GC ++ (GM ++ r), wi', wl) 0 0) 9 (fun k hk ih => by
      intro wi' hF hR
      refine hs 400 26 _ _ _ _ _ ?_
      conv => whnf
      repeat ((first | refine ⟨zH_of _, ?_⟩ | refine ⟨trivial, ?_⟩ | refine ⟨rfl, ?_⟩ | refine ⟨fun hc => absurd hc (by decide), fun _ => ?_⟩ | refine ⟨fun _ => ?_, fun hc => absurd (by decide) hc⟩ | refine ⟨fun _ => ?_, fun hc => absurd hc (by decide)⟩ | refine ⟨fun hc => absurd (by decide) hc, fun _ => ?_⟩); conv => whnf)
      try dsimp only
      rw [ltN (by omega) (by omega)]
      refine ⟨fun hc => ?_, fun hc => ?_⟩
      · obtain rfl : k = 9 := by omega
        refine h wi' hF ⟨fun t ht => by rw [hF 46 (by decide)]; exact ms_d hS t ht, ⟨by rw [hF 45 (by decide)]; exact ms_q hS, by rw [hF 45 (by decide)]; exact ms_c hS⟩, fun n hn => ?_, q23, ms_hd hS, h40, fun n hn p hp => ?_⟩
        · rw [hR n hn]
          unfold fl mixA
          rw [if_pos (by omega)]
        · by_cases g1 : n = 3 * j' + t'
          · rw [g1, w1]
            exact hq i' t' p hi ht hp
          · by_cases g2 : n = 3 * j' + u
            · rw [g2, w2]
              exact Nat.mod_lt _ (by omega)
            · by_cases g3 : n = 3 * i' + u
              · rw [g3, w3]
                exact Nat.mod_lt _ (by omega)
              · by_cases g4 : n = 3 * j' + v
                · rw [g4, w4]
                  exact Nat.mod_lt _ (by omega)
                · rw [w0 n p g1 g2 g3 g4]
                  exact ms_A hS n hn p hp
      · have ih := ih hc
        have rd : ∀ m s, m < c → s < 3 → wi' 47 (27 * m + 9 * s + k) = nI (A (3 * m + s) k) := fun m s h1 h2 => by
          rw [hR _ (by omega)]
          unfold fl mixA
          rw [show (27 * m + 9 * s + k) / 9 = 3 * m + s by omega, show (27 * m + 9 * s + k) % 9 = k by omega, if_neg (Nat.lt_irrefl k)]
        have e1 := rd i' t' hi ht
        have e2 := rd j' u hj n1
        have e3 := rd i' u hi n1
        have e4 := rd j' v hj n2
        have e5 := rd i' v hi n2
        have eq := ms_q hS
        rw [← hF 45 (by decide)] at eq
        have x2 := hq j' u k hj n1 hc
        have x3 := hq i' u k hi n1 hc
        have x4 := hq j' v k hj n2 hc
        have x5 := hq i' v k hi n2 hc
        have w1 := w1 k
        have w2 := w2 k
        have w3 := w3 k
        have w4 := w4 k
        have xf : A (3 * j' + u) k * f ≤ 2 * 2 := Nat.mul_le_mul (by omega) (by omega)
        have xm : A (3 * j' + u) k * f % q < q := Nat.mod_lt _ (by omega)
        conv => whnf
        repeat ((first | refine ⟨zH_of _, ?_⟩ | refine ⟨trivial, ?_⟩ | refine ⟨rfl, ?_⟩ | refine ⟨fun hc => absurd hc (by decide), fun _ => ?_⟩ | refine ⟨fun _ => ?_, fun hc => absurd (by decide) hc⟩ | refine ⟨fun _ => ?_, fun hc => absurd hc (by decide)⟩ | refine ⟨fun hc => absurd (by decide) hc, fun _ => ?_⟩); conv => whnf)
        try dsimp only
        rw [at_N, at_N]
        refine ⟨vp_in_nI (show 27 * i' + 9 * t' + k < 1080 by omega) (by decide), ?_⟩
        conv => whnf
        repeat ((first | refine ⟨zH_of _, ?_⟩ | refine ⟨trivial, ?_⟩ | refine ⟨rfl, ?_⟩ | refine ⟨fun hc => absurd hc (by decide), fun _ => ?_⟩ | refine ⟨fun _ => ?_, fun hc => absurd (by decide) hc⟩ | refine ⟨fun _ => ?_, fun hc => absurd hc (by decide)⟩ | refine ⟨fun hc => absurd (by decide) hc, fun _ => ?_⟩); conv => whnf)
        try dsimp only
        refine ⟨vp_in_nI (show 27 * j' + 9 * t' + k < 1080 by omega) (by decide), ?_⟩
        rw [nI_clamp (n := 27 * i' + 9 * t' + k) (by omega), nI_clamp (n := 27 * j' + 9 * t' + k) (by omega), e1]
        obtain ⟨wa, hwa⟩ : ∃ wa, wa = z_up wi' 47 (27 * j' + 9 * t' + k) (nI (A (3 * i' + t') k)) := ⟨_, rfl⟩
        rw [← hwa]
        have ra : ∀ x, x ≠ 27 * j' + 9 * t' + k → wa 47 x = wi' 47 x := fun x hx => by rw [hwa]; exact z_up_nei hx
        have va : wa 47 (27 * j' + 9 * t' + k) = nI (A (3 * i' + t') k) := by rw [hwa]; exact z_up_eq
        have fa : ∀ y, y ≠ 47 → wa y = wi' y := fun y hy => by rw [hwa]; exact z_up_ne hy
        clear hwa
        have qa : wa 45 1 = nI q := by rw [fa 45 (by decide)]; exact eq
        conv => whnf
        repeat ((first | refine ⟨zH_of _, ?_⟩ | refine ⟨trivial, ?_⟩ | refine ⟨rfl, ?_⟩ | refine ⟨fun hc => absurd hc (by decide), fun _ => ?_⟩ | refine ⟨fun _ => ?_, fun hc => absurd (by decide) hc⟩ | refine ⟨fun _ => ?_, fun hc => absurd hc (by decide)⟩ | refine ⟨fun hc => absurd (by decide) hc, fun _ => ?_⟩); conv => whnf)
        try dsimp only
        rw [at_N j' u k]
        refine ⟨vp_in_nI (show 27 * j' + 9 * u + k < 1080 by omega) (by decide), ?_⟩
        conv => whnf
        repeat ((first | refine ⟨zH_of _, ?_⟩ | refine ⟨trivial, ?_⟩ | refine ⟨rfl, ?_⟩ | refine ⟨fun hc => absurd hc (by decide), fun _ => ?_⟩ | refine ⟨fun _ => ?_, fun hc => absurd (by decide) hc⟩ | refine ⟨fun _ => ?_, fun hc => absurd hc (by decide)⟩ | refine ⟨fun hc => absurd (by decide) hc, fun _ => ?_⟩); conv => whnf)
        try dsimp only
        rw [qa]
        refine ⟨q_n0 q23, ?_⟩
        conv => whnf
        repeat ((first | refine ⟨zH_of _, ?_⟩ | refine ⟨trivial, ?_⟩ | refine ⟨rfl, ?_⟩ | refine ⟨fun hc => absurd hc (by decide), fun _ => ?_⟩ | refine ⟨fun _ => ?_, fun hc => absurd (by decide) hc⟩ | refine ⟨fun _ => ?_, fun hc => absurd hc (by decide)⟩ | refine ⟨fun hc => absurd (by decide) hc, fun _ => ?_⟩); conv => whnf)
        try dsimp only
        refine ⟨vp_in_nI (show 27 * j' + 9 * u + k < 1080 by omega) (by decide), ?_⟩
        rw [nI_clamp (n := 27 * j' + 9 * u + k) (by omega), ra (27 * j' + 9 * u + k) (by omega), e2, pk_mul, z_remN (by omega) (by omega) (by omega)]
        obtain ⟨wb, hwb⟩ : ∃ wb, wb = z_up wa 47 (27 * j' + 9 * u + k) (nI (A (3 * j' + u) k * f % q)) := ⟨_, rfl⟩
        rw [← hwb]
        have rb : ∀ x, x ≠ 27 * j' + 9 * u + k → wb 47 x = wa 47 x := fun x hx => by rw [hwb]; exact z_up_nei hx
        have vb : wb 47 (27 * j' + 9 * u + k) = nI (A (3 * j' + u) k * f % q) := by rw [hwb]; exact z_up_eq
        have fb : ∀ y, y ≠ 47 → wb y = wa y := fun y hy => by rw [hwb]; exact z_up_ne hy
        clear hwb
        have qb : wb 45 1 = nI q := by rw [fb 45 (by decide)]; exact qa
        generalize A (3 * j' + u) k * f % q = X at *
        conv => whnf
        repeat ((first | refine ⟨zH_of _, ?_⟩ | refine ⟨trivial, ?_⟩ | refine ⟨rfl, ?_⟩ | refine ⟨fun hc => absurd hc (by decide), fun _ => ?_⟩ | refine ⟨fun _ => ?_, fun hc => absurd (by decide) hc⟩ | refine ⟨fun _ => ?_, fun hc => absurd hc (by decide)⟩ | refine ⟨fun hc => absurd (by decide) hc, fun _ => ?_⟩); conv => whnf)
        try dsimp only
        rw [at_N i' u k]
        refine ⟨vp_in_nI (show 27 * i' + 9 * u + k < 1080 by omega) (by decide), ?_⟩
        conv => whnf
        repeat ((first | refine ⟨zH_of _, ?_⟩ | refine ⟨trivial, ?_⟩ | refine ⟨rfl, ?_⟩ | refine ⟨fun hc => absurd hc (by decide), fun _ => ?_⟩ | refine ⟨fun _ => ?_, fun hc => absurd (by decide) hc⟩ | refine ⟨fun _ => ?_, fun hc => absurd hc (by decide)⟩ | refine ⟨fun hc => absurd (by decide) hc, fun _ => ?_⟩); conv => whnf)
        try dsimp only
        rw [at_N j' u k]
        refine ⟨vp_in_nI (show 27 * j' + 9 * u + k < 1080 by omega) (by decide), ?_⟩
        conv => whnf
        repeat ((first | refine ⟨zH_of _, ?_⟩ | refine ⟨trivial, ?_⟩ | refine ⟨rfl, ?_⟩ | refine ⟨fun hc => absurd hc (by decide), fun _ => ?_⟩ | refine ⟨fun _ => ?_, fun hc => absurd (by decide) hc⟩ | refine ⟨fun _ => ?_, fun hc => absurd hc (by decide)⟩ | refine ⟨fun hc => absurd (by decide) hc, fun _ => ?_⟩); conv => whnf)
        try dsimp only
        rw [qb]
        refine ⟨q_n0 q23, ?_⟩
        conv => whnf
        repeat ((first | refine ⟨zH_of _, ?_⟩ | refine ⟨trivial, ?_⟩ | refine ⟨rfl, ?_⟩ | refine ⟨fun hc => absurd hc (by decide), fun _ => ?_⟩ | refine ⟨fun _ => ?_, fun hc => absurd (by decide) hc⟩ | refine ⟨fun _ => ?_, fun hc => absurd hc (by decide)⟩ | refine ⟨fun hc => absurd (by decide) hc, fun _ => ?_⟩); conv => whnf)
        try dsimp only
        refine ⟨vp_in_nI (show 27 * i' + 9 * u + k < 1080 by omega) (by decide), ?_⟩
        rw [nI_clamp (n := 27 * i' + 9 * u + k) (by omega), nI_clamp (n := 27 * j' + 9 * u + k) (by omega), vb, rb (27 * i' + 9 * u + k) (by omega), ra (27 * i' + 9 * u + k) (by omega), e3, nI_add, z_remN (by omega) (by omega) (by omega)]
        obtain ⟨wc, hwc⟩ : ∃ wc, wc = z_up wb 47 (27 * i' + 9 * u + k) (nI ((A (3 * i' + u) k + X) % q)) := ⟨_, rfl⟩
        rw [← hwc]
        have rc : ∀ x, x ≠ 27 * i' + 9 * u + k → wc 47 x = wb 47 x := fun x hx => by rw [hwc]; exact z_up_nei hx
        have vc : wc 47 (27 * i' + 9 * u + k) = nI ((A (3 * i' + u) k + X) % q) := by rw [hwc]; exact z_up_eq
        have fc : ∀ y, y ≠ 47 → wc y = wb y := fun y hy => by rw [hwc]; exact z_up_ne hy
        clear hwc
        have qc : wc 45 1 = nI q := by rw [fc 45 (by decide)]; exact qb
        conv => whnf
        repeat ((first | refine ⟨zH_of _, ?_⟩ | refine ⟨trivial, ?_⟩ | refine ⟨rfl, ?_⟩ | refine ⟨fun hc => absurd hc (by decide), fun _ => ?_⟩ | refine ⟨fun _ => ?_, fun hc => absurd (by decide) hc⟩ | refine ⟨fun _ => ?_, fun hc => absurd hc (by decide)⟩ | refine ⟨fun hc => absurd (by decide) hc, fun _ => ?_⟩); conv => whnf)
        try dsimp only
        rw [at_N j' v k]
        refine ⟨vp_in_nI (show 27 * j' + 9 * v + k < 1080 by omega) (by decide), ?_⟩
        conv => whnf
        repeat ((first | refine ⟨zH_of _, ?_⟩ | refine ⟨trivial, ?_⟩ | refine ⟨rfl, ?_⟩ | refine ⟨fun hc => absurd hc (by decide), fun _ => ?_⟩ | refine ⟨fun _ => ?_, fun hc => absurd (by decide) hc⟩ | refine ⟨fun _ => ?_, fun hc => absurd hc (by decide)⟩ | refine ⟨fun hc => absurd (by decide) hc, fun _ => ?_⟩); conv => whnf)
        try dsimp only
        rw [at_N i' v k]
        refine ⟨vp_in_nI (show 27 * i' + 9 * v + k < 1080 by omega) (by decide), ?_⟩
        conv => whnf
        repeat ((first | refine ⟨zH_of _, ?_⟩ | refine ⟨trivial, ?_⟩ | refine ⟨rfl, ?_⟩ | refine ⟨fun hc => absurd hc (by decide), fun _ => ?_⟩ | refine ⟨fun _ => ?_, fun hc => absurd (by decide) hc⟩ | refine ⟨fun _ => ?_, fun hc => absurd hc (by decide)⟩ | refine ⟨fun hc => absurd (by decide) hc, fun _ => ?_⟩); conv => whnf)
        try dsimp only
        rw [nI_clamp (n := 27 * i' + 9 * v + k) (by omega), nI_clamp (n := 27 * j' + 9 * v + k) (by omega), rc (27 * i' + 9 * v + k) (by omega), rb (27 * i' + 9 * v + k) (by omega), ra (27 * i' + 9 * v + k) (by omega), rc (27 * j' + 9 * v + k) (by omega), rb (27 * j' + 9 * v + k) (by omega), ra (27 * j' + 9 * v + k) (by omega), e4, e5]
        refine ⟨q, qc, q23, ?_⟩
        rw [mod_sub q23 (by omega) (by omega), Nat.mod_eq_of_lt x5]
        conv => whnf
        repeat ((first | refine ⟨zH_of _, ?_⟩ | refine ⟨trivial, ?_⟩ | refine ⟨rfl, ?_⟩ | refine ⟨fun hc => absurd hc (by decide), fun _ => ?_⟩ | refine ⟨fun _ => ?_, fun hc => absurd (by decide) hc⟩ | refine ⟨fun _ => ?_, fun hc => absurd hc (by decide)⟩ | refine ⟨fun hc => absurd (by decide) hc, fun _ => ?_⟩); conv => whnf)
        try dsimp only
        refine ⟨vp_in_nI (show 27 * j' + 9 * v + k < 1080 by omega) (by decide), ?_⟩
        conv => whnf
        repeat ((first | refine ⟨zH_of _, ?_⟩ | refine ⟨trivial, ?_⟩ | refine ⟨rfl, ?_⟩ | refine ⟨fun hc => absurd hc (by decide), fun _ => ?_⟩ | refine ⟨fun _ => ?_, fun hc => absurd (by decide) hc⟩ | refine ⟨fun _ => ?_, fun hc => absurd hc (by decide)⟩ | refine ⟨fun hc => absurd (by decide) hc, fun _ => ?_⟩); conv => whnf)
        try dsimp only
        rw [nI_clamp (n := 27 * j' + 9 * v + k) (by omega), nI_add]
        refine ih _ (fun y hy => by rw [z_up_ne hy, fc y hy, fb y hy, fa y hy, hF y hy]) (fun n hn => ?_)
        unfold fl mixA
        by_cases g4 : n = 27 * j' + 9 * v + k
        · rw [g4, z_up_eq, show (27 * j' + 9 * v + k) / 9 = 3 * j' + v by omega, show (27 * j' + 9 * v + k) % 9 = k by omega, if_pos (Nat.lt_succ_self k), w4]
        · rw [z_up_nei g4]
          by_cases g3 : n = 27 * i' + 9 * u + k
          · rw [g3, vc, show (27 * i' + 9 * u + k) / 9 = 3 * i' + u by omega, show (27 * i' + 9 * u + k) % 9 = k by omega, if_pos (Nat.lt_succ_self k), w3]
          · rw [rc n g3]
            by_cases g2 : n = 27 * j' + 9 * u + k
            · rw [g2, vb, show (27 * j' + 9 * u + k) / 9 = 3 * j' + u by omega, show (27 * j' + 9 * u + k) % 9 = k by omega, if_pos (Nat.lt_succ_self k), w2]
            · rw [rb n g2]
              by_cases g1 : n = 27 * j' + 9 * t' + k
              · rw [g1, va, show (27 * j' + 9 * t' + k) / 9 = 3 * j' + t' by omega, show (27 * j' + 9 * t' + k) % 9 = k by omega, if_pos (Nat.lt_succ_self k), w1]
              · rw [ra n g1, hR n hn]
                unfold fl mixA
                by_cases g : n % 9 < k
                · rw [if_pos g, if_pos (by omega)]
                · rw [if_neg g]
                  by_cases g0 : n % 9 = k
                  · rw [if_pos (by omega), w0 _ _ (by omega) (by omega) (by omega) (by omega)]
                  · rw [if_neg (by omega)])
    refine loop 0 (Nat.zero_le _) wi (fun _ _ => rfl) (fun n hn => ?_)
    rw [ms_f hS n hn]
    rfl

