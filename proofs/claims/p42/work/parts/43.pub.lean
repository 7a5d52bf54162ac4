/-! the calls, one by one: what each does to the state, and answers -/
def szB (n : Int32) : Bool := decide (¬ n < nI 1 ∧ ¬ nI 3 < n)
def idB (c : Nat) (i : Int32) : Bool := decide (¬ i < nI 0 ∧ i < nI c)
theorem idB_N {c : Nat} {i : Int32} (h : idB c i = true) (hc : c < 2 ^ 31) : ∃ n, n < c ∧ i = nI n := idx_N (show idx c i from of_decide_eq_true (p := ¬ i < nI 0 ∧ i < nI c) h) hc
theorem idB_of {c n : Nat} (h : n < c) (hc : c < 2 ^ 31) : idB c (nI n) = true := decide_eq_true (idx_of h hc)
theorem szB_N {i : Int32} (h : szB i = true) : ∃ n, 1 ≤ n ∧ n ≤ 3 ∧ i = nI n := by
  have h := of_decide_eq_true h
  obtain ⟨n, h1, rfl⟩ := nn_N (v := i) (fun k => h.1 (by
    rw [Int32.lt_iff_toInt_lt, nI_toInt (by decide)] at k ⊢
    omega))
  have h2 := h.1
  have h3 := h.2
  rw [ltN (by omega) (by omega)] at h2 h3
  exact ⟨n, by omega, by omega, rfl⟩
def mkD (n m p : Int32) : Nat → Nat := fun t => if t = 0 then n.toNatClampNeg else if t = 1 then m.toNatClampNeg else p.toNatClampNeg
def st_format (T : zT) (n m p f : Int32) : zT × Int32 := if (szB n && szB m && szB p && decide (¬ f < nI 2 ∧ ¬ nI 3 < f)) = true then ((mkD n m p, f.toNatClampNeg, (plS (mkD n m p)).1, (plS (mkD n m p)).2, (false, T.2.2.2.2.1.2), T.2.2.2.2.2), nI (plS (mkD n m p)).1) else (T, mI 1)
theorem un_z {x n p : Nat} (hx : x < n) (hp : n ≤ p) : un x p = 0 := if_neg (by omega)
theorem idx_pl {d : Nat → Nat} {i j u v : Nat} (hi : i < d u) (hj : j < d v) : i * d v + j < d u * d v := by
  have : (i + 1) * d v ≤ d u * d v := Nat.mul_le_mul_right _ hi
  rw [Nat.add_mul, Nat.one_mul] at this
  omega
theorem onA_z {d : Nat → Nat} {c x y z : Nat} {A : Nat → Nat → Nat} (h : ZS d c A) (hx : x < pl d 0) (hy : y < pl d 1) (hz : z < pl d 2) : ZS d (c + 1) (onA A c x y z) := by
  intro k hk p hp hp9
  unfold onA
  by_cases e0 : k < 3 * c
  · rw [if_pos e0]
    exact h k e0 p hp hp9
  · rw [if_neg e0]
    rcases (show k = 3 * c ∨ k = 3 * c + 1 ∨ k = 3 * c + 2 by omega) with rfl | rfl | rfl
    · rw [show 3 * c % 3 = 0 by omega] at hp
      rw [if_pos rfl]
      exact un_z hx hp
    · rw [show (3 * c + 1) % 3 = 1 by omega] at hp
      rw [if_neg (by omega), if_pos rfl]
      exact un_z hy hp
    · rw [show (3 * c + 2) % 3 = 2 by omega] at hp
      rw [if_neg (by omega), if_neg (by omega)]
      exact un_z hz hp
theorem apK_z {s : Nat} {d : Nat → Nat} {i j : Nat} (hi : i < d 0) (hj : j < d 1) {S : Nat × (Nat → Nat → Nat)} (h : ZS d S.1 S.2) : ∀ k, k ≤ d 2 → ZS d (apK s d i j k S).1 (apK s d i j k S).2
  | 0, _ => h
  | k + 1, hk => by
    have ih := apK_z (s := s) hi hj h k (by omega)
    rw [apK]
    split
    · exact onA_z ih (idx_pl (u := 0) (v := 1) hi hj) (idx_pl (u := 1) (v := 2) hj (by omega)) (idx_pl (u := 2) (v := 0) (by omega) hi)
    · exact ih
theorem apJ_z {s : Nat} {d : Nat → Nat} {i : Nat} (hi : i < d 0) {S : Nat × (Nat → Nat → Nat)} (h : ZS d S.1 S.2) : ∀ j, j ≤ d 1 → ZS d (apJ s d i j S).1 (apJ s d i j S).2
  | 0, _ => h
  | j + 1, hj => by
    rw [apJ]
    exact apK_z hi (by omega) (apJ_z hi h j (by omega)) _ (Nat.le_refl _)
theorem apI_z {s : Nat} {d : Nat → Nat} {S : Nat × (Nat → Nat → Nat)} (h : ZS d S.1 S.2) : ∀ i, i ≤ d 0 → ZS d (apI s d i S).1 (apI s d i S).2
  | 0, _ => h
  | i + 1, hi => by
    rw [apI]
    exact apJ_z (by omega) (apI_z h i (by omega)) _ (Nat.le_refl _)
theorem plS_z (d : Nat → Nat) : ZS d (plS d).1 (plS d).2 := apI_z (fun k hk => absurd hk (by show ¬ k < 3 * 0; omega)) _ (Nat.le_refl _)
def sp_X11_format : zSp := fun av w K => match av with
  | [.ref o, .int n, .int m, .int p, .int f] => o = 0 ∧ zG w.1 ∧ ∃ T, CT w.2.1 w.2.2 T ∧ ∀ wi' wl', FrC w.2.1 w.2.2 wi' wl' → CT wi' wl' (st_format T n m p f).1 → K (some (.int (st_format T n m p f).2)) (w.1, wi', wl')
  | _ => False
def rm_X11_format : Room := { frames := 6, cells := 0, slots := 0, locals := 138 }
def M_X11_format : zM := (k_X11_format, f_X11, [(75, 0, 0, 1, 0, 0, sp_X11_isSize), (71, 4, 5, 5, 0, 0, sp_X6_makePlain)], ([], [], []), [], [], 1, false, (false, 0, fun _ => 0), (0, 0, []))
theorem ca_X11_format_0 (l : Launch) : z_cok l RX11 (headSpec (.code yX11_format cX11_format 5 (some .int) :: zTT) rm_X11_format).room (false, 0, fun _ => 0) (75, 0, 0, 1, 0, 0, sp_X11_isSize) := z_ca0 (c_X11_isSize l) mb_X11_isSize wt_337 wt_338 (by decide)
theorem ca_X11_format_1 (l : Launch) : z_cok l RX11 (headSpec (.code yX11_format cX11_format 5 (some .int) :: zTT) rm_X11_format).room (false, 0, fun _ => 0) (71, 4, 5, 5, 0, 0, sp_X6_makePlain) := z_ca4 (c_X6_makePlain l) mb_X6_makePlain ⟨_, rfl, rfl⟩ wt_268 wt_269 wt_270 (by decide)
theorem O_X11_format (l : Launch) : z_OK l RX11 cX11_format (headSpec (.code yX11_format cX11_format 5 (some .int) :: zTT) rm_X11_format).room M_X11_format := ⟨ok_X11_format, fo_X11, List.forall_mem_cons.mpr ⟨ca_X11_format_0 l, List.forall_mem_cons.mpr ⟨ca_X11_format_1 l, fun _ h => absurd h List.not_mem_nil⟩⟩, fun _ h => absurd h List.not_mem_nil, fun _ h => absurd h List.not_mem_nil, fun _ h => absurd h List.not_mem_nil, fun _ h => absurd h List.not_mem_nil, rfl, rfl, fun _ h => absurd h List.not_mem_nil⟩
theorem c_X11_format (l : Launch) : z_CS l yX11_format cX11_format 5 (some .int) rm_X11_format sp_X11_format := by
  refine z_meth (by decide) (Or.inr (Or.inl ⟨rfl, rfl⟩)) (fun h => by cases h) rfl (O_X11_format l) ?_
  intro av w K h
  match av, h with
  | [.ref o, .int n, .int m, .int p, .int f], h =>
    obtain ⟨rfl, ⟨r, hG⟩, ⟨d, q, c, A, kp, tx, tl⟩, hC, h⟩ := h
    obtain ⟨G, wi, wl⟩ := w
    subst hG
    try dsimp only at h hC
    refine ⟨Nat.le_of_ble_eq_true rfl, fun Jm hs => hs 400 0 _ _ _ _ _ ?_⟩
    unfold st_format at h
    have no : ¬ (szB n && szB m && szB p && decide (¬ f < nI 2 ∧ ¬ nI 3 < f)) = true → K (some (.int (mI 1))) (GC ++ r, wi, wl) := fun hn => by
      have h := h wi wl (FrC_refl _ _)
      rw [if_neg hn] at h
      exact h hC
    have eS : ∀ v, isSF v = nI 0 ↔ ¬ szB v = true := fun v => by
      unfold isSF szB
      rw [bI_0, decide_eq_true_iff]
    conv => whnf
    repeat ((first | refine ⟨zG_of _, ?_⟩ | refine ⟨trivial, ?_⟩ | refine ⟨rfl, ?_⟩ | refine ⟨fun hc => absurd hc (by decide), fun _ => ?_⟩ | refine ⟨fun _ => ?_, fun hc => absurd (by decide) hc⟩ | refine ⟨fun _ => ?_, fun hc => absurd hc (by decide)⟩ | refine ⟨fun hc => absurd (by decide) hc, fun _ => ?_⟩); conv => whnf)
    try dsimp only
    rw [eS]
    refine ⟨fun h1 => ⟨trivial, no (by simp [h1])⟩, fun h1 => ?_⟩
    conv => whnf
    repeat ((first | refine ⟨zG_of _, ?_⟩ | refine ⟨trivial, ?_⟩ | refine ⟨rfl, ?_⟩ | refine ⟨fun hc => absurd hc (by decide), fun _ => ?_⟩ | refine ⟨fun _ => ?_, fun hc => absurd (by decide) hc⟩ | refine ⟨fun _ => ?_, fun hc => absurd hc (by decide)⟩ | refine ⟨fun hc => absurd (by decide) hc, fun _ => ?_⟩); conv => whnf)
    try dsimp only
    rw [eS]
    refine ⟨fun h2 => ⟨trivial, no (by simp [h2])⟩, fun h2 => ?_⟩
    conv => whnf
    repeat ((first | refine ⟨zG_of _, ?_⟩ | refine ⟨trivial, ?_⟩ | refine ⟨rfl, ?_⟩ | refine ⟨fun hc => absurd hc (by decide), fun _ => ?_⟩ | refine ⟨fun _ => ?_, fun hc => absurd (by decide) hc⟩ | refine ⟨fun _ => ?_, fun hc => absurd hc (by decide)⟩ | refine ⟨fun hc => absurd (by decide) hc, fun _ => ?_⟩); conv => whnf)
    try dsimp only
    rw [eS]
    refine ⟨fun h3 => ⟨trivial, no (by simp [h3])⟩, fun h3 => ?_⟩
    conv => whnf
    repeat ((first | refine ⟨zG_of _, ?_⟩ | refine ⟨trivial, ?_⟩ | refine ⟨rfl, ?_⟩ | refine ⟨fun hc => absurd hc (by decide), fun _ => ?_⟩ | refine ⟨fun _ => ?_, fun hc => absurd (by decide) hc⟩ | refine ⟨fun _ => ?_, fun hc => absurd hc (by decide)⟩ | refine ⟨fun hc => absurd (by decide) hc, fun _ => ?_⟩); conv => whnf)
    try dsimp only
    refine ⟨fun h4 => ⟨trivial, no (by simp [h4])⟩, fun h4 => ?_⟩
    conv => whnf
    repeat ((first | refine ⟨zG_of _, ?_⟩ | refine ⟨trivial, ?_⟩ | refine ⟨rfl, ?_⟩ | refine ⟨fun hc => absurd hc (by decide), fun _ => ?_⟩ | refine ⟨fun _ => ?_, fun hc => absurd (by decide) hc⟩ | refine ⟨fun _ => ?_, fun hc => absurd hc (by decide)⟩ | refine ⟨fun hc => absurd (by decide) hc, fun _ => ?_⟩); conv => whnf)
    try dsimp only
    refine ⟨fun h5 => ?_, fun h5 => ⟨trivial, no (by simp [h5])⟩⟩
    have h1 := Classical.not_not.mp h1
    have h2 := Classical.not_not.mp h2
    have h3 := Classical.not_not.mp h3
    obtain ⟨n', n1, n3, rfl⟩ := szB_N h1
    obtain ⟨m', m1, m3, rfl⟩ := szB_N h2
    obtain ⟨p', p1, p3, rfl⟩ := szB_N h3
    obtain ⟨f', hf, rfl⟩ := nn_N (v := f) (fun k => h4 (by
      rw [Int32.lt_iff_toInt_lt, nI_toInt (by decide)] at k ⊢
      omega))
    have h4' := h4
    have h5' := h5
    rw [ltN (by omega) (by omega)] at h4' h5'
    have hq : f' = 2 ∨ f' = 3 := by omega
    rw [if_pos (by simp [h1, h2, h3, h4, h5])] at h
    rw [nc_N hf] at h
    generalize hd : mkD (nI n') (nI m') (nI p') = d' at *
    have d0 : d' 0 = n' := by rw [← hd]; exact nc_N (by omega)
    have d1 : d' 1 = m' := by rw [← hd]; exact nc_N (by omega)
    have d2 : d' 2 = p' := by rw [← hd]; exact nc_N (by omega)
    have hd3 : ∀ t, t < 3 → 1 ≤ d' t ∧ d' t ≤ 3 := fun t ht => by
      rcases lt3 ht with rfl | rfl | rfl <;> omega
    conv => whnf
    repeat ((first | refine ⟨zG_of _, ?_⟩ | refine ⟨trivial, ?_⟩ | refine ⟨rfl, ?_⟩ | refine ⟨fun hc => absurd hc (by decide), fun _ => ?_⟩ | refine ⟨fun _ => ?_, fun hc => absurd (by decide) hc⟩ | refine ⟨fun _ => ?_, fun hc => absurd hc (by decide)⟩ | refine ⟨fun hc => absurd (by decide) hc, fun _ => ?_⟩); conv => whnf)
    try dsimp only
    refine ⟨d', f', by rw [d0], by rw [d1], by rw [d2], rfl, hq, hd3, fun wi1 hF1 hS1 => ?_⟩
    have hS2 : CS (z_up wi1 0 10 (nI 0)) 6 d' f' (plS d').1 (plS d').2 := cs_fr hS1 (z_up_ne (by decide)) (z_up_ne (by decide))
    have h := h (z_up wi1 0 10 (nI 0)) wl (fun y hy => ⟨by rw [z_up_ne (by omega), hF1 y (by omega) (by omega)], rfl⟩) ⟨hS2, plS_z d', Or.inl ⟨rfl, z_up_eq⟩, tl_fr (ct_X hC) (by rw [z_up_ne (by decide), hF1 1 (by decide) (by decide)]) (by rw [z_up_ne (by decide), hF1 3 (by decide) (by decide)]), ts_fr (ct_T hC) (by rw [z_up_ne (by decide), hF1 4 (by decide) (by decide)]) rfl⟩
    rw [← cs_c hS2] at h
    conv => whnf
    repeat ((first | refine ⟨zG_of _, ?_⟩ | refine ⟨trivial, ?_⟩ | refine ⟨rfl, ?_⟩ | refine ⟨fun hc => absurd hc (by decide), fun _ => ?_⟩ | refine ⟨fun _ => ?_, fun hc => absurd (by decide) hc⟩ | refine ⟨fun _ => ?_, fun hc => absurd hc (by decide)⟩ | refine ⟨fun hc => absurd (by decide) hc, fun _ => ?_⟩); conv => whnf)
    try dsimp only
    refine ⟨Or.inl rfl, ?_⟩
    conv => whnf
    repeat ((first | refine ⟨zG_of _, ?_⟩ | refine ⟨trivial, ?_⟩ | refine ⟨rfl, ?_⟩ | refine ⟨fun hc => absurd hc (by decide), fun _ => ?_⟩ | refine ⟨fun _ => ?_, fun hc => absurd (by decide) hc⟩ | refine ⟨fun _ => ?_, fun hc => absurd hc (by decide)⟩ | refine ⟨fun hc => absurd (by decide) hc, fun _ => ?_⟩); conv => whnf)
    try dsimp only
    exact h
def bvN (v : Int32) : Nat := v.toBitVec.toNat
theorem bv_N (v : Int32) : v = nI (bvN v) ∧ bvN v < 2 ^ 32 := ⟨Int32.toBitVec_inj.mp (by show _ = BitVec.ofNat 32 _; unfold bvN; simp), v.toBitVec.isLt⟩
def st_sign (T : zT) (v : Int32) : zT × Int32 := if T.2.2.2.2.2.1.1 + 4 ≤ 400 then ((T.1, T.2.1, T.2.2.1, T.2.2.2.1, T.2.2.2.2.1, (T.2.2.2.2.2.1.1 + 4, apX T.2.2.2.2.2.1.2 T.2.2.2.2.2.1.1 (bvN v)), T.2.2.2.2.2.2), nI (T.2.2.2.2.2.1.1 + 4)) else (T, mI 1)
def sp_X11_sign : zSp := fun av w K => match av with
  | [.ref o, .int v] => o = 0 ∧ zG w.1 ∧ ∃ T, CT w.2.1 w.2.2 T ∧ ∀ wi' wl', FrC w.2.1 w.2.2 wi' wl' → CT wi' wl' (st_sign T v).1 → K (some (.int (st_sign T v).2)) (w.1, wi', wl')
  | _ => False
def rm_X11_sign : Room := { frames := 2, cells := 0, slots := 0, locals := 44 }
def M_X11_sign : zM := (k_X11_sign, f_X11, [(87, 4, 7, 2, 0, 0, sp_X8_addFour)], ([], [], []), [], [], 1, false, (false, 0, fun _ => 0), (0, 0, []))
theorem ca_X11_sign_0 (l : Launch) : z_cok l RX11 (headSpec (.code yX11_sign cX11_sign 2 (some .int) :: zTT) rm_X11_sign).room (false, 0, fun _ => 0) (87, 4, 7, 2, 0, 0, sp_X8_addFour) := z_ca4 (c_X8_addFour l) mb_X8_addFour ⟨_, rfl, rfl⟩ wt_1008 wt_1009 wt_1010 (by decide)
theorem O_X11_sign (l : Launch) : z_OK l RX11 cX11_sign (headSpec (.code yX11_sign cX11_sign 2 (some .int) :: zTT) rm_X11_sign).room M_X11_sign := ⟨ok_X11_sign, fo_X11, List.forall_mem_cons.mpr ⟨ca_X11_sign_0 l, fun _ h => absurd h List.not_mem_nil⟩, fun _ h => absurd h List.not_mem_nil, fun _ h => absurd h List.not_mem_nil, fun _ h => absurd h List.not_mem_nil, fun _ h => absurd h List.not_mem_nil, rfl, rfl, fun _ h => absurd h List.not_mem_nil⟩
theorem c_X11_sign (l : Launch) : z_CS l yX11_sign cX11_sign 2 (some .int) rm_X11_sign sp_X11_sign := by
  refine z_meth (by decide) (Or.inr (Or.inl ⟨rfl, rfl⟩)) (fun h => by cases h) rfl (O_X11_sign l) ?_
  intro av w K h
  match av, h with
  | [.ref o, .int v], h =>
    obtain ⟨rfl, ⟨r, hG⟩, ⟨d, q, c, A, kp, ⟨L, x⟩, tl⟩, hC, h⟩ := h
    obtain ⟨G, wi, wl⟩ := w
    subst hG
    try dsimp only at h hC
    refine ⟨Nat.le_of_ble_eq_true rfl, fun Jm hs => hs 400 0 _ _ _ _ _ ?_⟩
    unfold st_sign at h
    dsimp only at h
    conv => whnf
    repeat ((first | refine ⟨zG_of _, ?_⟩ | refine ⟨trivial, ?_⟩ | refine ⟨rfl, ?_⟩ | refine ⟨fun hc => absurd hc (by decide), fun _ => ?_⟩ | refine ⟨fun _ => ?_, fun hc => absurd (by decide) hc⟩ | refine ⟨fun _ => ?_, fun hc => absurd hc (by decide)⟩ | refine ⟨fun hc => absurd (by decide) hc, fun _ => ?_⟩); conv => whnf)
    try dsimp only
    refine ⟨L, x, bvN v, ct_X hC, (bv_N v).1, (bv_N v).2, fun hn => ?_, fun hn wi1 hF1 hT1 => ?_⟩
    · rw [if_neg hn] at h
      conv => whnf
      repeat ((first | refine ⟨zG_of _, ?_⟩ | refine ⟨trivial, ?_⟩ | refine ⟨rfl, ?_⟩ | refine ⟨fun hc => absurd hc (by decide), fun _ => ?_⟩ | refine ⟨fun _ => ?_, fun hc => absurd (by decide) hc⟩ | refine ⟨fun _ => ?_, fun hc => absurd hc (by decide)⟩ | refine ⟨fun hc => absurd (by decide) hc, fun _ => ?_⟩); conv => whnf)
      try dsimp only
      exact h wi wl (FrC_refl _ _) hC
    · rw [if_pos hn] at h
      have h := h wi1 wl (fun y hy => ⟨hF1 y (by omega) (by omega), rfl⟩) (ct_text hC (fun y hy => hF1 y (by omega) (by omega)) hT1 rfl)
      rw [← hT1.1] at h
      conv => whnf
      repeat ((first | refine ⟨zG_of _, ?_⟩ | refine ⟨trivial, ?_⟩ | refine ⟨rfl, ?_⟩ | refine ⟨fun hc => absurd hc (by decide), fun _ => ?_⟩ | refine ⟨fun _ => ?_, fun hc => absurd (by decide) hc⟩ | refine ⟨fun _ => ?_, fun hc => absurd hc (by decide)⟩ | refine ⟨fun hc => absurd (by decide) hc, fun _ => ?_⟩); conv => whnf)
      try dsimp only
      exact h
def st_end (T : zT) (n : Int32) : zT × Int32 := if idB (T.2.2.2.2.2.1.1 + 1) n = true then ((T.1, T.2.1, T.2.2.1, T.2.2.2.1, T.2.2.2.2.1, (n.toNatClampNeg, T.2.2.2.2.2.1.2), T.2.2.2.2.2.2), nI 1) else (T, nI 0)
def sp_X11_end : zSp := fun av w K => match av with
  | [.ref o, .int v] => o = 0 ∧ zG w.1 ∧ ∃ T, CT w.2.1 w.2.2 T ∧ ∀ wi' wl', FrC w.2.1 w.2.2 wi' wl' → CT wi' wl' (st_end T v).1 → K (some (.int (st_end T v).2)) (w.1, wi', wl')
  | _ => False
def rm_X11_end : Room := { frames := 1, cells := 0, slots := 0, locals := 21 }
def M_X11_end : zM := (k_X11_end, f_X11, [(93, 4, 7, 2, 0, 0, sp_X8_cut)], ([], [], []), [], [], 2, false, (false, 0, fun _ => 0), (0, 0, []))
theorem ca_X11_end_0 (l : Launch) : z_cok l RX11 (headSpec (.code yX11_end cX11_end 2 (some .boolean) :: zTT) rm_X11_end).room (false, 0, fun _ => 0) (93, 4, 7, 2, 0, 0, sp_X8_cut) := z_ca4 (c_X8_cut l) mb_X8_cut ⟨_, rfl, rfl⟩ wt_1016 wt_1017 wt_1018 (by decide)
theorem O_X11_end (l : Launch) : z_OK l RX11 cX11_end (headSpec (.code yX11_end cX11_end 2 (some .boolean) :: zTT) rm_X11_end).room M_X11_end := ⟨ok_X11_end, fo_X11, List.forall_mem_cons.mpr ⟨ca_X11_end_0 l, fun _ h => absurd h List.not_mem_nil⟩, fun _ h => absurd h List.not_mem_nil, fun _ h => absurd h List.not_mem_nil, fun _ h => absurd h List.not_mem_nil, fun _ h => absurd h List.not_mem_nil, rfl, rfl, fun _ h => absurd h List.not_mem_nil⟩
theorem c_X11_end (l : Launch) : z_CS l yX11_end cX11_end 2 (some .boolean) rm_X11_end sp_X11_end := by
  refine z_meth (by decide) (Or.inr (Or.inr (Or.inl ⟨rfl, rfl⟩))) (fun h => by cases h) rfl (O_X11_end l) ?_
  intro av w K h
  match av, h with
  | [.ref o, .int v], h =>
    obtain ⟨rfl, ⟨r, hG⟩, ⟨d, q, c, A, kp, ⟨L, x⟩, tl⟩, hC, h⟩ := h
    obtain ⟨G, wi, wl⟩ := w
    subst hG
    try dsimp only at h hC
    refine ⟨Nat.le_of_ble_eq_true rfl, fun Jm hs => hs 400 0 _ _ _ _ _ ?_⟩
    unfold st_end at h
    dsimp only at h
    have hL := (ct_X hC).2.1
    conv => whnf
    repeat ((first | refine ⟨zG_of _, ?_⟩ | refine ⟨trivial, ?_⟩ | refine ⟨rfl, ?_⟩ | refine ⟨fun hc => absurd hc (by decide), fun _ => ?_⟩ | refine ⟨fun _ => ?_, fun hc => absurd (by decide) hc⟩ | refine ⟨fun _ => ?_, fun hc => absurd hc (by decide)⟩ | refine ⟨fun hc => absurd (by decide) hc, fun _ => ?_⟩); conv => whnf)
    try dsimp only
    refine ⟨L, x, ct_X hC, fun hn => ?_, fun n hn hv wi1 hF1 hT1 => ?_⟩
    · rw [if_neg (fun z => by
        obtain ⟨n, h1, h2⟩ := idB_N z (by show L + 1 < 2 ^ 31; have : L ≤ 400 := hL; omega)
        exact hn n (by omega) h2)] at h
      exact ⟨Or.inl rfl, h wi wl (FrC_refl _ _) hC⟩
    · subst hv
      have hL : L ≤ 400 := hL
      rw [if_pos (idB_of (by omega) (by omega)), nc_N (by omega)] at h
      exact ⟨Or.inr rfl, h wi1 wl (fun y hy => ⟨hF1 y (by omega), rfl⟩) (ct_text hC (fun y hy => hF1 y (by omega)) hT1 rfl)⟩
def st_drops (T : zT) (i : Int32) : zT × Int32 := if idB T.2.2.1 i = true then ((T.1, T.2.1, T.2.2.1 - 1, rmA T.2.2.2.1 i.toNatClampNeg, T.2.2.2.2), nI (T.2.2.1 - 1)) else (T, mI 1)
theorem rmA_z {d : Nat → Nat} {c i : Nat} {A : Nat → Nat → Nat} (h : ZS d c A) (hi : i < c) : ZS d (c - 1) (rmA A i) := by
  intro k hk p hp hp9
  unfold rmA
  split
  · exact h k (by omega) p hp hp9
  · exact h (k + 3) (by omega) p (by rw [show (k + 3) % 3 = k % 3 by omega]; exact hp) hp9
theorem isP_S {wi : Nat → Nat → Int32} {o : Nat} {d : Nat → Nat} {q c : Nat} {A : Nat → Nat → Nat} (h : CS wi o d q c A) (i : Int32) : isPF wi o i = bI (idB c i = true) := by
  unfold isPF idB
  rw [cs_c h]
  exact bI_cg decide_eq_true_iff.symm
def sp_X11_drops : zSp := fun av w K => match av with
  | [.ref o, .int i] => o = 0 ∧ zG w.1 ∧ ∃ T, CT w.2.1 w.2.2 T ∧ ∀ wi' wl', FrC w.2.1 w.2.2 wi' wl' → CT wi' wl' (st_drops T i).1 → K (some (.int (st_drops T i).2)) (w.1, wi', wl')
  | _ => False
def rm_X11_drops : Room := { frames := 2, cells := 0, slots := 0, locals := 44 }
def M_X11_drops : zM := (k_X11_drops, f_X11, [(121, 4, 5, 2, 0, 0, sp_X6_isProduct), (124, 4, 5, 2, 0, 0, sp_X6_remove)], ([], [], []), [], [], 1, false, (false, 0, fun _ => 0), (0, 0, []))
theorem ca_X11_drops_0 (l : Launch) : z_cok l RX11 (headSpec (.code yX11_drops cX11_drops 2 (some .int) :: zTT) rm_X11_drops).room (false, 0, fun _ => 0) (121, 4, 5, 2, 0, 0, sp_X6_isProduct) := z_ca4 (c_X6_isProduct l) mb_X6_isProduct ⟨_, rfl, rfl⟩ wt_416 wt_417 wt_418 (by decide)
theorem ca_X11_drops_1 (l : Launch) : z_cok l RX11 (headSpec (.code yX11_drops cX11_drops 2 (some .int) :: zTT) rm_X11_drops).room (false, 0, fun _ => 0) (124, 4, 5, 2, 0, 0, sp_X6_remove) := z_ca4 (c_X6_remove l) mb_X6_remove ⟨_, rfl, rfl⟩ wt_420 wt_421 wt_422 (by decide)
theorem O_X11_drops (l : Launch) : z_OK l RX11 cX11_drops (headSpec (.code yX11_drops cX11_drops 2 (some .int) :: zTT) rm_X11_drops).room M_X11_drops := ⟨ok_X11_drops, fo_X11, List.forall_mem_cons.mpr ⟨ca_X11_drops_0 l, List.forall_mem_cons.mpr ⟨ca_X11_drops_1 l, fun _ h => absurd h List.not_mem_nil⟩⟩, fun _ h => absurd h List.not_mem_nil, fun _ h => absurd h List.not_mem_nil, fun _ h => absurd h List.not_mem_nil, fun _ h => absurd h List.not_mem_nil, rfl, rfl, fun _ h => absurd h List.not_mem_nil⟩
theorem c_X11_drops (l : Launch) : z_CS l yX11_drops cX11_drops 2 (some .int) rm_X11_drops sp_X11_drops := by
  refine z_meth (by decide) (Or.inr (Or.inl ⟨rfl, rfl⟩)) (fun h => by cases h) rfl (O_X11_drops l) ?_
  intro av w K h
  match av, h with
  | [.ref o, .int i], h =>
    obtain ⟨rfl, ⟨r, hG⟩, ⟨d, q, c, A, kp, tx, tl⟩, hC, h⟩ := h
    obtain ⟨G, wi, wl⟩ := w
    subst hG
    try dsimp only at h hC
    refine ⟨Nat.le_of_ble_eq_true rfl, fun Jm hs => hs 400 0 _ _ _ _ _ ?_⟩
    unfold st_drops at h
    dsimp only at h
    have hS := ct_S hC
    have h40 := cs_40 hS
    conv => whnf
    repeat ((first | refine ⟨zG_of _, ?_⟩ | refine ⟨trivial, ?_⟩ | refine ⟨rfl, ?_⟩ | refine ⟨fun hc => absurd hc (by decide), fun _ => ?_⟩ | refine ⟨fun _ => ?_, fun hc => absurd (by decide) hc⟩ | refine ⟨fun _ => ?_, fun hc => absurd hc (by decide)⟩ | refine ⟨fun hc => absurd (by decide) hc, fun _ => ?_⟩); conv => whnf)
    try dsimp only
    rw [isP_S hS, bI_0, Classical.not_not]
    refine ⟨fun hn => ?_, fun hn => ?_⟩
    · obtain ⟨i', hi', rfl⟩ := idB_N hn (by omega)
      rw [if_pos hn, nc_N (by omega)] at h
      conv => whnf
      repeat ((first | refine ⟨zG_of _, ?_⟩ | refine ⟨trivial, ?_⟩ | refine ⟨rfl, ?_⟩ | refine ⟨fun hc => absurd hc (by decide), fun _ => ?_⟩ | refine ⟨fun _ => ?_, fun hc => absurd (by decide) hc⟩ | refine ⟨fun _ => ?_, fun hc => absurd hc (by decide)⟩ | refine ⟨fun hc => absurd (by decide) hc, fun _ => ?_⟩); conv => whnf)
      try dsimp only
      refine ⟨d, q, c, A, i', hS, rfl, hi', fun wi1 hF1 hS1 => ?_⟩
      have h := h wi1 wl (fun y hy => ⟨hF1 y (by omega) (by omega), rfl⟩) (ct_now hC hS1 (rmA_z (ct_Z hC) hi') (fun y hy => hF1 y (by omega) (by omega)) rfl)
      rw [← cs_c hS1] at h
      conv => whnf
      repeat ((first | refine ⟨zG_of _, ?_⟩ | refine ⟨trivial, ?_⟩ | refine ⟨rfl, ?_⟩ | refine ⟨fun hc => absurd hc (by decide), fun _ => ?_⟩ | refine ⟨fun _ => ?_, fun hc => absurd (by decide) hc⟩ | refine ⟨fun _ => ?_, fun hc => absurd hc (by decide)⟩ | refine ⟨fun hc => absurd (by decide) hc, fun _ => ?_⟩); conv => whnf)
      try dsimp only
      exact h
    · rw [if_neg hn] at h
      exact ⟨trivial, h wi wl (FrC_refl _ _) hC⟩
def coR (q : Nat) (a : Nat → Nat) : Nat → Nat → Nat
  | 0, m => m
  | n + 1, m => coR q a n (m * q + a n)
theorem co_pk {q : Nat} {a : Nat → Nat} (ha : ∀ p, p < 9 → a p < 3) : ∀ n, n ≤ 9 → ∀ m, fcodeN (pk a) (nI q) n (nI m) = nI (coR q a n m)
  | 0, _, _ => rfl
  | n + 1, h, m => by
    rw [fcodeN, fnum_pk ha (by omega), pk_mul, nI_add, co_pk ha n (by omega)]
    rfl
def st_form (T : zT) (i t : Int32) : zT × Int32 := if (idB T.2.2.1 i && idB 3 t) = true then (T, nI (coR T.2.1 (T.2.2.2.1 (3 * i.toNatClampNeg + t.toNatClampNeg)) 9 0)) else (T, mI 1)
theorem isT_B (t : Int32) : isTF t = bI (idB 3 t = true) := by
  unfold isTF idB
  exact bI_cg decide_eq_true_iff.symm
def sp_X11_form : zSp := fun av w K => match av with
  | [.ref o, .int i, .int t] => o = 0 ∧ zG w.1 ∧ ∃ T, CT w.2.1 w.2.2 T ∧ ∀ wi' wl', FrC w.2.1 w.2.2 wi' wl' → CT wi' wl' (st_form T i t).1 → K (some (.int (st_form T i t).2)) (w.1, wi', wl')
  | _ => False
def st_number (T : zT) (i t p : Int32) : zT × Int32 := if (idB T.2.2.1 i && (idB 3 t && idB (pl T.1 t.toNatClampNeg) p)) = true then (T, nI (T.2.2.2.1 (3 * i.toNatClampNeg + t.toNatClampNeg) p.toNatClampNeg)) else (T, mI 1)
theorem isPl_S {wi : Nat → Nat → Int32} {d : Nat → Nat} {q c : Nat} {A : Nat → Nat → Nat} (h : CS wi 6 d q c A) (t p : Int32) : isPlF wi t p = bI ((idB 3 t && idB (pl d t.toNatClampNeg) p) = true) := by
  unfold isPlF
  refine bI_cg ?_
  rw [Bool.and_eq_true]
  constructor
  · intro k
    have k1 : idB 3 t = true := decide_eq_true k.1
    obtain ⟨t', ht', rfl⟩ := idB_N k1 (by omega)
    rw [pl_S h ht'] at k
    rw [nc_N (by omega)]
    exact ⟨k1, decide_eq_true k.2⟩
  · intro k
    obtain ⟨t', ht', rfl⟩ := idB_N k.1 (by omega)
    rw [nc_N (by omega)] at k
    rw [pl_S h ht']
    exact ⟨of_decide_eq_true k.1, of_decide_eq_true k.2⟩
def sp_X11_number : zSp := fun av w K => match av with
  | [.ref o, .int i, .int t, .int p] => o = 0 ∧ zG w.1 ∧ ∃ T, CT w.2.1 w.2.2 T ∧ ∀ wi' wl', FrC w.2.1 w.2.2 wi' wl' → CT wi' wl' (st_number T i t p).1 → K (some (.int (st_number T i t p).2)) (w.1, wi', wl')
  | _ => False
