/-! the reference: whether a product is shed -/
theorem sal_bv {q : Nat} (hq : q = 2 ∨ q = 3) {d : Nat → Nat} {c w u j : Nat} {A : Nat → Nat → Nat} (hd : ∀ t, t < 3 → 1 ≤ d t ∧ d t ≤ 3) (hu : u < 3) (hZ : ZS d c A) : ∀ i, i ≤ c → BV q (pl d u) (saL q A w u j i).1
  | 0, _ => BV_0 q (pl d u)
  | i + 1, hi => by
    have ih := sal_bv (w := w) (j := j) hq hd hu hZ i (by omega)
    have p9 := (pl_le hd hu).2
    have ha : ∀ p, p < 9 → scF q A w u j i p < q := fun p _ => fMul_lt hq _ _ p
    have hz : ∀ p, pl d u ≤ p → p < 9 → scF q A w u j i p = 0 := zb_mul (zs_at hZ (show i < c by omega) hu)
    rw [saL]
    split
    · rename_i h
      exact BV_s hq p9 ih ha hz ((bk_not hq p9 ih ha hz).mp h.2)
    · exact ih
theorem bt_bk {wi : Nat → Nat → Int32} {q n f : Nat} {Q P : Nat → Nat → Nat} {V : Nat → Nat} {S S' : Nat → Nat} (h : BT wi q (n + 1, Q, upA P n (fMul q f S), V)) (e : ∀ p, p < 9 → S p = S' p) (hq : q = 2 ∨ q = 3) : BT wi q (n + 1, Q, upA P n (fMul q f S'), V) := by
  refine ⟨h.1, h.2.1, fun k hk => ?_⟩
  have b := h.2.2 k hk
  dsimp only at b ⊢
  by_cases g : k = n
  · rw [g, upA_at] at b ⊢
    refine ⟨r18_congr b.1 (fun p hp => ?_), b.2.1, fun p _ => fMul_lt hq _ _ p, b.2.2.2⟩
    unfold w18 fMul
    split
    · rfl
    · rw [e _ (by omega)]
  · rw [upA_ne g] at b ⊢
    exact b
theorem w18_un {F : Nat → Nat} {n : Nat} (hn : n < 9) : ∀ p, p < 18 → setp (w18 F (fun _ => 0)) (9 + n) 1 p = w18 F (un n) p := fun p hp => by
  unfold setp w18 un
  by_cases e : p = 9 + n
  · rw [if_pos e, if_neg (by omega), if_pos (by omega)]
  · rw [if_neg e]
    by_cases g : p < 9
    · rw [if_pos g, if_pos g]
    · rw [if_neg g, if_neg g, if_neg (by omega)]
theorem neg_mod {q P : Nat} (hq : q = 2 ∨ q = 3) (hP : P < q) : modM (-(nI ((0 + (q - P)) % q))) (nI q) = nI P := by
  have h2 : ∀ P, P < 2 → modM (-(nI ((0 + (2 - P)) % 2))) (nI 2) = nI P := by decide
  have h3 : ∀ P, P < 3 → modM (-(nI ((0 + (3 - P)) % 3))) (nI 3) = nI P := by decide
  rcases hq with rfl | rfl
  · exact h2 P hP
  · exact h3 P hP
def FQ (wi wi' : Nat → Nat → Int32) : Prop := (∀ y, y ≠ 45 → y ≠ 54 → y ≠ 55 → wi' y = wi y) ∧ ∀ i, i ≠ 24 → wi' 45 i = wi 45 i
def FQX (wi wi' : Nat → Nat → Int32) : Prop := (∀ y, y ≠ 45 → y ≠ 47 → y ≠ 54 → y ≠ 55 → wi' y = wi y) ∧ ∀ i, i ≠ 2 → i ≠ 24 → wi' 45 i = wi 45 i
theorem FQ_refl (wi : Nat → Nat → Int32) : FQ wi wi := ⟨fun _ _ _ _ => rfl, fun _ _ => rfl⟩
theorem FQ_trans {wi wi' wi2 : Nat → Nat → Int32} (h : FQ wi wi') (h2 : FQ wi' wi2) : FQ wi wi2 := ⟨fun y g1 g2 g3 => (h2.1 y g1 g2 g3).trans (h.1 y g1 g2 g3), fun i g => (h2.2 i g).trans (h.2 i g)⟩
theorem FQ_54 {wi wi' : Nat → Nat → Int32} (h : ∀ y, y ≠ 54 → wi' y = wi y) : FQ wi wi' := ⟨fun y _ g _ => h y g, fun i _ => by rw [h 45 (by decide)]⟩
theorem FQ_ms {wi wi' : Nat → Nat → Int32} {d : Nat → Nat} {q c : Nat} {A : Nat → Nat → Nat} (h : FQ wi wi') (hS : MS wi d q c A) : MS wi' d q c A := ms_fr hS (h.1 46 (by decide) (by decide) (by decide)) (h.2 1 (by decide)) (h.2 2 (by decide)) (h.1 47 (by decide) (by decide) (by decide))
def shdB (q : Nat) (A : Nat → Nat → Nat) (w u j : Nat) : Bool := !hzB A j && zB (rest q (saL q A w u j j).1 (A (3 * j + u)))
def shdA (q : Nat) (A : Nat → Nat → Nat) (w u v j : Nat) : Nat → Nat → Nat := rmA (shX q A v j (saL q A w u j j).2 (parts q (saL q A w u j j).1 (A (3 * j + u))) (saL q A w u j j).1.1) j
def sp_X12_isShed : zSp := fun av w K => match av with
  | [.ref o, .int j, .int x, .int u, .int v] => o = 45 ∧ zH w.1 ∧ ∃ d q c A j' w' u' v', MS w.2.1 d q c A ∧ ZS d c A ∧ j = nI j' ∧ j' < c ∧ x = nI w' ∧ w' < 3 ∧ u = nI u' ∧ u' < 3 ∧ v = nI v' ∧ v' < 3 ∧ (¬ shdB q A w' u' j' = true → ∀ wi' : Nat → Nat → Int32, FQ w.2.1 wi' → K (some (.int (nI 0))) (w.1, wi', w.2.2)) ∧ (shdB q A w' u' j' = true → ∀ wi' : Nat → Nat → Int32, FQX w.2.1 wi' → MS wi' d q (c - 1) (shdA q A w' u' v' j') → K (some (.int (nI 1))) (w.1, wi', w.2.2))
  | _ => False
def rm_X12_isShed : Room := { frames := 3, cells := 0, slots := 0, locals := 72 }
def M_X12_isShed : zM := (k_X12_isShed, f_X12, [(226, 4, 10, 2, 0, 0, sp_X12_hasZero), (217, 4, 10, 4, 0, 0, sp_X12_likeAt), (96, 4, 10, 2, 0, 0, sp_X12_placesOf), (257, 4, 10, 4, 0, 0, sp_X12_laysBehind), (260, 4, 10, 1, 0, 0, sp_X12_isSum), (263, 4, 10, 2, 0, 0, sp_X12_takes), (223, 4, 10, 2, 0, 0, sp_X12_mod), (107, 0, 0, 3, 0, 0, sp_X12_at), (167, 4, 10, 2, 0, 0, sp_X12_goes)], ([], [], []), [], [(18, [true, true, true, true, true, true, false, false, false]), (106, [true, true, true, true, true, true, false, false, false]), (143, [true, true, true, true, true, true, true, false, false]), (172, [true, true, true, true, true, true, true, true, true])], 2, false, (false, 0, fun _ => 0), (0, 0))
theorem ca_X12_isShed_0 (l : Launch) : z_cok l RX12 (headSpec (.code yX12_isShed cX12_isShed 9 (some .boolean) :: zTT) rm_X12_isShed).room (226, 4, 10, 2, 0, 0, sp_X12_hasZero) := z_ca4 (c_X12_hasZero l) mb_X12_hasZero ⟨_, rfl, rfl⟩ wt_1439 wt_1441 wt_59 (by decide)
theorem ca_X12_isShed_1 (l : Launch) : z_cok l RX12 (headSpec (.code yX12_isShed cX12_isShed 9 (some .boolean) :: zTT) rm_X12_isShed).room (217, 4, 10, 4, 0, 0, sp_X12_likeAt) := z_ca4 (c_X12_likeAt l) mb_X12_likeAt ⟨_, rfl, rfl⟩ wt_1404 wt_1406 wt_53 (by decide)
theorem ca_X12_isShed_2 (l : Launch) : z_cok l RX12 (headSpec (.code yX12_isShed cX12_isShed 9 (some .boolean) :: zTT) rm_X12_isShed).room (96, 4, 10, 2, 0, 0, sp_X12_placesOf) := z_ca4 (c_X12_placesOf l) mb_X12_placesOf ⟨_, rfl, rfl⟩ wt_1349 wt_1351 wt_45 (by decide)
theorem ca_X12_isShed_3 (l : Launch) : z_cok l RX12 (headSpec (.code yX12_isShed cX12_isShed 9 (some .boolean) :: zTT) rm_X12_isShed).room (257, 4, 10, 4, 0, 0, sp_X12_laysBehind) := z_ca4 (c_X12_laysBehind l) mb_X12_laysBehind ⟨_, rfl, rfl⟩ wt_1471 wt_1473 wt_65 (by decide)
theorem ca_X12_isShed_4 (l : Launch) : z_cok l RX12 (headSpec (.code yX12_isShed cX12_isShed 9 (some .boolean) :: zTT) rm_X12_isShed).room (260, 4, 10, 1, 0, 0, sp_X12_isSum) := z_ca4 (c_X12_isSum l) mb_X12_isSum ⟨_, rfl, rfl⟩ wt_1475 wt_1477 wt_66 (by decide)
theorem ca_X12_isShed_5 (l : Launch) : z_cok l RX12 (headSpec (.code yX12_isShed cX12_isShed 9 (some .boolean) :: zTT) rm_X12_isShed).room (263, 4, 10, 2, 0, 0, sp_X12_takes) := z_ca4 (c_X12_takes l) mb_X12_takes ⟨_, rfl, rfl⟩ wt_1483 wt_1485 wt_68 (by decide)
theorem ca_X12_isShed_6 (l : Launch) : z_cok l RX12 (headSpec (.code yX12_isShed cX12_isShed 9 (some .boolean) :: zTT) rm_X12_isShed).room (223, 4, 10, 2, 0, 0, sp_X12_mod) := z_ca4 (c_X12_mod l) mb_X12_mod ⟨_, rfl, rfl⟩ wt_1431 wt_1433 wt_57 (by decide)
theorem ca_X12_isShed_7 (l : Launch) : z_cok l RX12 (headSpec (.code yX12_isShed cX12_isShed 9 (some .boolean) :: zTT) rm_X12_isShed).room (107, 0, 0, 3, 0, 0, sp_X12_at) := z_ca0 (c_X12_at l) mb_X12_at wt_1136 wt_1137 (by decide)
theorem ca_X12_isShed_8 (l : Launch) : z_cok l RX12 (headSpec (.code yX12_isShed cX12_isShed 9 (some .boolean) :: zTT) rm_X12_isShed).room (167, 4, 10, 2, 0, 0, sp_X12_goes) := z_ca4 (c_X12_goes l) mb_X12_goes ⟨_, rfl, rfl⟩ wt_1330 wt_1332 wt_43 (by decide)
theorem O_X12_isShed (l : Launch) : z_OK l RX12 cX12_isShed (headSpec (.code yX12_isShed cX12_isShed 9 (some .boolean) :: zTT) rm_X12_isShed).room M_X12_isShed := ⟨ok_X12_isShed, fo_X12, List.forall_mem_cons.mpr ⟨ca_X12_isShed_0 l, List.forall_mem_cons.mpr ⟨ca_X12_isShed_1 l, List.forall_mem_cons.mpr ⟨ca_X12_isShed_2 l, List.forall_mem_cons.mpr ⟨ca_X12_isShed_3 l, List.forall_mem_cons.mpr ⟨ca_X12_isShed_4 l, List.forall_mem_cons.mpr ⟨ca_X12_isShed_5 l, List.forall_mem_cons.mpr ⟨ca_X12_isShed_6 l, List.forall_mem_cons.mpr ⟨ca_X12_isShed_7 l, List.forall_mem_cons.mpr ⟨ca_X12_isShed_8 l, fun _ h => absurd h List.not_mem_nil⟩⟩⟩⟩⟩⟩⟩⟩⟩, fun _ h => absurd h List.not_mem_nil, fun _ h => absurd h List.not_mem_nil, fun _ h => absurd h List.not_mem_nil, fun _ h => absurd h List.not_mem_nil, rfl, rfl⟩
theorem c_X12_isShed (l : Launch) : z_CS l yX12_isShed cX12_isShed 9 (some .boolean) rm_X12_isShed sp_X12_isShed := by
  refine z_meth (by decide) (Or.inr (Or.inr (Or.inl ⟨rfl, rfl⟩))) (fun h => by cases h) rfl (O_X12_isShed l) ?_
  intro av w K h
  match av, h with
  | [.ref o, .int j, .int x, .int u, .int v], h =>
    obtain ⟨rfl, ⟨r, hG⟩, d, q, c, A, j', w', u', v', hS, hZ, rfl, hj, rfl, hw, rfl, hu, rfl, hv, h0, h1⟩ := h
    obtain ⟨G, wi, wl⟩ := w
    subst hG
    try dsimp only at h0 h1 hS
    have h40 := ms_40 hS
    have q23 := ms_q23 hS
    have hd := ms_hd hS
    have p9 := pl_le hd hu
    have aj := ms_A hS (3 * j' + u') (by omega)
    have zj := zs_at hZ hj hu
    refine ⟨Nat.le_of_ble_eq_true rfl, fun Jm hs => ?_⟩
    unfold shdB at h0 h1
    unfold shdA at h1
    by_cases hzj : hzB A j' = true
    · have h0 := h0 (by rw [hzj]; simp) wi (FQ_refl wi)
      refine hs 400 0 _ _ _ _ _ ?_
      conv => whnf
      repeat ((first | refine ⟨zH_of _, ?_⟩ | refine ⟨trivial, ?_⟩ | refine ⟨rfl, ?_⟩ | refine ⟨fun hc => absurd hc (by decide), fun _ => ?_⟩ | refine ⟨fun _ => ?_, fun hc => absurd (by decide) hc⟩ | refine ⟨fun _ => ?_, fun hc => absurd hc (by decide)⟩ | refine ⟨fun hc => absurd (by decide) hc, fun _ => ?_⟩); conv => whnf)
      try dsimp only
      refine ⟨d, q, c, A, j', hS, rfl, hj, ?_⟩
      rw [bI_t hzj]
      conv => whnf
      repeat ((first | refine ⟨zH_of _, ?_⟩ | refine ⟨trivial, ?_⟩ | refine ⟨rfl, ?_⟩ | refine ⟨fun hc => absurd hc (by decide), fun _ => ?_⟩ | refine ⟨fun _ => ?_, fun hc => absurd (by decide) hc⟩ | refine ⟨fun _ => ?_, fun hc => absurd hc (by decide)⟩ | refine ⟨fun hc => absurd (by decide) hc, fun _ => ?_⟩); conv => whnf)
      try dsimp only
      exact ⟨Or.inl rfl, h0⟩
    have e0 : hzB A j' = false := by simpa using hzj
    rw [e0, Bool.not_false, Bool.true_and] at h0 h1
    have bvj := sal_bv (w := w') (j := j') q23 hd hu hZ
    have sT := saL_T q A w' u' j' j'
    have es : ∀ i, saL q A w' u' j' (i + 1) = if scB q A w' j' i = true ∧ bkB q (saL q A w' u' j' i).1 (scF q A w' u' j' i) = true then (bkS q (saL q A w' u' j' i).1 (scF q A w' u' j' i), setp (saL q A w' u' j' i).2 (saL q A w' u' j' i).1.1 i) else saL q A w' u' j' i := fun _ => rfl
    have s0 : saL q A w' u' j' 0 = (b0, fun _ => 0) := rfl
    generalize saL q A w' u' j' = L at *
    have last : ∀ wi' : Nat → Nat → Int32, FQ wi wi' → BT wi' q (L j').1 → (∀ k, k < (L j').1.1 → wi' 55 k = nI ((L j').2 k)) → zB (rest q (L j').1 (A (3 * j' + u'))) = true → R18 wi' (18 * (L j').1.1) (w18 (rest q (L j').1 (A (3 * j' + u'))) (sdB q (L j').1 (A (3 * j' + u')) (fun _ => 0) (L j').1.1)) → Jm 143 [some (.ref 45), some (.int (nI j')), some (.int (nI w')), some (.int (nI u')), some (.int (nI v')), some (.int (nI (18 * (L j').1.1 + 9))), some (.int (nI 0)), none, none] [] (GC ++ (GM ++ r), wi', wl) 0 0 := fun wi' hF hB hT hz hX => by
      have h1 := h1 hz
      have S2 := FQ_ms hF hS
      have n9 := hB.2.1
      have pt := sd_pt q23 (L j').1 aj (show ∀ p, p < 9 → (fun _ => 0 : Nat → Nat) p < q from fun p _ => by show 0 < q; omega) (L j').1.1
      have plt := (rdB_lt q23 (L j').1 aj (L j').1.1).2
      have pe : (rdB q (L j').1 (A (3 * j' + u')) (L j').1.1).2 = parts q (L j').1 (A (3 * j' + u')) := rfl
      rw [pe] at pt plt
      generalize parts q (L j').1 (A (3 * j' + u')) = Q at *
      generalize sdB q (L j').1 (A (3 * j' + u')) (fun _ => 0) (L j').1.1 = S at *
      have hB24 := hB.1
      generalize (L j').2 = T at *
      generalize (L j').1.1 = n at *
      have hs54 : ∀ x, x < n → wi' 54 (18 * n + 9 + x) = nI ((0 + (q - Q x)) % q) := fun x hx => by
        have k := hX (9 + x) (by omega)
        rw [w18_hi, pt x (by omega)] at k
        rw [show 18 * n + 9 + x = 18 * n + (9 + x) by omega, k]
        rfl
      have sx : ∀ x, shX q A v' j' T Q (x + 1) = upA (shX q A v' j' T Q x) (3 * T x + v') (fAdd q (shX q A v' j' T Q x (3 * T x + v')) (fMul q (Q x) (shX q A v' j' T Q x (3 * j' + v')))) := fun _ => rfl
      have sx0 : shX q A v' j' T Q 0 = A := rfl
      generalize shX q A v' j' T Q = Y at *
      have outer := up_ind (P := fun x => ∀ wi2 : Nat → Nat → Int32, (∀ y, y ≠ 47 → wi2 y = wi' y) → MS wi2 d q c (Y x) → Jm 143 [some (.ref 45), some (.int (nI j')), some (.int (nI w')), some (.int (nI u')), some (.int (nI v')), some (.int (nI (18 * n + 9))), some (.int (nI x)), none, none] [] (GC ++ (GM ++ r), wi2, wl) 0 0) n (fun x hx ih => by
        intro wi2 hF2 S3
        refine hs 400 143 _ _ _ _ _ ?_
        conv => whnf
        repeat ((first | refine ⟨zH_of _, ?_⟩ | refine ⟨trivial, ?_⟩ | refine ⟨rfl, ?_⟩ | refine ⟨fun hc => absurd hc (by decide), fun _ => ?_⟩ | refine ⟨fun _ => ?_, fun hc => absurd (by decide) hc⟩ | refine ⟨fun _ => ?_, fun hc => absurd hc (by decide)⟩ | refine ⟨fun hc => absurd (by decide) hc, fun _ => ?_⟩); conv => whnf)
        try dsimp only
        rw [hF2 45 (by decide), hB24, ltN (by omega) (by omega)]
        refine ⟨fun hc => ?_, fun hc => ?_⟩
        · obtain hxn : x = n := by omega
          rw [hxn] at S3
          conv => whnf
          repeat ((first | refine ⟨zH_of _, ?_⟩ | refine ⟨trivial, ?_⟩ | refine ⟨rfl, ?_⟩ | refine ⟨fun hc => absurd hc (by decide), fun _ => ?_⟩ | refine ⟨fun _ => ?_, fun hc => absurd (by decide) hc⟩ | refine ⟨fun _ => ?_, fun hc => absurd hc (by decide)⟩ | refine ⟨fun hc => absurd (by decide) hc, fun _ => ?_⟩); conv => whnf)
          try dsimp only
          refine ⟨d, q, c, Y n, j', S3, rfl, hj, fun wi3 hF3 hI3 S4 => ?_⟩
          have h1 := h1 wi3 ⟨fun y g1 g2 g3 g4 => by rw [hF3 y g1 g2, hF2 y g2, hF.1 y g1 g3 g4], fun i g1 g2 => by rw [hI3 i g1, hF2 45 (by decide), hF.2 i g2]⟩ S4
          conv => whnf
          repeat ((first | refine ⟨zH_of _, ?_⟩ | refine ⟨trivial, ?_⟩ | refine ⟨rfl, ?_⟩ | refine ⟨fun hc => absurd hc (by decide), fun _ => ?_⟩ | refine ⟨fun _ => ?_, fun hc => absurd (by decide) hc⟩ | refine ⟨fun _ => ?_, fun hc => absurd hc (by decide)⟩ | refine ⟨fun hc => absurd (by decide) hc, fun _ => ?_⟩); conv => whnf)
          try dsimp only
          exact ⟨Or.inr rfl, h1⟩
        · have ih := ih hc
          have sxx := sx x
          have Tx := sT x hc
          have Qx := plt x (by omega)
          have yq : ∀ i, i < c → ∀ p, p < 9 → Y x (3 * i + v') p < q := fun i hi => ms_A S3 _ (by omega)
          generalize Y x = Z at *
          have inner := up_ind (P := fun k => ∀ wi3 : Nat → Nat → Int32, (∀ y, y ≠ 47 → wi3 y = wi' y) → MS wi3 d q c (upA Z (3 * T x + v') (mixA k (fun _ => Z (3 * T x + v')) (fun _ => fAdd q (Z (3 * T x + v')) (fMul q (Q x) (Z (3 * j' + v')))) 0)) → Jm 172 [some (.ref 45), some (.int (nI j')), some (.int (nI w')), some (.int (nI u')), some (.int (nI v')), some (.int (nI (18 * n + 9))), some (.int (nI x)), some (.int (nI (Q x))), some (.int (nI k))] [] (GC ++ (GM ++ r), wi3, wl) 0 0) 9 (fun k hk ihk => by
            intro wi3 hF3 S4
            refine hs 400 172 _ _ _ _ _ ?_
            conv => whnf
            repeat ((first | refine ⟨zH_of _, ?_⟩ | refine ⟨trivial, ?_⟩ | refine ⟨rfl, ?_⟩ | refine ⟨fun hc => absurd hc (by decide), fun _ => ?_⟩ | refine ⟨fun _ => ?_, fun hc => absurd (by decide) hc⟩ | refine ⟨fun _ => ?_, fun hc => absurd hc (by decide)⟩ | refine ⟨fun hc => absurd (by decide) hc, fun _ => ?_⟩); conv => whnf)
            try dsimp only
            rw [ltN (by omega) (by omega)]
            refine ⟨fun hc2 => ?_, fun hc2 => ?_⟩
            · obtain rfl : k = 9 := by omega
              have S5 := ms_congr S4 (B := Y (x + 1)) (fun m hm p hp => by
                rw [sxx]
                unfold upA
                split
                · exact if_pos hp
                · rfl)
              conv => whnf
              repeat ((first | refine ⟨zH_of _, ?_⟩ | refine ⟨trivial, ?_⟩ | refine ⟨rfl, ?_⟩ | refine ⟨fun hc => absurd hc (by decide), fun _ => ?_⟩ | refine ⟨fun _ => ?_, fun hc => absurd (by decide) hc⟩ | refine ⟨fun _ => ?_, fun hc => absurd hc (by decide)⟩ | refine ⟨fun hc => absurd (by decide) hc, fun _ => ?_⟩); conv => whnf)
              try dsimp only
              rw [nI_add]
              exact ih wi3 hF3 S5
            · have ihk := ihk hc2
              have e55 : wi3 55 x = nI (T x) := by rw [hF3 55 (by decide)]; exact hT x hc
              have r1 := ms_at S4 (i := T x) (by omega) hv hc2
              rw [upA_at, show mixA k (fun _ => Z (3 * T x + v')) (fun _ => fAdd q (Z (3 * T x + v')) (fMul q (Q x) (Z (3 * j' + v')))) 0 k = Z (3 * T x + v') k from if_neg (Nat.lt_irrefl k)] at r1
              have r2 := ms_at S4 hj hv hc2
              rw [upA_ne (by omega)] at r2
              have b1 := yq (T x) (by omega) k hc2
              have b2 := yq j' hj k hc2
              have mm : Q x * Z (3 * j' + v') k ≤ 2 * 2 := Nat.mul_le_mul (by omega) (by omega)
              have S5 := ms_put S4 (i := T x) (by omega) hv hc2 (v := fAdd q (Z (3 * T x + v')) (fMul q (Q x) (Z (3 * j' + v'))) k) (fAdd_lt q23 _ _ k)
              have mx := mix_s k (fun _ => Z (3 * T x + v')) (fun _ => fAdd q (Z (3 * T x + v')) (fMul q (Q x) (Z (3 * j' + v')))) 0
              rw [upA_up, upA_at, mx] at S5
              have ev : fAdd q (Z (3 * T x + v')) (fMul q (Q x) (Z (3 * j' + v'))) k = (Z (3 * T x + v') k + Q x * Z (3 * j' + v') k) % q := by
                unfold fAdd fMul
                rw [Nat.add_mod_mod]
              conv => whnf
              repeat ((first | refine ⟨zH_of _, ?_⟩ | refine ⟨trivial, ?_⟩ | refine ⟨rfl, ?_⟩ | refine ⟨fun hc => absurd hc (by decide), fun _ => ?_⟩ | refine ⟨fun _ => ?_, fun hc => absurd (by decide) hc⟩ | refine ⟨fun _ => ?_, fun hc => absurd hc (by decide)⟩ | refine ⟨fun hc => absurd (by decide) hc, fun _ => ?_⟩); conv => whnf)
              try dsimp only
              refine ⟨vp_in_nI (show x < 9 by omega) (by decide), ?_⟩
              rw [nI_clamp (n := x) (by omega), e55]
              conv => whnf
              repeat ((first | refine ⟨zH_of _, ?_⟩ | refine ⟨trivial, ?_⟩ | refine ⟨rfl, ?_⟩ | refine ⟨fun hc => absurd hc (by decide), fun _ => ?_⟩ | refine ⟨fun _ => ?_, fun hc => absurd (by decide) hc⟩ | refine ⟨fun _ => ?_, fun hc => absurd hc (by decide)⟩ | refine ⟨fun hc => absurd (by decide) hc, fun _ => ?_⟩); conv => whnf)
              try dsimp only
              rw [at_N]
              refine ⟨vp_in_nI (show x < 9 by omega) (by decide), ?_⟩
              rw [nI_clamp (n := x) (by omega), e55]
              conv => whnf
              repeat ((first | refine ⟨zH_of _, ?_⟩ | refine ⟨trivial, ?_⟩ | refine ⟨rfl, ?_⟩ | refine ⟨fun hc => absurd hc (by decide), fun _ => ?_⟩ | refine ⟨fun _ => ?_, fun hc => absurd (by decide) hc⟩ | refine ⟨fun _ => ?_, fun hc => absurd hc (by decide)⟩ | refine ⟨fun hc => absurd (by decide) hc, fun _ => ?_⟩); conv => whnf)
              try dsimp only
              rw [at_N]
              refine ⟨vp_in_nI (show 27 * T x + 9 * v' + k < 1080 by omega) (by decide), ?_⟩
              conv => whnf
              repeat ((first | refine ⟨zH_of _, ?_⟩ | refine ⟨trivial, ?_⟩ | refine ⟨rfl, ?_⟩ | refine ⟨fun hc => absurd hc (by decide), fun _ => ?_⟩ | refine ⟨fun _ => ?_, fun hc => absurd (by decide) hc⟩ | refine ⟨fun _ => ?_, fun hc => absurd hc (by decide)⟩ | refine ⟨fun hc => absurd (by decide) hc, fun _ => ?_⟩); conv => whnf)
              try dsimp only
              rw [at_N]
              refine ⟨vp_in_nI (show 27 * j' + 9 * v' + k < 1080 by omega) (by decide), ?_⟩
              rw [nI_clamp (n := 27 * T x + 9 * v' + k) (by omega), nI_clamp (n := 27 * j' + 9 * v' + k) (by omega), r1, r2]
              conv => whnf
              repeat ((first | refine ⟨zH_of _, ?_⟩ | refine ⟨trivial, ?_⟩ | refine ⟨rfl, ?_⟩ | refine ⟨fun hc => absurd hc (by decide), fun _ => ?_⟩ | refine ⟨fun _ => ?_, fun hc => absurd (by decide) hc⟩ | refine ⟨fun _ => ?_, fun hc => absurd hc (by decide)⟩ | refine ⟨fun hc => absurd (by decide) hc, fun _ => ?_⟩); conv => whnf)
              try dsimp only
              rw [ms_q S4]
              refine ⟨q_n0 q23, ?_⟩
              conv => whnf
              repeat ((first | refine ⟨zH_of _, ?_⟩ | refine ⟨trivial, ?_⟩ | refine ⟨rfl, ?_⟩ | refine ⟨fun hc => absurd hc (by decide), fun _ => ?_⟩ | refine ⟨fun _ => ?_, fun hc => absurd (by decide) hc⟩ | refine ⟨fun _ => ?_, fun hc => absurd hc (by decide)⟩ | refine ⟨fun hc => absurd (by decide) hc, fun _ => ?_⟩); conv => whnf)
              try dsimp only
              refine ⟨vp_in_nI (show 27 * T x + 9 * v' + k < 1080 by omega) (by decide), ?_⟩
              rw [nI_clamp (n := 27 * T x + 9 * v' + k) (by omega), pk_mul, nI_add, z_remN (by omega) (by omega) (by omega), ← ev]
              conv => whnf
              repeat ((first | refine ⟨zH_of _, ?_⟩ | refine ⟨trivial, ?_⟩ | refine ⟨rfl, ?_⟩ | refine ⟨fun hc => absurd hc (by decide), fun _ => ?_⟩ | refine ⟨fun _ => ?_, fun hc => absurd (by decide) hc⟩ | refine ⟨fun _ => ?_, fun hc => absurd hc (by decide)⟩ | refine ⟨fun hc => absurd (by decide) hc, fun _ => ?_⟩); conv => whnf)
              try dsimp only
              rw [nI_add]
              exact ihk _ (fun y hy => by rw [z_up_ne hy, hF3 y hy]) S5)
          conv => whnf
          repeat ((first | refine ⟨zH_of _, ?_⟩ | refine ⟨trivial, ?_⟩ | refine ⟨rfl, ?_⟩ | refine ⟨fun hc => absurd hc (by decide), fun _ => ?_⟩ | refine ⟨fun _ => ?_, fun hc => absurd (by decide) hc⟩ | refine ⟨fun _ => ?_, fun hc => absurd hc (by decide)⟩ | refine ⟨fun hc => absurd (by decide) hc, fun _ => ?_⟩); conv => whnf)
          try dsimp only
          rw [nI_add]
          refine ⟨vp_in_nI (show 18 * n + 9 + x < 180 by omega) (by decide), ?_⟩
          rw [nI_clamp (n := 18 * n + 9 + x) (by omega), hF2 54 (by decide), hs54 x hc]
          conv => whnf
          repeat ((first | refine ⟨zH_of _, ?_⟩ | refine ⟨trivial, ?_⟩ | refine ⟨rfl, ?_⟩ | refine ⟨fun hc => absurd hc (by decide), fun _ => ?_⟩ | refine ⟨fun _ => ?_, fun hc => absurd (by decide) hc⟩ | refine ⟨fun _ => ?_, fun hc => absurd hc (by decide)⟩ | refine ⟨fun hc => absurd (by decide) hc, fun _ => ?_⟩); conv => whnf)
          try dsimp only
          refine ⟨q, ms_q S3, q23, ?_⟩
          rw [neg_mod q23 Qx]
          conv => whnf
          repeat ((first | refine ⟨zH_of _, ?_⟩ | refine ⟨trivial, ?_⟩ | refine ⟨rfl, ?_⟩ | refine ⟨fun hc => absurd hc (by decide), fun _ => ?_⟩ | refine ⟨fun _ => ?_, fun hc => absurd (by decide) hc⟩ | refine ⟨fun _ => ?_, fun hc => absurd hc (by decide)⟩ | refine ⟨fun hc => absurd (by decide) hc, fun _ => ?_⟩); conv => whnf)
          try dsimp only
          refine inner 0 (Nat.zero_le _) wi2 hF2 ?_
          rw [mix_0, upA_self]
          exact S3)
      exact outer 0 (Nat.zero_le _) wi' (fun _ _ => rfl) (by rw [sx0]; exact S2)
    have loop := up_ind (P := fun i => ∀ wi' : Nat → Nat → Int32, FQ wi wi' → BT wi' q (L i).1 → (∀ k, k < (L i).1.1 → wi' 55 k = nI ((L i).2 k)) → Jm 18 [some (.ref 45), some (.int (nI j')), some (.int (nI w')), some (.int (nI u')), some (.int (nI v')), some (.int (nI i)), none, none, none] [] (GC ++ (GM ++ r), wi', wl) 0 0) j' (fun i hi ih => by
      intro wi' hF hB hT
      have S2 := FQ_ms hF hS
      have bv := bvj i (by omega)
      have bl := BV_le bv
      refine hs 400 18 _ _ _ _ _ ?_
      conv => whnf
      repeat ((first | refine ⟨zH_of _, ?_⟩ | refine ⟨trivial, ?_⟩ | refine ⟨rfl, ?_⟩ | refine ⟨fun hc => absurd hc (by decide), fun _ => ?_⟩ | refine ⟨fun _ => ?_, fun hc => absurd (by decide) hc⟩ | refine ⟨fun _ => ?_, fun hc => absurd hc (by decide)⟩ | refine ⟨fun hc => absurd (by decide) hc, fun _ => ?_⟩); conv => whnf)
      try dsimp only
      rw [ltN (by omega) (by omega)]
      refine ⟨fun hc => ?_, fun hc => ?_⟩
      · obtain hij : i = j' := by omega
        rw [hij] at hB hT bv
        have q1 : 1 < q := by omega
        conv => whnf
        repeat ((first | refine ⟨zH_of _, ?_⟩ | refine ⟨trivial, ?_⟩ | refine ⟨rfl, ?_⟩ | refine ⟨fun hc => absurd hc (by decide), fun _ => ?_⟩ | refine ⟨fun _ => ?_, fun hc => absurd (by decide) hc⟩ | refine ⟨fun _ => ?_, fun hc => absurd hc (by decide)⟩ | refine ⟨fun hc => absurd (by decide) hc, fun _ => ?_⟩); conv => whnf)
        try dsimp only
        refine ⟨d, q, c, A, j', u', 1, (L j').1.1, S2, rfl, hj, rfl, hu, rfl, q1, hB.1, hB.2.1, fun wi2 hF2 hK2 hX2 => ?_⟩
        have B2 : BT wi2 q (L j').1 := bt_stay hB (by rw [hF2 45 (by decide)]) hK2
        have X2 : R18 wi2 (18 * (L j').1.1) (w18 (A (3 * j' + u')) (fun _ => 0)) := r18_congr hX2 (fun p hp => by
          unfold w18
          split
          · unfold fMul
            rw [Nat.one_mul, Nat.mod_eq_of_lt (aj p (by assumption))]
          · rfl)
        have F2 := FQ_trans hF (FQ_54 hF2)
        conv => whnf
        repeat ((first | refine ⟨zH_of _, ?_⟩ | refine ⟨trivial, ?_⟩ | refine ⟨rfl, ?_⟩ | refine ⟨fun hc => absurd hc (by decide), fun _ => ?_⟩ | refine ⟨fun _ => ?_, fun hc => absurd (by decide) hc⟩ | refine ⟨fun _ => ?_, fun hc => absurd hc (by decide)⟩ | refine ⟨fun hc => absurd (by decide) hc, fun _ => ?_⟩); conv => whnf)
        try dsimp only
        refine ⟨q, (L j').1, A (3 * j' + u'), fun _ => 0, ms_q (FQ_ms F2 hS), q23, B2, X2, aj, fun p _ => by show 0 < q; omega, fun wi3 hF3 B3 X3 => ?_⟩
        have F3 := FQ_trans F2 (FQ_54 hF3)
        conv => whnf
        repeat ((first | refine ⟨zH_of _, ?_⟩ | refine ⟨trivial, ?_⟩ | refine ⟨rfl, ?_⟩ | refine ⟨fun hc => absurd hc (by decide), fun _ => ?_⟩ | refine ⟨fun _ => ?_, fun hc => absurd (by decide) hc⟩ | refine ⟨fun _ => ?_, fun hc => absurd hc (by decide)⟩ | refine ⟨fun hc => absurd (by decide) hc, fun _ => ?_⟩); conv => whnf)
        try dsimp only
        rw [bI_0, Classical.not_not]
        refine ⟨fun hz => ?_, fun hz => ?_⟩
        · have l := last wi3 F3 B3 (fun k hk => by rw [hF3 55 (by decide), hF2 55 (by decide)]; exact hT k hk) hz X3
          conv => whnf
          repeat ((first | refine ⟨zH_of _, ?_⟩ | refine ⟨trivial, ?_⟩ | refine ⟨rfl, ?_⟩ | refine ⟨fun hc => absurd hc (by decide), fun _ => ?_⟩ | refine ⟨fun _ => ?_, fun hc => absurd (by decide) hc⟩ | refine ⟨fun _ => ?_, fun hc => absurd hc (by decide)⟩ | refine ⟨fun hc => absurd (by decide) hc, fun _ => ?_⟩); conv => whnf)
          try dsimp only
          rw [B3.1, pk_mul, nI_add]
          exact l
        · exact ⟨Or.inl rfl, h0 hz wi3 F3⟩
      · have ih := ih hc
        have t106 : ∀ wi2 : Nat → Nat → Int32, FQ wi wi2 → BT wi2 q (L (i + 1)).1 → (∀ k, k < (L (i + 1)).1.1 → wi2 55 k = nI ((L (i + 1)).2 k)) → Jm 106 [some (.ref 45), some (.int (nI j')), some (.int (nI w')), some (.int (nI u')), some (.int (nI v')), some (.int (nI i)), none, none, none] [] (GC ++ (GM ++ r), wi2, wl) 0 0 := fun wi2 k1 k2 k3 => by
          refine hs 400 106 _ _ _ _ _ ?_
          conv => whnf
          repeat ((first | refine ⟨zH_of _, ?_⟩ | refine ⟨trivial, ?_⟩ | refine ⟨rfl, ?_⟩ | refine ⟨fun hc => absurd hc (by decide), fun _ => ?_⟩ | refine ⟨fun _ => ?_, fun hc => absurd (by decide) hc⟩ | refine ⟨fun _ => ?_, fun hc => absurd hc (by decide)⟩ | refine ⟨fun hc => absurd (by decide) hc, fun _ => ?_⟩); conv => whnf)
          try dsimp only
          rw [nI_add]
          exact ih wi2 k1 k2 k3
        have skip : ¬ (scB q A w' j' i = true ∧ bkB q (L i).1 (scF q A w' u' j' i) = true) → ∀ wi2 : Nat → Nat → Int32, FQ wi wi2 → BT wi2 q (L i).1 → (∀ k, k < (L i).1.1 → wi2 55 k = nI ((L i).2 k)) → Jm 106 [some (.ref 45), some (.int (nI j')), some (.int (nI w')), some (.int (nI u')), some (.int (nI v')), some (.int (nI i)), none, none, none] [] (GC ++ (GM ++ r), wi2, wl) 0 0 := fun hn wi2 k1 k2 k3 => t106 wi2 k1 (by rw [es, if_neg hn]; exact k2) (by rw [es, if_neg hn]; exact k3)
        have e1 := es i
        have ha : ∀ p, p < 9 → scF q A w' u' j' i p < q := fun p _ => fMul_lt q23 _ _ p
        have hz0 : ∀ p, pl d u' ≤ p → p < 9 → scF q A w' u' j' i p = 0 := zb_mul (zs_at hZ (show i < c by omega) hu)
        have bkn := bk_not q23 p9.2 bv ha hz0
        have full := BV_full q23 p9.2 bv
        have l3 := likeN_lt_q q23 (A (3 * j' + w')) (A (3 * i + w'))
        have scF_e : scF q A w' u' j' i = fMul q (likeN q (A (3 * j' + w')) (A (3 * i + w'))) (A (3 * i + u')) := rfl
        generalize scF q A w' u' j' i = F at *
        conv => whnf
        repeat ((first | refine ⟨zH_of _, ?_⟩ | refine ⟨trivial, ?_⟩ | refine ⟨rfl, ?_⟩ | refine ⟨fun hc => absurd hc (by decide), fun _ => ?_⟩ | refine ⟨fun _ => ?_, fun hc => absurd (by decide) hc⟩ | refine ⟨fun _ => ?_, fun hc => absurd hc (by decide)⟩ | refine ⟨fun hc => absurd (by decide) hc, fun _ => ?_⟩); conv => whnf)
        try dsimp only
        refine ⟨d, q, c, A, j', i, w', S2, rfl, hj, rfl, by omega, rfl, hw, ?_⟩
        conv => whnf
        repeat ((first | refine ⟨zH_of _, ?_⟩ | refine ⟨trivial, ?_⟩ | refine ⟨rfl, ?_⟩ | refine ⟨fun hc => absurd hc (by decide), fun _ => ?_⟩ | refine ⟨fun _ => ?_, fun hc => absurd (by decide) hc⟩ | refine ⟨fun _ => ?_, fun hc => absurd hc (by decide)⟩ | refine ⟨fun hc => absurd (by decide) hc, fun _ => ?_⟩); conv => whnf)
        try dsimp only
        rw [eq0N (by omega)]
        refine ⟨fun hz => ?_, fun hz => ?_⟩
        · conv => whnf
          repeat ((first | refine ⟨zH_of _, ?_⟩ | refine ⟨trivial, ?_⟩ | refine ⟨rfl, ?_⟩ | refine ⟨fun hc => absurd hc (by decide), fun _ => ?_⟩ | refine ⟨fun _ => ?_, fun hc => absurd (by decide) hc⟩ | refine ⟨fun _ => ?_, fun hc => absurd hc (by decide)⟩ | refine ⟨fun hc => absurd (by decide) hc, fun _ => ?_⟩); conv => whnf)
          try dsimp only
          exact skip (fun z => by
            have z1 := z.1
            unfold scB lkB at z1
            rw [hz] at z1
            simp at z1) wi' hF hB hT
        · conv => whnf
          repeat ((first | refine ⟨zH_of _, ?_⟩ | refine ⟨trivial, ?_⟩ | refine ⟨rfl, ?_⟩ | refine ⟨fun hc => absurd hc (by decide), fun _ => ?_⟩ | refine ⟨fun _ => ?_, fun hc => absurd (by decide) hc⟩ | refine ⟨fun _ => ?_, fun hc => absurd hc (by decide)⟩ | refine ⟨fun hc => absurd (by decide) hc, fun _ => ?_⟩); conv => whnf)
          try dsimp only
          refine ⟨d, q, c, A, i, S2, rfl, by omega, ?_⟩
          conv => whnf
          repeat ((first | refine ⟨zH_of _, ?_⟩ | refine ⟨trivial, ?_⟩ | refine ⟨rfl, ?_⟩ | refine ⟨fun hc => absurd hc (by decide), fun _ => ?_⟩ | refine ⟨fun _ => ?_, fun hc => absurd (by decide) hc⟩ | refine ⟨fun _ => ?_, fun hc => absurd hc (by decide)⟩ | refine ⟨fun hc => absurd (by decide) hc, fun _ => ?_⟩); conv => whnf)
          try dsimp only
          rw [bI_0, Classical.not_not]
          refine ⟨fun hh => ?_, fun hh => ?_⟩
          · conv => whnf
            repeat ((first | refine ⟨zH_of _, ?_⟩ | refine ⟨trivial, ?_⟩ | refine ⟨rfl, ?_⟩ | refine ⟨fun hc => absurd hc (by decide), fun _ => ?_⟩ | refine ⟨fun _ => ?_, fun hc => absurd (by decide) hc⟩ | refine ⟨fun _ => ?_, fun hc => absurd hc (by decide)⟩ | refine ⟨fun hc => absurd (by decide) hc, fun _ => ?_⟩); conv => whnf)
            try dsimp only
            exact skip (fun z => by
              have z1 := z.1
              unfold scB at z1
              rw [hh] at z1
              simp at z1) wi' hF hB hT
          · have sc : scB q A w' j' i = true := by
              unfold scB lkB
              rw [show hzB A i = false by simpa using hh]
              simpa using hz
            conv => whnf
            repeat ((first | refine ⟨zH_of _, ?_⟩ | refine ⟨trivial, ?_⟩ | refine ⟨rfl, ?_⟩ | refine ⟨fun hc => absurd hc (by decide), fun _ => ?_⟩ | refine ⟨fun _ => ?_, fun hc => absurd (by decide) hc⟩ | refine ⟨fun _ => ?_, fun hc => absurd hc (by decide)⟩ | refine ⟨fun hc => absurd (by decide) hc, fun _ => ?_⟩); conv => whnf)
            try dsimp only
            refine ⟨u', rfl, hu, ?_⟩
            rw [mpl S2 hu]
            conv => whnf
            repeat ((first | refine ⟨zH_of _, ?_⟩ | refine ⟨trivial, ?_⟩ | refine ⟨rfl, ?_⟩ | refine ⟨fun hc => absurd hc (by decide), fun _ => ?_⟩ | refine ⟨fun _ => ?_, fun hc => absurd (by decide) hc⟩ | refine ⟨fun _ => ?_, fun hc => absurd hc (by decide)⟩ | refine ⟨fun hc => absurd (by decide) hc, fun _ => ?_⟩); conv => whnf)
            try dsimp only
            rw [hB.1, nI_eq (by omega) (by omega)]
            refine ⟨fun hf => ?_, fun hf => ?_⟩
            · have hn9 : (L i).1.1 < 9 := by omega
              conv => whnf
              repeat ((first | refine ⟨zH_of _, ?_⟩ | refine ⟨trivial, ?_⟩ | refine ⟨rfl, ?_⟩ | refine ⟨fun hc => absurd hc (by decide), fun _ => ?_⟩ | refine ⟨fun _ => ?_, fun hc => absurd (by decide) hc⟩ | refine ⟨fun _ => ?_, fun hc => absurd hc (by decide)⟩ | refine ⟨fun hc => absurd (by decide) hc, fun _ => ?_⟩); conv => whnf)
              try dsimp only
              refine ⟨d, q, c, A, i, u', likeN q (A (3 * j' + w')) (A (3 * i + w')), (L i).1.1, S2, rfl, by omega, rfl, hu, rfl, l3, hB.1, hB.2.1, fun wi2 hF2 hK2 hX2 => ?_⟩
              rw [← scF_e] at hX2
              have B2 : BT wi2 q (L i).1 := bt_stay hB (by rw [hF2 45 (by decide)]) hK2
              have F2 := FQ_trans hF (FQ_54 hF2)
              conv => whnf
              repeat ((first | refine ⟨zH_of _, ?_⟩ | refine ⟨trivial, ?_⟩ | refine ⟨rfl, ?_⟩ | refine ⟨fun hc => absurd hc (by decide), fun _ => ?_⟩ | refine ⟨fun _ => ?_, fun hc => absurd (by decide) hc⟩ | refine ⟨fun _ => ?_, fun hc => absurd hc (by decide)⟩ | refine ⟨fun hc => absurd (by decide) hc, fun _ => ?_⟩); conv => whnf)
              try dsimp only
              rw [B2.1, pk_mul, nI_add, nI_add]
              refine ⟨vp_in_nI (show 18 * (L i).1.1 + 9 + (L i).1.1 < 180 by omega) (by decide), ?_⟩
              rw [nI_clamp (n := 18 * (L i).1.1 + 9 + (L i).1.1) (by omega), show 18 * (L i).1.1 + 9 + (L i).1.1 = 18 * (L i).1.1 + (9 + (L i).1.1) by omega]
              have X3 : R18 (z_up wi2 54 (18 * (L i).1.1 + (9 + (L i).1.1)) (nI 1)) (18 * (L i).1.1) (w18 F (un (L i).1.1)) := r18_congr (r18_put hX2) (w18_un hn9)
              have hF3 : ∀ y, y ≠ 54 → z_up wi2 54 (18 * (L i).1.1 + (9 + (L i).1.1)) (nI 1) y = wi2 y := fun y hy => z_up_ne hy
              have B3 : BT (z_up wi2 54 (18 * (L i).1.1 + (9 + (L i).1.1)) (nI 1)) q (L i).1 := bt_stay B2 (by rw [z_up_ne (by decide)]) (fun j hj => z_up_nei (by omega))
              conv => whnf
              repeat ((first | refine ⟨zH_of _, ?_⟩ | refine ⟨trivial, ?_⟩ | refine ⟨rfl, ?_⟩ | refine ⟨fun hc => absurd hc (by decide), fun _ => ?_⟩ | refine ⟨fun _ => ?_, fun hc => absurd (by decide) hc⟩ | refine ⟨fun _ => ?_, fun hc => absurd hc (by decide)⟩ | refine ⟨fun hc => absurd (by decide) hc, fun _ => ?_⟩); conv => whnf)
              try dsimp only
              generalize z_up wi2 54 (18 * (L i).1.1 + (9 + (L i).1.1)) (nI 1) = wi3 at *
              have F3 := FQ_trans F2 (FQ_54 hF3)
              have uq : ∀ p, p < 9 → un (L i).1.1 p < q := fun p _ => un_lt q23 _ p
              refine ⟨q, (L i).1, F, un (L i).1.1, ms_q (FQ_ms F3 hS), q23, B3, X3, ha, uq, fun wi4 hF4 B4 X4 => ?_⟩
              have F4 := FQ_trans F3 (FQ_54 hF4)
              have T4 : ∀ k, k < (L i).1.1 → wi4 55 k = nI ((L i).2 k) := fun k hk => by rw [hF4 55 (by decide), hF3 55 (by decide), hF2 55 (by decide)]; exact hT k hk
              conv => whnf
              repeat ((first | refine ⟨zH_of _, ?_⟩ | refine ⟨trivial, ?_⟩ | refine ⟨rfl, ?_⟩ | refine ⟨fun hc => absurd hc (by decide), fun _ => ?_⟩ | refine ⟨fun _ => ?_, fun hc => absurd (by decide) hc⟩ | refine ⟨fun _ => ?_, fun hc => absurd hc (by decide)⟩ | refine ⟨fun hc => absurd (by decide) hc, fun _ => ?_⟩); conv => whnf)
              try dsimp only
              rw [bI_0, Classical.not_not]
              refine ⟨fun hs2 => ?_, fun hs2 => ?_⟩
              · conv => whnf
                repeat ((first | refine ⟨zH_of _, ?_⟩ | refine ⟨trivial, ?_⟩ | refine ⟨rfl, ?_⟩ | refine ⟨fun hc => absurd hc (by decide), fun _ => ?_⟩ | refine ⟨fun _ => ?_, fun hc => absurd (by decide) hc⟩ | refine ⟨fun _ => ?_, fun hc => absurd hc (by decide)⟩ | refine ⟨fun hc => absurd (by decide) hc, fun _ => ?_⟩); conv => whnf)
                try dsimp only
                exact skip (fun z => bkn.mp z.2 hs2) wi4 F4 B4 T4
              · rw [if_pos ⟨sc, bkn.mpr hs2⟩] at e1
                have lx := (rdB_lt q23 (L i).1 ha (L i).1.1).1
                have ls := sd_lt q23 (L i).1 (a := F) uq (L i).1.1
                have pt := sd_pt q23 (L i).1 ha uq (L i).1.1
                have ln := ld_n hs2
                conv => whnf
                repeat ((first | refine ⟨zH_of _, ?_⟩ | refine ⟨trivial, ?_⟩ | refine ⟨rfl, ?_⟩ | refine ⟨fun hc => absurd hc (by decide), fun _ => ?_⟩ | refine ⟨fun _ => ?_, fun hc => absurd (by decide) hc⟩ | refine ⟨fun _ => ?_, fun hc => absurd hc (by decide)⟩ | refine ⟨fun hc => absurd (by decide) hc, fun _ => ?_⟩); conv => whnf)
                try dsimp only
                refine ⟨q, (L i).1, rest q (L i).1 F, sdB q (L i).1 F (un (L i).1.1) (L i).1.1, i, ms_q (FQ_ms F4 hS), q23, B4, hn9, X4, lx, ls, hs2, rfl, fun wi5 hF5 hI5 hT5 B5 => ?_⟩
                have B6 := bt_bk B5 pt q23
                have e2 : bkS q (L i).1 F = ((L i).1.1 + 1, upA (L i).1.2.1 (L i).1.1 (fMul q (rest q (L i).1 F (ldN (rest q (L i).1 F))) (rest q (L i).1 F)), upA (L i).1.2.2.1 (L i).1.1 (fMul q (rest q (L i).1 F (ldN (rest q (L i).1 F))) (fSub q (un (L i).1.1) (rdB q (L i).1 F (L i).1.1).2)), setp (L i).1.2.2.2 (L i).1.1 (ldN (rest q (L i).1 F))) := by
                  unfold bkS
                  rw [ln.1]
                  rfl
                rw [← e2] at B6
                conv => whnf
                repeat ((first | refine ⟨zH_of _, ?_⟩ | refine ⟨trivial, ?_⟩ | refine ⟨rfl, ?_⟩ | refine ⟨fun hc => absurd hc (by decide), fun _ => ?_⟩ | refine ⟨fun _ => ?_, fun hc => absurd (by decide) hc⟩ | refine ⟨fun _ => ?_, fun hc => absurd hc (by decide)⟩ | refine ⟨fun hc => absurd (by decide) hc, fun _ => ?_⟩); conv => whnf)
                try dsimp only
                refine t106 wi5 (FQ_trans F4 ⟨hF5, hI5⟩) (by rw [e1]; exact B6) (fun k hk => ?_)
                rw [e1] at hk ⊢
                have hk : k < (L i).1.1 + 1 := hk
                rw [hT5]
                dsimp only
                by_cases g : k = (L i).1.1
                · rw [if_pos g, g, setp_at]
                · rw [if_neg g, setp_ne g]
                  exact T4 k (by omega)
            · conv => whnf
              repeat ((first | refine ⟨zH_of _, ?_⟩ | refine ⟨trivial, ?_⟩ | refine ⟨rfl, ?_⟩ | refine ⟨fun hc => absurd hc (by decide), fun _ => ?_⟩ | refine ⟨fun _ => ?_, fun hc => absurd (by decide) hc⟩ | refine ⟨fun _ => ?_, fun hc => absurd hc (by decide)⟩ | refine ⟨fun hc => absurd (by decide) hc, fun _ => ?_⟩); conv => whnf)
              try dsimp only
              exact skip (fun z => bkn.mp z.2 (full hf ha hz0)) wi' hF hB hT)
    refine hs 400 0 _ _ _ _ _ ?_
    conv => whnf
    repeat ((first | refine ⟨zH_of _, ?_⟩ | refine ⟨trivial, ?_⟩ | refine ⟨rfl, ?_⟩ | refine ⟨fun hc => absurd hc (by decide), fun _ => ?_⟩ | refine ⟨fun _ => ?_, fun hc => absurd (by decide) hc⟩ | refine ⟨fun _ => ?_, fun hc => absurd hc (by decide)⟩ | refine ⟨fun hc => absurd (by decide) hc, fun _ => ?_⟩); conv => whnf)
    try dsimp only
    refine ⟨d, q, c, A, j', hS, rfl, hj, ?_⟩
    rw [bI_f hzj]
    conv => whnf
    repeat ((first | refine ⟨zH_of _, ?_⟩ | refine ⟨trivial, ?_⟩ | refine ⟨rfl, ?_⟩ | refine ⟨fun hc => absurd hc (by decide), fun _ => ?_⟩ | refine ⟨fun _ => ?_, fun hc => absurd (by decide) hc⟩ | refine ⟨fun _ => ?_, fun hc => absurd hc (by decide)⟩ | refine ⟨fun hc => absurd (by decide) hc, fun _ => ?_⟩); conv => whnf)
    try dsimp only
    refine loop 0 (Nat.zero_le _) _ ⟨fun y g1 _ _ => z_up_ne g1, fun i g => z_up_nei g⟩ ?_ ?_
    · rw [s0]
      exact ⟨z_up_eq, Nat.zero_le _, fun k hk => absurd hk (Nat.not_lt_zero k)⟩
    · rw [s0]
      exact fun k hk => absurd hk (Nat.not_lt_zero k)

