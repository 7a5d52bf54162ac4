/-! the law: the call that may throw, the loop's head, the start -/
def lawT : List Nat := [208, 269, 294, 319, 332, 345, 370, 407, 456, 469, 518, 531, 544, 593, 606, 655, 668, 681, 718, 767, 816, 853, 878, 915, 928, 941, 1002, 1051, 1088, 1101, 1114, 1139, 1164, 1177, 1190, 1203, 1216, 1229, 1254, 1309]
theorem z_sw_all {pc : Nat} {a : Int32} {st : List Value} {J : Nat → Prop} : ∀ (ts : List Nat) (lo : Int), (∀ t ∈ ts, J t) → z_sw pc a st J lo ts
  | [], _, _ => trivial
  | t :: ts, lo, h => ⟨fun _ => h t List.mem_cons_self, z_sw_all ts (lo + 1) (fun u hu => h u (List.mem_cons_of_mem _ hu))⟩
theorem nI_sub5 {L n : Nat} (hL : L ≤ 2560) (hn : n ≤ 2565) : nI L - nI 5 < nI n ↔ L < n + 5 := by
  by_cases h5 : 5 ≤ L
  · rw [show nI L - nI 5 = nI (L - 5) from by
      have e : nI L = nI (L - 5) + nI 5 := by rw [nI_add]; congr 1; omega
      rw [e, Int32.add_sub_cancel], ltN (by omega) (by omega)]
    omega
  · refine ⟨fun _ => by omega, fun _ => ?_⟩
    have h0 : nI L - nI 5 < nI 0 := by
      have : L = 0 ∨ L = 1 ∨ L = 2 ∨ L = 3 ∨ L = 4 := by omega
      rcases this with rfl | rfl | rfl | rfl | rfl <;> decide
    rw [Int32.lt_iff_toInt_lt, nI_toInt (by decide)] at h0
    rw [Int32.lt_iff_toInt_lt, nI_toInt (by omega)]
    omega
section
variable {L : Nat} {xs : Nat → Int32} {Jm : zJ} {k c1 c2 : Nat} {wi : Nat → Nat → Int32} {wl : Nat → Nat → Int64} {T : zT}
set_option maxRecDepth 100000 in
theorem law_23 (hs : ∀ (n pc : Nat) (al : zAL) (st : List Value) (w : zW) (c1 c2 : Nat), z_wp (M_L_law L xs) lawK Jm n (z_from (M_L_law L xs).1 pc) al st w c1 c2 → Jm pc al st w c1 c2) (hL : L ≤ 2560) (hk : 5 * k ≤ 2565) (hd : 5 * k + 5 ≤ L → ∀ t ∈ lawT, Jm t (alk k) [] (GL, wi, wl) c1 c2) : Jm 23 (alk k) [] (GL, wi, wl) c1 c2 := by
  refine hs 400 23 _ _ _ _ _ ?_
  conv => whnf
  repeat ((first | refine ⟨zH_of _, ?_⟩ | refine ⟨trivial, ?_⟩ | refine ⟨rfl, ?_⟩ | refine ⟨fun hc => absurd hc (by decide), fun _ => ?_⟩ | refine ⟨fun _ => ?_, fun hc => absurd (by decide) hc⟩ | refine ⟨fun _ => ?_, fun hc => absurd hc (by decide)⟩ | refine ⟨fun hc => absurd (by decide) hc, fun _ => ?_⟩); conv => whnf)
  try dsimp only
  refine ⟨fun _ => ?_, fun hc => ?_⟩
  · conv => whnf
    repeat ((first | refine ⟨zH_of _, ?_⟩ | refine ⟨trivial, ?_⟩ | refine ⟨rfl, ?_⟩ | refine ⟨fun hc => absurd hc (by decide), fun _ => ?_⟩ | refine ⟨fun _ => ?_, fun hc => absurd (by decide) hc⟩ | refine ⟨fun _ => ?_, fun hc => absurd hc (by decide)⟩ | refine ⟨fun hc => absurd (by decide) hc, fun _ => ?_⟩); conv => whnf)
    try dsimp only
    exact ⟨Or.inr rfl, rfl⟩
  · have hc : ¬ nI L - nI 5 < nI (5 * k) := hc
    rw [nI_sub5 hL hk] at hc
    have hd := hd (by omega)
    conv => whnf
    repeat ((first | refine ⟨zH_of _, ?_⟩ | refine ⟨trivial, ?_⟩ | refine ⟨rfl, ?_⟩ | refine ⟨fun hc => absurd hc (by decide), fun _ => ?_⟩ | refine ⟨fun _ => ?_, fun hc => absurd (by decide) hc⟩ | refine ⟨fun _ => ?_, fun hc => absurd hc (by decide)⟩ | refine ⟨fun hc => absurd (by decide) hc, fun _ => ?_⟩); conv => whnf)
    try dsimp only
    refine ⟨vp_in_nI (show 5 * k < L by omega) (show L < 2 ^ 31 by omega), ?_⟩
    conv => whnf
    repeat ((first | refine ⟨zH_of _, ?_⟩ | refine ⟨trivial, ?_⟩ | refine ⟨rfl, ?_⟩ | refine ⟨fun hc => absurd hc (by decide), fun _ => ?_⟩ | refine ⟨fun _ => ?_, fun hc => absurd (by decide) hc⟩ | refine ⟨fun _ => ?_, fun hc => absurd hc (by decide)⟩ | refine ⟨fun hc => absurd (by decide) hc, fun _ => ?_⟩); conv => whnf)
    try dsimp only
    refine ⟨z_sw_all _ _ (fun t ht => ?_), fun _ => ?_⟩
    · simp only [List.mem_cons, List.not_mem_nil, or_false] at ht
      rcases ht with rfl | rfl | rfl | rfl | rfl | rfl | rfl | rfl | rfl | rfl | rfl | rfl | rfl | rfl | rfl | rfl | rfl | rfl | rfl | rfl | rfl | rfl | rfl | rfl | rfl | rfl | rfl | rfl | rfl | rfl | rfl | rfl | rfl | rfl | rfl | rfl | rfl | rfl | rfl
      all_goals
        conv => whnf
        exact hd _ (by decide)
    · conv => whnf
      exact hd _ (by decide)
set_option maxRecDepth 100000 in
theorem law_1254 (hs : ∀ (n pc : Nat) (al : zAL) (st : List Value) (w : zW) (c1 c2 : Nat), z_wp (M_L_law L xs) lawK Jm n (z_from (M_L_law L xs).1 pc) al st w c1 c2 → Jm pc al st w c1 c2) (hv : ∀ j, j < 5 → vp_in (nI (5 * k) + nI j) L) (hC : CT wi wl T) (hM : MT wi wl T) (hc1 : c1 + 1 ≤ 1088) (hc2 : c2 + 6 ≤ 36001)
    (hrow : ∀ (a : Int32) (w : zW) (c1 c2 : Nat) (K : Option Value → zW → Prop), sp_L_row a 62 w K → c1 + 1 ≤ 1088 → c2 + 6 ≤ 36001 → (∀ r w', K r w' → ∃ v, r = some v ∧ Jm 1265 (alk k) [v] w' (c1 + 1) (c2 + 6)) → Jm 1262 (alk k) [.ref 62, .int a, .ref 0] w c1 c2)
    (hN : ∀ (wi2 : Nat → Nat → Int32) (wl2 : Nat → Nat → Int64) (T2 : zT), CT wi2 wl2 T2 → MT wi2 wl2 T2 → Jm 23 (alk (k + 1)) [] (GL, wi2, wl2) (c1 + 1) (c2 + 6)) : Jm 1254 (alk k) [] (GL, wi, wl) c1 c2 := by
  refine hs 400 1254 _ _ _ _ _ ?_
  conv => whnf
  repeat ((first | refine ⟨zH_of _, ?_⟩ | refine ⟨trivial, ?_⟩ | refine ⟨rfl, ?_⟩ | refine ⟨fun hc => absurd hc (by decide), fun _ => ?_⟩ | refine ⟨fun _ => ?_, fun hc => absurd (by decide) hc⟩ | refine ⟨fun _ => ?_, fun hc => absurd hc (by decide)⟩ | refine ⟨fun hc => absurd (by decide) hc, fun _ => ?_⟩); conv => whnf)
  try dsimp only
  refine ⟨hv 1 (by decide), ?_⟩
  conv => whnf
  repeat ((first | refine ⟨zH_of _, ?_⟩ | refine ⟨trivial, ?_⟩ | refine ⟨rfl, ?_⟩ | refine ⟨fun hc => absurd hc (by decide), fun _ => ?_⟩ | refine ⟨fun _ => ?_, fun hc => absurd (by decide) hc⟩ | refine ⟨fun _ => ?_, fun hc => absurd hc (by decide)⟩ | refine ⟨fun hc => absurd (by decide) hc, fun _ => ?_⟩); conv => whnf)
  try dsimp only
  show Jm 1262 (alk k) [.ref 62, .int (xs (nI (5 * k) + nI 1).toNatClampNeg), .ref 0] (GL, wi, wl) c1 c2
  generalize ea : xs (nI (5 * k) + nI 1).toNatClampNeg = a
  refine hrow a _ _ _ (fun r w' => (idx T.2.2.2.2.2.2.1 a ∧ r = some (.int (nI 0)) ∧ w' = (GL, wi, z_up wl 62 0 (T.2.2.2.2.2.2.2 a.toNatClampNeg))) ∨ (¬ idx T.2.2.2.2.2.2.1 a ∧ r = some (.int (nI 1)) ∧ w' = (GL, wi, wl))) ⟨rfl, ⟨_, rfl⟩, T, hC, fun hi => ⟨_, rfl, rfl, Or.inl ⟨hi, rfl, rfl⟩⟩, fun hi => Or.inr ⟨hi, rfl, rfl⟩⟩ hc1 hc2 (fun r w' hr => ?_)
  rcases hr with ⟨hi, rfl, rfl⟩ | ⟨hi, rfl, rfl⟩
  · refine ⟨_, rfl, ?_⟩
    have hM1 : MT wi (z_up wl 62 0 (T.2.2.2.2.2.2.2 a.toNatClampNeg)) T := mt_same hM (fun _ _ => rfl) (fun _ _ => rfl) (z_up_ne (by decide))
    have hC1 : CT wi (z_up wl 62 0 (T.2.2.2.2.2.2.2 a.toNatClampNeg)) T := ct_same hC (fun _ _ => rfl) (z_up_ne (by decide))
    have hB : idB T.2.2.2.2.2.2.1 a = true := decide_eq_true hi
    refine hs 400 1265 _ _ _ _ _ ?_
    conv => whnf
    repeat ((first | refine ⟨zH_of _, ?_⟩ | refine ⟨trivial, ?_⟩ | refine ⟨rfl, ?_⟩ | refine ⟨fun hc => absurd hc (by decide), fun _ => ?_⟩ | refine ⟨fun _ => ?_, fun hc => absurd (by decide) hc⟩ | refine ⟨fun _ => ?_, fun hc => absurd hc (by decide)⟩ | refine ⟨fun hc => absurd (by decide) hc, fun _ => ?_⟩); conv => whnf)
    try dsimp only
    refine ⟨hv 1 (by decide), ?_⟩
    conv => whnf
    repeat ((first | refine ⟨zH_of _, ?_⟩ | refine ⟨trivial, ?_⟩ | refine ⟨rfl, ?_⟩ | refine ⟨fun hc => absurd hc (by decide), fun _ => ?_⟩ | refine ⟨fun _ => ?_, fun hc => absurd (by decide) hc⟩ | refine ⟨fun _ => ?_, fun hc => absurd hc (by decide)⟩ | refine ⟨fun hc => absurd (by decide) hc, fun _ => ?_⟩); conv => whnf)
    try dsimp only
    rw [show (M_L_law L xs).2.2.2.2.2.2.2.2.1.2.2 (nI (5 * k) + nI 1).toNatClampNeg = a from ea]
    refine ⟨T, hM1, fun wi2 hF2 hM2 => ⟨fun _ h11 => ?_, fun hb => absurd hB hb⟩⟩
    conv => whnf
    repeat ((first | refine ⟨zH_of _, ?_⟩ | refine ⟨trivial, ?_⟩ | refine ⟨rfl, ?_⟩ | refine ⟨fun hc => absurd hc (by decide), fun _ => ?_⟩ | refine ⟨fun _ => ?_, fun hc => absurd (by decide) hc⟩ | refine ⟨fun _ => ?_, fun hc => absurd hc (by decide)⟩ | refine ⟨fun hc => absurd (by decide) hc, fun _ => ?_⟩); conv => whnf)
    try dsimp only
    refine ⟨fun _ => ?_, fun hc => absurd h11 hc⟩
    conv => whnf
    repeat ((first | refine ⟨zH_of _, ?_⟩ | refine ⟨trivial, ?_⟩ | refine ⟨rfl, ?_⟩ | refine ⟨fun hc => absurd hc (by decide), fun _ => ?_⟩ | refine ⟨fun _ => ?_, fun hc => absurd (by decide) hc⟩ | refine ⟨fun _ => ?_, fun hc => absurd hc (by decide)⟩ | refine ⟨fun hc => absurd (by decide) hc, fun _ => ?_⟩); conv => whnf)
    try dsimp only
    refine ⟨vp_in_nI (show 0 < 1 by decide) (by decide), ?_⟩
    conv => whnf
    repeat ((first | refine ⟨zH_of _, ?_⟩ | refine ⟨trivial, ?_⟩ | refine ⟨rfl, ?_⟩ | refine ⟨fun hc => absurd hc (by decide), fun _ => ?_⟩ | refine ⟨fun _ => ?_, fun hc => absurd (by decide) hc⟩ | refine ⟨fun _ => ?_, fun hc => absurd hc (by decide)⟩ | refine ⟨fun hc => absurd (by decide) hc, fun _ => ?_⟩); conv => whnf)
    try dsimp only
    refine ⟨fun _ => ?_, fun hc => absurd ((lg_cmp_eq _ _).mpr z_up_eq) hc⟩
    conv => whnf
    repeat ((first | refine ⟨zH_of _, ?_⟩ | refine ⟨trivial, ?_⟩ | refine ⟨rfl, ?_⟩ | refine ⟨fun hc => absurd hc (by decide), fun _ => ?_⟩ | refine ⟨fun _ => ?_, fun hc => absurd (by decide) hc⟩ | refine ⟨fun _ => ?_, fun hc => absurd hc (by decide)⟩ | refine ⟨fun hc => absurd (by decide) hc, fun _ => ?_⟩); conv => whnf)
    try dsimp only
    exact law_n hs (hN wi2 _ _ (ct_frM hC1 hF2) hM2)
  · refine ⟨_, rfl, ?_⟩
    have hB : ¬ idB T.2.2.2.2.2.2.1 a = true := fun h => hi (of_decide_eq_true (p := ¬ a < nI 0 ∧ a < nI T.2.2.2.2.2.2.1) h)
    refine hs 400 1265 _ _ _ _ _ ?_
    conv => whnf
    repeat ((first | refine ⟨zH_of _, ?_⟩ | refine ⟨trivial, ?_⟩ | refine ⟨rfl, ?_⟩ | refine ⟨fun hc => absurd hc (by decide), fun _ => ?_⟩ | refine ⟨fun _ => ?_, fun hc => absurd (by decide) hc⟩ | refine ⟨fun _ => ?_, fun hc => absurd hc (by decide)⟩ | refine ⟨fun hc => absurd (by decide) hc, fun _ => ?_⟩); conv => whnf)
    try dsimp only
    refine ⟨hv 1 (by decide), ?_⟩
    conv => whnf
    repeat ((first | refine ⟨zH_of _, ?_⟩ | refine ⟨trivial, ?_⟩ | refine ⟨rfl, ?_⟩ | refine ⟨fun hc => absurd hc (by decide), fun _ => ?_⟩ | refine ⟨fun _ => ?_, fun hc => absurd (by decide) hc⟩ | refine ⟨fun _ => ?_, fun hc => absurd hc (by decide)⟩ | refine ⟨fun hc => absurd (by decide) hc, fun _ => ?_⟩); conv => whnf)
    try dsimp only
    rw [show (M_L_law L xs).2.2.2.2.2.2.2.2.1.2.2 (nI (5 * k) + nI 1).toNatClampNeg = a from ea]
    refine ⟨T, hM, fun wi2 hF2 hM2 => ⟨fun hb => absurd hb hB, fun _ h11 => ?_⟩⟩
    conv => whnf
    repeat ((first | refine ⟨zH_of _, ?_⟩ | refine ⟨trivial, ?_⟩ | refine ⟨rfl, ?_⟩ | refine ⟨fun hc => absurd hc (by decide), fun _ => ?_⟩ | refine ⟨fun _ => ?_, fun hc => absurd (by decide) hc⟩ | refine ⟨fun _ => ?_, fun hc => absurd hc (by decide)⟩ | refine ⟨fun hc => absurd (by decide) hc, fun _ => ?_⟩); conv => whnf)
    try dsimp only
    refine ⟨fun _ => ?_, fun hc => absurd h11 hc⟩
    conv => whnf
    repeat ((first | refine ⟨zH_of _, ?_⟩ | refine ⟨trivial, ?_⟩ | refine ⟨rfl, ?_⟩ | refine ⟨fun hc => absurd hc (by decide), fun _ => ?_⟩ | refine ⟨fun _ => ?_, fun hc => absurd (by decide) hc⟩ | refine ⟨fun _ => ?_, fun hc => absurd hc (by decide)⟩ | refine ⟨fun hc => absurd (by decide) hc, fun _ => ?_⟩); conv => whnf)
    try dsimp only
    exact law_n hs (hN wi2 _ _ (ct_frM hC hF2) hM2)
set_option maxRecDepth 100000 in
theorem law_0 {wi0 : Nat → Nat → Int32} {wl0 : Nat → Nat → Int64} (hs : ∀ (n pc : Nat) (al : zAL) (st : List Value) (w : zW) (c1 c2 : Nat), z_wp (M_L_law L xs) lawK Jm n (z_from (M_L_law L xs).1 pc) al st w c1 c2 → Jm pc al st w c1 c2) (h : ∀ (wi2 : Nat → Nat → Int32) (wl2 : Nat → Nat → Int64), CT wi2 wl2 T0 → MT wi2 wl2 T0 → Jm 23 (alk 0) [] (GL, wi2, wl2) 63 30111) : Jm 0 (z_arl [.float 0] 8) [] ([], wi0, wl0) 0 0 := by
  refine hs 400 0 _ _ _ _ _ ?_
  conv => whnf
  repeat ((first | refine ⟨⟨by decide, by decide⟩, ?_⟩ | refine ⟨⟨Nat.le_of_ble_eq_true rfl, Nat.le_of_ble_eq_true rfl⟩, ?_⟩ | refine ⟨_, rfl, by decide, ⟨by decide, by decide⟩, ?_⟩ | refine ⟨_, rfl, by decide, ⟨Nat.le_of_ble_eq_true rfl, Nat.le_of_ble_eq_true rfl⟩, ?_⟩ | refine ⟨trivial, ?_⟩ | refine ⟨rfl, ?_⟩ | refine ⟨fun hc => absurd hc (by decide), fun _ => ?_⟩ | refine ⟨fun _ => ?_, fun hc => absurd (by decide) hc⟩ | refine ⟨fun _ => ?_, fun hc => absurd hc (by decide)⟩ | refine ⟨fun hc => absurd (by decide) hc, fun _ => ?_⟩); conv => whnf)
  try dsimp only
  intro wi1 wl1 hC1
  conv => whnf
  repeat ((first | refine ⟨⟨by decide, by decide⟩, ?_⟩ | refine ⟨⟨Nat.le_of_ble_eq_true rfl, Nat.le_of_ble_eq_true rfl⟩, ?_⟩ | refine ⟨_, rfl, by decide, ⟨by decide, by decide⟩, ?_⟩ | refine ⟨_, rfl, by decide, ⟨Nat.le_of_ble_eq_true rfl, Nat.le_of_ble_eq_true rfl⟩, ?_⟩ | refine ⟨trivial, ?_⟩ | refine ⟨rfl, ?_⟩ | refine ⟨fun hc => absurd hc (by decide), fun _ => ?_⟩ | refine ⟨fun _ => ?_, fun hc => absurd (by decide) hc⟩ | refine ⟨fun _ => ?_, fun hc => absurd hc (by decide)⟩ | refine ⟨fun hc => absurd (by decide) hc, fun _ => ?_⟩); conv => whnf)
  try dsimp only
  refine ⟨fun i => if_pos rfl, fun wi2 wl2 hF2 hM2 => ?_⟩
  conv => whnf
  repeat ((first | refine ⟨⟨by decide, by decide⟩, ?_⟩ | refine ⟨⟨Nat.le_of_ble_eq_true rfl, Nat.le_of_ble_eq_true rfl⟩, ?_⟩ | refine ⟨_, rfl, by decide, ⟨by decide, by decide⟩, ?_⟩ | refine ⟨_, rfl, by decide, ⟨Nat.le_of_ble_eq_true rfl, Nat.le_of_ble_eq_true rfl⟩, ?_⟩ | refine ⟨trivial, ?_⟩ | refine ⟨rfl, ?_⟩ | refine ⟨fun hc => absurd hc (by decide), fun _ => ?_⟩ | refine ⟨fun _ => ?_, fun hc => absurd (by decide) hc⟩ | refine ⟨fun _ => ?_, fun hc => absurd hc (by decide)⟩ | refine ⟨fun hc => absurd (by decide) hc, fun _ => ?_⟩); conv => whnf)
  try dsimp only
  have hC2 : CT (z_row wi1 45 (fun _ => 0)) wl1 T0 := ct_same hC1 (fun y hy => z_row_ne (by omega)) rfl
  have hC3 : CT wi2 wl2 T0 := ct_frM hC2 hF2
  exact h wi2 (z_row wl2 62 (fun _ => 0)) (ct_same hC3 (fun _ _ => rfl) (z_row_ne (by decide))) (mt_same hM2 (fun _ _ => rfl) (fun _ _ => rfl) (z_row_ne (by decide)))
end

