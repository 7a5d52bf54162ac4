/-! the law's loop, whole -/
theorem law_loop {L : Nat} {xs : Nat → Int32} {Jm : zJ} (hs : ∀ (n pc : Nat) (al : zAL) (st : List Value) (w : zW) (c1 c2 : Nat), z_wp (M_L_law L xs) lawK Jm n (z_from (M_L_law L xs).1 pc) al st w c1 c2 → Jm pc al st w c1 c2) (hL : L ≤ 2560)
    (hrow : ∀ (k : Nat) (a : Int32) (w : zW) (c1 c2 : Nat) (K : Option Value → zW → Prop), sp_L_row a 62 w K → c1 + 1 ≤ 1088 → c2 + 6 ≤ 36001 → (∀ r w', K r w' → ∃ v, r = some v ∧ Jm 1265 (alk k) [v] w' (c1 + 1) (c2 + 6)) → Jm 1262 (alk k) [.ref 62, .int a, .ref 0] w c1 c2) :
    ∀ k, k ≤ 513 → ∀ (wi : Nat → Nat → Int32) (wl : Nat → Nat → Int64) (T : zT) (c1 c2 : Nat), c1 ≤ 63 + k → c2 ≤ 30111 + 6 * k → CT wi wl T → MT wi wl T → Jm 23 (alk k) [] (GL, wi, wl) c1 c2 := by
  refine up_ind 513 (fun k hk ih => ?_)
  intro wi wl T c1 c2 h1 h2 hC hM
  refine law_23 hs hL (by omega) (fun h5 => ?_)
  have ih := ih (by omega)
  have hv : ∀ j, j < 5 → vp_in (nI (5 * k) + nI j) L := fun j hj => by
    rw [nI_add]
    exact vp_in_nI (by omega) (by omega)
  have hN : ∀ (wi2 : Nat → Nat → Int32) (wl2 : Nat → Nat → Int64) (T2 : zT), CT wi2 wl2 T2 → MT wi2 wl2 T2 → Jm 23 (alk (k + 1)) [] (GL, wi2, wl2) c1 c2 := fun wi2 wl2 T2 a1 a2 => ih wi2 wl2 T2 c1 c2 (by omega) (by omega) a1 a2
  intro t ht
  simp only [lawT, List.mem_cons, List.not_mem_nil, or_false] at ht
  rcases ht with rfl | rfl | rfl | rfl | rfl | rfl | rfl | rfl | rfl | rfl | rfl | rfl | rfl | rfl | rfl | rfl | rfl | rfl | rfl | rfl | rfl | rfl | rfl | rfl | rfl | rfl | rfl | rfl | rfl | rfl | rfl | rfl | rfl | rfl | rfl | rfl | rfl | rfl | rfl | rfl
  · exact law_208 hs hv hC hM hN
  · exact law_269 hs hv hC hM hN
  · exact law_294 hs hv hC hM hN
  · exact law_319 hs hv hC hM hN
  · exact law_332 hs hv hC hM hN
  · exact law_345 hs hv hC hM hN
  · exact law_370 hs hv hC hM hN
  · exact law_407 hs hv hC hM hN
  · exact law_456 hs hv hC hM hN
  · exact law_469 hs hv hC hM hN
  · exact law_518 hs hv hC hM hN
  · exact law_531 hs hv hC hM hN
  · exact law_544 hs hv hC hM hN
  · exact law_593 hs hv hC hM hN
  · exact law_606 hs hv hC hM hN
  · exact law_655 hs hv hC hM hN
  · exact law_668 hs hv hC hM hN
  · exact law_681 hs hv hC hM hN
  · exact law_718 hs hv hC hM hN
  · exact law_767 hs hv hC hM hN
  · exact law_816 hs hv hC hM hN
  · exact law_853 hs hv hC hM hN
  · exact law_878 hs hv hC hM hN
  · exact law_915 hs hv hC hM hN
  · exact law_928 hs hv hC hM hN
  · exact law_941 hs hv hC hM hN
  · exact law_1002 hs hv hC hM hN
  · exact law_1051 hs hv hC hM hN
  · exact law_1088 hs hv hC hM hN
  · exact law_1101 hs hv hC hM hN
  · exact law_1114 hs hv hC hM hN
  · exact law_1139 hs hv hC hM hN
  · exact law_1164 hs hv hC hM hN
  · exact law_1177 hs hv hC hM hN
  · exact law_1190 hs hv hC hM hN
  · exact law_1203 hs hv hC hM hN
  · exact law_1216 hs hv hC hM hN
  · exact law_1229 hs hv hC hM hN
  · exact law_1254 hs hv hC hM (by omega) (by omega) (hrow k) (fun wi2 wl2 T2 a1 a2 => ih wi2 wl2 T2 (c1 + 1) (c2 + 6) (by omega) (by omega) a1 a2)
  · exact law_n hs (hN wi wl T hC hM)

