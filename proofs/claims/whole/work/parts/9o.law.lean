/-! the law: case by case, the class and the reference from the same state to the same state, with the same answer -/
abbrev GL : List zSh := GC ++ (GM ++ [.inr (1, 1)])
def alk (k : Nat) : zAL := [some (.float 0), some (.ref 0), some (.ref 45), some (.ref 62), some (.int (nI (5 * k))), none, none, none]
def lawK : Option Value → zW → Prop := fun r _ => r = some (.int (nI 1))
theorem ct_frM {wi wi' : Nat → Nat → Int32} {wl wl' : Nat → Nat → Int64} {T : zT} (h : CT wi wl T) (hF : FrM wi wl wi' wl') : CT wi' wl' T := ct_same h (fun y hy => (hF y (by omega)).1) (hF 5 (by decide)).2
theorem mt_frC {wi wi' : Nat → Nat → Int32} {wl wl' : Nat → Nat → Int64} {T : zT} (h : MT wi wl T) (hF : FrC wi wl wi' wl') : MT wi' wl' T := mt_same h (fun i _ => by rw [(hF 45 (by decide)).1]) (fun y hy => (hF y (by omega)).1) (hF 51 (by decide)).2
theorem ct_ZT {wi : Nat → Nat → Int32} {wl : Nat → Nat → Int64} {T : zT} (h : CT wi wl T) : ZT T := ⟨h.2.1, fun hk => by
  rcases h.2.2.1 with h | h
  · rw [h.1] at hk
    cases hk
  · exact h.2.2.2⟩
section
variable {L : Nat} {xs : Nat → Int32} {Jm : zJ} {k c1 c2 : Nat} {wi : Nat → Nat → Int32} {wl : Nat → Nat → Int64} {T : zT}
theorem law_e : nI (5 * k) + nI 5 = nI (5 * (k + 1)) := by
  rw [nI_add]
  rfl
set_option maxRecDepth 100000 in
theorem law_n {w : zW} (hs : ∀ (n pc : Nat) (al : zAL) (st : List Value) (w : zW) (c1 c2 : Nat), z_wp (M_L_law L xs) lawK Jm n (z_from (M_L_law L xs).1 pc) al st w c1 c2 → Jm pc al st w c1 c2) (h : Jm 23 (alk (k + 1)) [] w c1 c2) : Jm 1309 (alk k) [] w c1 c2 := by
  refine hs 400 1309 _ _ _ _ _ ?_
  conv => whnf
  repeat ((first | refine ⟨zH_of _, ?_⟩ | refine ⟨trivial, ?_⟩ | refine ⟨rfl, ?_⟩ | refine ⟨fun hc => absurd hc (by decide), fun _ => ?_⟩ | refine ⟨fun _ => ?_, fun hc => absurd (by decide) hc⟩ | refine ⟨fun _ => ?_, fun hc => absurd hc (by decide)⟩ | refine ⟨fun hc => absurd (by decide) hc, fun _ => ?_⟩); conv => whnf)
  try dsimp only
  rw [law_e]
  exact h
set_option maxRecDepth 100000 in
theorem law_208 (hs : ∀ (n pc : Nat) (al : zAL) (st : List Value) (w : zW) (c1 c2 : Nat), z_wp (M_L_law L xs) lawK Jm n (z_from (M_L_law L xs).1 pc) al st w c1 c2 → Jm pc al st w c1 c2) (hv : ∀ j, j < 5 → vp_in (nI (5 * k) + nI j) L) (hC : CT wi wl T) (hM : MT wi wl T) (hN : ∀ (wi2 : Nat → Nat → Int32) (wl2 : Nat → Nat → Int64) (T2 : zT), CT wi2 wl2 T2 → MT wi2 wl2 T2 → Jm 23 (alk (k + 1)) [] (GL, wi2, wl2) c1 c2) : Jm 208 (alk k) [] (GL, wi, wl) c1 c2 := by
  refine hs 400 208 _ _ _ _ _ ?_
  conv => whnf
  repeat ((first | refine ⟨zH_of _, ?_⟩ | refine ⟨trivial, ?_⟩ | refine ⟨rfl, ?_⟩ | refine ⟨fun hc => absurd hc (by decide), fun _ => ?_⟩ | refine ⟨fun _ => ?_, fun hc => absurd (by decide) hc⟩ | refine ⟨fun _ => ?_, fun hc => absurd hc (by decide)⟩ | refine ⟨fun hc => absurd (by decide) hc, fun _ => ?_⟩); conv => whnf)
  try dsimp only
  refine ⟨hv 1 (by decide), ?_⟩
  conv => whnf
  repeat ((first | refine ⟨zH_of _, ?_⟩ | refine ⟨trivial, ?_⟩ | refine ⟨rfl, ?_⟩ | refine ⟨fun hc => absurd hc (by decide), fun _ => ?_⟩ | refine ⟨fun _ => ?_, fun hc => absurd (by decide) hc⟩ | refine ⟨fun _ => ?_, fun hc => absurd hc (by decide)⟩ | refine ⟨fun hc => absurd (by decide) hc, fun _ => ?_⟩); conv => whnf)
  try dsimp only
  refine ⟨hv 2 (by decide), ?_⟩
  conv => whnf
  repeat ((first | refine ⟨zH_of _, ?_⟩ | refine ⟨trivial, ?_⟩ | refine ⟨rfl, ?_⟩ | refine ⟨fun hc => absurd hc (by decide), fun _ => ?_⟩ | refine ⟨fun _ => ?_, fun hc => absurd (by decide) hc⟩ | refine ⟨fun _ => ?_, fun hc => absurd hc (by decide)⟩ | refine ⟨fun hc => absurd (by decide) hc, fun _ => ?_⟩); conv => whnf)
  try dsimp only
  refine ⟨hv 3 (by decide), ?_⟩
  conv => whnf
  repeat ((first | refine ⟨zH_of _, ?_⟩ | refine ⟨trivial, ?_⟩ | refine ⟨rfl, ?_⟩ | refine ⟨fun hc => absurd hc (by decide), fun _ => ?_⟩ | refine ⟨fun _ => ?_, fun hc => absurd (by decide) hc⟩ | refine ⟨fun _ => ?_, fun hc => absurd hc (by decide)⟩ | refine ⟨fun hc => absurd (by decide) hc, fun _ => ?_⟩); conv => whnf)
  try dsimp only
  refine ⟨hv 4 (by decide), ?_⟩
  conv => whnf
  repeat ((first | refine ⟨zH_of _, ?_⟩ | refine ⟨trivial, ?_⟩ | refine ⟨rfl, ?_⟩ | refine ⟨fun hc => absurd hc (by decide), fun _ => ?_⟩ | refine ⟨fun _ => ?_, fun hc => absurd (by decide) hc⟩ | refine ⟨fun _ => ?_, fun hc => absurd hc (by decide)⟩ | refine ⟨fun hc => absurd (by decide) hc, fun _ => ?_⟩); conv => whnf)
  try dsimp only
  refine ⟨zG_of _, T, hC, fun wi1 wl1 hF1 hC1 => ?_⟩
  conv => whnf
  repeat ((first | refine ⟨zH_of _, ?_⟩ | refine ⟨trivial, ?_⟩ | refine ⟨rfl, ?_⟩ | refine ⟨fun hc => absurd hc (by decide), fun _ => ?_⟩ | refine ⟨fun _ => ?_, fun hc => absurd (by decide) hc⟩ | refine ⟨fun _ => ?_, fun hc => absurd hc (by decide)⟩ | refine ⟨fun hc => absurd (by decide) hc, fun _ => ?_⟩); conv => whnf)
  try dsimp only
  refine ⟨hv 1 (by decide), ?_⟩
  conv => whnf
  repeat ((first | refine ⟨zH_of _, ?_⟩ | refine ⟨trivial, ?_⟩ | refine ⟨rfl, ?_⟩ | refine ⟨fun hc => absurd hc (by decide), fun _ => ?_⟩ | refine ⟨fun _ => ?_, fun hc => absurd (by decide) hc⟩ | refine ⟨fun _ => ?_, fun hc => absurd hc (by decide)⟩ | refine ⟨fun hc => absurd (by decide) hc, fun _ => ?_⟩); conv => whnf)
  try dsimp only
  refine ⟨hv 2 (by decide), ?_⟩
  conv => whnf
  repeat ((first | refine ⟨zH_of _, ?_⟩ | refine ⟨trivial, ?_⟩ | refine ⟨rfl, ?_⟩ | refine ⟨fun hc => absurd hc (by decide), fun _ => ?_⟩ | refine ⟨fun _ => ?_, fun hc => absurd (by decide) hc⟩ | refine ⟨fun _ => ?_, fun hc => absurd hc (by decide)⟩ | refine ⟨fun hc => absurd (by decide) hc, fun _ => ?_⟩); conv => whnf)
  try dsimp only
  refine ⟨hv 3 (by decide), ?_⟩
  conv => whnf
  repeat ((first | refine ⟨zH_of _, ?_⟩ | refine ⟨trivial, ?_⟩ | refine ⟨rfl, ?_⟩ | refine ⟨fun hc => absurd hc (by decide), fun _ => ?_⟩ | refine ⟨fun _ => ?_, fun hc => absurd (by decide) hc⟩ | refine ⟨fun _ => ?_, fun hc => absurd hc (by decide)⟩ | refine ⟨fun hc => absurd (by decide) hc, fun _ => ?_⟩); conv => whnf)
  try dsimp only
  refine ⟨hv 4 (by decide), ?_⟩
  conv => whnf
  repeat ((first | refine ⟨zH_of _, ?_⟩ | refine ⟨trivial, ?_⟩ | refine ⟨rfl, ?_⟩ | refine ⟨fun hc => absurd hc (by decide), fun _ => ?_⟩ | refine ⟨fun _ => ?_, fun hc => absurd (by decide) hc⟩ | refine ⟨fun _ => ?_, fun hc => absurd hc (by decide)⟩ | refine ⟨fun hc => absurd (by decide) hc, fun _ => ?_⟩); conv => whnf)
  try dsimp only
  refine ⟨T, mt_frC hM hF1, ct_ZT hC, fun wi2 wl2 hF2 hM2 => ?_⟩
  conv => whnf
  repeat ((first | refine ⟨zH_of _, ?_⟩ | refine ⟨trivial, ?_⟩ | refine ⟨rfl, ?_⟩ | refine ⟨fun hc => absurd hc (by decide), fun _ => ?_⟩ | refine ⟨fun _ => ?_, fun hc => absurd (by decide) hc⟩ | refine ⟨fun _ => ?_, fun hc => absurd hc (by decide)⟩ | refine ⟨fun hc => absurd (by decide) hc, fun _ => ?_⟩); conv => whnf)
  try dsimp only
  refine ⟨fun _ => ?_, fun hc => absurd rfl hc⟩
  conv => whnf
  repeat ((first | refine ⟨zH_of _, ?_⟩ | refine ⟨trivial, ?_⟩ | refine ⟨rfl, ?_⟩ | refine ⟨fun hc => absurd hc (by decide), fun _ => ?_⟩ | refine ⟨fun _ => ?_, fun hc => absurd (by decide) hc⟩ | refine ⟨fun _ => ?_, fun hc => absurd hc (by decide)⟩ | refine ⟨fun hc => absurd (by decide) hc, fun _ => ?_⟩); conv => whnf)
  try dsimp only
  exact law_n hs (hN wi2 wl2 _ (ct_frM hC1 hF2) hM2)
set_option maxRecDepth 100000 in
theorem law_269 (hs : ∀ (n pc : Nat) (al : zAL) (st : List Value) (w : zW) (c1 c2 : Nat), z_wp (M_L_law L xs) lawK Jm n (z_from (M_L_law L xs).1 pc) al st w c1 c2 → Jm pc al st w c1 c2) (hv : ∀ j, j < 5 → vp_in (nI (5 * k) + nI j) L) (hC : CT wi wl T) (hM : MT wi wl T) (hN : ∀ (wi2 : Nat → Nat → Int32) (wl2 : Nat → Nat → Int64) (T2 : zT), CT wi2 wl2 T2 → MT wi2 wl2 T2 → Jm 23 (alk (k + 1)) [] (GL, wi2, wl2) c1 c2) : Jm 269 (alk k) [] (GL, wi, wl) c1 c2 := by
  refine hs 400 269 _ _ _ _ _ ?_
  conv => whnf
  repeat ((first | refine ⟨zH_of _, ?_⟩ | refine ⟨trivial, ?_⟩ | refine ⟨rfl, ?_⟩ | refine ⟨fun hc => absurd hc (by decide), fun _ => ?_⟩ | refine ⟨fun _ => ?_, fun hc => absurd (by decide) hc⟩ | refine ⟨fun _ => ?_, fun hc => absurd hc (by decide)⟩ | refine ⟨fun hc => absurd (by decide) hc, fun _ => ?_⟩); conv => whnf)
  try dsimp only
  refine ⟨hv 1 (by decide), ?_⟩
  conv => whnf
  repeat ((first | refine ⟨zH_of _, ?_⟩ | refine ⟨trivial, ?_⟩ | refine ⟨rfl, ?_⟩ | refine ⟨fun hc => absurd hc (by decide), fun _ => ?_⟩ | refine ⟨fun _ => ?_, fun hc => absurd (by decide) hc⟩ | refine ⟨fun _ => ?_, fun hc => absurd hc (by decide)⟩ | refine ⟨fun hc => absurd (by decide) hc, fun _ => ?_⟩); conv => whnf)
  try dsimp only
  refine ⟨zG_of _, T, hC, fun wi1 wl1 hF1 hC1 => ?_⟩
  conv => whnf
  repeat ((first | refine ⟨zH_of _, ?_⟩ | refine ⟨trivial, ?_⟩ | refine ⟨rfl, ?_⟩ | refine ⟨fun hc => absurd hc (by decide), fun _ => ?_⟩ | refine ⟨fun _ => ?_, fun hc => absurd (by decide) hc⟩ | refine ⟨fun _ => ?_, fun hc => absurd hc (by decide)⟩ | refine ⟨fun hc => absurd (by decide) hc, fun _ => ?_⟩); conv => whnf)
  try dsimp only
  refine ⟨hv 1 (by decide), ?_⟩
  conv => whnf
  repeat ((first | refine ⟨zH_of _, ?_⟩ | refine ⟨trivial, ?_⟩ | refine ⟨rfl, ?_⟩ | refine ⟨fun hc => absurd hc (by decide), fun _ => ?_⟩ | refine ⟨fun _ => ?_, fun hc => absurd (by decide) hc⟩ | refine ⟨fun _ => ?_, fun hc => absurd hc (by decide)⟩ | refine ⟨fun hc => absurd (by decide) hc, fun _ => ?_⟩); conv => whnf)
  try dsimp only
  refine ⟨T, mt_frC hM hF1, ct_ZT hC, fun wi2 wl2 hF2 hM2 => ?_⟩
  conv => whnf
  repeat ((first | refine ⟨zH_of _, ?_⟩ | refine ⟨trivial, ?_⟩ | refine ⟨rfl, ?_⟩ | refine ⟨fun hc => absurd hc (by decide), fun _ => ?_⟩ | refine ⟨fun _ => ?_, fun hc => absurd (by decide) hc⟩ | refine ⟨fun _ => ?_, fun hc => absurd hc (by decide)⟩ | refine ⟨fun hc => absurd (by decide) hc, fun _ => ?_⟩); conv => whnf)
  try dsimp only
  refine ⟨fun _ => ?_, fun hc => absurd rfl hc⟩
  conv => whnf
  repeat ((first | refine ⟨zH_of _, ?_⟩ | refine ⟨trivial, ?_⟩ | refine ⟨rfl, ?_⟩ | refine ⟨fun hc => absurd hc (by decide), fun _ => ?_⟩ | refine ⟨fun _ => ?_, fun hc => absurd (by decide) hc⟩ | refine ⟨fun _ => ?_, fun hc => absurd hc (by decide)⟩ | refine ⟨fun hc => absurd (by decide) hc, fun _ => ?_⟩); conv => whnf)
  try dsimp only
  exact law_n hs (hN wi2 wl2 _ (ct_frM hC1 hF2) hM2)
set_option maxRecDepth 100000 in
theorem law_294 (hs : ∀ (n pc : Nat) (al : zAL) (st : List Value) (w : zW) (c1 c2 : Nat), z_wp (M_L_law L xs) lawK Jm n (z_from (M_L_law L xs).1 pc) al st w c1 c2 → Jm pc al st w c1 c2) (hv : ∀ j, j < 5 → vp_in (nI (5 * k) + nI j) L) (hC : CT wi wl T) (hM : MT wi wl T) (hN : ∀ (wi2 : Nat → Nat → Int32) (wl2 : Nat → Nat → Int64) (T2 : zT), CT wi2 wl2 T2 → MT wi2 wl2 T2 → Jm 23 (alk (k + 1)) [] (GL, wi2, wl2) c1 c2) : Jm 294 (alk k) [] (GL, wi, wl) c1 c2 := by
  refine hs 400 294 _ _ _ _ _ ?_
  conv => whnf
  repeat ((first | refine ⟨zH_of _, ?_⟩ | refine ⟨trivial, ?_⟩ | refine ⟨rfl, ?_⟩ | refine ⟨fun hc => absurd hc (by decide), fun _ => ?_⟩ | refine ⟨fun _ => ?_, fun hc => absurd (by decide) hc⟩ | refine ⟨fun _ => ?_, fun hc => absurd hc (by decide)⟩ | refine ⟨fun hc => absurd (by decide) hc, fun _ => ?_⟩); conv => whnf)
  try dsimp only
  refine ⟨hv 1 (by decide), ?_⟩
  conv => whnf
  repeat ((first | refine ⟨zH_of _, ?_⟩ | refine ⟨trivial, ?_⟩ | refine ⟨rfl, ?_⟩ | refine ⟨fun hc => absurd hc (by decide), fun _ => ?_⟩ | refine ⟨fun _ => ?_, fun hc => absurd (by decide) hc⟩ | refine ⟨fun _ => ?_, fun hc => absurd hc (by decide)⟩ | refine ⟨fun hc => absurd (by decide) hc, fun _ => ?_⟩); conv => whnf)
  try dsimp only
  refine ⟨zG_of _, T, hC, fun wi1 wl1 hF1 hC1 => ?_⟩
  conv => whnf
  repeat ((first | refine ⟨zH_of _, ?_⟩ | refine ⟨trivial, ?_⟩ | refine ⟨rfl, ?_⟩ | refine ⟨fun hc => absurd hc (by decide), fun _ => ?_⟩ | refine ⟨fun _ => ?_, fun hc => absurd (by decide) hc⟩ | refine ⟨fun _ => ?_, fun hc => absurd hc (by decide)⟩ | refine ⟨fun hc => absurd (by decide) hc, fun _ => ?_⟩); conv => whnf)
  try dsimp only
  refine ⟨hv 1 (by decide), ?_⟩
  conv => whnf
  repeat ((first | refine ⟨zH_of _, ?_⟩ | refine ⟨trivial, ?_⟩ | refine ⟨rfl, ?_⟩ | refine ⟨fun hc => absurd hc (by decide), fun _ => ?_⟩ | refine ⟨fun _ => ?_, fun hc => absurd (by decide) hc⟩ | refine ⟨fun _ => ?_, fun hc => absurd hc (by decide)⟩ | refine ⟨fun hc => absurd (by decide) hc, fun _ => ?_⟩); conv => whnf)
  try dsimp only
  refine ⟨T, mt_frC hM hF1, ct_ZT hC, fun wi2 wl2 hF2 hM2 => ?_⟩
  conv => whnf
  repeat ((first | refine ⟨zH_of _, ?_⟩ | refine ⟨trivial, ?_⟩ | refine ⟨rfl, ?_⟩ | refine ⟨fun hc => absurd hc (by decide), fun _ => ?_⟩ | refine ⟨fun _ => ?_, fun hc => absurd (by decide) hc⟩ | refine ⟨fun _ => ?_, fun hc => absurd hc (by decide)⟩ | refine ⟨fun hc => absurd (by decide) hc, fun _ => ?_⟩); conv => whnf)
  try dsimp only
  refine ⟨fun _ => ?_, fun hc => absurd rfl hc⟩
  conv => whnf
  repeat ((first | refine ⟨zH_of _, ?_⟩ | refine ⟨trivial, ?_⟩ | refine ⟨rfl, ?_⟩ | refine ⟨fun hc => absurd hc (by decide), fun _ => ?_⟩ | refine ⟨fun _ => ?_, fun hc => absurd (by decide) hc⟩ | refine ⟨fun _ => ?_, fun hc => absurd hc (by decide)⟩ | refine ⟨fun hc => absurd (by decide) hc, fun _ => ?_⟩); conv => whnf)
  try dsimp only
  exact law_n hs (hN wi2 wl2 _ (ct_frM hC1 hF2) hM2)
set_option maxRecDepth 100000 in
theorem law_319 (hs : ∀ (n pc : Nat) (al : zAL) (st : List Value) (w : zW) (c1 c2 : Nat), z_wp (M_L_law L xs) lawK Jm n (z_from (M_L_law L xs).1 pc) al st w c1 c2 → Jm pc al st w c1 c2) (hv : ∀ j, j < 5 → vp_in (nI (5 * k) + nI j) L) (hC : CT wi wl T) (hM : MT wi wl T) (hN : ∀ (wi2 : Nat → Nat → Int32) (wl2 : Nat → Nat → Int64) (T2 : zT), CT wi2 wl2 T2 → MT wi2 wl2 T2 → Jm 23 (alk (k + 1)) [] (GL, wi2, wl2) c1 c2) : Jm 319 (alk k) [] (GL, wi, wl) c1 c2 := by
  refine hs 400 319 _ _ _ _ _ ?_
  conv => whnf
  repeat ((first | refine ⟨zH_of _, ?_⟩ | refine ⟨trivial, ?_⟩ | refine ⟨rfl, ?_⟩ | refine ⟨fun hc => absurd hc (by decide), fun _ => ?_⟩ | refine ⟨fun _ => ?_, fun hc => absurd (by decide) hc⟩ | refine ⟨fun _ => ?_, fun hc => absurd hc (by decide)⟩ | refine ⟨fun hc => absurd (by decide) hc, fun _ => ?_⟩); conv => whnf)
  try dsimp only
  refine ⟨zG_of _, T, hC, fun wi1 wl1 hF1 hC1 => ?_⟩
  conv => whnf
  repeat ((first | refine ⟨zH_of _, ?_⟩ | refine ⟨trivial, ?_⟩ | refine ⟨rfl, ?_⟩ | refine ⟨fun hc => absurd hc (by decide), fun _ => ?_⟩ | refine ⟨fun _ => ?_, fun hc => absurd (by decide) hc⟩ | refine ⟨fun _ => ?_, fun hc => absurd hc (by decide)⟩ | refine ⟨fun hc => absurd (by decide) hc, fun _ => ?_⟩); conv => whnf)
  try dsimp only
  refine ⟨T, mt_frC hM hF1, ct_ZT hC, fun wi2 wl2 hF2 hM2 => ?_⟩
  conv => whnf
  repeat ((first | refine ⟨zH_of _, ?_⟩ | refine ⟨trivial, ?_⟩ | refine ⟨rfl, ?_⟩ | refine ⟨fun hc => absurd hc (by decide), fun _ => ?_⟩ | refine ⟨fun _ => ?_, fun hc => absurd (by decide) hc⟩ | refine ⟨fun _ => ?_, fun hc => absurd hc (by decide)⟩ | refine ⟨fun hc => absurd (by decide) hc, fun _ => ?_⟩); conv => whnf)
  try dsimp only
  refine ⟨fun _ => ?_, fun hc => absurd rfl hc⟩
  conv => whnf
  repeat ((first | refine ⟨zH_of _, ?_⟩ | refine ⟨trivial, ?_⟩ | refine ⟨rfl, ?_⟩ | refine ⟨fun hc => absurd hc (by decide), fun _ => ?_⟩ | refine ⟨fun _ => ?_, fun hc => absurd (by decide) hc⟩ | refine ⟨fun _ => ?_, fun hc => absurd hc (by decide)⟩ | refine ⟨fun hc => absurd (by decide) hc, fun _ => ?_⟩); conv => whnf)
  try dsimp only
  exact law_n hs (hN wi2 wl2 _ (ct_frM hC1 hF2) hM2)
set_option maxRecDepth 100000 in
theorem law_332 (hs : ∀ (n pc : Nat) (al : zAL) (st : List Value) (w : zW) (c1 c2 : Nat), z_wp (M_L_law L xs) lawK Jm n (z_from (M_L_law L xs).1 pc) al st w c1 c2 → Jm pc al st w c1 c2) (hv : ∀ j, j < 5 → vp_in (nI (5 * k) + nI j) L) (hC : CT wi wl T) (hM : MT wi wl T) (hN : ∀ (wi2 : Nat → Nat → Int32) (wl2 : Nat → Nat → Int64) (T2 : zT), CT wi2 wl2 T2 → MT wi2 wl2 T2 → Jm 23 (alk (k + 1)) [] (GL, wi2, wl2) c1 c2) : Jm 332 (alk k) [] (GL, wi, wl) c1 c2 := by
  refine hs 400 332 _ _ _ _ _ ?_
  conv => whnf
  repeat ((first | refine ⟨zH_of _, ?_⟩ | refine ⟨trivial, ?_⟩ | refine ⟨rfl, ?_⟩ | refine ⟨fun hc => absurd hc (by decide), fun _ => ?_⟩ | refine ⟨fun _ => ?_, fun hc => absurd (by decide) hc⟩ | refine ⟨fun _ => ?_, fun hc => absurd hc (by decide)⟩ | refine ⟨fun hc => absurd (by decide) hc, fun _ => ?_⟩); conv => whnf)
  try dsimp only
  refine ⟨zG_of _, T, hC, fun wi1 wl1 hF1 hC1 => ?_⟩
  conv => whnf
  repeat ((first | refine ⟨zH_of _, ?_⟩ | refine ⟨trivial, ?_⟩ | refine ⟨rfl, ?_⟩ | refine ⟨fun hc => absurd hc (by decide), fun _ => ?_⟩ | refine ⟨fun _ => ?_, fun hc => absurd (by decide) hc⟩ | refine ⟨fun _ => ?_, fun hc => absurd hc (by decide)⟩ | refine ⟨fun hc => absurd (by decide) hc, fun _ => ?_⟩); conv => whnf)
  try dsimp only
  refine ⟨T, mt_frC hM hF1, ct_ZT hC, fun wi2 wl2 hF2 hM2 => ?_⟩
  conv => whnf
  repeat ((first | refine ⟨zH_of _, ?_⟩ | refine ⟨trivial, ?_⟩ | refine ⟨rfl, ?_⟩ | refine ⟨fun hc => absurd hc (by decide), fun _ => ?_⟩ | refine ⟨fun _ => ?_, fun hc => absurd (by decide) hc⟩ | refine ⟨fun _ => ?_, fun hc => absurd hc (by decide)⟩ | refine ⟨fun hc => absurd (by decide) hc, fun _ => ?_⟩); conv => whnf)
  try dsimp only
  refine ⟨fun _ => ?_, fun hc => absurd rfl hc⟩
  conv => whnf
  repeat ((first | refine ⟨zH_of _, ?_⟩ | refine ⟨trivial, ?_⟩ | refine ⟨rfl, ?_⟩ | refine ⟨fun hc => absurd hc (by decide), fun _ => ?_⟩ | refine ⟨fun _ => ?_, fun hc => absurd (by decide) hc⟩ | refine ⟨fun _ => ?_, fun hc => absurd hc (by decide)⟩ | refine ⟨fun hc => absurd (by decide) hc, fun _ => ?_⟩); conv => whnf)
  try dsimp only
  exact law_n hs (hN wi2 wl2 _ (ct_frM hC1 hF2) hM2)
set_option maxRecDepth 100000 in
theorem law_345 (hs : ∀ (n pc : Nat) (al : zAL) (st : List Value) (w : zW) (c1 c2 : Nat), z_wp (M_L_law L xs) lawK Jm n (z_from (M_L_law L xs).1 pc) al st w c1 c2 → Jm pc al st w c1 c2) (hv : ∀ j, j < 5 → vp_in (nI (5 * k) + nI j) L) (hC : CT wi wl T) (hM : MT wi wl T) (hN : ∀ (wi2 : Nat → Nat → Int32) (wl2 : Nat → Nat → Int64) (T2 : zT), CT wi2 wl2 T2 → MT wi2 wl2 T2 → Jm 23 (alk (k + 1)) [] (GL, wi2, wl2) c1 c2) : Jm 345 (alk k) [] (GL, wi, wl) c1 c2 := by
  refine hs 400 345 _ _ _ _ _ ?_
  conv => whnf
  repeat ((first | refine ⟨zH_of _, ?_⟩ | refine ⟨trivial, ?_⟩ | refine ⟨rfl, ?_⟩ | refine ⟨fun hc => absurd hc (by decide), fun _ => ?_⟩ | refine ⟨fun _ => ?_, fun hc => absurd (by decide) hc⟩ | refine ⟨fun _ => ?_, fun hc => absurd hc (by decide)⟩ | refine ⟨fun hc => absurd (by decide) hc, fun _ => ?_⟩); conv => whnf)
  try dsimp only
  refine ⟨hv 1 (by decide), ?_⟩
  conv => whnf
  repeat ((first | refine ⟨zH_of _, ?_⟩ | refine ⟨trivial, ?_⟩ | refine ⟨rfl, ?_⟩ | refine ⟨fun hc => absurd hc (by decide), fun _ => ?_⟩ | refine ⟨fun _ => ?_, fun hc => absurd (by decide) hc⟩ | refine ⟨fun _ => ?_, fun hc => absurd hc (by decide)⟩ | refine ⟨fun hc => absurd (by decide) hc, fun _ => ?_⟩); conv => whnf)
  try dsimp only
  refine ⟨zG_of _, T, hC, fun wi1 wl1 hF1 hC1 => ?_⟩
  conv => whnf
  repeat ((first | refine ⟨zH_of _, ?_⟩ | refine ⟨trivial, ?_⟩ | refine ⟨rfl, ?_⟩ | refine ⟨fun hc => absurd hc (by decide), fun _ => ?_⟩ | refine ⟨fun _ => ?_, fun hc => absurd (by decide) hc⟩ | refine ⟨fun _ => ?_, fun hc => absurd hc (by decide)⟩ | refine ⟨fun hc => absurd (by decide) hc, fun _ => ?_⟩); conv => whnf)
  try dsimp only
  refine ⟨hv 1 (by decide), ?_⟩
  conv => whnf
  repeat ((first | refine ⟨zH_of _, ?_⟩ | refine ⟨trivial, ?_⟩ | refine ⟨rfl, ?_⟩ | refine ⟨fun hc => absurd hc (by decide), fun _ => ?_⟩ | refine ⟨fun _ => ?_, fun hc => absurd (by decide) hc⟩ | refine ⟨fun _ => ?_, fun hc => absurd hc (by decide)⟩ | refine ⟨fun hc => absurd (by decide) hc, fun _ => ?_⟩); conv => whnf)
  try dsimp only
  refine ⟨T, mt_frC hM hF1, ct_ZT hC, fun wi2 wl2 hF2 hM2 => ?_⟩
  conv => whnf
  repeat ((first | refine ⟨zH_of _, ?_⟩ | refine ⟨trivial, ?_⟩ | refine ⟨rfl, ?_⟩ | refine ⟨fun hc => absurd hc (by decide), fun _ => ?_⟩ | refine ⟨fun _ => ?_, fun hc => absurd (by decide) hc⟩ | refine ⟨fun _ => ?_, fun hc => absurd hc (by decide)⟩ | refine ⟨fun hc => absurd (by decide) hc, fun _ => ?_⟩); conv => whnf)
  try dsimp only
  refine ⟨fun _ => ?_, fun hc => absurd rfl hc⟩
  conv => whnf
  repeat ((first | refine ⟨zH_of _, ?_⟩ | refine ⟨trivial, ?_⟩ | refine ⟨rfl, ?_⟩ | refine ⟨fun hc => absurd hc (by decide), fun _ => ?_⟩ | refine ⟨fun _ => ?_, fun hc => absurd (by decide) hc⟩ | refine ⟨fun _ => ?_, fun hc => absurd hc (by decide)⟩ | refine ⟨fun hc => absurd (by decide) hc, fun _ => ?_⟩); conv => whnf)
  try dsimp only
  exact law_n hs (hN wi2 wl2 _ (ct_frM hC1 hF2) hM2)
set_option maxRecDepth 100000 in
theorem law_370 (hs : ∀ (n pc : Nat) (al : zAL) (st : List Value) (w : zW) (c1 c2 : Nat), z_wp (M_L_law L xs) lawK Jm n (z_from (M_L_law L xs).1 pc) al st w c1 c2 → Jm pc al st w c1 c2) (hv : ∀ j, j < 5 → vp_in (nI (5 * k) + nI j) L) (hC : CT wi wl T) (hM : MT wi wl T) (hN : ∀ (wi2 : Nat → Nat → Int32) (wl2 : Nat → Nat → Int64) (T2 : zT), CT wi2 wl2 T2 → MT wi2 wl2 T2 → Jm 23 (alk (k + 1)) [] (GL, wi2, wl2) c1 c2) : Jm 370 (alk k) [] (GL, wi, wl) c1 c2 := by
  refine hs 400 370 _ _ _ _ _ ?_
  conv => whnf
  repeat ((first | refine ⟨zH_of _, ?_⟩ | refine ⟨trivial, ?_⟩ | refine ⟨rfl, ?_⟩ | refine ⟨fun hc => absurd hc (by decide), fun _ => ?_⟩ | refine ⟨fun _ => ?_, fun hc => absurd (by decide) hc⟩ | refine ⟨fun _ => ?_, fun hc => absurd hc (by decide)⟩ | refine ⟨fun hc => absurd (by decide) hc, fun _ => ?_⟩); conv => whnf)
  try dsimp only
  refine ⟨hv 1 (by decide), ?_⟩
  conv => whnf
  repeat ((first | refine ⟨zH_of _, ?_⟩ | refine ⟨trivial, ?_⟩ | refine ⟨rfl, ?_⟩ | refine ⟨fun hc => absurd hc (by decide), fun _ => ?_⟩ | refine ⟨fun _ => ?_, fun hc => absurd (by decide) hc⟩ | refine ⟨fun _ => ?_, fun hc => absurd hc (by decide)⟩ | refine ⟨fun hc => absurd (by decide) hc, fun _ => ?_⟩); conv => whnf)
  try dsimp only
  refine ⟨hv 2 (by decide), ?_⟩
  conv => whnf
  repeat ((first | refine ⟨zH_of _, ?_⟩ | refine ⟨trivial, ?_⟩ | refine ⟨rfl, ?_⟩ | refine ⟨fun hc => absurd hc (by decide), fun _ => ?_⟩ | refine ⟨fun _ => ?_, fun hc => absurd (by decide) hc⟩ | refine ⟨fun _ => ?_, fun hc => absurd hc (by decide)⟩ | refine ⟨fun hc => absurd (by decide) hc, fun _ => ?_⟩); conv => whnf)
  try dsimp only
  refine ⟨zG_of _, T, hC, fun wi1 wl1 hF1 hC1 => ?_⟩
  conv => whnf
  repeat ((first | refine ⟨zH_of _, ?_⟩ | refine ⟨trivial, ?_⟩ | refine ⟨rfl, ?_⟩ | refine ⟨fun hc => absurd hc (by decide), fun _ => ?_⟩ | refine ⟨fun _ => ?_, fun hc => absurd (by decide) hc⟩ | refine ⟨fun _ => ?_, fun hc => absurd hc (by decide)⟩ | refine ⟨fun hc => absurd (by decide) hc, fun _ => ?_⟩); conv => whnf)
  try dsimp only
  refine ⟨hv 1 (by decide), ?_⟩
  conv => whnf
  repeat ((first | refine ⟨zH_of _, ?_⟩ | refine ⟨trivial, ?_⟩ | refine ⟨rfl, ?_⟩ | refine ⟨fun hc => absurd hc (by decide), fun _ => ?_⟩ | refine ⟨fun _ => ?_, fun hc => absurd (by decide) hc⟩ | refine ⟨fun _ => ?_, fun hc => absurd hc (by decide)⟩ | refine ⟨fun hc => absurd (by decide) hc, fun _ => ?_⟩); conv => whnf)
  try dsimp only
  refine ⟨hv 2 (by decide), ?_⟩
  conv => whnf
  repeat ((first | refine ⟨zH_of _, ?_⟩ | refine ⟨trivial, ?_⟩ | refine ⟨rfl, ?_⟩ | refine ⟨fun hc => absurd hc (by decide), fun _ => ?_⟩ | refine ⟨fun _ => ?_, fun hc => absurd (by decide) hc⟩ | refine ⟨fun _ => ?_, fun hc => absurd hc (by decide)⟩ | refine ⟨fun hc => absurd (by decide) hc, fun _ => ?_⟩); conv => whnf)
  try dsimp only
  refine ⟨T, mt_frC hM hF1, ct_ZT hC, fun wi2 wl2 hF2 hM2 => ?_⟩
  conv => whnf
  repeat ((first | refine ⟨zH_of _, ?_⟩ | refine ⟨trivial, ?_⟩ | refine ⟨rfl, ?_⟩ | refine ⟨fun hc => absurd hc (by decide), fun _ => ?_⟩ | refine ⟨fun _ => ?_, fun hc => absurd (by decide) hc⟩ | refine ⟨fun _ => ?_, fun hc => absurd hc (by decide)⟩ | refine ⟨fun hc => absurd (by decide) hc, fun _ => ?_⟩); conv => whnf)
  try dsimp only
  refine ⟨fun _ => ?_, fun hc => absurd rfl hc⟩
  conv => whnf
  repeat ((first | refine ⟨zH_of _, ?_⟩ | refine ⟨trivial, ?_⟩ | refine ⟨rfl, ?_⟩ | refine ⟨fun hc => absurd hc (by decide), fun _ => ?_⟩ | refine ⟨fun _ => ?_, fun hc => absurd (by decide) hc⟩ | refine ⟨fun _ => ?_, fun hc => absurd hc (by decide)⟩ | refine ⟨fun hc => absurd (by decide) hc, fun _ => ?_⟩); conv => whnf)
  try dsimp only
  exact law_n hs (hN wi2 wl2 _ (ct_frM hC1 hF2) hM2)
set_option maxRecDepth 100000 in
theorem law_407 (hs : ∀ (n pc : Nat) (al : zAL) (st : List Value) (w : zW) (c1 c2 : Nat), z_wp (M_L_law L xs) lawK Jm n (z_from (M_L_law L xs).1 pc) al st w c1 c2 → Jm pc al st w c1 c2) (hv : ∀ j, j < 5 → vp_in (nI (5 * k) + nI j) L) (hC : CT wi wl T) (hM : MT wi wl T) (hN : ∀ (wi2 : Nat → Nat → Int32) (wl2 : Nat → Nat → Int64) (T2 : zT), CT wi2 wl2 T2 → MT wi2 wl2 T2 → Jm 23 (alk (k + 1)) [] (GL, wi2, wl2) c1 c2) : Jm 407 (alk k) [] (GL, wi, wl) c1 c2 := by
  refine hs 400 407 _ _ _ _ _ ?_
  conv => whnf
  repeat ((first | refine ⟨zH_of _, ?_⟩ | refine ⟨trivial, ?_⟩ | refine ⟨rfl, ?_⟩ | refine ⟨fun hc => absurd hc (by decide), fun _ => ?_⟩ | refine ⟨fun _ => ?_, fun hc => absurd (by decide) hc⟩ | refine ⟨fun _ => ?_, fun hc => absurd hc (by decide)⟩ | refine ⟨fun hc => absurd (by decide) hc, fun _ => ?_⟩); conv => whnf)
  try dsimp only
  refine ⟨hv 1 (by decide), ?_⟩
  conv => whnf
  repeat ((first | refine ⟨zH_of _, ?_⟩ | refine ⟨trivial, ?_⟩ | refine ⟨rfl, ?_⟩ | refine ⟨fun hc => absurd hc (by decide), fun _ => ?_⟩ | refine ⟨fun _ => ?_, fun hc => absurd (by decide) hc⟩ | refine ⟨fun _ => ?_, fun hc => absurd hc (by decide)⟩ | refine ⟨fun hc => absurd (by decide) hc, fun _ => ?_⟩); conv => whnf)
  try dsimp only
  refine ⟨hv 2 (by decide), ?_⟩
  conv => whnf
  repeat ((first | refine ⟨zH_of _, ?_⟩ | refine ⟨trivial, ?_⟩ | refine ⟨rfl, ?_⟩ | refine ⟨fun hc => absurd hc (by decide), fun _ => ?_⟩ | refine ⟨fun _ => ?_, fun hc => absurd (by decide) hc⟩ | refine ⟨fun _ => ?_, fun hc => absurd hc (by decide)⟩ | refine ⟨fun hc => absurd (by decide) hc, fun _ => ?_⟩); conv => whnf)
  try dsimp only
  refine ⟨hv 3 (by decide), ?_⟩
  conv => whnf
  repeat ((first | refine ⟨zH_of _, ?_⟩ | refine ⟨trivial, ?_⟩ | refine ⟨rfl, ?_⟩ | refine ⟨fun hc => absurd hc (by decide), fun _ => ?_⟩ | refine ⟨fun _ => ?_, fun hc => absurd (by decide) hc⟩ | refine ⟨fun _ => ?_, fun hc => absurd hc (by decide)⟩ | refine ⟨fun hc => absurd (by decide) hc, fun _ => ?_⟩); conv => whnf)
  try dsimp only
  refine ⟨zG_of _, T, hC, fun wi1 wl1 hF1 hC1 => ?_⟩
  conv => whnf
  repeat ((first | refine ⟨zH_of _, ?_⟩ | refine ⟨trivial, ?_⟩ | refine ⟨rfl, ?_⟩ | refine ⟨fun hc => absurd hc (by decide), fun _ => ?_⟩ | refine ⟨fun _ => ?_, fun hc => absurd (by decide) hc⟩ | refine ⟨fun _ => ?_, fun hc => absurd hc (by decide)⟩ | refine ⟨fun hc => absurd (by decide) hc, fun _ => ?_⟩); conv => whnf)
  try dsimp only
  refine ⟨hv 1 (by decide), ?_⟩
  conv => whnf
  repeat ((first | refine ⟨zH_of _, ?_⟩ | refine ⟨trivial, ?_⟩ | refine ⟨rfl, ?_⟩ | refine ⟨fun hc => absurd hc (by decide), fun _ => ?_⟩ | refine ⟨fun _ => ?_, fun hc => absurd (by decide) hc⟩ | refine ⟨fun _ => ?_, fun hc => absurd hc (by decide)⟩ | refine ⟨fun hc => absurd (by decide) hc, fun _ => ?_⟩); conv => whnf)
  try dsimp only
  refine ⟨hv 2 (by decide), ?_⟩
  conv => whnf
  repeat ((first | refine ⟨zH_of _, ?_⟩ | refine ⟨trivial, ?_⟩ | refine ⟨rfl, ?_⟩ | refine ⟨fun hc => absurd hc (by decide), fun _ => ?_⟩ | refine ⟨fun _ => ?_, fun hc => absurd (by decide) hc⟩ | refine ⟨fun _ => ?_, fun hc => absurd hc (by decide)⟩ | refine ⟨fun hc => absurd (by decide) hc, fun _ => ?_⟩); conv => whnf)
  try dsimp only
  refine ⟨hv 3 (by decide), ?_⟩
  conv => whnf
  repeat ((first | refine ⟨zH_of _, ?_⟩ | refine ⟨trivial, ?_⟩ | refine ⟨rfl, ?_⟩ | refine ⟨fun hc => absurd hc (by decide), fun _ => ?_⟩ | refine ⟨fun _ => ?_, fun hc => absurd (by decide) hc⟩ | refine ⟨fun _ => ?_, fun hc => absurd hc (by decide)⟩ | refine ⟨fun hc => absurd (by decide) hc, fun _ => ?_⟩); conv => whnf)
  try dsimp only
  refine ⟨T, mt_frC hM hF1, ct_ZT hC, fun wi2 wl2 hF2 hM2 => ?_⟩
  conv => whnf
  repeat ((first | refine ⟨zH_of _, ?_⟩ | refine ⟨trivial, ?_⟩ | refine ⟨rfl, ?_⟩ | refine ⟨fun hc => absurd hc (by decide), fun _ => ?_⟩ | refine ⟨fun _ => ?_, fun hc => absurd (by decide) hc⟩ | refine ⟨fun _ => ?_, fun hc => absurd hc (by decide)⟩ | refine ⟨fun hc => absurd (by decide) hc, fun _ => ?_⟩); conv => whnf)
  try dsimp only
  refine ⟨fun _ => ?_, fun hc => absurd rfl hc⟩
  conv => whnf
  repeat ((first | refine ⟨zH_of _, ?_⟩ | refine ⟨trivial, ?_⟩ | refine ⟨rfl, ?_⟩ | refine ⟨fun hc => absurd hc (by decide), fun _ => ?_⟩ | refine ⟨fun _ => ?_, fun hc => absurd (by decide) hc⟩ | refine ⟨fun _ => ?_, fun hc => absurd hc (by decide)⟩ | refine ⟨fun hc => absurd (by decide) hc, fun _ => ?_⟩); conv => whnf)
  try dsimp only
  exact law_n hs (hN wi2 wl2 _ (ct_frM hC1 hF2) hM2)
set_option maxRecDepth 100000 in
theorem law_456 (hs : ∀ (n pc : Nat) (al : zAL) (st : List Value) (w : zW) (c1 c2 : Nat), z_wp (M_L_law L xs) lawK Jm n (z_from (M_L_law L xs).1 pc) al st w c1 c2 → Jm pc al st w c1 c2) (hv : ∀ j, j < 5 → vp_in (nI (5 * k) + nI j) L) (hC : CT wi wl T) (hM : MT wi wl T) (hN : ∀ (wi2 : Nat → Nat → Int32) (wl2 : Nat → Nat → Int64) (T2 : zT), CT wi2 wl2 T2 → MT wi2 wl2 T2 → Jm 23 (alk (k + 1)) [] (GL, wi2, wl2) c1 c2) : Jm 456 (alk k) [] (GL, wi, wl) c1 c2 := by
  refine hs 400 456 _ _ _ _ _ ?_
  conv => whnf
  repeat ((first | refine ⟨zH_of _, ?_⟩ | refine ⟨trivial, ?_⟩ | refine ⟨rfl, ?_⟩ | refine ⟨fun hc => absurd hc (by decide), fun _ => ?_⟩ | refine ⟨fun _ => ?_, fun hc => absurd (by decide) hc⟩ | refine ⟨fun _ => ?_, fun hc => absurd hc (by decide)⟩ | refine ⟨fun hc => absurd (by decide) hc, fun _ => ?_⟩); conv => whnf)
  try dsimp only
  refine ⟨zG_of _, T, hC, fun wi1 wl1 hF1 hC1 => ?_⟩
  conv => whnf
  repeat ((first | refine ⟨zH_of _, ?_⟩ | refine ⟨trivial, ?_⟩ | refine ⟨rfl, ?_⟩ | refine ⟨fun hc => absurd hc (by decide), fun _ => ?_⟩ | refine ⟨fun _ => ?_, fun hc => absurd (by decide) hc⟩ | refine ⟨fun _ => ?_, fun hc => absurd hc (by decide)⟩ | refine ⟨fun hc => absurd (by decide) hc, fun _ => ?_⟩); conv => whnf)
  try dsimp only
  refine ⟨T, mt_frC hM hF1, ct_ZT hC, fun wi2 wl2 hF2 hM2 => ?_⟩
  conv => whnf
  repeat ((first | refine ⟨zH_of _, ?_⟩ | refine ⟨trivial, ?_⟩ | refine ⟨rfl, ?_⟩ | refine ⟨fun hc => absurd hc (by decide), fun _ => ?_⟩ | refine ⟨fun _ => ?_, fun hc => absurd (by decide) hc⟩ | refine ⟨fun _ => ?_, fun hc => absurd hc (by decide)⟩ | refine ⟨fun hc => absurd (by decide) hc, fun _ => ?_⟩); conv => whnf)
  try dsimp only
  refine ⟨fun _ => ?_, fun hc => absurd rfl hc⟩
  conv => whnf
  repeat ((first | refine ⟨zH_of _, ?_⟩ | refine ⟨trivial, ?_⟩ | refine ⟨rfl, ?_⟩ | refine ⟨fun hc => absurd hc (by decide), fun _ => ?_⟩ | refine ⟨fun _ => ?_, fun hc => absurd (by decide) hc⟩ | refine ⟨fun _ => ?_, fun hc => absurd hc (by decide)⟩ | refine ⟨fun hc => absurd (by decide) hc, fun _ => ?_⟩); conv => whnf)
  try dsimp only
  exact law_n hs (hN wi2 wl2 _ (ct_frM hC1 hF2) hM2)
set_option maxRecDepth 100000 in
theorem law_469 (hs : ∀ (n pc : Nat) (al : zAL) (st : List Value) (w : zW) (c1 c2 : Nat), z_wp (M_L_law L xs) lawK Jm n (z_from (M_L_law L xs).1 pc) al st w c1 c2 → Jm pc al st w c1 c2) (hv : ∀ j, j < 5 → vp_in (nI (5 * k) + nI j) L) (hC : CT wi wl T) (hM : MT wi wl T) (hN : ∀ (wi2 : Nat → Nat → Int32) (wl2 : Nat → Nat → Int64) (T2 : zT), CT wi2 wl2 T2 → MT wi2 wl2 T2 → Jm 23 (alk (k + 1)) [] (GL, wi2, wl2) c1 c2) : Jm 469 (alk k) [] (GL, wi, wl) c1 c2 := by
  refine hs 400 469 _ _ _ _ _ ?_
  conv => whnf
  repeat ((first | refine ⟨zH_of _, ?_⟩ | refine ⟨trivial, ?_⟩ | refine ⟨rfl, ?_⟩ | refine ⟨fun hc => absurd hc (by decide), fun _ => ?_⟩ | refine ⟨fun _ => ?_, fun hc => absurd (by decide) hc⟩ | refine ⟨fun _ => ?_, fun hc => absurd hc (by decide)⟩ | refine ⟨fun hc => absurd (by decide) hc, fun _ => ?_⟩); conv => whnf)
  try dsimp only
  refine ⟨hv 1 (by decide), ?_⟩
  conv => whnf
  repeat ((first | refine ⟨zH_of _, ?_⟩ | refine ⟨trivial, ?_⟩ | refine ⟨rfl, ?_⟩ | refine ⟨fun hc => absurd hc (by decide), fun _ => ?_⟩ | refine ⟨fun _ => ?_, fun hc => absurd (by decide) hc⟩ | refine ⟨fun _ => ?_, fun hc => absurd hc (by decide)⟩ | refine ⟨fun hc => absurd (by decide) hc, fun _ => ?_⟩); conv => whnf)
  try dsimp only
  refine ⟨hv 2 (by decide), ?_⟩
  conv => whnf
  repeat ((first | refine ⟨zH_of _, ?_⟩ | refine ⟨trivial, ?_⟩ | refine ⟨rfl, ?_⟩ | refine ⟨fun hc => absurd hc (by decide), fun _ => ?_⟩ | refine ⟨fun _ => ?_, fun hc => absurd (by decide) hc⟩ | refine ⟨fun _ => ?_, fun hc => absurd hc (by decide)⟩ | refine ⟨fun hc => absurd (by decide) hc, fun _ => ?_⟩); conv => whnf)
  try dsimp only
  refine ⟨hv 3 (by decide), ?_⟩
  conv => whnf
  repeat ((first | refine ⟨zH_of _, ?_⟩ | refine ⟨trivial, ?_⟩ | refine ⟨rfl, ?_⟩ | refine ⟨fun hc => absurd hc (by decide), fun _ => ?_⟩ | refine ⟨fun _ => ?_, fun hc => absurd (by decide) hc⟩ | refine ⟨fun _ => ?_, fun hc => absurd hc (by decide)⟩ | refine ⟨fun hc => absurd (by decide) hc, fun _ => ?_⟩); conv => whnf)
  try dsimp only
  refine ⟨zG_of _, T, hC, fun wi1 wl1 hF1 hC1 => ?_⟩
  conv => whnf
  repeat ((first | refine ⟨zH_of _, ?_⟩ | refine ⟨trivial, ?_⟩ | refine ⟨rfl, ?_⟩ | refine ⟨fun hc => absurd hc (by decide), fun _ => ?_⟩ | refine ⟨fun _ => ?_, fun hc => absurd (by decide) hc⟩ | refine ⟨fun _ => ?_, fun hc => absurd hc (by decide)⟩ | refine ⟨fun hc => absurd (by decide) hc, fun _ => ?_⟩); conv => whnf)
  try dsimp only
  refine ⟨hv 1 (by decide), ?_⟩
  conv => whnf
  repeat ((first | refine ⟨zH_of _, ?_⟩ | refine ⟨trivial, ?_⟩ | refine ⟨rfl, ?_⟩ | refine ⟨fun hc => absurd hc (by decide), fun _ => ?_⟩ | refine ⟨fun _ => ?_, fun hc => absurd (by decide) hc⟩ | refine ⟨fun _ => ?_, fun hc => absurd hc (by decide)⟩ | refine ⟨fun hc => absurd (by decide) hc, fun _ => ?_⟩); conv => whnf)
  try dsimp only
  refine ⟨hv 2 (by decide), ?_⟩
  conv => whnf
  repeat ((first | refine ⟨zH_of _, ?_⟩ | refine ⟨trivial, ?_⟩ | refine ⟨rfl, ?_⟩ | refine ⟨fun hc => absurd hc (by decide), fun _ => ?_⟩ | refine ⟨fun _ => ?_, fun hc => absurd (by decide) hc⟩ | refine ⟨fun _ => ?_, fun hc => absurd hc (by decide)⟩ | refine ⟨fun hc => absurd (by decide) hc, fun _ => ?_⟩); conv => whnf)
  try dsimp only
  refine ⟨hv 3 (by decide), ?_⟩
  conv => whnf
  repeat ((first | refine ⟨zH_of _, ?_⟩ | refine ⟨trivial, ?_⟩ | refine ⟨rfl, ?_⟩ | refine ⟨fun hc => absurd hc (by decide), fun _ => ?_⟩ | refine ⟨fun _ => ?_, fun hc => absurd (by decide) hc⟩ | refine ⟨fun _ => ?_, fun hc => absurd hc (by decide)⟩ | refine ⟨fun hc => absurd (by decide) hc, fun _ => ?_⟩); conv => whnf)
  try dsimp only
  refine ⟨T, mt_frC hM hF1, ct_ZT hC, fun wi2 wl2 hF2 hM2 => ?_⟩
  conv => whnf
  repeat ((first | refine ⟨zH_of _, ?_⟩ | refine ⟨trivial, ?_⟩ | refine ⟨rfl, ?_⟩ | refine ⟨fun hc => absurd hc (by decide), fun _ => ?_⟩ | refine ⟨fun _ => ?_, fun hc => absurd (by decide) hc⟩ | refine ⟨fun _ => ?_, fun hc => absurd hc (by decide)⟩ | refine ⟨fun hc => absurd (by decide) hc, fun _ => ?_⟩); conv => whnf)
  try dsimp only
  refine ⟨fun _ => ?_, fun hc => absurd rfl hc⟩
  conv => whnf
  repeat ((first | refine ⟨zH_of _, ?_⟩ | refine ⟨trivial, ?_⟩ | refine ⟨rfl, ?_⟩ | refine ⟨fun hc => absurd hc (by decide), fun _ => ?_⟩ | refine ⟨fun _ => ?_, fun hc => absurd (by decide) hc⟩ | refine ⟨fun _ => ?_, fun hc => absurd hc (by decide)⟩ | refine ⟨fun hc => absurd (by decide) hc, fun _ => ?_⟩); conv => whnf)
  try dsimp only
  exact law_n hs (hN wi2 wl2 _ (ct_frM hC1 hF2) hM2)
set_option maxRecDepth 100000 in
theorem law_518 (hs : ∀ (n pc : Nat) (al : zAL) (st : List Value) (w : zW) (c1 c2 : Nat), z_wp (M_L_law L xs) lawK Jm n (z_from (M_L_law L xs).1 pc) al st w c1 c2 → Jm pc al st w c1 c2) (hv : ∀ j, j < 5 → vp_in (nI (5 * k) + nI j) L) (hC : CT wi wl T) (hM : MT wi wl T) (hN : ∀ (wi2 : Nat → Nat → Int32) (wl2 : Nat → Nat → Int64) (T2 : zT), CT wi2 wl2 T2 → MT wi2 wl2 T2 → Jm 23 (alk (k + 1)) [] (GL, wi2, wl2) c1 c2) : Jm 518 (alk k) [] (GL, wi, wl) c1 c2 := by
  refine hs 400 518 _ _ _ _ _ ?_
  conv => whnf
  repeat ((first | refine ⟨zH_of _, ?_⟩ | refine ⟨trivial, ?_⟩ | refine ⟨rfl, ?_⟩ | refine ⟨fun hc => absurd hc (by decide), fun _ => ?_⟩ | refine ⟨fun _ => ?_, fun hc => absurd (by decide) hc⟩ | refine ⟨fun _ => ?_, fun hc => absurd hc (by decide)⟩ | refine ⟨fun hc => absurd (by decide) hc, fun _ => ?_⟩); conv => whnf)
  try dsimp only
  refine ⟨zG_of _, T, hC, fun wi1 wl1 hF1 hC1 => ?_⟩
  conv => whnf
  repeat ((first | refine ⟨zH_of _, ?_⟩ | refine ⟨trivial, ?_⟩ | refine ⟨rfl, ?_⟩ | refine ⟨fun hc => absurd hc (by decide), fun _ => ?_⟩ | refine ⟨fun _ => ?_, fun hc => absurd (by decide) hc⟩ | refine ⟨fun _ => ?_, fun hc => absurd hc (by decide)⟩ | refine ⟨fun hc => absurd (by decide) hc, fun _ => ?_⟩); conv => whnf)
  try dsimp only
  refine ⟨T, mt_frC hM hF1, ct_ZT hC, fun wi2 wl2 hF2 hM2 => ?_⟩
  conv => whnf
  repeat ((first | refine ⟨zH_of _, ?_⟩ | refine ⟨trivial, ?_⟩ | refine ⟨rfl, ?_⟩ | refine ⟨fun hc => absurd hc (by decide), fun _ => ?_⟩ | refine ⟨fun _ => ?_, fun hc => absurd (by decide) hc⟩ | refine ⟨fun _ => ?_, fun hc => absurd hc (by decide)⟩ | refine ⟨fun hc => absurd (by decide) hc, fun _ => ?_⟩); conv => whnf)
  try dsimp only
  refine ⟨fun _ => ?_, fun hc => absurd rfl hc⟩
  conv => whnf
  repeat ((first | refine ⟨zH_of _, ?_⟩ | refine ⟨trivial, ?_⟩ | refine ⟨rfl, ?_⟩ | refine ⟨fun hc => absurd hc (by decide), fun _ => ?_⟩ | refine ⟨fun _ => ?_, fun hc => absurd (by decide) hc⟩ | refine ⟨fun _ => ?_, fun hc => absurd hc (by decide)⟩ | refine ⟨fun hc => absurd (by decide) hc, fun _ => ?_⟩); conv => whnf)
  try dsimp only
  exact law_n hs (hN wi2 wl2 _ (ct_frM hC1 hF2) hM2)
set_option maxRecDepth 100000 in
theorem law_531 (hs : ∀ (n pc : Nat) (al : zAL) (st : List Value) (w : zW) (c1 c2 : Nat), z_wp (M_L_law L xs) lawK Jm n (z_from (M_L_law L xs).1 pc) al st w c1 c2 → Jm pc al st w c1 c2) (hv : ∀ j, j < 5 → vp_in (nI (5 * k) + nI j) L) (hC : CT wi wl T) (hM : MT wi wl T) (hN : ∀ (wi2 : Nat → Nat → Int32) (wl2 : Nat → Nat → Int64) (T2 : zT), CT wi2 wl2 T2 → MT wi2 wl2 T2 → Jm 23 (alk (k + 1)) [] (GL, wi2, wl2) c1 c2) : Jm 531 (alk k) [] (GL, wi, wl) c1 c2 := by
  refine hs 400 531 _ _ _ _ _ ?_
  conv => whnf
  repeat ((first | refine ⟨zH_of _, ?_⟩ | refine ⟨trivial, ?_⟩ | refine ⟨rfl, ?_⟩ | refine ⟨fun hc => absurd hc (by decide), fun _ => ?_⟩ | refine ⟨fun _ => ?_, fun hc => absurd (by decide) hc⟩ | refine ⟨fun _ => ?_, fun hc => absurd hc (by decide)⟩ | refine ⟨fun hc => absurd (by decide) hc, fun _ => ?_⟩); conv => whnf)
  try dsimp only
  refine ⟨zG_of _, T, hC, fun wi1 wl1 hF1 hC1 => ?_⟩
  conv => whnf
  repeat ((first | refine ⟨zH_of _, ?_⟩ | refine ⟨trivial, ?_⟩ | refine ⟨rfl, ?_⟩ | refine ⟨fun hc => absurd hc (by decide), fun _ => ?_⟩ | refine ⟨fun _ => ?_, fun hc => absurd (by decide) hc⟩ | refine ⟨fun _ => ?_, fun hc => absurd hc (by decide)⟩ | refine ⟨fun hc => absurd (by decide) hc, fun _ => ?_⟩); conv => whnf)
  try dsimp only
  refine ⟨T, mt_frC hM hF1, ct_ZT hC, fun wi2 wl2 hF2 hM2 => ?_⟩
  conv => whnf
  repeat ((first | refine ⟨zH_of _, ?_⟩ | refine ⟨trivial, ?_⟩ | refine ⟨rfl, ?_⟩ | refine ⟨fun hc => absurd hc (by decide), fun _ => ?_⟩ | refine ⟨fun _ => ?_, fun hc => absurd (by decide) hc⟩ | refine ⟨fun _ => ?_, fun hc => absurd hc (by decide)⟩ | refine ⟨fun hc => absurd (by decide) hc, fun _ => ?_⟩); conv => whnf)
  try dsimp only
  refine ⟨fun _ => ?_, fun hc => absurd rfl hc⟩
  conv => whnf
  repeat ((first | refine ⟨zH_of _, ?_⟩ | refine ⟨trivial, ?_⟩ | refine ⟨rfl, ?_⟩ | refine ⟨fun hc => absurd hc (by decide), fun _ => ?_⟩ | refine ⟨fun _ => ?_, fun hc => absurd (by decide) hc⟩ | refine ⟨fun _ => ?_, fun hc => absurd hc (by decide)⟩ | refine ⟨fun hc => absurd (by decide) hc, fun _ => ?_⟩); conv => whnf)
  try dsimp only
  exact law_n hs (hN wi2 wl2 _ (ct_frM hC1 hF2) hM2)
set_option maxRecDepth 100000 in
theorem law_544 (hs : ∀ (n pc : Nat) (al : zAL) (st : List Value) (w : zW) (c1 c2 : Nat), z_wp (M_L_law L xs) lawK Jm n (z_from (M_L_law L xs).1 pc) al st w c1 c2 → Jm pc al st w c1 c2) (hv : ∀ j, j < 5 → vp_in (nI (5 * k) + nI j) L) (hC : CT wi wl T) (hM : MT wi wl T) (hN : ∀ (wi2 : Nat → Nat → Int32) (wl2 : Nat → Nat → Int64) (T2 : zT), CT wi2 wl2 T2 → MT wi2 wl2 T2 → Jm 23 (alk (k + 1)) [] (GL, wi2, wl2) c1 c2) : Jm 544 (alk k) [] (GL, wi, wl) c1 c2 := by
  refine hs 400 544 _ _ _ _ _ ?_
  conv => whnf
  repeat ((first | refine ⟨zH_of _, ?_⟩ | refine ⟨trivial, ?_⟩ | refine ⟨rfl, ?_⟩ | refine ⟨fun hc => absurd hc (by decide), fun _ => ?_⟩ | refine ⟨fun _ => ?_, fun hc => absurd (by decide) hc⟩ | refine ⟨fun _ => ?_, fun hc => absurd hc (by decide)⟩ | refine ⟨fun hc => absurd (by decide) hc, fun _ => ?_⟩); conv => whnf)
  try dsimp only
  refine ⟨hv 1 (by decide), ?_⟩
  conv => whnf
  repeat ((first | refine ⟨zH_of _, ?_⟩ | refine ⟨trivial, ?_⟩ | refine ⟨rfl, ?_⟩ | refine ⟨fun hc => absurd hc (by decide), fun _ => ?_⟩ | refine ⟨fun _ => ?_, fun hc => absurd (by decide) hc⟩ | refine ⟨fun _ => ?_, fun hc => absurd hc (by decide)⟩ | refine ⟨fun hc => absurd (by decide) hc, fun _ => ?_⟩); conv => whnf)
  try dsimp only
  refine ⟨hv 2 (by decide), ?_⟩
  conv => whnf
  repeat ((first | refine ⟨zH_of _, ?_⟩ | refine ⟨trivial, ?_⟩ | refine ⟨rfl, ?_⟩ | refine ⟨fun hc => absurd hc (by decide), fun _ => ?_⟩ | refine ⟨fun _ => ?_, fun hc => absurd (by decide) hc⟩ | refine ⟨fun _ => ?_, fun hc => absurd hc (by decide)⟩ | refine ⟨fun hc => absurd (by decide) hc, fun _ => ?_⟩); conv => whnf)
  try dsimp only
  refine ⟨hv 3 (by decide), ?_⟩
  conv => whnf
  repeat ((first | refine ⟨zH_of _, ?_⟩ | refine ⟨trivial, ?_⟩ | refine ⟨rfl, ?_⟩ | refine ⟨fun hc => absurd hc (by decide), fun _ => ?_⟩ | refine ⟨fun _ => ?_, fun hc => absurd (by decide) hc⟩ | refine ⟨fun _ => ?_, fun hc => absurd hc (by decide)⟩ | refine ⟨fun hc => absurd (by decide) hc, fun _ => ?_⟩); conv => whnf)
  try dsimp only
  refine ⟨zG_of _, T, hC, fun wi1 wl1 hF1 hC1 => ?_⟩
  conv => whnf
  repeat ((first | refine ⟨zH_of _, ?_⟩ | refine ⟨trivial, ?_⟩ | refine ⟨rfl, ?_⟩ | refine ⟨fun hc => absurd hc (by decide), fun _ => ?_⟩ | refine ⟨fun _ => ?_, fun hc => absurd (by decide) hc⟩ | refine ⟨fun _ => ?_, fun hc => absurd hc (by decide)⟩ | refine ⟨fun hc => absurd (by decide) hc, fun _ => ?_⟩); conv => whnf)
  try dsimp only
  refine ⟨hv 1 (by decide), ?_⟩
  conv => whnf
  repeat ((first | refine ⟨zH_of _, ?_⟩ | refine ⟨trivial, ?_⟩ | refine ⟨rfl, ?_⟩ | refine ⟨fun hc => absurd hc (by decide), fun _ => ?_⟩ | refine ⟨fun _ => ?_, fun hc => absurd (by decide) hc⟩ | refine ⟨fun _ => ?_, fun hc => absurd hc (by decide)⟩ | refine ⟨fun hc => absurd (by decide) hc, fun _ => ?_⟩); conv => whnf)
  try dsimp only
  refine ⟨hv 2 (by decide), ?_⟩
  conv => whnf
  repeat ((first | refine ⟨zH_of _, ?_⟩ | refine ⟨trivial, ?_⟩ | refine ⟨rfl, ?_⟩ | refine ⟨fun hc => absurd hc (by decide), fun _ => ?_⟩ | refine ⟨fun _ => ?_, fun hc => absurd (by decide) hc⟩ | refine ⟨fun _ => ?_, fun hc => absurd hc (by decide)⟩ | refine ⟨fun hc => absurd (by decide) hc, fun _ => ?_⟩); conv => whnf)
  try dsimp only
  refine ⟨hv 3 (by decide), ?_⟩
  conv => whnf
  repeat ((first | refine ⟨zH_of _, ?_⟩ | refine ⟨trivial, ?_⟩ | refine ⟨rfl, ?_⟩ | refine ⟨fun hc => absurd hc (by decide), fun _ => ?_⟩ | refine ⟨fun _ => ?_, fun hc => absurd (by decide) hc⟩ | refine ⟨fun _ => ?_, fun hc => absurd hc (by decide)⟩ | refine ⟨fun hc => absurd (by decide) hc, fun _ => ?_⟩); conv => whnf)
  try dsimp only
  refine ⟨T, mt_frC hM hF1, ct_ZT hC, fun wi2 wl2 hF2 hM2 => ?_⟩
  conv => whnf
  repeat ((first | refine ⟨zH_of _, ?_⟩ | refine ⟨trivial, ?_⟩ | refine ⟨rfl, ?_⟩ | refine ⟨fun hc => absurd hc (by decide), fun _ => ?_⟩ | refine ⟨fun _ => ?_, fun hc => absurd (by decide) hc⟩ | refine ⟨fun _ => ?_, fun hc => absurd hc (by decide)⟩ | refine ⟨fun hc => absurd (by decide) hc, fun _ => ?_⟩); conv => whnf)
  try dsimp only
  refine ⟨fun _ => ?_, fun hc => absurd rfl hc⟩
  conv => whnf
  repeat ((first | refine ⟨zH_of _, ?_⟩ | refine ⟨trivial, ?_⟩ | refine ⟨rfl, ?_⟩ | refine ⟨fun hc => absurd hc (by decide), fun _ => ?_⟩ | refine ⟨fun _ => ?_, fun hc => absurd (by decide) hc⟩ | refine ⟨fun _ => ?_, fun hc => absurd hc (by decide)⟩ | refine ⟨fun hc => absurd (by decide) hc, fun _ => ?_⟩); conv => whnf)
  try dsimp only
  exact law_n hs (hN wi2 wl2 _ (ct_frM hC1 hF2) hM2)
set_option maxRecDepth 100000 in
theorem law_593 (hs : ∀ (n pc : Nat) (al : zAL) (st : List Value) (w : zW) (c1 c2 : Nat), z_wp (M_L_law L xs) lawK Jm n (z_from (M_L_law L xs).1 pc) al st w c1 c2 → Jm pc al st w c1 c2) (hv : ∀ j, j < 5 → vp_in (nI (5 * k) + nI j) L) (hC : CT wi wl T) (hM : MT wi wl T) (hN : ∀ (wi2 : Nat → Nat → Int32) (wl2 : Nat → Nat → Int64) (T2 : zT), CT wi2 wl2 T2 → MT wi2 wl2 T2 → Jm 23 (alk (k + 1)) [] (GL, wi2, wl2) c1 c2) : Jm 593 (alk k) [] (GL, wi, wl) c1 c2 := by
  refine hs 400 593 _ _ _ _ _ ?_
  conv => whnf
  repeat ((first | refine ⟨zH_of _, ?_⟩ | refine ⟨trivial, ?_⟩ | refine ⟨rfl, ?_⟩ | refine ⟨fun hc => absurd hc (by decide), fun _ => ?_⟩ | refine ⟨fun _ => ?_, fun hc => absurd (by decide) hc⟩ | refine ⟨fun _ => ?_, fun hc => absurd hc (by decide)⟩ | refine ⟨fun hc => absurd (by decide) hc, fun _ => ?_⟩); conv => whnf)
  try dsimp only
  refine ⟨zG_of _, T, hC, fun wi1 wl1 hF1 hC1 => ?_⟩
  conv => whnf
  repeat ((first | refine ⟨zH_of _, ?_⟩ | refine ⟨trivial, ?_⟩ | refine ⟨rfl, ?_⟩ | refine ⟨fun hc => absurd hc (by decide), fun _ => ?_⟩ | refine ⟨fun _ => ?_, fun hc => absurd (by decide) hc⟩ | refine ⟨fun _ => ?_, fun hc => absurd hc (by decide)⟩ | refine ⟨fun hc => absurd (by decide) hc, fun _ => ?_⟩); conv => whnf)
  try dsimp only
  refine ⟨T, mt_frC hM hF1, ct_ZT hC, fun wi2 wl2 hF2 hM2 => ?_⟩
  conv => whnf
  repeat ((first | refine ⟨zH_of _, ?_⟩ | refine ⟨trivial, ?_⟩ | refine ⟨rfl, ?_⟩ | refine ⟨fun hc => absurd hc (by decide), fun _ => ?_⟩ | refine ⟨fun _ => ?_, fun hc => absurd (by decide) hc⟩ | refine ⟨fun _ => ?_, fun hc => absurd hc (by decide)⟩ | refine ⟨fun hc => absurd (by decide) hc, fun _ => ?_⟩); conv => whnf)
  try dsimp only
  refine ⟨fun _ => ?_, fun hc => absurd rfl hc⟩
  conv => whnf
  repeat ((first | refine ⟨zH_of _, ?_⟩ | refine ⟨trivial, ?_⟩ | refine ⟨rfl, ?_⟩ | refine ⟨fun hc => absurd hc (by decide), fun _ => ?_⟩ | refine ⟨fun _ => ?_, fun hc => absurd (by decide) hc⟩ | refine ⟨fun _ => ?_, fun hc => absurd hc (by decide)⟩ | refine ⟨fun hc => absurd (by decide) hc, fun _ => ?_⟩); conv => whnf)
  try dsimp only
  exact law_n hs (hN wi2 wl2 _ (ct_frM hC1 hF2) hM2)
set_option maxRecDepth 100000 in
theorem law_606 (hs : ∀ (n pc : Nat) (al : zAL) (st : List Value) (w : zW) (c1 c2 : Nat), z_wp (M_L_law L xs) lawK Jm n (z_from (M_L_law L xs).1 pc) al st w c1 c2 → Jm pc al st w c1 c2) (hv : ∀ j, j < 5 → vp_in (nI (5 * k) + nI j) L) (hC : CT wi wl T) (hM : MT wi wl T) (hN : ∀ (wi2 : Nat → Nat → Int32) (wl2 : Nat → Nat → Int64) (T2 : zT), CT wi2 wl2 T2 → MT wi2 wl2 T2 → Jm 23 (alk (k + 1)) [] (GL, wi2, wl2) c1 c2) : Jm 606 (alk k) [] (GL, wi, wl) c1 c2 := by
  refine hs 400 606 _ _ _ _ _ ?_
  conv => whnf
  repeat ((first | refine ⟨zH_of _, ?_⟩ | refine ⟨trivial, ?_⟩ | refine ⟨rfl, ?_⟩ | refine ⟨fun hc => absurd hc (by decide), fun _ => ?_⟩ | refine ⟨fun _ => ?_, fun hc => absurd (by decide) hc⟩ | refine ⟨fun _ => ?_, fun hc => absurd hc (by decide)⟩ | refine ⟨fun hc => absurd (by decide) hc, fun _ => ?_⟩); conv => whnf)
  try dsimp only
  refine ⟨hv 1 (by decide), ?_⟩
  conv => whnf
  repeat ((first | refine ⟨zH_of _, ?_⟩ | refine ⟨trivial, ?_⟩ | refine ⟨rfl, ?_⟩ | refine ⟨fun hc => absurd hc (by decide), fun _ => ?_⟩ | refine ⟨fun _ => ?_, fun hc => absurd (by decide) hc⟩ | refine ⟨fun _ => ?_, fun hc => absurd hc (by decide)⟩ | refine ⟨fun hc => absurd (by decide) hc, fun _ => ?_⟩); conv => whnf)
  try dsimp only
  refine ⟨hv 2 (by decide), ?_⟩
  conv => whnf
  repeat ((first | refine ⟨zH_of _, ?_⟩ | refine ⟨trivial, ?_⟩ | refine ⟨rfl, ?_⟩ | refine ⟨fun hc => absurd hc (by decide), fun _ => ?_⟩ | refine ⟨fun _ => ?_, fun hc => absurd (by decide) hc⟩ | refine ⟨fun _ => ?_, fun hc => absurd hc (by decide)⟩ | refine ⟨fun hc => absurd (by decide) hc, fun _ => ?_⟩); conv => whnf)
  try dsimp only
  refine ⟨hv 3 (by decide), ?_⟩
  conv => whnf
  repeat ((first | refine ⟨zH_of _, ?_⟩ | refine ⟨trivial, ?_⟩ | refine ⟨rfl, ?_⟩ | refine ⟨fun hc => absurd hc (by decide), fun _ => ?_⟩ | refine ⟨fun _ => ?_, fun hc => absurd (by decide) hc⟩ | refine ⟨fun _ => ?_, fun hc => absurd hc (by decide)⟩ | refine ⟨fun hc => absurd (by decide) hc, fun _ => ?_⟩); conv => whnf)
  try dsimp only
  refine ⟨zG_of _, T, hC, fun wi1 wl1 hF1 hC1 => ?_⟩
  conv => whnf
  repeat ((first | refine ⟨zH_of _, ?_⟩ | refine ⟨trivial, ?_⟩ | refine ⟨rfl, ?_⟩ | refine ⟨fun hc => absurd hc (by decide), fun _ => ?_⟩ | refine ⟨fun _ => ?_, fun hc => absurd (by decide) hc⟩ | refine ⟨fun _ => ?_, fun hc => absurd hc (by decide)⟩ | refine ⟨fun hc => absurd (by decide) hc, fun _ => ?_⟩); conv => whnf)
  try dsimp only
  refine ⟨hv 1 (by decide), ?_⟩
  conv => whnf
  repeat ((first | refine ⟨zH_of _, ?_⟩ | refine ⟨trivial, ?_⟩ | refine ⟨rfl, ?_⟩ | refine ⟨fun hc => absurd hc (by decide), fun _ => ?_⟩ | refine ⟨fun _ => ?_, fun hc => absurd (by decide) hc⟩ | refine ⟨fun _ => ?_, fun hc => absurd hc (by decide)⟩ | refine ⟨fun hc => absurd (by decide) hc, fun _ => ?_⟩); conv => whnf)
  try dsimp only
  refine ⟨hv 2 (by decide), ?_⟩
  conv => whnf
  repeat ((first | refine ⟨zH_of _, ?_⟩ | refine ⟨trivial, ?_⟩ | refine ⟨rfl, ?_⟩ | refine ⟨fun hc => absurd hc (by decide), fun _ => ?_⟩ | refine ⟨fun _ => ?_, fun hc => absurd (by decide) hc⟩ | refine ⟨fun _ => ?_, fun hc => absurd hc (by decide)⟩ | refine ⟨fun hc => absurd (by decide) hc, fun _ => ?_⟩); conv => whnf)
  try dsimp only
  refine ⟨hv 3 (by decide), ?_⟩
  conv => whnf
  repeat ((first | refine ⟨zH_of _, ?_⟩ | refine ⟨trivial, ?_⟩ | refine ⟨rfl, ?_⟩ | refine ⟨fun hc => absurd hc (by decide), fun _ => ?_⟩ | refine ⟨fun _ => ?_, fun hc => absurd (by decide) hc⟩ | refine ⟨fun _ => ?_, fun hc => absurd hc (by decide)⟩ | refine ⟨fun hc => absurd (by decide) hc, fun _ => ?_⟩); conv => whnf)
  try dsimp only
  refine ⟨T, mt_frC hM hF1, ct_ZT hC, fun wi2 wl2 hF2 hM2 => ?_⟩
  conv => whnf
  repeat ((first | refine ⟨zH_of _, ?_⟩ | refine ⟨trivial, ?_⟩ | refine ⟨rfl, ?_⟩ | refine ⟨fun hc => absurd hc (by decide), fun _ => ?_⟩ | refine ⟨fun _ => ?_, fun hc => absurd (by decide) hc⟩ | refine ⟨fun _ => ?_, fun hc => absurd hc (by decide)⟩ | refine ⟨fun hc => absurd (by decide) hc, fun _ => ?_⟩); conv => whnf)
  try dsimp only
  refine ⟨fun _ => ?_, fun hc => absurd rfl hc⟩
  conv => whnf
  repeat ((first | refine ⟨zH_of _, ?_⟩ | refine ⟨trivial, ?_⟩ | refine ⟨rfl, ?_⟩ | refine ⟨fun hc => absurd hc (by decide), fun _ => ?_⟩ | refine ⟨fun _ => ?_, fun hc => absurd (by decide) hc⟩ | refine ⟨fun _ => ?_, fun hc => absurd hc (by decide)⟩ | refine ⟨fun hc => absurd (by decide) hc, fun _ => ?_⟩); conv => whnf)
  try dsimp only
  exact law_n hs (hN wi2 wl2 _ (ct_frM hC1 hF2) hM2)
set_option maxRecDepth 100000 in
theorem law_655 (hs : ∀ (n pc : Nat) (al : zAL) (st : List Value) (w : zW) (c1 c2 : Nat), z_wp (M_L_law L xs) lawK Jm n (z_from (M_L_law L xs).1 pc) al st w c1 c2 → Jm pc al st w c1 c2) (hv : ∀ j, j < 5 → vp_in (nI (5 * k) + nI j) L) (hC : CT wi wl T) (hM : MT wi wl T) (hN : ∀ (wi2 : Nat → Nat → Int32) (wl2 : Nat → Nat → Int64) (T2 : zT), CT wi2 wl2 T2 → MT wi2 wl2 T2 → Jm 23 (alk (k + 1)) [] (GL, wi2, wl2) c1 c2) : Jm 655 (alk k) [] (GL, wi, wl) c1 c2 := by
  refine hs 400 655 _ _ _ _ _ ?_
  conv => whnf
  repeat ((first | refine ⟨zH_of _, ?_⟩ | refine ⟨trivial, ?_⟩ | refine ⟨rfl, ?_⟩ | refine ⟨fun hc => absurd hc (by decide), fun _ => ?_⟩ | refine ⟨fun _ => ?_, fun hc => absurd (by decide) hc⟩ | refine ⟨fun _ => ?_, fun hc => absurd hc (by decide)⟩ | refine ⟨fun hc => absurd (by decide) hc, fun _ => ?_⟩); conv => whnf)
  try dsimp only
  refine ⟨zG_of _, T, hC, fun wi1 wl1 hF1 hC1 => ?_⟩
  conv => whnf
  repeat ((first | refine ⟨zH_of _, ?_⟩ | refine ⟨trivial, ?_⟩ | refine ⟨rfl, ?_⟩ | refine ⟨fun hc => absurd hc (by decide), fun _ => ?_⟩ | refine ⟨fun _ => ?_, fun hc => absurd (by decide) hc⟩ | refine ⟨fun _ => ?_, fun hc => absurd hc (by decide)⟩ | refine ⟨fun hc => absurd (by decide) hc, fun _ => ?_⟩); conv => whnf)
  try dsimp only
  refine ⟨T, mt_frC hM hF1, ct_ZT hC, fun wi2 wl2 hF2 hM2 => ?_⟩
  conv => whnf
  repeat ((first | refine ⟨zH_of _, ?_⟩ | refine ⟨trivial, ?_⟩ | refine ⟨rfl, ?_⟩ | refine ⟨fun hc => absurd hc (by decide), fun _ => ?_⟩ | refine ⟨fun _ => ?_, fun hc => absurd (by decide) hc⟩ | refine ⟨fun _ => ?_, fun hc => absurd hc (by decide)⟩ | refine ⟨fun hc => absurd (by decide) hc, fun _ => ?_⟩); conv => whnf)
  try dsimp only
  refine ⟨fun _ => ?_, fun hc => absurd rfl hc⟩
  conv => whnf
  repeat ((first | refine ⟨zH_of _, ?_⟩ | refine ⟨trivial, ?_⟩ | refine ⟨rfl, ?_⟩ | refine ⟨fun hc => absurd hc (by decide), fun _ => ?_⟩ | refine ⟨fun _ => ?_, fun hc => absurd (by decide) hc⟩ | refine ⟨fun _ => ?_, fun hc => absurd hc (by decide)⟩ | refine ⟨fun hc => absurd (by decide) hc, fun _ => ?_⟩); conv => whnf)
  try dsimp only
  exact law_n hs (hN wi2 wl2 _ (ct_frM hC1 hF2) hM2)
set_option maxRecDepth 100000 in
theorem law_668 (hs : ∀ (n pc : Nat) (al : zAL) (st : List Value) (w : zW) (c1 c2 : Nat), z_wp (M_L_law L xs) lawK Jm n (z_from (M_L_law L xs).1 pc) al st w c1 c2 → Jm pc al st w c1 c2) (hv : ∀ j, j < 5 → vp_in (nI (5 * k) + nI j) L) (hC : CT wi wl T) (hM : MT wi wl T) (hN : ∀ (wi2 : Nat → Nat → Int32) (wl2 : Nat → Nat → Int64) (T2 : zT), CT wi2 wl2 T2 → MT wi2 wl2 T2 → Jm 23 (alk (k + 1)) [] (GL, wi2, wl2) c1 c2) : Jm 668 (alk k) [] (GL, wi, wl) c1 c2 := by
  refine hs 400 668 _ _ _ _ _ ?_
  conv => whnf
  repeat ((first | refine ⟨zH_of _, ?_⟩ | refine ⟨trivial, ?_⟩ | refine ⟨rfl, ?_⟩ | refine ⟨fun hc => absurd hc (by decide), fun _ => ?_⟩ | refine ⟨fun _ => ?_, fun hc => absurd (by decide) hc⟩ | refine ⟨fun _ => ?_, fun hc => absurd hc (by decide)⟩ | refine ⟨fun hc => absurd (by decide) hc, fun _ => ?_⟩); conv => whnf)
  try dsimp only
  refine ⟨zG_of _, T, hC, fun wi1 wl1 hF1 hC1 => ?_⟩
  conv => whnf
  repeat ((first | refine ⟨zH_of _, ?_⟩ | refine ⟨trivial, ?_⟩ | refine ⟨rfl, ?_⟩ | refine ⟨fun hc => absurd hc (by decide), fun _ => ?_⟩ | refine ⟨fun _ => ?_, fun hc => absurd (by decide) hc⟩ | refine ⟨fun _ => ?_, fun hc => absurd hc (by decide)⟩ | refine ⟨fun hc => absurd (by decide) hc, fun _ => ?_⟩); conv => whnf)
  try dsimp only
  refine ⟨T, mt_frC hM hF1, ct_ZT hC, fun wi2 wl2 hF2 hM2 => ?_⟩
  conv => whnf
  repeat ((first | refine ⟨zH_of _, ?_⟩ | refine ⟨trivial, ?_⟩ | refine ⟨rfl, ?_⟩ | refine ⟨fun hc => absurd hc (by decide), fun _ => ?_⟩ | refine ⟨fun _ => ?_, fun hc => absurd (by decide) hc⟩ | refine ⟨fun _ => ?_, fun hc => absurd hc (by decide)⟩ | refine ⟨fun hc => absurd (by decide) hc, fun _ => ?_⟩); conv => whnf)
  try dsimp only
  refine ⟨fun _ => ?_, fun hc => absurd rfl hc⟩
  conv => whnf
  repeat ((first | refine ⟨zH_of _, ?_⟩ | refine ⟨trivial, ?_⟩ | refine ⟨rfl, ?_⟩ | refine ⟨fun hc => absurd hc (by decide), fun _ => ?_⟩ | refine ⟨fun _ => ?_, fun hc => absurd (by decide) hc⟩ | refine ⟨fun _ => ?_, fun hc => absurd hc (by decide)⟩ | refine ⟨fun hc => absurd (by decide) hc, fun _ => ?_⟩); conv => whnf)
  try dsimp only
  exact law_n hs (hN wi2 wl2 _ (ct_frM hC1 hF2) hM2)
set_option maxRecDepth 100000 in
theorem law_681 (hs : ∀ (n pc : Nat) (al : zAL) (st : List Value) (w : zW) (c1 c2 : Nat), z_wp (M_L_law L xs) lawK Jm n (z_from (M_L_law L xs).1 pc) al st w c1 c2 → Jm pc al st w c1 c2) (hv : ∀ j, j < 5 → vp_in (nI (5 * k) + nI j) L) (hC : CT wi wl T) (hM : MT wi wl T) (hN : ∀ (wi2 : Nat → Nat → Int32) (wl2 : Nat → Nat → Int64) (T2 : zT), CT wi2 wl2 T2 → MT wi2 wl2 T2 → Jm 23 (alk (k + 1)) [] (GL, wi2, wl2) c1 c2) : Jm 681 (alk k) [] (GL, wi, wl) c1 c2 := by
  refine hs 400 681 _ _ _ _ _ ?_
  conv => whnf
  repeat ((first | refine ⟨zH_of _, ?_⟩ | refine ⟨trivial, ?_⟩ | refine ⟨rfl, ?_⟩ | refine ⟨fun hc => absurd hc (by decide), fun _ => ?_⟩ | refine ⟨fun _ => ?_, fun hc => absurd (by decide) hc⟩ | refine ⟨fun _ => ?_, fun hc => absurd hc (by decide)⟩ | refine ⟨fun hc => absurd (by decide) hc, fun _ => ?_⟩); conv => whnf)
  try dsimp only
  refine ⟨hv 1 (by decide), ?_⟩
  conv => whnf
  repeat ((first | refine ⟨zH_of _, ?_⟩ | refine ⟨trivial, ?_⟩ | refine ⟨rfl, ?_⟩ | refine ⟨fun hc => absurd hc (by decide), fun _ => ?_⟩ | refine ⟨fun _ => ?_, fun hc => absurd (by decide) hc⟩ | refine ⟨fun _ => ?_, fun hc => absurd hc (by decide)⟩ | refine ⟨fun hc => absurd (by decide) hc, fun _ => ?_⟩); conv => whnf)
  try dsimp only
  refine ⟨hv 2 (by decide), ?_⟩
  conv => whnf
  repeat ((first | refine ⟨zH_of _, ?_⟩ | refine ⟨trivial, ?_⟩ | refine ⟨rfl, ?_⟩ | refine ⟨fun hc => absurd hc (by decide), fun _ => ?_⟩ | refine ⟨fun _ => ?_, fun hc => absurd (by decide) hc⟩ | refine ⟨fun _ => ?_, fun hc => absurd hc (by decide)⟩ | refine ⟨fun hc => absurd (by decide) hc, fun _ => ?_⟩); conv => whnf)
  try dsimp only
  refine ⟨zG_of _, T, hC, fun wi1 wl1 hF1 hC1 => ?_⟩
  conv => whnf
  repeat ((first | refine ⟨zH_of _, ?_⟩ | refine ⟨trivial, ?_⟩ | refine ⟨rfl, ?_⟩ | refine ⟨fun hc => absurd hc (by decide), fun _ => ?_⟩ | refine ⟨fun _ => ?_, fun hc => absurd (by decide) hc⟩ | refine ⟨fun _ => ?_, fun hc => absurd hc (by decide)⟩ | refine ⟨fun hc => absurd (by decide) hc, fun _ => ?_⟩); conv => whnf)
  try dsimp only
  refine ⟨hv 1 (by decide), ?_⟩
  conv => whnf
  repeat ((first | refine ⟨zH_of _, ?_⟩ | refine ⟨trivial, ?_⟩ | refine ⟨rfl, ?_⟩ | refine ⟨fun hc => absurd hc (by decide), fun _ => ?_⟩ | refine ⟨fun _ => ?_, fun hc => absurd (by decide) hc⟩ | refine ⟨fun _ => ?_, fun hc => absurd hc (by decide)⟩ | refine ⟨fun hc => absurd (by decide) hc, fun _ => ?_⟩); conv => whnf)
  try dsimp only
  refine ⟨hv 2 (by decide), ?_⟩
  conv => whnf
  repeat ((first | refine ⟨zH_of _, ?_⟩ | refine ⟨trivial, ?_⟩ | refine ⟨rfl, ?_⟩ | refine ⟨fun hc => absurd hc (by decide), fun _ => ?_⟩ | refine ⟨fun _ => ?_, fun hc => absurd (by decide) hc⟩ | refine ⟨fun _ => ?_, fun hc => absurd hc (by decide)⟩ | refine ⟨fun hc => absurd (by decide) hc, fun _ => ?_⟩); conv => whnf)
  try dsimp only
  refine ⟨T, mt_frC hM hF1, ct_ZT hC, fun wi2 wl2 hF2 hM2 => ?_⟩
  conv => whnf
  repeat ((first | refine ⟨zH_of _, ?_⟩ | refine ⟨trivial, ?_⟩ | refine ⟨rfl, ?_⟩ | refine ⟨fun hc => absurd hc (by decide), fun _ => ?_⟩ | refine ⟨fun _ => ?_, fun hc => absurd (by decide) hc⟩ | refine ⟨fun _ => ?_, fun hc => absurd hc (by decide)⟩ | refine ⟨fun hc => absurd (by decide) hc, fun _ => ?_⟩); conv => whnf)
  try dsimp only
  refine ⟨fun _ => ?_, fun hc => absurd rfl hc⟩
  conv => whnf
  repeat ((first | refine ⟨zH_of _, ?_⟩ | refine ⟨trivial, ?_⟩ | refine ⟨rfl, ?_⟩ | refine ⟨fun hc => absurd hc (by decide), fun _ => ?_⟩ | refine ⟨fun _ => ?_, fun hc => absurd (by decide) hc⟩ | refine ⟨fun _ => ?_, fun hc => absurd hc (by decide)⟩ | refine ⟨fun hc => absurd (by decide) hc, fun _ => ?_⟩); conv => whnf)
  try dsimp only
  exact law_n hs (hN wi2 wl2 _ (ct_frM hC1 hF2) hM2)
set_option maxRecDepth 100000 in
theorem law_718 (hs : ∀ (n pc : Nat) (al : zAL) (st : List Value) (w : zW) (c1 c2 : Nat), z_wp (M_L_law L xs) lawK Jm n (z_from (M_L_law L xs).1 pc) al st w c1 c2 → Jm pc al st w c1 c2) (hv : ∀ j, j < 5 → vp_in (nI (5 * k) + nI j) L) (hC : CT wi wl T) (hM : MT wi wl T) (hN : ∀ (wi2 : Nat → Nat → Int32) (wl2 : Nat → Nat → Int64) (T2 : zT), CT wi2 wl2 T2 → MT wi2 wl2 T2 → Jm 23 (alk (k + 1)) [] (GL, wi2, wl2) c1 c2) : Jm 718 (alk k) [] (GL, wi, wl) c1 c2 := by
  refine hs 400 718 _ _ _ _ _ ?_
  conv => whnf
  repeat ((first | refine ⟨zH_of _, ?_⟩ | refine ⟨trivial, ?_⟩ | refine ⟨rfl, ?_⟩ | refine ⟨fun hc => absurd hc (by decide), fun _ => ?_⟩ | refine ⟨fun _ => ?_, fun hc => absurd (by decide) hc⟩ | refine ⟨fun _ => ?_, fun hc => absurd hc (by decide)⟩ | refine ⟨fun hc => absurd (by decide) hc, fun _ => ?_⟩); conv => whnf)
  try dsimp only
  refine ⟨hv 1 (by decide), ?_⟩
  conv => whnf
  repeat ((first | refine ⟨zH_of _, ?_⟩ | refine ⟨trivial, ?_⟩ | refine ⟨rfl, ?_⟩ | refine ⟨fun hc => absurd hc (by decide), fun _ => ?_⟩ | refine ⟨fun _ => ?_, fun hc => absurd (by decide) hc⟩ | refine ⟨fun _ => ?_, fun hc => absurd hc (by decide)⟩ | refine ⟨fun hc => absurd (by decide) hc, fun _ => ?_⟩); conv => whnf)
  try dsimp only
  refine ⟨hv 2 (by decide), ?_⟩
  conv => whnf
  repeat ((first | refine ⟨zH_of _, ?_⟩ | refine ⟨trivial, ?_⟩ | refine ⟨rfl, ?_⟩ | refine ⟨fun hc => absurd hc (by decide), fun _ => ?_⟩ | refine ⟨fun _ => ?_, fun hc => absurd (by decide) hc⟩ | refine ⟨fun _ => ?_, fun hc => absurd hc (by decide)⟩ | refine ⟨fun hc => absurd (by decide) hc, fun _ => ?_⟩); conv => whnf)
  try dsimp only
  refine ⟨hv 3 (by decide), ?_⟩
  conv => whnf
  repeat ((first | refine ⟨zH_of _, ?_⟩ | refine ⟨trivial, ?_⟩ | refine ⟨rfl, ?_⟩ | refine ⟨fun hc => absurd hc (by decide), fun _ => ?_⟩ | refine ⟨fun _ => ?_, fun hc => absurd (by decide) hc⟩ | refine ⟨fun _ => ?_, fun hc => absurd hc (by decide)⟩ | refine ⟨fun hc => absurd (by decide) hc, fun _ => ?_⟩); conv => whnf)
  try dsimp only
  refine ⟨zG_of _, T, hC, fun wi1 wl1 hF1 hC1 => ?_⟩
  conv => whnf
  repeat ((first | refine ⟨zH_of _, ?_⟩ | refine ⟨trivial, ?_⟩ | refine ⟨rfl, ?_⟩ | refine ⟨fun hc => absurd hc (by decide), fun _ => ?_⟩ | refine ⟨fun _ => ?_, fun hc => absurd (by decide) hc⟩ | refine ⟨fun _ => ?_, fun hc => absurd hc (by decide)⟩ | refine ⟨fun hc => absurd (by decide) hc, fun _ => ?_⟩); conv => whnf)
  try dsimp only
  refine ⟨hv 1 (by decide), ?_⟩
  conv => whnf
  repeat ((first | refine ⟨zH_of _, ?_⟩ | refine ⟨trivial, ?_⟩ | refine ⟨rfl, ?_⟩ | refine ⟨fun hc => absurd hc (by decide), fun _ => ?_⟩ | refine ⟨fun _ => ?_, fun hc => absurd (by decide) hc⟩ | refine ⟨fun _ => ?_, fun hc => absurd hc (by decide)⟩ | refine ⟨fun hc => absurd (by decide) hc, fun _ => ?_⟩); conv => whnf)
  try dsimp only
  refine ⟨hv 2 (by decide), ?_⟩
  conv => whnf
  repeat ((first | refine ⟨zH_of _, ?_⟩ | refine ⟨trivial, ?_⟩ | refine ⟨rfl, ?_⟩ | refine ⟨fun hc => absurd hc (by decide), fun _ => ?_⟩ | refine ⟨fun _ => ?_, fun hc => absurd (by decide) hc⟩ | refine ⟨fun _ => ?_, fun hc => absurd hc (by decide)⟩ | refine ⟨fun hc => absurd (by decide) hc, fun _ => ?_⟩); conv => whnf)
  try dsimp only
  refine ⟨hv 3 (by decide), ?_⟩
  conv => whnf
  repeat ((first | refine ⟨zH_of _, ?_⟩ | refine ⟨trivial, ?_⟩ | refine ⟨rfl, ?_⟩ | refine ⟨fun hc => absurd hc (by decide), fun _ => ?_⟩ | refine ⟨fun _ => ?_, fun hc => absurd (by decide) hc⟩ | refine ⟨fun _ => ?_, fun hc => absurd hc (by decide)⟩ | refine ⟨fun hc => absurd (by decide) hc, fun _ => ?_⟩); conv => whnf)
  try dsimp only
  refine ⟨T, mt_frC hM hF1, ct_ZT hC, fun wi2 wl2 hF2 hM2 => ?_⟩
  conv => whnf
  repeat ((first | refine ⟨zH_of _, ?_⟩ | refine ⟨trivial, ?_⟩ | refine ⟨rfl, ?_⟩ | refine ⟨fun hc => absurd hc (by decide), fun _ => ?_⟩ | refine ⟨fun _ => ?_, fun hc => absurd (by decide) hc⟩ | refine ⟨fun _ => ?_, fun hc => absurd hc (by decide)⟩ | refine ⟨fun hc => absurd (by decide) hc, fun _ => ?_⟩); conv => whnf)
  try dsimp only
  refine ⟨fun _ => ?_, fun hc => absurd rfl hc⟩
  conv => whnf
  repeat ((first | refine ⟨zH_of _, ?_⟩ | refine ⟨trivial, ?_⟩ | refine ⟨rfl, ?_⟩ | refine ⟨fun hc => absurd hc (by decide), fun _ => ?_⟩ | refine ⟨fun _ => ?_, fun hc => absurd (by decide) hc⟩ | refine ⟨fun _ => ?_, fun hc => absurd hc (by decide)⟩ | refine ⟨fun hc => absurd (by decide) hc, fun _ => ?_⟩); conv => whnf)
  try dsimp only
  exact law_n hs (hN wi2 wl2 _ (ct_frM hC1 hF2) hM2)
set_option maxRecDepth 100000 in
theorem law_767 (hs : ∀ (n pc : Nat) (al : zAL) (st : List Value) (w : zW) (c1 c2 : Nat), z_wp (M_L_law L xs) lawK Jm n (z_from (M_L_law L xs).1 pc) al st w c1 c2 → Jm pc al st w c1 c2) (hv : ∀ j, j < 5 → vp_in (nI (5 * k) + nI j) L) (hC : CT wi wl T) (hM : MT wi wl T) (hN : ∀ (wi2 : Nat → Nat → Int32) (wl2 : Nat → Nat → Int64) (T2 : zT), CT wi2 wl2 T2 → MT wi2 wl2 T2 → Jm 23 (alk (k + 1)) [] (GL, wi2, wl2) c1 c2) : Jm 767 (alk k) [] (GL, wi, wl) c1 c2 := by
  refine hs 400 767 _ _ _ _ _ ?_
  conv => whnf
  repeat ((first | refine ⟨zH_of _, ?_⟩ | refine ⟨trivial, ?_⟩ | refine ⟨rfl, ?_⟩ | refine ⟨fun hc => absurd hc (by decide), fun _ => ?_⟩ | refine ⟨fun _ => ?_, fun hc => absurd (by decide) hc⟩ | refine ⟨fun _ => ?_, fun hc => absurd hc (by decide)⟩ | refine ⟨fun hc => absurd (by decide) hc, fun _ => ?_⟩); conv => whnf)
  try dsimp only
  refine ⟨hv 1 (by decide), ?_⟩
  conv => whnf
  repeat ((first | refine ⟨zH_of _, ?_⟩ | refine ⟨trivial, ?_⟩ | refine ⟨rfl, ?_⟩ | refine ⟨fun hc => absurd hc (by decide), fun _ => ?_⟩ | refine ⟨fun _ => ?_, fun hc => absurd (by decide) hc⟩ | refine ⟨fun _ => ?_, fun hc => absurd hc (by decide)⟩ | refine ⟨fun hc => absurd (by decide) hc, fun _ => ?_⟩); conv => whnf)
  try dsimp only
  refine ⟨hv 2 (by decide), ?_⟩
  conv => whnf
  repeat ((first | refine ⟨zH_of _, ?_⟩ | refine ⟨trivial, ?_⟩ | refine ⟨rfl, ?_⟩ | refine ⟨fun hc => absurd hc (by decide), fun _ => ?_⟩ | refine ⟨fun _ => ?_, fun hc => absurd (by decide) hc⟩ | refine ⟨fun _ => ?_, fun hc => absurd hc (by decide)⟩ | refine ⟨fun hc => absurd (by decide) hc, fun _ => ?_⟩); conv => whnf)
  try dsimp only
  refine ⟨hv 3 (by decide), ?_⟩
  conv => whnf
  repeat ((first | refine ⟨zH_of _, ?_⟩ | refine ⟨trivial, ?_⟩ | refine ⟨rfl, ?_⟩ | refine ⟨fun hc => absurd hc (by decide), fun _ => ?_⟩ | refine ⟨fun _ => ?_, fun hc => absurd (by decide) hc⟩ | refine ⟨fun _ => ?_, fun hc => absurd hc (by decide)⟩ | refine ⟨fun hc => absurd (by decide) hc, fun _ => ?_⟩); conv => whnf)
  try dsimp only
  refine ⟨zG_of _, T, hC, fun wi1 wl1 hF1 hC1 => ?_⟩
  conv => whnf
  repeat ((first | refine ⟨zH_of _, ?_⟩ | refine ⟨trivial, ?_⟩ | refine ⟨rfl, ?_⟩ | refine ⟨fun hc => absurd hc (by decide), fun _ => ?_⟩ | refine ⟨fun _ => ?_, fun hc => absurd (by decide) hc⟩ | refine ⟨fun _ => ?_, fun hc => absurd hc (by decide)⟩ | refine ⟨fun hc => absurd (by decide) hc, fun _ => ?_⟩); conv => whnf)
  try dsimp only
  refine ⟨hv 1 (by decide), ?_⟩
  conv => whnf
  repeat ((first | refine ⟨zH_of _, ?_⟩ | refine ⟨trivial, ?_⟩ | refine ⟨rfl, ?_⟩ | refine ⟨fun hc => absurd hc (by decide), fun _ => ?_⟩ | refine ⟨fun _ => ?_, fun hc => absurd (by decide) hc⟩ | refine ⟨fun _ => ?_, fun hc => absurd hc (by decide)⟩ | refine ⟨fun hc => absurd (by decide) hc, fun _ => ?_⟩); conv => whnf)
  try dsimp only
  refine ⟨hv 2 (by decide), ?_⟩
  conv => whnf
  repeat ((first | refine ⟨zH_of _, ?_⟩ | refine ⟨trivial, ?_⟩ | refine ⟨rfl, ?_⟩ | refine ⟨fun hc => absurd hc (by decide), fun _ => ?_⟩ | refine ⟨fun _ => ?_, fun hc => absurd (by decide) hc⟩ | refine ⟨fun _ => ?_, fun hc => absurd hc (by decide)⟩ | refine ⟨fun hc => absurd (by decide) hc, fun _ => ?_⟩); conv => whnf)
  try dsimp only
  refine ⟨hv 3 (by decide), ?_⟩
  conv => whnf
  repeat ((first | refine ⟨zH_of _, ?_⟩ | refine ⟨trivial, ?_⟩ | refine ⟨rfl, ?_⟩ | refine ⟨fun hc => absurd hc (by decide), fun _ => ?_⟩ | refine ⟨fun _ => ?_, fun hc => absurd (by decide) hc⟩ | refine ⟨fun _ => ?_, fun hc => absurd hc (by decide)⟩ | refine ⟨fun hc => absurd (by decide) hc, fun _ => ?_⟩); conv => whnf)
  try dsimp only
  refine ⟨T, mt_frC hM hF1, ct_ZT hC, fun wi2 wl2 hF2 hM2 => ?_⟩
  conv => whnf
  repeat ((first | refine ⟨zH_of _, ?_⟩ | refine ⟨trivial, ?_⟩ | refine ⟨rfl, ?_⟩ | refine ⟨fun hc => absurd hc (by decide), fun _ => ?_⟩ | refine ⟨fun _ => ?_, fun hc => absurd (by decide) hc⟩ | refine ⟨fun _ => ?_, fun hc => absurd hc (by decide)⟩ | refine ⟨fun hc => absurd (by decide) hc, fun _ => ?_⟩); conv => whnf)
  try dsimp only
  refine ⟨fun _ => ?_, fun hc => absurd rfl hc⟩
  conv => whnf
  repeat ((first | refine ⟨zH_of _, ?_⟩ | refine ⟨trivial, ?_⟩ | refine ⟨rfl, ?_⟩ | refine ⟨fun hc => absurd hc (by decide), fun _ => ?_⟩ | refine ⟨fun _ => ?_, fun hc => absurd (by decide) hc⟩ | refine ⟨fun _ => ?_, fun hc => absurd hc (by decide)⟩ | refine ⟨fun hc => absurd (by decide) hc, fun _ => ?_⟩); conv => whnf)
  try dsimp only
  exact law_n hs (hN wi2 wl2 _ (ct_frM hC1 hF2) hM2)
set_option maxRecDepth 100000 in
theorem law_816 (hs : ∀ (n pc : Nat) (al : zAL) (st : List Value) (w : zW) (c1 c2 : Nat), z_wp (M_L_law L xs) lawK Jm n (z_from (M_L_law L xs).1 pc) al st w c1 c2 → Jm pc al st w c1 c2) (hv : ∀ j, j < 5 → vp_in (nI (5 * k) + nI j) L) (hC : CT wi wl T) (hM : MT wi wl T) (hN : ∀ (wi2 : Nat → Nat → Int32) (wl2 : Nat → Nat → Int64) (T2 : zT), CT wi2 wl2 T2 → MT wi2 wl2 T2 → Jm 23 (alk (k + 1)) [] (GL, wi2, wl2) c1 c2) : Jm 816 (alk k) [] (GL, wi, wl) c1 c2 := by
  refine hs 400 816 _ _ _ _ _ ?_
  conv => whnf
  repeat ((first | refine ⟨zH_of _, ?_⟩ | refine ⟨trivial, ?_⟩ | refine ⟨rfl, ?_⟩ | refine ⟨fun hc => absurd hc (by decide), fun _ => ?_⟩ | refine ⟨fun _ => ?_, fun hc => absurd (by decide) hc⟩ | refine ⟨fun _ => ?_, fun hc => absurd hc (by decide)⟩ | refine ⟨fun hc => absurd (by decide) hc, fun _ => ?_⟩); conv => whnf)
  try dsimp only
  refine ⟨hv 1 (by decide), ?_⟩
  conv => whnf
  repeat ((first | refine ⟨zH_of _, ?_⟩ | refine ⟨trivial, ?_⟩ | refine ⟨rfl, ?_⟩ | refine ⟨fun hc => absurd hc (by decide), fun _ => ?_⟩ | refine ⟨fun _ => ?_, fun hc => absurd (by decide) hc⟩ | refine ⟨fun _ => ?_, fun hc => absurd hc (by decide)⟩ | refine ⟨fun hc => absurd (by decide) hc, fun _ => ?_⟩); conv => whnf)
  try dsimp only
  refine ⟨hv 2 (by decide), ?_⟩
  conv => whnf
  repeat ((first | refine ⟨zH_of _, ?_⟩ | refine ⟨trivial, ?_⟩ | refine ⟨rfl, ?_⟩ | refine ⟨fun hc => absurd hc (by decide), fun _ => ?_⟩ | refine ⟨fun _ => ?_, fun hc => absurd (by decide) hc⟩ | refine ⟨fun _ => ?_, fun hc => absurd hc (by decide)⟩ | refine ⟨fun hc => absurd (by decide) hc, fun _ => ?_⟩); conv => whnf)
  try dsimp only
  refine ⟨zG_of _, T, hC, fun wi1 wl1 hF1 hC1 => ?_⟩
  conv => whnf
  repeat ((first | refine ⟨zH_of _, ?_⟩ | refine ⟨trivial, ?_⟩ | refine ⟨rfl, ?_⟩ | refine ⟨fun hc => absurd hc (by decide), fun _ => ?_⟩ | refine ⟨fun _ => ?_, fun hc => absurd (by decide) hc⟩ | refine ⟨fun _ => ?_, fun hc => absurd hc (by decide)⟩ | refine ⟨fun hc => absurd (by decide) hc, fun _ => ?_⟩); conv => whnf)
  try dsimp only
  refine ⟨hv 1 (by decide), ?_⟩
  conv => whnf
  repeat ((first | refine ⟨zH_of _, ?_⟩ | refine ⟨trivial, ?_⟩ | refine ⟨rfl, ?_⟩ | refine ⟨fun hc => absurd hc (by decide), fun _ => ?_⟩ | refine ⟨fun _ => ?_, fun hc => absurd (by decide) hc⟩ | refine ⟨fun _ => ?_, fun hc => absurd hc (by decide)⟩ | refine ⟨fun hc => absurd (by decide) hc, fun _ => ?_⟩); conv => whnf)
  try dsimp only
  refine ⟨hv 2 (by decide), ?_⟩
  conv => whnf
  repeat ((first | refine ⟨zH_of _, ?_⟩ | refine ⟨trivial, ?_⟩ | refine ⟨rfl, ?_⟩ | refine ⟨fun hc => absurd hc (by decide), fun _ => ?_⟩ | refine ⟨fun _ => ?_, fun hc => absurd (by decide) hc⟩ | refine ⟨fun _ => ?_, fun hc => absurd hc (by decide)⟩ | refine ⟨fun hc => absurd (by decide) hc, fun _ => ?_⟩); conv => whnf)
  try dsimp only
  refine ⟨T, mt_frC hM hF1, ct_ZT hC, fun wi2 wl2 hF2 hM2 => ?_⟩
  conv => whnf
  repeat ((first | refine ⟨zH_of _, ?_⟩ | refine ⟨trivial, ?_⟩ | refine ⟨rfl, ?_⟩ | refine ⟨fun hc => absurd hc (by decide), fun _ => ?_⟩ | refine ⟨fun _ => ?_, fun hc => absurd (by decide) hc⟩ | refine ⟨fun _ => ?_, fun hc => absurd hc (by decide)⟩ | refine ⟨fun hc => absurd (by decide) hc, fun _ => ?_⟩); conv => whnf)
  try dsimp only
  refine ⟨fun _ => ?_, fun hc => absurd rfl hc⟩
  conv => whnf
  repeat ((first | refine ⟨zH_of _, ?_⟩ | refine ⟨trivial, ?_⟩ | refine ⟨rfl, ?_⟩ | refine ⟨fun hc => absurd hc (by decide), fun _ => ?_⟩ | refine ⟨fun _ => ?_, fun hc => absurd (by decide) hc⟩ | refine ⟨fun _ => ?_, fun hc => absurd hc (by decide)⟩ | refine ⟨fun hc => absurd (by decide) hc, fun _ => ?_⟩); conv => whnf)
  try dsimp only
  exact law_n hs (hN wi2 wl2 _ (ct_frM hC1 hF2) hM2)
set_option maxRecDepth 100000 in
theorem law_853 (hs : ∀ (n pc : Nat) (al : zAL) (st : List Value) (w : zW) (c1 c2 : Nat), z_wp (M_L_law L xs) lawK Jm n (z_from (M_L_law L xs).1 pc) al st w c1 c2 → Jm pc al st w c1 c2) (hv : ∀ j, j < 5 → vp_in (nI (5 * k) + nI j) L) (hC : CT wi wl T) (hM : MT wi wl T) (hN : ∀ (wi2 : Nat → Nat → Int32) (wl2 : Nat → Nat → Int64) (T2 : zT), CT wi2 wl2 T2 → MT wi2 wl2 T2 → Jm 23 (alk (k + 1)) [] (GL, wi2, wl2) c1 c2) : Jm 853 (alk k) [] (GL, wi, wl) c1 c2 := by
  refine hs 400 853 _ _ _ _ _ ?_
  conv => whnf
  repeat ((first | refine ⟨zH_of _, ?_⟩ | refine ⟨trivial, ?_⟩ | refine ⟨rfl, ?_⟩ | refine ⟨fun hc => absurd hc (by decide), fun _ => ?_⟩ | refine ⟨fun _ => ?_, fun hc => absurd (by decide) hc⟩ | refine ⟨fun _ => ?_, fun hc => absurd hc (by decide)⟩ | refine ⟨fun hc => absurd (by decide) hc, fun _ => ?_⟩); conv => whnf)
  try dsimp only
  refine ⟨hv 1 (by decide), ?_⟩
  conv => whnf
  repeat ((first | refine ⟨zH_of _, ?_⟩ | refine ⟨trivial, ?_⟩ | refine ⟨rfl, ?_⟩ | refine ⟨fun hc => absurd hc (by decide), fun _ => ?_⟩ | refine ⟨fun _ => ?_, fun hc => absurd (by decide) hc⟩ | refine ⟨fun _ => ?_, fun hc => absurd hc (by decide)⟩ | refine ⟨fun hc => absurd (by decide) hc, fun _ => ?_⟩); conv => whnf)
  try dsimp only
  refine ⟨zG_of _, T, hC, fun wi1 wl1 hF1 hC1 => ?_⟩
  conv => whnf
  repeat ((first | refine ⟨zH_of _, ?_⟩ | refine ⟨trivial, ?_⟩ | refine ⟨rfl, ?_⟩ | refine ⟨fun hc => absurd hc (by decide), fun _ => ?_⟩ | refine ⟨fun _ => ?_, fun hc => absurd (by decide) hc⟩ | refine ⟨fun _ => ?_, fun hc => absurd hc (by decide)⟩ | refine ⟨fun hc => absurd (by decide) hc, fun _ => ?_⟩); conv => whnf)
  try dsimp only
  refine ⟨hv 1 (by decide), ?_⟩
  conv => whnf
  repeat ((first | refine ⟨zH_of _, ?_⟩ | refine ⟨trivial, ?_⟩ | refine ⟨rfl, ?_⟩ | refine ⟨fun hc => absurd hc (by decide), fun _ => ?_⟩ | refine ⟨fun _ => ?_, fun hc => absurd (by decide) hc⟩ | refine ⟨fun _ => ?_, fun hc => absurd hc (by decide)⟩ | refine ⟨fun hc => absurd (by decide) hc, fun _ => ?_⟩); conv => whnf)
  try dsimp only
  refine ⟨T, mt_frC hM hF1, ct_ZT hC, fun wi2 wl2 hF2 hM2 => ?_⟩
  conv => whnf
  repeat ((first | refine ⟨zH_of _, ?_⟩ | refine ⟨trivial, ?_⟩ | refine ⟨rfl, ?_⟩ | refine ⟨fun hc => absurd hc (by decide), fun _ => ?_⟩ | refine ⟨fun _ => ?_, fun hc => absurd (by decide) hc⟩ | refine ⟨fun _ => ?_, fun hc => absurd hc (by decide)⟩ | refine ⟨fun hc => absurd (by decide) hc, fun _ => ?_⟩); conv => whnf)
  try dsimp only
  refine ⟨fun _ => ?_, fun hc => absurd rfl hc⟩
  conv => whnf
  repeat ((first | refine ⟨zH_of _, ?_⟩ | refine ⟨trivial, ?_⟩ | refine ⟨rfl, ?_⟩ | refine ⟨fun hc => absurd hc (by decide), fun _ => ?_⟩ | refine ⟨fun _ => ?_, fun hc => absurd (by decide) hc⟩ | refine ⟨fun _ => ?_, fun hc => absurd hc (by decide)⟩ | refine ⟨fun hc => absurd (by decide) hc, fun _ => ?_⟩); conv => whnf)
  try dsimp only
  exact law_n hs (hN wi2 wl2 _ (ct_frM hC1 hF2) hM2)
set_option maxRecDepth 100000 in
theorem law_878 (hs : ∀ (n pc : Nat) (al : zAL) (st : List Value) (w : zW) (c1 c2 : Nat), z_wp (M_L_law L xs) lawK Jm n (z_from (M_L_law L xs).1 pc) al st w c1 c2 → Jm pc al st w c1 c2) (hv : ∀ j, j < 5 → vp_in (nI (5 * k) + nI j) L) (hC : CT wi wl T) (hM : MT wi wl T) (hN : ∀ (wi2 : Nat → Nat → Int32) (wl2 : Nat → Nat → Int64) (T2 : zT), CT wi2 wl2 T2 → MT wi2 wl2 T2 → Jm 23 (alk (k + 1)) [] (GL, wi2, wl2) c1 c2) : Jm 878 (alk k) [] (GL, wi, wl) c1 c2 := by
  refine hs 400 878 _ _ _ _ _ ?_
  conv => whnf
  repeat ((first | refine ⟨zH_of _, ?_⟩ | refine ⟨trivial, ?_⟩ | refine ⟨rfl, ?_⟩ | refine ⟨fun hc => absurd hc (by decide), fun _ => ?_⟩ | refine ⟨fun _ => ?_, fun hc => absurd (by decide) hc⟩ | refine ⟨fun _ => ?_, fun hc => absurd hc (by decide)⟩ | refine ⟨fun hc => absurd (by decide) hc, fun _ => ?_⟩); conv => whnf)
  try dsimp only
  refine ⟨hv 1 (by decide), ?_⟩
  conv => whnf
  repeat ((first | refine ⟨zH_of _, ?_⟩ | refine ⟨trivial, ?_⟩ | refine ⟨rfl, ?_⟩ | refine ⟨fun hc => absurd hc (by decide), fun _ => ?_⟩ | refine ⟨fun _ => ?_, fun hc => absurd (by decide) hc⟩ | refine ⟨fun _ => ?_, fun hc => absurd hc (by decide)⟩ | refine ⟨fun hc => absurd (by decide) hc, fun _ => ?_⟩); conv => whnf)
  try dsimp only
  refine ⟨hv 2 (by decide), ?_⟩
  conv => whnf
  repeat ((first | refine ⟨zH_of _, ?_⟩ | refine ⟨trivial, ?_⟩ | refine ⟨rfl, ?_⟩ | refine ⟨fun hc => absurd hc (by decide), fun _ => ?_⟩ | refine ⟨fun _ => ?_, fun hc => absurd (by decide) hc⟩ | refine ⟨fun _ => ?_, fun hc => absurd hc (by decide)⟩ | refine ⟨fun hc => absurd (by decide) hc, fun _ => ?_⟩); conv => whnf)
  try dsimp only
  refine ⟨zG_of _, T, hC, fun wi1 wl1 hF1 hC1 => ?_⟩
  conv => whnf
  repeat ((first | refine ⟨zH_of _, ?_⟩ | refine ⟨trivial, ?_⟩ | refine ⟨rfl, ?_⟩ | refine ⟨fun hc => absurd hc (by decide), fun _ => ?_⟩ | refine ⟨fun _ => ?_, fun hc => absurd (by decide) hc⟩ | refine ⟨fun _ => ?_, fun hc => absurd hc (by decide)⟩ | refine ⟨fun hc => absurd (by decide) hc, fun _ => ?_⟩); conv => whnf)
  try dsimp only
  refine ⟨hv 1 (by decide), ?_⟩
  conv => whnf
  repeat ((first | refine ⟨zH_of _, ?_⟩ | refine ⟨trivial, ?_⟩ | refine ⟨rfl, ?_⟩ | refine ⟨fun hc => absurd hc (by decide), fun _ => ?_⟩ | refine ⟨fun _ => ?_, fun hc => absurd (by decide) hc⟩ | refine ⟨fun _ => ?_, fun hc => absurd hc (by decide)⟩ | refine ⟨fun hc => absurd (by decide) hc, fun _ => ?_⟩); conv => whnf)
  try dsimp only
  refine ⟨hv 2 (by decide), ?_⟩
  conv => whnf
  repeat ((first | refine ⟨zH_of _, ?_⟩ | refine ⟨trivial, ?_⟩ | refine ⟨rfl, ?_⟩ | refine ⟨fun hc => absurd hc (by decide), fun _ => ?_⟩ | refine ⟨fun _ => ?_, fun hc => absurd (by decide) hc⟩ | refine ⟨fun _ => ?_, fun hc => absurd hc (by decide)⟩ | refine ⟨fun hc => absurd (by decide) hc, fun _ => ?_⟩); conv => whnf)
  try dsimp only
  refine ⟨T, mt_frC hM hF1, ct_ZT hC, fun wi2 wl2 hF2 hM2 => ?_⟩
  conv => whnf
  repeat ((first | refine ⟨zH_of _, ?_⟩ | refine ⟨trivial, ?_⟩ | refine ⟨rfl, ?_⟩ | refine ⟨fun hc => absurd hc (by decide), fun _ => ?_⟩ | refine ⟨fun _ => ?_, fun hc => absurd (by decide) hc⟩ | refine ⟨fun _ => ?_, fun hc => absurd hc (by decide)⟩ | refine ⟨fun hc => absurd (by decide) hc, fun _ => ?_⟩); conv => whnf)
  try dsimp only
  refine ⟨fun _ => ?_, fun hc => absurd rfl hc⟩
  conv => whnf
  repeat ((first | refine ⟨zH_of _, ?_⟩ | refine ⟨trivial, ?_⟩ | refine ⟨rfl, ?_⟩ | refine ⟨fun hc => absurd hc (by decide), fun _ => ?_⟩ | refine ⟨fun _ => ?_, fun hc => absurd (by decide) hc⟩ | refine ⟨fun _ => ?_, fun hc => absurd hc (by decide)⟩ | refine ⟨fun hc => absurd (by decide) hc, fun _ => ?_⟩); conv => whnf)
  try dsimp only
  exact law_n hs (hN wi2 wl2 _ (ct_frM hC1 hF2) hM2)
set_option maxRecDepth 100000 in
theorem law_915 (hs : ∀ (n pc : Nat) (al : zAL) (st : List Value) (w : zW) (c1 c2 : Nat), z_wp (M_L_law L xs) lawK Jm n (z_from (M_L_law L xs).1 pc) al st w c1 c2 → Jm pc al st w c1 c2) (hv : ∀ j, j < 5 → vp_in (nI (5 * k) + nI j) L) (hC : CT wi wl T) (hM : MT wi wl T) (hN : ∀ (wi2 : Nat → Nat → Int32) (wl2 : Nat → Nat → Int64) (T2 : zT), CT wi2 wl2 T2 → MT wi2 wl2 T2 → Jm 23 (alk (k + 1)) [] (GL, wi2, wl2) c1 c2) : Jm 915 (alk k) [] (GL, wi, wl) c1 c2 := by
  refine hs 400 915 _ _ _ _ _ ?_
  conv => whnf
  repeat ((first | refine ⟨zH_of _, ?_⟩ | refine ⟨trivial, ?_⟩ | refine ⟨rfl, ?_⟩ | refine ⟨fun hc => absurd hc (by decide), fun _ => ?_⟩ | refine ⟨fun _ => ?_, fun hc => absurd (by decide) hc⟩ | refine ⟨fun _ => ?_, fun hc => absurd hc (by decide)⟩ | refine ⟨fun hc => absurd (by decide) hc, fun _ => ?_⟩); conv => whnf)
  try dsimp only
  refine ⟨zG_of _, T, hC, fun wi1 wl1 hF1 hC1 => ?_⟩
  conv => whnf
  repeat ((first | refine ⟨zH_of _, ?_⟩ | refine ⟨trivial, ?_⟩ | refine ⟨rfl, ?_⟩ | refine ⟨fun hc => absurd hc (by decide), fun _ => ?_⟩ | refine ⟨fun _ => ?_, fun hc => absurd (by decide) hc⟩ | refine ⟨fun _ => ?_, fun hc => absurd hc (by decide)⟩ | refine ⟨fun hc => absurd (by decide) hc, fun _ => ?_⟩); conv => whnf)
  try dsimp only
  refine ⟨T, mt_frC hM hF1, ct_ZT hC, fun wi2 wl2 hF2 hM2 => ?_⟩
  conv => whnf
  repeat ((first | refine ⟨zH_of _, ?_⟩ | refine ⟨trivial, ?_⟩ | refine ⟨rfl, ?_⟩ | refine ⟨fun hc => absurd hc (by decide), fun _ => ?_⟩ | refine ⟨fun _ => ?_, fun hc => absurd (by decide) hc⟩ | refine ⟨fun _ => ?_, fun hc => absurd hc (by decide)⟩ | refine ⟨fun hc => absurd (by decide) hc, fun _ => ?_⟩); conv => whnf)
  try dsimp only
  refine ⟨fun _ => ?_, fun hc => absurd rfl hc⟩
  conv => whnf
  repeat ((first | refine ⟨zH_of _, ?_⟩ | refine ⟨trivial, ?_⟩ | refine ⟨rfl, ?_⟩ | refine ⟨fun hc => absurd hc (by decide), fun _ => ?_⟩ | refine ⟨fun _ => ?_, fun hc => absurd (by decide) hc⟩ | refine ⟨fun _ => ?_, fun hc => absurd hc (by decide)⟩ | refine ⟨fun hc => absurd (by decide) hc, fun _ => ?_⟩); conv => whnf)
  try dsimp only
  exact law_n hs (hN wi2 wl2 _ (ct_frM hC1 hF2) hM2)
set_option maxRecDepth 100000 in
theorem law_928 (hs : ∀ (n pc : Nat) (al : zAL) (st : List Value) (w : zW) (c1 c2 : Nat), z_wp (M_L_law L xs) lawK Jm n (z_from (M_L_law L xs).1 pc) al st w c1 c2 → Jm pc al st w c1 c2) (hv : ∀ j, j < 5 → vp_in (nI (5 * k) + nI j) L) (hC : CT wi wl T) (hM : MT wi wl T) (hN : ∀ (wi2 : Nat → Nat → Int32) (wl2 : Nat → Nat → Int64) (T2 : zT), CT wi2 wl2 T2 → MT wi2 wl2 T2 → Jm 23 (alk (k + 1)) [] (GL, wi2, wl2) c1 c2) : Jm 928 (alk k) [] (GL, wi, wl) c1 c2 := by
  refine hs 400 928 _ _ _ _ _ ?_
  conv => whnf
  repeat ((first | refine ⟨zH_of _, ?_⟩ | refine ⟨trivial, ?_⟩ | refine ⟨rfl, ?_⟩ | refine ⟨fun hc => absurd hc (by decide), fun _ => ?_⟩ | refine ⟨fun _ => ?_, fun hc => absurd (by decide) hc⟩ | refine ⟨fun _ => ?_, fun hc => absurd hc (by decide)⟩ | refine ⟨fun hc => absurd (by decide) hc, fun _ => ?_⟩); conv => whnf)
  try dsimp only
  refine ⟨zG_of _, T, hC, fun wi1 wl1 hF1 hC1 => ?_⟩
  conv => whnf
  repeat ((first | refine ⟨zH_of _, ?_⟩ | refine ⟨trivial, ?_⟩ | refine ⟨rfl, ?_⟩ | refine ⟨fun hc => absurd hc (by decide), fun _ => ?_⟩ | refine ⟨fun _ => ?_, fun hc => absurd (by decide) hc⟩ | refine ⟨fun _ => ?_, fun hc => absurd hc (by decide)⟩ | refine ⟨fun hc => absurd (by decide) hc, fun _ => ?_⟩); conv => whnf)
  try dsimp only
  refine ⟨T, mt_frC hM hF1, ct_ZT hC, fun wi2 wl2 hF2 hM2 => ?_⟩
  conv => whnf
  repeat ((first | refine ⟨zH_of _, ?_⟩ | refine ⟨trivial, ?_⟩ | refine ⟨rfl, ?_⟩ | refine ⟨fun hc => absurd hc (by decide), fun _ => ?_⟩ | refine ⟨fun _ => ?_, fun hc => absurd (by decide) hc⟩ | refine ⟨fun _ => ?_, fun hc => absurd hc (by decide)⟩ | refine ⟨fun hc => absurd (by decide) hc, fun _ => ?_⟩); conv => whnf)
  try dsimp only
  refine ⟨fun _ => ?_, fun hc => absurd rfl hc⟩
  conv => whnf
  repeat ((first | refine ⟨zH_of _, ?_⟩ | refine ⟨trivial, ?_⟩ | refine ⟨rfl, ?_⟩ | refine ⟨fun hc => absurd hc (by decide), fun _ => ?_⟩ | refine ⟨fun _ => ?_, fun hc => absurd (by decide) hc⟩ | refine ⟨fun _ => ?_, fun hc => absurd hc (by decide)⟩ | refine ⟨fun hc => absurd (by decide) hc, fun _ => ?_⟩); conv => whnf)
  try dsimp only
  exact law_n hs (hN wi2 wl2 _ (ct_frM hC1 hF2) hM2)
set_option maxRecDepth 100000 in
theorem law_941 (hs : ∀ (n pc : Nat) (al : zAL) (st : List Value) (w : zW) (c1 c2 : Nat), z_wp (M_L_law L xs) lawK Jm n (z_from (M_L_law L xs).1 pc) al st w c1 c2 → Jm pc al st w c1 c2) (hv : ∀ j, j < 5 → vp_in (nI (5 * k) + nI j) L) (hC : CT wi wl T) (hM : MT wi wl T) (hN : ∀ (wi2 : Nat → Nat → Int32) (wl2 : Nat → Nat → Int64) (T2 : zT), CT wi2 wl2 T2 → MT wi2 wl2 T2 → Jm 23 (alk (k + 1)) [] (GL, wi2, wl2) c1 c2) : Jm 941 (alk k) [] (GL, wi, wl) c1 c2 := by
  refine hs 400 941 _ _ _ _ _ ?_
  conv => whnf
  repeat ((first | refine ⟨zH_of _, ?_⟩ | refine ⟨trivial, ?_⟩ | refine ⟨rfl, ?_⟩ | refine ⟨fun hc => absurd hc (by decide), fun _ => ?_⟩ | refine ⟨fun _ => ?_, fun hc => absurd (by decide) hc⟩ | refine ⟨fun _ => ?_, fun hc => absurd hc (by decide)⟩ | refine ⟨fun hc => absurd (by decide) hc, fun _ => ?_⟩); conv => whnf)
  try dsimp only
  refine ⟨hv 1 (by decide), ?_⟩
  conv => whnf
  repeat ((first | refine ⟨zH_of _, ?_⟩ | refine ⟨trivial, ?_⟩ | refine ⟨rfl, ?_⟩ | refine ⟨fun hc => absurd hc (by decide), fun _ => ?_⟩ | refine ⟨fun _ => ?_, fun hc => absurd (by decide) hc⟩ | refine ⟨fun _ => ?_, fun hc => absurd hc (by decide)⟩ | refine ⟨fun hc => absurd (by decide) hc, fun _ => ?_⟩); conv => whnf)
  try dsimp only
  refine ⟨hv 2 (by decide), ?_⟩
  conv => whnf
  repeat ((first | refine ⟨zH_of _, ?_⟩ | refine ⟨trivial, ?_⟩ | refine ⟨rfl, ?_⟩ | refine ⟨fun hc => absurd hc (by decide), fun _ => ?_⟩ | refine ⟨fun _ => ?_, fun hc => absurd (by decide) hc⟩ | refine ⟨fun _ => ?_, fun hc => absurd hc (by decide)⟩ | refine ⟨fun hc => absurd (by decide) hc, fun _ => ?_⟩); conv => whnf)
  try dsimp only
  refine ⟨hv 3 (by decide), ?_⟩
  conv => whnf
  repeat ((first | refine ⟨zH_of _, ?_⟩ | refine ⟨trivial, ?_⟩ | refine ⟨rfl, ?_⟩ | refine ⟨fun hc => absurd hc (by decide), fun _ => ?_⟩ | refine ⟨fun _ => ?_, fun hc => absurd (by decide) hc⟩ | refine ⟨fun _ => ?_, fun hc => absurd hc (by decide)⟩ | refine ⟨fun hc => absurd (by decide) hc, fun _ => ?_⟩); conv => whnf)
  try dsimp only
  refine ⟨hv 4 (by decide), ?_⟩
  conv => whnf
  repeat ((first | refine ⟨zH_of _, ?_⟩ | refine ⟨trivial, ?_⟩ | refine ⟨rfl, ?_⟩ | refine ⟨fun hc => absurd hc (by decide), fun _ => ?_⟩ | refine ⟨fun _ => ?_, fun hc => absurd (by decide) hc⟩ | refine ⟨fun _ => ?_, fun hc => absurd hc (by decide)⟩ | refine ⟨fun hc => absurd (by decide) hc, fun _ => ?_⟩); conv => whnf)
  try dsimp only
  refine ⟨zG_of _, T, hC, fun wi1 wl1 hF1 hC1 => ?_⟩
  conv => whnf
  repeat ((first | refine ⟨zH_of _, ?_⟩ | refine ⟨trivial, ?_⟩ | refine ⟨rfl, ?_⟩ | refine ⟨fun hc => absurd hc (by decide), fun _ => ?_⟩ | refine ⟨fun _ => ?_, fun hc => absurd (by decide) hc⟩ | refine ⟨fun _ => ?_, fun hc => absurd hc (by decide)⟩ | refine ⟨fun hc => absurd (by decide) hc, fun _ => ?_⟩); conv => whnf)
  try dsimp only
  refine ⟨hv 1 (by decide), ?_⟩
  conv => whnf
  repeat ((first | refine ⟨zH_of _, ?_⟩ | refine ⟨trivial, ?_⟩ | refine ⟨rfl, ?_⟩ | refine ⟨fun hc => absurd hc (by decide), fun _ => ?_⟩ | refine ⟨fun _ => ?_, fun hc => absurd (by decide) hc⟩ | refine ⟨fun _ => ?_, fun hc => absurd hc (by decide)⟩ | refine ⟨fun hc => absurd (by decide) hc, fun _ => ?_⟩); conv => whnf)
  try dsimp only
  refine ⟨hv 2 (by decide), ?_⟩
  conv => whnf
  repeat ((first | refine ⟨zH_of _, ?_⟩ | refine ⟨trivial, ?_⟩ | refine ⟨rfl, ?_⟩ | refine ⟨fun hc => absurd hc (by decide), fun _ => ?_⟩ | refine ⟨fun _ => ?_, fun hc => absurd (by decide) hc⟩ | refine ⟨fun _ => ?_, fun hc => absurd hc (by decide)⟩ | refine ⟨fun hc => absurd (by decide) hc, fun _ => ?_⟩); conv => whnf)
  try dsimp only
  refine ⟨hv 3 (by decide), ?_⟩
  conv => whnf
  repeat ((first | refine ⟨zH_of _, ?_⟩ | refine ⟨trivial, ?_⟩ | refine ⟨rfl, ?_⟩ | refine ⟨fun hc => absurd hc (by decide), fun _ => ?_⟩ | refine ⟨fun _ => ?_, fun hc => absurd (by decide) hc⟩ | refine ⟨fun _ => ?_, fun hc => absurd hc (by decide)⟩ | refine ⟨fun hc => absurd (by decide) hc, fun _ => ?_⟩); conv => whnf)
  try dsimp only
  refine ⟨hv 4 (by decide), ?_⟩
  conv => whnf
  repeat ((first | refine ⟨zH_of _, ?_⟩ | refine ⟨trivial, ?_⟩ | refine ⟨rfl, ?_⟩ | refine ⟨fun hc => absurd hc (by decide), fun _ => ?_⟩ | refine ⟨fun _ => ?_, fun hc => absurd (by decide) hc⟩ | refine ⟨fun _ => ?_, fun hc => absurd hc (by decide)⟩ | refine ⟨fun hc => absurd (by decide) hc, fun _ => ?_⟩); conv => whnf)
  try dsimp only
  refine ⟨T, mt_frC hM hF1, ct_ZT hC, fun wi2 wl2 hF2 hM2 => ?_⟩
  conv => whnf
  repeat ((first | refine ⟨zH_of _, ?_⟩ | refine ⟨trivial, ?_⟩ | refine ⟨rfl, ?_⟩ | refine ⟨fun hc => absurd hc (by decide), fun _ => ?_⟩ | refine ⟨fun _ => ?_, fun hc => absurd (by decide) hc⟩ | refine ⟨fun _ => ?_, fun hc => absurd hc (by decide)⟩ | refine ⟨fun hc => absurd (by decide) hc, fun _ => ?_⟩); conv => whnf)
  try dsimp only
  refine ⟨fun _ => ?_, fun hc => absurd rfl hc⟩
  conv => whnf
  repeat ((first | refine ⟨zH_of _, ?_⟩ | refine ⟨trivial, ?_⟩ | refine ⟨rfl, ?_⟩ | refine ⟨fun hc => absurd hc (by decide), fun _ => ?_⟩ | refine ⟨fun _ => ?_, fun hc => absurd (by decide) hc⟩ | refine ⟨fun _ => ?_, fun hc => absurd hc (by decide)⟩ | refine ⟨fun hc => absurd (by decide) hc, fun _ => ?_⟩); conv => whnf)
  try dsimp only
  exact law_n hs (hN wi2 wl2 _ (ct_frM hC1 hF2) hM2)
set_option maxRecDepth 100000 in
theorem law_1002 (hs : ∀ (n pc : Nat) (al : zAL) (st : List Value) (w : zW) (c1 c2 : Nat), z_wp (M_L_law L xs) lawK Jm n (z_from (M_L_law L xs).1 pc) al st w c1 c2 → Jm pc al st w c1 c2) (hv : ∀ j, j < 5 → vp_in (nI (5 * k) + nI j) L) (hC : CT wi wl T) (hM : MT wi wl T) (hN : ∀ (wi2 : Nat → Nat → Int32) (wl2 : Nat → Nat → Int64) (T2 : zT), CT wi2 wl2 T2 → MT wi2 wl2 T2 → Jm 23 (alk (k + 1)) [] (GL, wi2, wl2) c1 c2) : Jm 1002 (alk k) [] (GL, wi, wl) c1 c2 := by
  refine hs 400 1002 _ _ _ _ _ ?_
  conv => whnf
  repeat ((first | refine ⟨zH_of _, ?_⟩ | refine ⟨trivial, ?_⟩ | refine ⟨rfl, ?_⟩ | refine ⟨fun hc => absurd hc (by decide), fun _ => ?_⟩ | refine ⟨fun _ => ?_, fun hc => absurd (by decide) hc⟩ | refine ⟨fun _ => ?_, fun hc => absurd hc (by decide)⟩ | refine ⟨fun hc => absurd (by decide) hc, fun _ => ?_⟩); conv => whnf)
  try dsimp only
  refine ⟨hv 1 (by decide), ?_⟩
  conv => whnf
  repeat ((first | refine ⟨zH_of _, ?_⟩ | refine ⟨trivial, ?_⟩ | refine ⟨rfl, ?_⟩ | refine ⟨fun hc => absurd hc (by decide), fun _ => ?_⟩ | refine ⟨fun _ => ?_, fun hc => absurd (by decide) hc⟩ | refine ⟨fun _ => ?_, fun hc => absurd hc (by decide)⟩ | refine ⟨fun hc => absurd (by decide) hc, fun _ => ?_⟩); conv => whnf)
  try dsimp only
  refine ⟨hv 2 (by decide), ?_⟩
  conv => whnf
  repeat ((first | refine ⟨zH_of _, ?_⟩ | refine ⟨trivial, ?_⟩ | refine ⟨rfl, ?_⟩ | refine ⟨fun hc => absurd hc (by decide), fun _ => ?_⟩ | refine ⟨fun _ => ?_, fun hc => absurd (by decide) hc⟩ | refine ⟨fun _ => ?_, fun hc => absurd hc (by decide)⟩ | refine ⟨fun hc => absurd (by decide) hc, fun _ => ?_⟩); conv => whnf)
  try dsimp only
  refine ⟨hv 3 (by decide), ?_⟩
  conv => whnf
  repeat ((first | refine ⟨zH_of _, ?_⟩ | refine ⟨trivial, ?_⟩ | refine ⟨rfl, ?_⟩ | refine ⟨fun hc => absurd hc (by decide), fun _ => ?_⟩ | refine ⟨fun _ => ?_, fun hc => absurd (by decide) hc⟩ | refine ⟨fun _ => ?_, fun hc => absurd hc (by decide)⟩ | refine ⟨fun hc => absurd (by decide) hc, fun _ => ?_⟩); conv => whnf)
  try dsimp only
  refine ⟨zG_of _, T, hC, fun wi1 wl1 hF1 hC1 => ?_⟩
  conv => whnf
  repeat ((first | refine ⟨zH_of _, ?_⟩ | refine ⟨trivial, ?_⟩ | refine ⟨rfl, ?_⟩ | refine ⟨fun hc => absurd hc (by decide), fun _ => ?_⟩ | refine ⟨fun _ => ?_, fun hc => absurd (by decide) hc⟩ | refine ⟨fun _ => ?_, fun hc => absurd hc (by decide)⟩ | refine ⟨fun hc => absurd (by decide) hc, fun _ => ?_⟩); conv => whnf)
  try dsimp only
  refine ⟨hv 1 (by decide), ?_⟩
  conv => whnf
  repeat ((first | refine ⟨zH_of _, ?_⟩ | refine ⟨trivial, ?_⟩ | refine ⟨rfl, ?_⟩ | refine ⟨fun hc => absurd hc (by decide), fun _ => ?_⟩ | refine ⟨fun _ => ?_, fun hc => absurd (by decide) hc⟩ | refine ⟨fun _ => ?_, fun hc => absurd hc (by decide)⟩ | refine ⟨fun hc => absurd (by decide) hc, fun _ => ?_⟩); conv => whnf)
  try dsimp only
  refine ⟨hv 2 (by decide), ?_⟩
  conv => whnf
  repeat ((first | refine ⟨zH_of _, ?_⟩ | refine ⟨trivial, ?_⟩ | refine ⟨rfl, ?_⟩ | refine ⟨fun hc => absurd hc (by decide), fun _ => ?_⟩ | refine ⟨fun _ => ?_, fun hc => absurd (by decide) hc⟩ | refine ⟨fun _ => ?_, fun hc => absurd hc (by decide)⟩ | refine ⟨fun hc => absurd (by decide) hc, fun _ => ?_⟩); conv => whnf)
  try dsimp only
  refine ⟨hv 3 (by decide), ?_⟩
  conv => whnf
  repeat ((first | refine ⟨zH_of _, ?_⟩ | refine ⟨trivial, ?_⟩ | refine ⟨rfl, ?_⟩ | refine ⟨fun hc => absurd hc (by decide), fun _ => ?_⟩ | refine ⟨fun _ => ?_, fun hc => absurd (by decide) hc⟩ | refine ⟨fun _ => ?_, fun hc => absurd hc (by decide)⟩ | refine ⟨fun hc => absurd (by decide) hc, fun _ => ?_⟩); conv => whnf)
  try dsimp only
  refine ⟨T, mt_frC hM hF1, ct_ZT hC, fun wi2 wl2 hF2 hM2 => ?_⟩
  conv => whnf
  repeat ((first | refine ⟨zH_of _, ?_⟩ | refine ⟨trivial, ?_⟩ | refine ⟨rfl, ?_⟩ | refine ⟨fun hc => absurd hc (by decide), fun _ => ?_⟩ | refine ⟨fun _ => ?_, fun hc => absurd (by decide) hc⟩ | refine ⟨fun _ => ?_, fun hc => absurd hc (by decide)⟩ | refine ⟨fun hc => absurd (by decide) hc, fun _ => ?_⟩); conv => whnf)
  try dsimp only
  refine ⟨fun _ => ?_, fun hc => absurd rfl hc⟩
  conv => whnf
  repeat ((first | refine ⟨zH_of _, ?_⟩ | refine ⟨trivial, ?_⟩ | refine ⟨rfl, ?_⟩ | refine ⟨fun hc => absurd hc (by decide), fun _ => ?_⟩ | refine ⟨fun _ => ?_, fun hc => absurd (by decide) hc⟩ | refine ⟨fun _ => ?_, fun hc => absurd hc (by decide)⟩ | refine ⟨fun hc => absurd (by decide) hc, fun _ => ?_⟩); conv => whnf)
  try dsimp only
  exact law_n hs (hN wi2 wl2 _ (ct_frM hC1 hF2) hM2)
set_option maxRecDepth 100000 in
theorem law_1051 (hs : ∀ (n pc : Nat) (al : zAL) (st : List Value) (w : zW) (c1 c2 : Nat), z_wp (M_L_law L xs) lawK Jm n (z_from (M_L_law L xs).1 pc) al st w c1 c2 → Jm pc al st w c1 c2) (hv : ∀ j, j < 5 → vp_in (nI (5 * k) + nI j) L) (hC : CT wi wl T) (hM : MT wi wl T) (hN : ∀ (wi2 : Nat → Nat → Int32) (wl2 : Nat → Nat → Int64) (T2 : zT), CT wi2 wl2 T2 → MT wi2 wl2 T2 → Jm 23 (alk (k + 1)) [] (GL, wi2, wl2) c1 c2) : Jm 1051 (alk k) [] (GL, wi, wl) c1 c2 := by
  refine hs 400 1051 _ _ _ _ _ ?_
  conv => whnf
  repeat ((first | refine ⟨zH_of _, ?_⟩ | refine ⟨trivial, ?_⟩ | refine ⟨rfl, ?_⟩ | refine ⟨fun hc => absurd hc (by decide), fun _ => ?_⟩ | refine ⟨fun _ => ?_, fun hc => absurd (by decide) hc⟩ | refine ⟨fun _ => ?_, fun hc => absurd hc (by decide)⟩ | refine ⟨fun hc => absurd (by decide) hc, fun _ => ?_⟩); conv => whnf)
  try dsimp only
  refine ⟨hv 1 (by decide), ?_⟩
  conv => whnf
  repeat ((first | refine ⟨zH_of _, ?_⟩ | refine ⟨trivial, ?_⟩ | refine ⟨rfl, ?_⟩ | refine ⟨fun hc => absurd hc (by decide), fun _ => ?_⟩ | refine ⟨fun _ => ?_, fun hc => absurd (by decide) hc⟩ | refine ⟨fun _ => ?_, fun hc => absurd hc (by decide)⟩ | refine ⟨fun hc => absurd (by decide) hc, fun _ => ?_⟩); conv => whnf)
  try dsimp only
  refine ⟨hv 2 (by decide), ?_⟩
  conv => whnf
  repeat ((first | refine ⟨zH_of _, ?_⟩ | refine ⟨trivial, ?_⟩ | refine ⟨rfl, ?_⟩ | refine ⟨fun hc => absurd hc (by decide), fun _ => ?_⟩ | refine ⟨fun _ => ?_, fun hc => absurd (by decide) hc⟩ | refine ⟨fun _ => ?_, fun hc => absurd hc (by decide)⟩ | refine ⟨fun hc => absurd (by decide) hc, fun _ => ?_⟩); conv => whnf)
  try dsimp only
  refine ⟨zG_of _, T, hC, fun wi1 wl1 hF1 hC1 => ?_⟩
  conv => whnf
  repeat ((first | refine ⟨zH_of _, ?_⟩ | refine ⟨trivial, ?_⟩ | refine ⟨rfl, ?_⟩ | refine ⟨fun hc => absurd hc (by decide), fun _ => ?_⟩ | refine ⟨fun _ => ?_, fun hc => absurd (by decide) hc⟩ | refine ⟨fun _ => ?_, fun hc => absurd hc (by decide)⟩ | refine ⟨fun hc => absurd (by decide) hc, fun _ => ?_⟩); conv => whnf)
  try dsimp only
  refine ⟨hv 1 (by decide), ?_⟩
  conv => whnf
  repeat ((first | refine ⟨zH_of _, ?_⟩ | refine ⟨trivial, ?_⟩ | refine ⟨rfl, ?_⟩ | refine ⟨fun hc => absurd hc (by decide), fun _ => ?_⟩ | refine ⟨fun _ => ?_, fun hc => absurd (by decide) hc⟩ | refine ⟨fun _ => ?_, fun hc => absurd hc (by decide)⟩ | refine ⟨fun hc => absurd (by decide) hc, fun _ => ?_⟩); conv => whnf)
  try dsimp only
  refine ⟨hv 2 (by decide), ?_⟩
  conv => whnf
  repeat ((first | refine ⟨zH_of _, ?_⟩ | refine ⟨trivial, ?_⟩ | refine ⟨rfl, ?_⟩ | refine ⟨fun hc => absurd hc (by decide), fun _ => ?_⟩ | refine ⟨fun _ => ?_, fun hc => absurd (by decide) hc⟩ | refine ⟨fun _ => ?_, fun hc => absurd hc (by decide)⟩ | refine ⟨fun hc => absurd (by decide) hc, fun _ => ?_⟩); conv => whnf)
  try dsimp only
  refine ⟨T, mt_frC hM hF1, ct_ZT hC, fun wi2 wl2 hF2 hM2 => ?_⟩
  conv => whnf
  repeat ((first | refine ⟨zH_of _, ?_⟩ | refine ⟨trivial, ?_⟩ | refine ⟨rfl, ?_⟩ | refine ⟨fun hc => absurd hc (by decide), fun _ => ?_⟩ | refine ⟨fun _ => ?_, fun hc => absurd (by decide) hc⟩ | refine ⟨fun _ => ?_, fun hc => absurd hc (by decide)⟩ | refine ⟨fun hc => absurd (by decide) hc, fun _ => ?_⟩); conv => whnf)
  try dsimp only
  refine ⟨fun _ => ?_, fun hc => absurd rfl hc⟩
  conv => whnf
  repeat ((first | refine ⟨zH_of _, ?_⟩ | refine ⟨trivial, ?_⟩ | refine ⟨rfl, ?_⟩ | refine ⟨fun hc => absurd hc (by decide), fun _ => ?_⟩ | refine ⟨fun _ => ?_, fun hc => absurd (by decide) hc⟩ | refine ⟨fun _ => ?_, fun hc => absurd hc (by decide)⟩ | refine ⟨fun hc => absurd (by decide) hc, fun _ => ?_⟩); conv => whnf)
  try dsimp only
  exact law_n hs (hN wi2 wl2 _ (ct_frM hC1 hF2) hM2)
set_option maxRecDepth 100000 in
theorem law_1088 (hs : ∀ (n pc : Nat) (al : zAL) (st : List Value) (w : zW) (c1 c2 : Nat), z_wp (M_L_law L xs) lawK Jm n (z_from (M_L_law L xs).1 pc) al st w c1 c2 → Jm pc al st w c1 c2) (hv : ∀ j, j < 5 → vp_in (nI (5 * k) + nI j) L) (hC : CT wi wl T) (hM : MT wi wl T) (hN : ∀ (wi2 : Nat → Nat → Int32) (wl2 : Nat → Nat → Int64) (T2 : zT), CT wi2 wl2 T2 → MT wi2 wl2 T2 → Jm 23 (alk (k + 1)) [] (GL, wi2, wl2) c1 c2) : Jm 1088 (alk k) [] (GL, wi, wl) c1 c2 := by
  refine hs 400 1088 _ _ _ _ _ ?_
  conv => whnf
  repeat ((first | refine ⟨zH_of _, ?_⟩ | refine ⟨trivial, ?_⟩ | refine ⟨rfl, ?_⟩ | refine ⟨fun hc => absurd hc (by decide), fun _ => ?_⟩ | refine ⟨fun _ => ?_, fun hc => absurd (by decide) hc⟩ | refine ⟨fun _ => ?_, fun hc => absurd hc (by decide)⟩ | refine ⟨fun hc => absurd (by decide) hc, fun _ => ?_⟩); conv => whnf)
  try dsimp only
  refine ⟨zG_of _, T, hC, fun wi1 wl1 hF1 hC1 => ?_⟩
  conv => whnf
  repeat ((first | refine ⟨zH_of _, ?_⟩ | refine ⟨trivial, ?_⟩ | refine ⟨rfl, ?_⟩ | refine ⟨fun hc => absurd hc (by decide), fun _ => ?_⟩ | refine ⟨fun _ => ?_, fun hc => absurd (by decide) hc⟩ | refine ⟨fun _ => ?_, fun hc => absurd hc (by decide)⟩ | refine ⟨fun hc => absurd (by decide) hc, fun _ => ?_⟩); conv => whnf)
  try dsimp only
  refine ⟨T, mt_frC hM hF1, ct_ZT hC, fun wi2 wl2 hF2 hM2 => ?_⟩
  conv => whnf
  repeat ((first | refine ⟨zH_of _, ?_⟩ | refine ⟨trivial, ?_⟩ | refine ⟨rfl, ?_⟩ | refine ⟨fun hc => absurd hc (by decide), fun _ => ?_⟩ | refine ⟨fun _ => ?_, fun hc => absurd (by decide) hc⟩ | refine ⟨fun _ => ?_, fun hc => absurd hc (by decide)⟩ | refine ⟨fun hc => absurd (by decide) hc, fun _ => ?_⟩); conv => whnf)
  try dsimp only
  refine ⟨fun _ => ?_, fun hc => absurd rfl hc⟩
  conv => whnf
  repeat ((first | refine ⟨zH_of _, ?_⟩ | refine ⟨trivial, ?_⟩ | refine ⟨rfl, ?_⟩ | refine ⟨fun hc => absurd hc (by decide), fun _ => ?_⟩ | refine ⟨fun _ => ?_, fun hc => absurd (by decide) hc⟩ | refine ⟨fun _ => ?_, fun hc => absurd hc (by decide)⟩ | refine ⟨fun hc => absurd (by decide) hc, fun _ => ?_⟩); conv => whnf)
  try dsimp only
  exact law_n hs (hN wi2 wl2 _ (ct_frM hC1 hF2) hM2)
set_option maxRecDepth 100000 in
theorem law_1101 (hs : ∀ (n pc : Nat) (al : zAL) (st : List Value) (w : zW) (c1 c2 : Nat), z_wp (M_L_law L xs) lawK Jm n (z_from (M_L_law L xs).1 pc) al st w c1 c2 → Jm pc al st w c1 c2) (hv : ∀ j, j < 5 → vp_in (nI (5 * k) + nI j) L) (hC : CT wi wl T) (hM : MT wi wl T) (hN : ∀ (wi2 : Nat → Nat → Int32) (wl2 : Nat → Nat → Int64) (T2 : zT), CT wi2 wl2 T2 → MT wi2 wl2 T2 → Jm 23 (alk (k + 1)) [] (GL, wi2, wl2) c1 c2) : Jm 1101 (alk k) [] (GL, wi, wl) c1 c2 := by
  refine hs 400 1101 _ _ _ _ _ ?_
  conv => whnf
  repeat ((first | refine ⟨zH_of _, ?_⟩ | refine ⟨trivial, ?_⟩ | refine ⟨rfl, ?_⟩ | refine ⟨fun hc => absurd hc (by decide), fun _ => ?_⟩ | refine ⟨fun _ => ?_, fun hc => absurd (by decide) hc⟩ | refine ⟨fun _ => ?_, fun hc => absurd hc (by decide)⟩ | refine ⟨fun hc => absurd (by decide) hc, fun _ => ?_⟩); conv => whnf)
  try dsimp only
  refine ⟨zG_of _, T, hC, fun wi1 wl1 hF1 hC1 => ?_⟩
  conv => whnf
  repeat ((first | refine ⟨zH_of _, ?_⟩ | refine ⟨trivial, ?_⟩ | refine ⟨rfl, ?_⟩ | refine ⟨fun hc => absurd hc (by decide), fun _ => ?_⟩ | refine ⟨fun _ => ?_, fun hc => absurd (by decide) hc⟩ | refine ⟨fun _ => ?_, fun hc => absurd hc (by decide)⟩ | refine ⟨fun hc => absurd (by decide) hc, fun _ => ?_⟩); conv => whnf)
  try dsimp only
  refine ⟨T, mt_frC hM hF1, ct_ZT hC, fun wi2 wl2 hF2 hM2 => ?_⟩
  conv => whnf
  repeat ((first | refine ⟨zH_of _, ?_⟩ | refine ⟨trivial, ?_⟩ | refine ⟨rfl, ?_⟩ | refine ⟨fun hc => absurd hc (by decide), fun _ => ?_⟩ | refine ⟨fun _ => ?_, fun hc => absurd (by decide) hc⟩ | refine ⟨fun _ => ?_, fun hc => absurd hc (by decide)⟩ | refine ⟨fun hc => absurd (by decide) hc, fun _ => ?_⟩); conv => whnf)
  try dsimp only
  refine ⟨fun _ => ?_, fun hc => absurd rfl hc⟩
  conv => whnf
  repeat ((first | refine ⟨zH_of _, ?_⟩ | refine ⟨trivial, ?_⟩ | refine ⟨rfl, ?_⟩ | refine ⟨fun hc => absurd hc (by decide), fun _ => ?_⟩ | refine ⟨fun _ => ?_, fun hc => absurd (by decide) hc⟩ | refine ⟨fun _ => ?_, fun hc => absurd hc (by decide)⟩ | refine ⟨fun hc => absurd (by decide) hc, fun _ => ?_⟩); conv => whnf)
  try dsimp only
  exact law_n hs (hN wi2 wl2 _ (ct_frM hC1 hF2) hM2)
set_option maxRecDepth 100000 in
theorem law_1114 (hs : ∀ (n pc : Nat) (al : zAL) (st : List Value) (w : zW) (c1 c2 : Nat), z_wp (M_L_law L xs) lawK Jm n (z_from (M_L_law L xs).1 pc) al st w c1 c2 → Jm pc al st w c1 c2) (hv : ∀ j, j < 5 → vp_in (nI (5 * k) + nI j) L) (hC : CT wi wl T) (hM : MT wi wl T) (hN : ∀ (wi2 : Nat → Nat → Int32) (wl2 : Nat → Nat → Int64) (T2 : zT), CT wi2 wl2 T2 → MT wi2 wl2 T2 → Jm 23 (alk (k + 1)) [] (GL, wi2, wl2) c1 c2) : Jm 1114 (alk k) [] (GL, wi, wl) c1 c2 := by
  refine hs 400 1114 _ _ _ _ _ ?_
  conv => whnf
  repeat ((first | refine ⟨zH_of _, ?_⟩ | refine ⟨trivial, ?_⟩ | refine ⟨rfl, ?_⟩ | refine ⟨fun hc => absurd hc (by decide), fun _ => ?_⟩ | refine ⟨fun _ => ?_, fun hc => absurd (by decide) hc⟩ | refine ⟨fun _ => ?_, fun hc => absurd hc (by decide)⟩ | refine ⟨fun hc => absurd (by decide) hc, fun _ => ?_⟩); conv => whnf)
  try dsimp only
  refine ⟨hv 1 (by decide), ?_⟩
  conv => whnf
  repeat ((first | refine ⟨zH_of _, ?_⟩ | refine ⟨trivial, ?_⟩ | refine ⟨rfl, ?_⟩ | refine ⟨fun hc => absurd hc (by decide), fun _ => ?_⟩ | refine ⟨fun _ => ?_, fun hc => absurd (by decide) hc⟩ | refine ⟨fun _ => ?_, fun hc => absurd hc (by decide)⟩ | refine ⟨fun hc => absurd (by decide) hc, fun _ => ?_⟩); conv => whnf)
  try dsimp only
  refine ⟨zG_of _, T, hC, fun wi1 wl1 hF1 hC1 => ?_⟩
  conv => whnf
  repeat ((first | refine ⟨zH_of _, ?_⟩ | refine ⟨trivial, ?_⟩ | refine ⟨rfl, ?_⟩ | refine ⟨fun hc => absurd hc (by decide), fun _ => ?_⟩ | refine ⟨fun _ => ?_, fun hc => absurd (by decide) hc⟩ | refine ⟨fun _ => ?_, fun hc => absurd hc (by decide)⟩ | refine ⟨fun hc => absurd (by decide) hc, fun _ => ?_⟩); conv => whnf)
  try dsimp only
  refine ⟨hv 1 (by decide), ?_⟩
  conv => whnf
  repeat ((first | refine ⟨zH_of _, ?_⟩ | refine ⟨trivial, ?_⟩ | refine ⟨rfl, ?_⟩ | refine ⟨fun hc => absurd hc (by decide), fun _ => ?_⟩ | refine ⟨fun _ => ?_, fun hc => absurd (by decide) hc⟩ | refine ⟨fun _ => ?_, fun hc => absurd hc (by decide)⟩ | refine ⟨fun hc => absurd (by decide) hc, fun _ => ?_⟩); conv => whnf)
  try dsimp only
  refine ⟨T, mt_frC hM hF1, ct_ZT hC, fun wi2 wl2 hF2 hM2 => ?_⟩
  conv => whnf
  repeat ((first | refine ⟨zH_of _, ?_⟩ | refine ⟨trivial, ?_⟩ | refine ⟨rfl, ?_⟩ | refine ⟨fun hc => absurd hc (by decide), fun _ => ?_⟩ | refine ⟨fun _ => ?_, fun hc => absurd (by decide) hc⟩ | refine ⟨fun _ => ?_, fun hc => absurd hc (by decide)⟩ | refine ⟨fun hc => absurd (by decide) hc, fun _ => ?_⟩); conv => whnf)
  try dsimp only
  refine ⟨fun _ => ?_, fun hc => absurd rfl hc⟩
  conv => whnf
  repeat ((first | refine ⟨zH_of _, ?_⟩ | refine ⟨trivial, ?_⟩ | refine ⟨rfl, ?_⟩ | refine ⟨fun hc => absurd hc (by decide), fun _ => ?_⟩ | refine ⟨fun _ => ?_, fun hc => absurd (by decide) hc⟩ | refine ⟨fun _ => ?_, fun hc => absurd hc (by decide)⟩ | refine ⟨fun hc => absurd (by decide) hc, fun _ => ?_⟩); conv => whnf)
  try dsimp only
  exact law_n hs (hN wi2 wl2 _ (ct_frM hC1 hF2) hM2)
set_option maxRecDepth 100000 in
theorem law_1139 (hs : ∀ (n pc : Nat) (al : zAL) (st : List Value) (w : zW) (c1 c2 : Nat), z_wp (M_L_law L xs) lawK Jm n (z_from (M_L_law L xs).1 pc) al st w c1 c2 → Jm pc al st w c1 c2) (hv : ∀ j, j < 5 → vp_in (nI (5 * k) + nI j) L) (hC : CT wi wl T) (hM : MT wi wl T) (hN : ∀ (wi2 : Nat → Nat → Int32) (wl2 : Nat → Nat → Int64) (T2 : zT), CT wi2 wl2 T2 → MT wi2 wl2 T2 → Jm 23 (alk (k + 1)) [] (GL, wi2, wl2) c1 c2) : Jm 1139 (alk k) [] (GL, wi, wl) c1 c2 := by
  refine hs 400 1139 _ _ _ _ _ ?_
  conv => whnf
  repeat ((first | refine ⟨zH_of _, ?_⟩ | refine ⟨trivial, ?_⟩ | refine ⟨rfl, ?_⟩ | refine ⟨fun hc => absurd hc (by decide), fun _ => ?_⟩ | refine ⟨fun _ => ?_, fun hc => absurd (by decide) hc⟩ | refine ⟨fun _ => ?_, fun hc => absurd hc (by decide)⟩ | refine ⟨fun hc => absurd (by decide) hc, fun _ => ?_⟩); conv => whnf)
  try dsimp only
  refine ⟨hv 1 (by decide), ?_⟩
  conv => whnf
  repeat ((first | refine ⟨zH_of _, ?_⟩ | refine ⟨trivial, ?_⟩ | refine ⟨rfl, ?_⟩ | refine ⟨fun hc => absurd hc (by decide), fun _ => ?_⟩ | refine ⟨fun _ => ?_, fun hc => absurd (by decide) hc⟩ | refine ⟨fun _ => ?_, fun hc => absurd hc (by decide)⟩ | refine ⟨fun hc => absurd (by decide) hc, fun _ => ?_⟩); conv => whnf)
  try dsimp only
  refine ⟨zG_of _, T, hC, fun wi1 wl1 hF1 hC1 => ?_⟩
  conv => whnf
  repeat ((first | refine ⟨zH_of _, ?_⟩ | refine ⟨trivial, ?_⟩ | refine ⟨rfl, ?_⟩ | refine ⟨fun hc => absurd hc (by decide), fun _ => ?_⟩ | refine ⟨fun _ => ?_, fun hc => absurd (by decide) hc⟩ | refine ⟨fun _ => ?_, fun hc => absurd hc (by decide)⟩ | refine ⟨fun hc => absurd (by decide) hc, fun _ => ?_⟩); conv => whnf)
  try dsimp only
  refine ⟨hv 1 (by decide), ?_⟩
  conv => whnf
  repeat ((first | refine ⟨zH_of _, ?_⟩ | refine ⟨trivial, ?_⟩ | refine ⟨rfl, ?_⟩ | refine ⟨fun hc => absurd hc (by decide), fun _ => ?_⟩ | refine ⟨fun _ => ?_, fun hc => absurd (by decide) hc⟩ | refine ⟨fun _ => ?_, fun hc => absurd hc (by decide)⟩ | refine ⟨fun hc => absurd (by decide) hc, fun _ => ?_⟩); conv => whnf)
  try dsimp only
  refine ⟨T, mt_frC hM hF1, ct_ZT hC, fun wi2 wl2 hF2 hM2 => ?_⟩
  conv => whnf
  repeat ((first | refine ⟨zH_of _, ?_⟩ | refine ⟨trivial, ?_⟩ | refine ⟨rfl, ?_⟩ | refine ⟨fun hc => absurd hc (by decide), fun _ => ?_⟩ | refine ⟨fun _ => ?_, fun hc => absurd (by decide) hc⟩ | refine ⟨fun _ => ?_, fun hc => absurd hc (by decide)⟩ | refine ⟨fun hc => absurd (by decide) hc, fun _ => ?_⟩); conv => whnf)
  try dsimp only
  refine ⟨fun _ => ?_, fun hc => absurd rfl hc⟩
  conv => whnf
  repeat ((first | refine ⟨zH_of _, ?_⟩ | refine ⟨trivial, ?_⟩ | refine ⟨rfl, ?_⟩ | refine ⟨fun hc => absurd hc (by decide), fun _ => ?_⟩ | refine ⟨fun _ => ?_, fun hc => absurd (by decide) hc⟩ | refine ⟨fun _ => ?_, fun hc => absurd hc (by decide)⟩ | refine ⟨fun hc => absurd (by decide) hc, fun _ => ?_⟩); conv => whnf)
  try dsimp only
  exact law_n hs (hN wi2 wl2 _ (ct_frM hC1 hF2) hM2)
set_option maxRecDepth 100000 in
theorem law_1164 (hs : ∀ (n pc : Nat) (al : zAL) (st : List Value) (w : zW) (c1 c2 : Nat), z_wp (M_L_law L xs) lawK Jm n (z_from (M_L_law L xs).1 pc) al st w c1 c2 → Jm pc al st w c1 c2) (hv : ∀ j, j < 5 → vp_in (nI (5 * k) + nI j) L) (hC : CT wi wl T) (hM : MT wi wl T) (hN : ∀ (wi2 : Nat → Nat → Int32) (wl2 : Nat → Nat → Int64) (T2 : zT), CT wi2 wl2 T2 → MT wi2 wl2 T2 → Jm 23 (alk (k + 1)) [] (GL, wi2, wl2) c1 c2) : Jm 1164 (alk k) [] (GL, wi, wl) c1 c2 := by
  refine hs 400 1164 _ _ _ _ _ ?_
  conv => whnf
  repeat ((first | refine ⟨zH_of _, ?_⟩ | refine ⟨trivial, ?_⟩ | refine ⟨rfl, ?_⟩ | refine ⟨fun hc => absurd hc (by decide), fun _ => ?_⟩ | refine ⟨fun _ => ?_, fun hc => absurd (by decide) hc⟩ | refine ⟨fun _ => ?_, fun hc => absurd hc (by decide)⟩ | refine ⟨fun hc => absurd (by decide) hc, fun _ => ?_⟩); conv => whnf)
  try dsimp only
  refine ⟨zG_of _, T, hC, fun wi1 wl1 hF1 hC1 => ?_⟩
  conv => whnf
  repeat ((first | refine ⟨zH_of _, ?_⟩ | refine ⟨trivial, ?_⟩ | refine ⟨rfl, ?_⟩ | refine ⟨fun hc => absurd hc (by decide), fun _ => ?_⟩ | refine ⟨fun _ => ?_, fun hc => absurd (by decide) hc⟩ | refine ⟨fun _ => ?_, fun hc => absurd hc (by decide)⟩ | refine ⟨fun hc => absurd (by decide) hc, fun _ => ?_⟩); conv => whnf)
  try dsimp only
  refine ⟨T, mt_frC hM hF1, ct_ZT hC, fun wi2 wl2 hF2 hM2 => ?_⟩
  conv => whnf
  repeat ((first | refine ⟨zH_of _, ?_⟩ | refine ⟨trivial, ?_⟩ | refine ⟨rfl, ?_⟩ | refine ⟨fun hc => absurd hc (by decide), fun _ => ?_⟩ | refine ⟨fun _ => ?_, fun hc => absurd (by decide) hc⟩ | refine ⟨fun _ => ?_, fun hc => absurd hc (by decide)⟩ | refine ⟨fun hc => absurd (by decide) hc, fun _ => ?_⟩); conv => whnf)
  try dsimp only
  refine ⟨fun _ => ?_, fun hc => absurd rfl hc⟩
  conv => whnf
  repeat ((first | refine ⟨zH_of _, ?_⟩ | refine ⟨trivial, ?_⟩ | refine ⟨rfl, ?_⟩ | refine ⟨fun hc => absurd hc (by decide), fun _ => ?_⟩ | refine ⟨fun _ => ?_, fun hc => absurd (by decide) hc⟩ | refine ⟨fun _ => ?_, fun hc => absurd hc (by decide)⟩ | refine ⟨fun hc => absurd (by decide) hc, fun _ => ?_⟩); conv => whnf)
  try dsimp only
  exact law_n hs (hN wi2 wl2 _ (ct_frM hC1 hF2) hM2)
set_option maxRecDepth 100000 in
theorem law_1177 (hs : ∀ (n pc : Nat) (al : zAL) (st : List Value) (w : zW) (c1 c2 : Nat), z_wp (M_L_law L xs) lawK Jm n (z_from (M_L_law L xs).1 pc) al st w c1 c2 → Jm pc al st w c1 c2) (hv : ∀ j, j < 5 → vp_in (nI (5 * k) + nI j) L) (hC : CT wi wl T) (hM : MT wi wl T) (hN : ∀ (wi2 : Nat → Nat → Int32) (wl2 : Nat → Nat → Int64) (T2 : zT), CT wi2 wl2 T2 → MT wi2 wl2 T2 → Jm 23 (alk (k + 1)) [] (GL, wi2, wl2) c1 c2) : Jm 1177 (alk k) [] (GL, wi, wl) c1 c2 := by
  refine hs 400 1177 _ _ _ _ _ ?_
  conv => whnf
  repeat ((first | refine ⟨zH_of _, ?_⟩ | refine ⟨trivial, ?_⟩ | refine ⟨rfl, ?_⟩ | refine ⟨fun hc => absurd hc (by decide), fun _ => ?_⟩ | refine ⟨fun _ => ?_, fun hc => absurd (by decide) hc⟩ | refine ⟨fun _ => ?_, fun hc => absurd hc (by decide)⟩ | refine ⟨fun hc => absurd (by decide) hc, fun _ => ?_⟩); conv => whnf)
  try dsimp only
  refine ⟨zG_of _, T, hC, fun wi1 wl1 hF1 hC1 => ?_⟩
  conv => whnf
  repeat ((first | refine ⟨zH_of _, ?_⟩ | refine ⟨trivial, ?_⟩ | refine ⟨rfl, ?_⟩ | refine ⟨fun hc => absurd hc (by decide), fun _ => ?_⟩ | refine ⟨fun _ => ?_, fun hc => absurd (by decide) hc⟩ | refine ⟨fun _ => ?_, fun hc => absurd hc (by decide)⟩ | refine ⟨fun hc => absurd (by decide) hc, fun _ => ?_⟩); conv => whnf)
  try dsimp only
  refine ⟨T, mt_frC hM hF1, ct_ZT hC, fun wi2 wl2 hF2 hM2 => ?_⟩
  conv => whnf
  repeat ((first | refine ⟨zH_of _, ?_⟩ | refine ⟨trivial, ?_⟩ | refine ⟨rfl, ?_⟩ | refine ⟨fun hc => absurd hc (by decide), fun _ => ?_⟩ | refine ⟨fun _ => ?_, fun hc => absurd (by decide) hc⟩ | refine ⟨fun _ => ?_, fun hc => absurd hc (by decide)⟩ | refine ⟨fun hc => absurd (by decide) hc, fun _ => ?_⟩); conv => whnf)
  try dsimp only
  refine ⟨fun _ => ?_, fun hc => absurd rfl hc⟩
  conv => whnf
  repeat ((first | refine ⟨zH_of _, ?_⟩ | refine ⟨trivial, ?_⟩ | refine ⟨rfl, ?_⟩ | refine ⟨fun hc => absurd hc (by decide), fun _ => ?_⟩ | refine ⟨fun _ => ?_, fun hc => absurd (by decide) hc⟩ | refine ⟨fun _ => ?_, fun hc => absurd hc (by decide)⟩ | refine ⟨fun hc => absurd (by decide) hc, fun _ => ?_⟩); conv => whnf)
  try dsimp only
  exact law_n hs (hN wi2 wl2 _ (ct_frM hC1 hF2) hM2)
set_option maxRecDepth 100000 in
theorem law_1190 (hs : ∀ (n pc : Nat) (al : zAL) (st : List Value) (w : zW) (c1 c2 : Nat), z_wp (M_L_law L xs) lawK Jm n (z_from (M_L_law L xs).1 pc) al st w c1 c2 → Jm pc al st w c1 c2) (hv : ∀ j, j < 5 → vp_in (nI (5 * k) + nI j) L) (hC : CT wi wl T) (hM : MT wi wl T) (hN : ∀ (wi2 : Nat → Nat → Int32) (wl2 : Nat → Nat → Int64) (T2 : zT), CT wi2 wl2 T2 → MT wi2 wl2 T2 → Jm 23 (alk (k + 1)) [] (GL, wi2, wl2) c1 c2) : Jm 1190 (alk k) [] (GL, wi, wl) c1 c2 := by
  refine hs 400 1190 _ _ _ _ _ ?_
  conv => whnf
  repeat ((first | refine ⟨zH_of _, ?_⟩ | refine ⟨trivial, ?_⟩ | refine ⟨rfl, ?_⟩ | refine ⟨fun hc => absurd hc (by decide), fun _ => ?_⟩ | refine ⟨fun _ => ?_, fun hc => absurd (by decide) hc⟩ | refine ⟨fun _ => ?_, fun hc => absurd hc (by decide)⟩ | refine ⟨fun hc => absurd (by decide) hc, fun _ => ?_⟩); conv => whnf)
  try dsimp only
  refine ⟨zG_of _, T, hC, fun wi1 wl1 hF1 hC1 => ?_⟩
  conv => whnf
  repeat ((first | refine ⟨zH_of _, ?_⟩ | refine ⟨trivial, ?_⟩ | refine ⟨rfl, ?_⟩ | refine ⟨fun hc => absurd hc (by decide), fun _ => ?_⟩ | refine ⟨fun _ => ?_, fun hc => absurd (by decide) hc⟩ | refine ⟨fun _ => ?_, fun hc => absurd hc (by decide)⟩ | refine ⟨fun hc => absurd (by decide) hc, fun _ => ?_⟩); conv => whnf)
  try dsimp only
  refine ⟨T, mt_frC hM hF1, ct_ZT hC, fun wi2 wl2 hF2 hM2 => ?_⟩
  conv => whnf
  repeat ((first | refine ⟨zH_of _, ?_⟩ | refine ⟨trivial, ?_⟩ | refine ⟨rfl, ?_⟩ | refine ⟨fun hc => absurd hc (by decide), fun _ => ?_⟩ | refine ⟨fun _ => ?_, fun hc => absurd (by decide) hc⟩ | refine ⟨fun _ => ?_, fun hc => absurd hc (by decide)⟩ | refine ⟨fun hc => absurd (by decide) hc, fun _ => ?_⟩); conv => whnf)
  try dsimp only
  refine ⟨fun _ => ?_, fun hc => absurd rfl hc⟩
  conv => whnf
  repeat ((first | refine ⟨zH_of _, ?_⟩ | refine ⟨trivial, ?_⟩ | refine ⟨rfl, ?_⟩ | refine ⟨fun hc => absurd hc (by decide), fun _ => ?_⟩ | refine ⟨fun _ => ?_, fun hc => absurd (by decide) hc⟩ | refine ⟨fun _ => ?_, fun hc => absurd hc (by decide)⟩ | refine ⟨fun hc => absurd (by decide) hc, fun _ => ?_⟩); conv => whnf)
  try dsimp only
  exact law_n hs (hN wi2 wl2 _ (ct_frM hC1 hF2) hM2)
set_option maxRecDepth 100000 in
theorem law_1203 (hs : ∀ (n pc : Nat) (al : zAL) (st : List Value) (w : zW) (c1 c2 : Nat), z_wp (M_L_law L xs) lawK Jm n (z_from (M_L_law L xs).1 pc) al st w c1 c2 → Jm pc al st w c1 c2) (hv : ∀ j, j < 5 → vp_in (nI (5 * k) + nI j) L) (hC : CT wi wl T) (hM : MT wi wl T) (hN : ∀ (wi2 : Nat → Nat → Int32) (wl2 : Nat → Nat → Int64) (T2 : zT), CT wi2 wl2 T2 → MT wi2 wl2 T2 → Jm 23 (alk (k + 1)) [] (GL, wi2, wl2) c1 c2) : Jm 1203 (alk k) [] (GL, wi, wl) c1 c2 := by
  refine hs 400 1203 _ _ _ _ _ ?_
  conv => whnf
  repeat ((first | refine ⟨zH_of _, ?_⟩ | refine ⟨trivial, ?_⟩ | refine ⟨rfl, ?_⟩ | refine ⟨fun hc => absurd hc (by decide), fun _ => ?_⟩ | refine ⟨fun _ => ?_, fun hc => absurd (by decide) hc⟩ | refine ⟨fun _ => ?_, fun hc => absurd hc (by decide)⟩ | refine ⟨fun hc => absurd (by decide) hc, fun _ => ?_⟩); conv => whnf)
  try dsimp only
  refine ⟨zG_of _, T, hC, fun wi1 wl1 hF1 hC1 => ?_⟩
  conv => whnf
  repeat ((first | refine ⟨zH_of _, ?_⟩ | refine ⟨trivial, ?_⟩ | refine ⟨rfl, ?_⟩ | refine ⟨fun hc => absurd hc (by decide), fun _ => ?_⟩ | refine ⟨fun _ => ?_, fun hc => absurd (by decide) hc⟩ | refine ⟨fun _ => ?_, fun hc => absurd hc (by decide)⟩ | refine ⟨fun hc => absurd (by decide) hc, fun _ => ?_⟩); conv => whnf)
  try dsimp only
  refine ⟨T, mt_frC hM hF1, ct_ZT hC, fun wi2 wl2 hF2 hM2 => ?_⟩
  conv => whnf
  repeat ((first | refine ⟨zH_of _, ?_⟩ | refine ⟨trivial, ?_⟩ | refine ⟨rfl, ?_⟩ | refine ⟨fun hc => absurd hc (by decide), fun _ => ?_⟩ | refine ⟨fun _ => ?_, fun hc => absurd (by decide) hc⟩ | refine ⟨fun _ => ?_, fun hc => absurd hc (by decide)⟩ | refine ⟨fun hc => absurd (by decide) hc, fun _ => ?_⟩); conv => whnf)
  try dsimp only
  refine ⟨fun _ => ?_, fun hc => absurd rfl hc⟩
  conv => whnf
  repeat ((first | refine ⟨zH_of _, ?_⟩ | refine ⟨trivial, ?_⟩ | refine ⟨rfl, ?_⟩ | refine ⟨fun hc => absurd hc (by decide), fun _ => ?_⟩ | refine ⟨fun _ => ?_, fun hc => absurd (by decide) hc⟩ | refine ⟨fun _ => ?_, fun hc => absurd hc (by decide)⟩ | refine ⟨fun hc => absurd (by decide) hc, fun _ => ?_⟩); conv => whnf)
  try dsimp only
  exact law_n hs (hN wi2 wl2 _ (ct_frM hC1 hF2) hM2)
set_option maxRecDepth 100000 in
theorem law_1216 (hs : ∀ (n pc : Nat) (al : zAL) (st : List Value) (w : zW) (c1 c2 : Nat), z_wp (M_L_law L xs) lawK Jm n (z_from (M_L_law L xs).1 pc) al st w c1 c2 → Jm pc al st w c1 c2) (hv : ∀ j, j < 5 → vp_in (nI (5 * k) + nI j) L) (hC : CT wi wl T) (hM : MT wi wl T) (hN : ∀ (wi2 : Nat → Nat → Int32) (wl2 : Nat → Nat → Int64) (T2 : zT), CT wi2 wl2 T2 → MT wi2 wl2 T2 → Jm 23 (alk (k + 1)) [] (GL, wi2, wl2) c1 c2) : Jm 1216 (alk k) [] (GL, wi, wl) c1 c2 := by
  refine hs 400 1216 _ _ _ _ _ ?_
  conv => whnf
  repeat ((first | refine ⟨zH_of _, ?_⟩ | refine ⟨trivial, ?_⟩ | refine ⟨rfl, ?_⟩ | refine ⟨fun hc => absurd hc (by decide), fun _ => ?_⟩ | refine ⟨fun _ => ?_, fun hc => absurd (by decide) hc⟩ | refine ⟨fun _ => ?_, fun hc => absurd hc (by decide)⟩ | refine ⟨fun hc => absurd (by decide) hc, fun _ => ?_⟩); conv => whnf)
  try dsimp only
  refine ⟨zG_of _, T, hC, fun wi1 wl1 hF1 hC1 => ?_⟩
  conv => whnf
  repeat ((first | refine ⟨zH_of _, ?_⟩ | refine ⟨trivial, ?_⟩ | refine ⟨rfl, ?_⟩ | refine ⟨fun hc => absurd hc (by decide), fun _ => ?_⟩ | refine ⟨fun _ => ?_, fun hc => absurd (by decide) hc⟩ | refine ⟨fun _ => ?_, fun hc => absurd hc (by decide)⟩ | refine ⟨fun hc => absurd (by decide) hc, fun _ => ?_⟩); conv => whnf)
  try dsimp only
  refine ⟨T, mt_frC hM hF1, ct_ZT hC, fun wi2 wl2 hF2 hM2 => ?_⟩
  conv => whnf
  repeat ((first | refine ⟨zH_of _, ?_⟩ | refine ⟨trivial, ?_⟩ | refine ⟨rfl, ?_⟩ | refine ⟨fun hc => absurd hc (by decide), fun _ => ?_⟩ | refine ⟨fun _ => ?_, fun hc => absurd (by decide) hc⟩ | refine ⟨fun _ => ?_, fun hc => absurd hc (by decide)⟩ | refine ⟨fun hc => absurd (by decide) hc, fun _ => ?_⟩); conv => whnf)
  try dsimp only
  refine ⟨fun _ => ?_, fun hc => absurd rfl hc⟩
  conv => whnf
  repeat ((first | refine ⟨zH_of _, ?_⟩ | refine ⟨trivial, ?_⟩ | refine ⟨rfl, ?_⟩ | refine ⟨fun hc => absurd hc (by decide), fun _ => ?_⟩ | refine ⟨fun _ => ?_, fun hc => absurd (by decide) hc⟩ | refine ⟨fun _ => ?_, fun hc => absurd hc (by decide)⟩ | refine ⟨fun hc => absurd (by decide) hc, fun _ => ?_⟩); conv => whnf)
  try dsimp only
  exact law_n hs (hN wi2 wl2 _ (ct_frM hC1 hF2) hM2)
set_option maxRecDepth 100000 in
theorem law_1229 (hs : ∀ (n pc : Nat) (al : zAL) (st : List Value) (w : zW) (c1 c2 : Nat), z_wp (M_L_law L xs) lawK Jm n (z_from (M_L_law L xs).1 pc) al st w c1 c2 → Jm pc al st w c1 c2) (hv : ∀ j, j < 5 → vp_in (nI (5 * k) + nI j) L) (hC : CT wi wl T) (hM : MT wi wl T) (hN : ∀ (wi2 : Nat → Nat → Int32) (wl2 : Nat → Nat → Int64) (T2 : zT), CT wi2 wl2 T2 → MT wi2 wl2 T2 → Jm 23 (alk (k + 1)) [] (GL, wi2, wl2) c1 c2) : Jm 1229 (alk k) [] (GL, wi, wl) c1 c2 := by
  refine hs 400 1229 _ _ _ _ _ ?_
  conv => whnf
  repeat ((first | refine ⟨zH_of _, ?_⟩ | refine ⟨trivial, ?_⟩ | refine ⟨rfl, ?_⟩ | refine ⟨fun hc => absurd hc (by decide), fun _ => ?_⟩ | refine ⟨fun _ => ?_, fun hc => absurd (by decide) hc⟩ | refine ⟨fun _ => ?_, fun hc => absurd hc (by decide)⟩ | refine ⟨fun hc => absurd (by decide) hc, fun _ => ?_⟩); conv => whnf)
  try dsimp only
  refine ⟨hv 1 (by decide), ?_⟩
  conv => whnf
  repeat ((first | refine ⟨zH_of _, ?_⟩ | refine ⟨trivial, ?_⟩ | refine ⟨rfl, ?_⟩ | refine ⟨fun hc => absurd hc (by decide), fun _ => ?_⟩ | refine ⟨fun _ => ?_, fun hc => absurd (by decide) hc⟩ | refine ⟨fun _ => ?_, fun hc => absurd hc (by decide)⟩ | refine ⟨fun hc => absurd (by decide) hc, fun _ => ?_⟩); conv => whnf)
  try dsimp only
  refine ⟨zG_of _, T, hC, fun wi1 wl1 hF1 hC1 => ?_⟩
  conv => whnf
  repeat ((first | refine ⟨zH_of _, ?_⟩ | refine ⟨trivial, ?_⟩ | refine ⟨rfl, ?_⟩ | refine ⟨fun hc => absurd hc (by decide), fun _ => ?_⟩ | refine ⟨fun _ => ?_, fun hc => absurd (by decide) hc⟩ | refine ⟨fun _ => ?_, fun hc => absurd hc (by decide)⟩ | refine ⟨fun hc => absurd (by decide) hc, fun _ => ?_⟩); conv => whnf)
  try dsimp only
  refine ⟨hv 1 (by decide), ?_⟩
  conv => whnf
  repeat ((first | refine ⟨zH_of _, ?_⟩ | refine ⟨trivial, ?_⟩ | refine ⟨rfl, ?_⟩ | refine ⟨fun hc => absurd hc (by decide), fun _ => ?_⟩ | refine ⟨fun _ => ?_, fun hc => absurd (by decide) hc⟩ | refine ⟨fun _ => ?_, fun hc => absurd hc (by decide)⟩ | refine ⟨fun hc => absurd (by decide) hc, fun _ => ?_⟩); conv => whnf)
  try dsimp only
  refine ⟨T, mt_frC hM hF1, ct_ZT hC, fun wi2 wl2 hF2 hM2 => ?_⟩
  conv => whnf
  repeat ((first | refine ⟨zH_of _, ?_⟩ | refine ⟨trivial, ?_⟩ | refine ⟨rfl, ?_⟩ | refine ⟨fun hc => absurd hc (by decide), fun _ => ?_⟩ | refine ⟨fun _ => ?_, fun hc => absurd (by decide) hc⟩ | refine ⟨fun _ => ?_, fun hc => absurd hc (by decide)⟩ | refine ⟨fun hc => absurd (by decide) hc, fun _ => ?_⟩); conv => whnf)
  try dsimp only
  refine ⟨fun _ => ?_, fun hc => absurd rfl hc⟩
  conv => whnf
  repeat ((first | refine ⟨zH_of _, ?_⟩ | refine ⟨trivial, ?_⟩ | refine ⟨rfl, ?_⟩ | refine ⟨fun hc => absurd hc (by decide), fun _ => ?_⟩ | refine ⟨fun _ => ?_, fun hc => absurd (by decide) hc⟩ | refine ⟨fun _ => ?_, fun hc => absurd hc (by decide)⟩ | refine ⟨fun hc => absurd (by decide) hc, fun _ => ?_⟩); conv => whnf)
  try dsimp only
  exact law_n hs (hN wi2 wl2 _ (ct_frM hC1 hF2) hM2)
end

