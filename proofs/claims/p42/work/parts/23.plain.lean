/-! plain products; a flip -/
def un (x : Nat) : Nat → Nat := fun p => if p = x then 1 else 0
def onA (A : Nat → Nat → Nat) (c x y z : Nat) : Nat → Nat → Nat := fun k => if k < 3 * c then A k else if k = 3 * c then un x else if k = 3 * c + 1 then un y else un z
theorem un_lt {q : Nat} (hq : q = 2 ∨ q = 3) (x p : Nat) : un x p < q := by
  unfold un
  split <;> omega
theorem fwith_un {x : Nat} (hx : x < 9) : fwith (nI 0) (nI x) (nI 1) = pk (un x) := by
  rw [← pk_zero, fwith_pk (fun _ _ => by decide) hx (by decide)]
  rfl
theorem onA_eq (A : Nat → Nat → Nat) (c x y z k : Nat) (hk : k < 3 * (c + 1)) (p : Nat) : upA (upA (upA (zA A c) (3 * c + 0) (un x)) (3 * c + 1) (un y)) (3 * c + 2) (un z) k p = onA A c x y z k p := by
  unfold upA onA zA
  by_cases e0 : k < 3 * c
  · rw [if_neg (by omega), if_neg (by omega), if_neg (by omega), if_pos e0, if_pos e0]
  · rw [if_neg e0]
    rcases (show k = 3 * c ∨ k = 3 * c + 1 ∨ k = 3 * c + 2 by omega) with rfl | rfl | rfl
    · rw [if_neg (by omega), if_neg (by omega), if_pos (by omega), if_pos rfl]
    · rw [if_neg (by omega), if_pos rfl, if_neg (by omega), if_pos rfl]
    · rw [if_pos rfl, if_neg (by omega), if_neg (by omega)]
def sp_X6_addOnes : zSp := fun av w K => match av with
  | [.ref o, .int x, .int y, .int z] => o = 6 ∧ zG w.1 ∧ ∃ d q c A x' y' z', CS w.2.1 6 d q c A ∧ c < 40 ∧ x = nI x' ∧ x' < 9 ∧ y = nI y' ∧ y' < 9 ∧ z = nI z' ∧ z' < 9 ∧ ∀ wi' : Nat → Nat → Int32, Fr 6 8 w.2.1 wi' → CS wi' 6 d q (c + 1) (onA A c x' y' z') → K none (w.1, wi', w.2.2)
  | _ => False
def rm_X6_addOnes : Room := { frames := 3, cells := 0, slots := 0, locals := 66 }
def M_X6_addOnes : zM := (k_X6_addOnes, f_X6, [(43, 4, 5, 1, 0, 0, sp_X6_addZero), (47, 0, 0, 3, 0, 0, sp_X2_with), (53, 4, 5, 4, 0, 0, sp_X6_setForm)], ([], [], []), [], [], 0, false, (false, 0, fun _ => 0), (0, 0, []))
theorem ca_X6_addOnes_0 (l : Launch) : z_cok l RX6 (headSpec (.code yX6_addOnes cX6_addOnes 4 none :: zTT) rm_X6_addOnes).room (false, 0, fun _ => 0) (43, 4, 5, 1, 0, 0, sp_X6_addZero) := z_ca4 (c_X6_addZero l) mb_X6_addZero ⟨_, rfl, rfl⟩ wt_280 wt_281 wt_282 (by decide)
theorem ca_X6_addOnes_1 (l : Launch) : z_cok l RX6 (headSpec (.code yX6_addOnes cX6_addOnes 4 none :: zTT) rm_X6_addOnes).room (false, 0, fun _ => 0) (47, 0, 0, 3, 0, 0, sp_X2_with) := z_ca0 (c_X2_with l) mb_X2_with wt_296 wt_297 (by decide)
theorem ca_X6_addOnes_2 (l : Launch) : z_cok l RX6 (headSpec (.code yX6_addOnes cX6_addOnes 4 none :: zTT) rm_X6_addOnes).room (false, 0, fun _ => 0) (53, 4, 5, 4, 0, 0, sp_X6_setForm) := z_ca4 (c_X6_setForm l) mb_X6_setForm ⟨_, rfl, rfl⟩ wt_288 wt_289 wt_290 (by decide)
theorem O_X6_addOnes (l : Launch) : z_OK l RX6 cX6_addOnes (headSpec (.code yX6_addOnes cX6_addOnes 4 none :: zTT) rm_X6_addOnes).room M_X6_addOnes := ⟨ok_X6_addOnes, fo_X6, List.forall_mem_cons.mpr ⟨ca_X6_addOnes_0 l, List.forall_mem_cons.mpr ⟨ca_X6_addOnes_1 l, List.forall_mem_cons.mpr ⟨ca_X6_addOnes_2 l, fun _ h => absurd h List.not_mem_nil⟩⟩⟩, fun _ h => absurd h List.not_mem_nil, fun _ h => absurd h List.not_mem_nil, fun _ h => absurd h List.not_mem_nil, fun _ h => absurd h List.not_mem_nil, rfl, rfl, fun _ h => absurd h List.not_mem_nil⟩
theorem c_X6_addOnes (l : Launch) : z_CS l yX6_addOnes cX6_addOnes 4 none rm_X6_addOnes sp_X6_addOnes := by
  refine z_meth (by decide) (Or.inl ⟨rfl, rfl⟩) (fun h => by cases h) rfl (O_X6_addOnes l) ?_
  intro av w K h
  match av, h with
  | [.ref o, .int x, .int y, .int z], h =>
    obtain ⟨rfl, ⟨r, hG⟩, d, q, c, A, x', y', z', hS, hc, rfl, hx, rfl, hy, rfl, hz, h⟩ := h
    obtain ⟨G, wi, wl⟩ := w
    subst hG
    try dsimp only at h hS
    have q23 := cs_q23 hS
    refine ⟨Nat.le_of_ble_eq_true rfl, fun Jm hs => ?_⟩
    refine hs 400 0 _ _ _ _ _ ?_
    conv => whnf
    repeat ((first | refine ⟨zG_of _, ?_⟩ | refine ⟨trivial, ?_⟩ | refine ⟨rfl, ?_⟩ | refine ⟨fun hc => absurd hc (by decide), fun _ => ?_⟩ | refine ⟨fun _ => ?_, fun hc => absurd (by decide) hc⟩ | refine ⟨fun _ => ?_, fun hc => absurd hc (by decide)⟩ | refine ⟨fun hc => absurd (by decide) hc, fun _ => ?_⟩); conv => whnf)
    try dsimp only
    refine ⟨Or.inl rfl, zG_of _, d, q, c, A, hS, fun z => absurd z (by omega), fun _ wi1 hF1 hS1 => ?_⟩
    conv => whnf
    repeat ((first | refine ⟨zG_of _, ?_⟩ | refine ⟨trivial, ?_⟩ | refine ⟨rfl, ?_⟩ | refine ⟨fun hc => absurd hc (by decide), fun _ => ?_⟩ | refine ⟨fun _ => ?_, fun hc => absurd (by decide) hc⟩ | refine ⟨fun _ => ?_, fun hc => absurd hc (by decide)⟩ | refine ⟨fun hc => absurd (by decide) hc, fun _ => ?_⟩); conv => whnf)
    try dsimp only
    refine ⟨Or.inl rfl, zG_of _, c, 0, by rw [cs_c hS1, pk_sub (by omega)]; rfl, hc, rfl, by decide, fun wi2 e2 => ?_⟩
    have k2 := cs_set hS1 (show c < c + 1 by omega) (by decide) (fwith_un hx) (fun p _ => un_lt q23 x' p) e2
    conv => whnf
    repeat ((first | refine ⟨zG_of _, ?_⟩ | refine ⟨trivial, ?_⟩ | refine ⟨rfl, ?_⟩ | refine ⟨fun hc => absurd hc (by decide), fun _ => ?_⟩ | refine ⟨fun _ => ?_, fun hc => absurd (by decide) hc⟩ | refine ⟨fun _ => ?_, fun hc => absurd hc (by decide)⟩ | refine ⟨fun hc => absurd (by decide) hc, fun _ => ?_⟩); conv => whnf)
    try dsimp only
    refine ⟨Or.inl rfl, zG_of _, c, 1, by rw [cs_c k2.1, pk_sub (by omega)]; rfl, hc, rfl, by decide, fun wi3 e3 => ?_⟩
    have k3 := cs_set k2.1 (show c < c + 1 by omega) (by decide) (fwith_un hy) (fun p _ => un_lt q23 y' p) e3
    conv => whnf
    repeat ((first | refine ⟨zG_of _, ?_⟩ | refine ⟨trivial, ?_⟩ | refine ⟨rfl, ?_⟩ | refine ⟨fun hc => absurd hc (by decide), fun _ => ?_⟩ | refine ⟨fun _ => ?_, fun hc => absurd (by decide) hc⟩ | refine ⟨fun _ => ?_, fun hc => absurd hc (by decide)⟩ | refine ⟨fun hc => absurd (by decide) hc, fun _ => ?_⟩); conv => whnf)
    try dsimp only
    refine ⟨Or.inl rfl, zG_of _, c, 2, by rw [cs_c k3.1, pk_sub (by omega)]; rfl, hc, rfl, by decide, fun wi4 e4 => ?_⟩
    have k4 := cs_set k3.1 (show c < c + 1 by omega) (by decide) (fwith_un hz) (fun p _ => un_lt q23 z' p) e4
    refine h wi4 (Fr_trans (Fr_trans (Fr_trans hF1 k2.2) k3.2) k4.2) (cs_congr k4.1 (fun k hk p _ => onA_eq A c x' y' z' k hk p))
/-- the plain products of a space's last line (space 3: all) come, one by one -/
def apC (s : Nat) (d : Nat → Nat) (i j k : Nat) : Bool := s == 3 || (s == 0 && i + 1 == d 0) || (s == 1 && j + 1 == d 1) || (s == 2 && k + 1 == d 2)
def apK (s : Nat) (d : Nat → Nat) (i j : Nat) : Nat → Nat × (Nat → Nat → Nat) → Nat × (Nat → Nat → Nat)
  | 0, S => S
  | k + 1, S => if apC s d i j k = true then ((apK s d i j k S).1 + 1, onA (apK s d i j k S).2 (apK s d i j k S).1 (i * d 1 + j) (j * d 2 + k) (k * d 0 + i)) else apK s d i j k S
def apJ (s : Nat) (d : Nat → Nat) (i : Nat) : Nat → Nat × (Nat → Nat → Nat) → Nat × (Nat → Nat → Nat)
  | 0, S => S
  | j + 1, S => apK s d i j (d 2) (apJ s d i j S)
def apI (s : Nat) (d : Nat → Nat) : Nat → Nat × (Nat → Nat → Nat) → Nat × (Nat → Nat → Nat)
  | 0, S => S
  | i + 1, S => apJ s d i (d 1) (apI s d i S)
theorem apK_mono (s : Nat) (d : Nat → Nat) (i j : Nat) (S : Nat × (Nat → Nat → Nat)) {m n : Nat} (h : m ≤ n) : (apK s d i j m S).1 ≤ (apK s d i j n S).1 := by
  induction h with
  | refl => exact Nat.le_refl _
  | step _ ih =>
    refine Nat.le_trans ih ?_
    rw [apK]
    split
    · exact Nat.le_succ _
    · exact Nat.le_refl _
theorem apJ_mono (s : Nat) (d : Nat → Nat) (i : Nat) (S : Nat × (Nat → Nat → Nat)) {m n : Nat} (h : m ≤ n) : (apJ s d i m S).1 ≤ (apJ s d i n S).1 := by
  induction h with
  | refl => exact Nat.le_refl _
  | step _ ih =>
    refine Nat.le_trans ih ?_
    rw [apJ]
    exact apK_mono s d i _ _ (Nat.zero_le _)
theorem apI_mono (s : Nat) (d : Nat → Nat) (S : Nat × (Nat → Nat → Nat)) {m n : Nat} (h : m ≤ n) : (apI s d m S).1 ≤ (apI s d n S).1 := by
  induction h with
  | refl => exact Nat.le_refl _
  | step _ ih =>
    refine Nat.le_trans ih ?_
    rw [apI]
    exact apJ_mono s d _ _ (Nat.zero_le _)
theorem ap_idx {d : Nat → Nat} (hd : ∀ t, t < 3 → 1 ≤ d t ∧ d t ≤ 3) {i j u v : Nat} (hu : u < 3) (hv : v < 3) (hi : i < d u) (hj : j < d v) : i * d v + j < 9 := by
  have h1 := hd u hu
  have h2 := hd v hv
  have h3 : i * d v ≤ 2 * d v := Nat.mul_le_mul_right _ (by omega)
  omega
def sp_X6_addPlain : zSp := fun av w K => match av with
  | [.ref o, .int s] => o = 6 ∧ zG w.1 ∧ ∃ d q c A s', CS w.2.1 6 d q c A ∧ ((s = mI 1 ∧ s' = 3) ∨ (s = nI 0 ∧ s' = 0) ∨ (s = nI 1 ∧ s' = 1) ∨ (s = nI 2 ∧ s' = 2)) ∧ (apI s' d (d 0) (c, A)).1 ≤ 40 ∧ ∀ wi' : Nat → Nat → Int32, Fr 6 8 w.2.1 wi' → CS wi' 6 d q (apI s' d (d 0) (c, A)).1 (apI s' d (d 0) (c, A)).2 → K none (w.1, wi', w.2.2)
  | _ => False
def rm_X6_addPlain : Room := { frames := 4, cells := 0, slots := 0, locals := 89 }
def M_X6_addPlain : zM := (k_X6_addPlain, f_X6, [(39, 4, 5, 4, 0, 0, sp_X6_addOnes)], ([], [], []), [], [(2, [true, true, true, false, false, false]), (12, [true, true, true, true, false, false]), (23, [true, true, true, true, true, false])], 0, false, (false, 0, fun _ => 0), (0, 0, []))
theorem ca_X6_addPlain_0 (l : Launch) : z_cok l RX6 (headSpec (.code yX6_addPlain cX6_addPlain 6 none :: zTT) rm_X6_addPlain).room (false, 0, fun _ => 0) (39, 4, 5, 4, 0, 0, sp_X6_addOnes) := z_ca4 (c_X6_addOnes l) mb_X6_addOnes ⟨_, rfl, rfl⟩ wt_276 wt_278 wt_0 (by decide)
theorem O_X6_addPlain (l : Launch) : z_OK l RX6 cX6_addPlain (headSpec (.code yX6_addPlain cX6_addPlain 6 none :: zTT) rm_X6_addPlain).room M_X6_addPlain := ⟨ok_X6_addPlain, fo_X6, List.forall_mem_cons.mpr ⟨ca_X6_addPlain_0 l, fun _ h => absurd h List.not_mem_nil⟩, fun _ h => absurd h List.not_mem_nil, fun _ h => absurd h List.not_mem_nil, fun _ h => absurd h List.not_mem_nil, fun _ h => absurd h List.not_mem_nil, rfl, rfl, fun _ h => absurd h List.not_mem_nil⟩
theorem c_X6_addPlain (l : Launch) : z_CS l yX6_addPlain cX6_addPlain 6 none rm_X6_addPlain sp_X6_addPlain := by
  refine z_meth (by decide) (Or.inl ⟨rfl, rfl⟩) (fun h => by cases h) rfl (O_X6_addPlain l) ?_
  intro av w K h
  match av, h with
  | [.ref o, .int s], h =>
    obtain ⟨rfl, ⟨r, hG⟩, d, q, c, A, s', hS, hs', hm, h⟩ := h
    obtain ⟨G, wi, wl⟩ := w
    subst hG
    try dsimp only at h hS
    have hd := cs_d hS
    have d0 := hd 0 (by decide)
    have d1 := hd 1 (by decide)
    have d2 := hd 2 (by decide)
    generalize hT : (c, A) = T at h hm
    have hS : CS wi 6 d q T.1 T.2 := by rw [← hT]; exact hS
    rcases hs' with ⟨rfl, rfl⟩ | ⟨rfl, rfl⟩ | ⟨rfl, rfl⟩ | ⟨rfl, rfl⟩
    · refine ⟨Nat.le_of_ble_eq_true rfl, fun Jm hs => ?_⟩
      have loop := up_ind (P := fun i => ∀ wi' : Nat → Nat → Int32, Fr 6 8 wi wi' → CS wi' 6 d q (apI 3 d i T).1 (apI 3 d i T).2 → Jm 2 [some (.ref 6), some (.int (mI 1)), some (.int (nI i)), none, none, none] [] (GC ++ r, wi', wl) 0 0) (d 0) (fun i hi ih => by
        intro wi' hF hS'
        refine hs 400 2 _ _ _ _ _ ?_
        conv => whnf
        repeat ((first | refine ⟨zG_of _, ?_⟩ | refine ⟨trivial, ?_⟩ | refine ⟨rfl, ?_⟩ | refine ⟨fun hc => absurd hc (by decide), fun _ => ?_⟩ | refine ⟨fun _ => ?_, fun hc => absurd (by decide) hc⟩ | refine ⟨fun _ => ?_, fun hc => absurd hc (by decide)⟩ | refine ⟨fun hc => absurd (by decide) hc, fun _ => ?_⟩); conv => whnf)
        try dsimp only
        rw [cs_1 hS', ltN (by omega) (by omega)]
        refine ⟨fun hc => ?_, fun hc => ?_⟩
        · obtain rfl : i = d 0 := by omega
          exact h wi' hF hS'
        · have ih := ih hc
          have m_i := apI_mono 3 d T (show i + 1 ≤ d 0 from hc)
          rw [apI] at m_i
          have loopj := up_ind (P := fun j => ∀ wi' : Nat → Nat → Int32, Fr 6 8 wi wi' → CS wi' 6 d q (apJ 3 d i j (apI 3 d i T)).1 (apJ 3 d i j (apI 3 d i T)).2 → Jm 12 [some (.ref 6), some (.int (mI 1)), some (.int (nI i)), some (.int (nI j)), none, none] [] (GC ++ r, wi', wl) 0 0) (d 1) (fun j hj ihj => by
            intro wi' hF hS'
            refine hs 400 12 _ _ _ _ _ ?_
            conv => whnf
            repeat ((first | refine ⟨zG_of _, ?_⟩ | refine ⟨trivial, ?_⟩ | refine ⟨rfl, ?_⟩ | refine ⟨fun hc => absurd hc (by decide), fun _ => ?_⟩ | refine ⟨fun _ => ?_, fun hc => absurd (by decide) hc⟩ | refine ⟨fun _ => ?_, fun hc => absurd hc (by decide)⟩ | refine ⟨fun hc => absurd (by decide) hc, fun _ => ?_⟩); conv => whnf)
            try dsimp only
            rw [cs_2 hS', ltN (by omega) (by omega)]
            refine ⟨fun hc2 => ?_, fun hc2 => ?_⟩
            · obtain rfl : j = d 1 := by omega
              conv => whnf
              repeat ((first | refine ⟨zG_of _, ?_⟩ | refine ⟨trivial, ?_⟩ | refine ⟨rfl, ?_⟩ | refine ⟨fun hc => absurd hc (by decide), fun _ => ?_⟩ | refine ⟨fun _ => ?_, fun hc => absurd (by decide) hc⟩ | refine ⟨fun _ => ?_, fun hc => absurd hc (by decide)⟩ | refine ⟨fun hc => absurd (by decide) hc, fun _ => ?_⟩); conv => whnf)
              try dsimp only
              rw [nI_add]
              exact ih wi' hF hS'
            · have ihj := ihj hc2
              have m_j := apJ_mono 3 d i (apI 3 d i T) (show j + 1 ≤ d 1 from hc2)
              rw [apJ] at m_j
              have loopk := up_ind (P := fun k => ∀ wi' : Nat → Nat → Int32, Fr 6 8 wi wi' → CS wi' 6 d q (apK 3 d i j k (apJ 3 d i j (apI 3 d i T))).1 (apK 3 d i j k (apJ 3 d i j (apI 3 d i T))).2 → Jm 23 [some (.ref 6), some (.int (mI 1)), some (.int (nI i)), some (.int (nI j)), some (.int (nI k)), none] [] (GC ++ r, wi', wl) 0 0) (d 2) (fun k hk ihk => by
                intro wi' hF hS'
                refine hs 400 23 _ _ _ _ _ ?_
                conv => whnf
                repeat ((first | refine ⟨zG_of _, ?_⟩ | refine ⟨trivial, ?_⟩ | refine ⟨rfl, ?_⟩ | refine ⟨fun hc => absurd hc (by decide), fun _ => ?_⟩ | refine ⟨fun _ => ?_, fun hc => absurd (by decide) hc⟩ | refine ⟨fun _ => ?_, fun hc => absurd hc (by decide)⟩ | refine ⟨fun hc => absurd (by decide) hc, fun _ => ?_⟩); conv => whnf)
                try dsimp only
                rw [cs_3 hS', ltN (by omega) (by omega)]
                refine ⟨fun hc3 => ?_, fun hc3 => ?_⟩
                · obtain rfl : k = d 2 := by omega
                  conv => whnf
                  repeat ((first | refine ⟨zG_of _, ?_⟩ | refine ⟨trivial, ?_⟩ | refine ⟨rfl, ?_⟩ | refine ⟨fun hc => absurd hc (by decide), fun _ => ?_⟩ | refine ⟨fun _ => ?_, fun hc => absurd (by decide) hc⟩ | refine ⟨fun _ => ?_, fun hc => absurd hc (by decide)⟩ | refine ⟨fun hc => absurd (by decide) hc, fun _ => ?_⟩); conv => whnf)
                  try dsimp only
                  rw [nI_add]
                  exact ihj wi' hF hS'
                · have ihk := ihk hc3
                  have m_k := apK_mono 3 d i j (apJ 3 d i j (apI 3 d i T)) (show k + 1 ≤ d 2 from hc3)
                  rw [apK] at ihk m_k
                  have e1 : wi' 6 1 - nI 1 = nI (d 0 - 1) := by rw [cs_1 hS', pk_sub (by omega)]
                  have e2 : wi' 6 2 - nI 1 = nI (d 1 - 1) := by rw [cs_2 hS', pk_sub (by omega)]
                  have e3 : wi' 6 3 - nI 1 = nI (d 2 - 1) := by rw [cs_3 hS', pk_sub (by omega)]
                  have add : apC 3 d i j k = true → ∃ d' q' c' A' x' y' z', CS wi' 6 d' q' c' A' ∧ c' < 40 ∧ nI i * wi' 6 2 + nI j = nI x' ∧ x' < 9 ∧ nI j * wi' 6 3 + nI k = nI y' ∧ y' < 9 ∧ nI k * wi' 6 1 + nI i = nI z' ∧ z' < 9 ∧ ∀ wi2 : Nat → Nat → Int32, Fr 6 8 wi' wi2 → CS wi2 6 d' q' (c' + 1) (onA A' c' x' y' z') → Jm 23 [some (.ref 6), some (.int (mI 1)), some (.int (nI i)), some (.int (nI j)), some (.int (nI (k + 1))), none] [] (GC ++ r, wi2, wl) 0 0 := fun hC => by
                    rw [if_pos hC] at ihk m_k
                    refine ⟨d, q, _, _, i * d 1 + j, j * d 2 + k, k * d 0 + i, hS', by omega, by rw [cs_2 hS', pk_mul, nI_add], ap_idx hd (u := 0) (v := 1) (by decide) (by decide) hc hc2, by rw [cs_3 hS', pk_mul, nI_add], ap_idx hd (u := 1) (v := 2) (by decide) (by decide) hc2 hc3, by rw [cs_1 hS', pk_mul, nI_add], ap_idx hd (u := 2) (v := 0) (by decide) (by decide) hc3 hc, fun wi2 hF2 hS2 => ihk wi2 (Fr_trans hF hF2) hS2⟩
                  have skip : ¬ apC 3 d i j k = true → Jm 23 [some (.ref 6), some (.int (mI 1)), some (.int (nI i)), some (.int (nI j)), some (.int (nI (k + 1))), none] [] (GC ++ r, wi', wl) 0 0 := fun hC => by
                    rw [if_neg hC] at ihk
                    exact ihk wi' hF hS'
                  conv => whnf
                  repeat ((first | refine ⟨zG_of _, ?_⟩ | refine ⟨trivial, ?_⟩ | refine ⟨rfl, ?_⟩ | refine ⟨fun hc => absurd hc (by decide), fun _ => ?_⟩ | refine ⟨fun _ => ?_, fun hc => absurd (by decide) hc⟩ | refine ⟨fun _ => ?_, fun hc => absurd hc (by decide)⟩ | refine ⟨fun hc => absurd (by decide) hc, fun _ => ?_⟩); conv => whnf)
                  try dsimp only
                  obtain ⟨d', q', c', A', x', y', z', g1, g2, g3, g4, g5, g6, g7, g8, g9⟩ := add (by simp [apC])
                  refine ⟨d', q', c', A', x', y', z', g1, g2, g3, g4, g5, g6, g7, g8, fun wi2 hF2 hS2 => ?_⟩
                  conv => whnf
                  repeat ((first | refine ⟨zG_of _, ?_⟩ | refine ⟨trivial, ?_⟩ | refine ⟨rfl, ?_⟩ | refine ⟨fun hc => absurd hc (by decide), fun _ => ?_⟩ | refine ⟨fun _ => ?_, fun hc => absurd (by decide) hc⟩ | refine ⟨fun _ => ?_, fun hc => absurd hc (by decide)⟩ | refine ⟨fun hc => absurd (by decide) hc, fun _ => ?_⟩); conv => whnf)
                  try dsimp only
                  rw [nI_add]
                  exact g9 wi2 hF2 hS2)
              conv => whnf
              repeat ((first | refine ⟨zG_of _, ?_⟩ | refine ⟨trivial, ?_⟩ | refine ⟨rfl, ?_⟩ | refine ⟨fun hc => absurd hc (by decide), fun _ => ?_⟩ | refine ⟨fun _ => ?_, fun hc => absurd (by decide) hc⟩ | refine ⟨fun _ => ?_, fun hc => absurd hc (by decide)⟩ | refine ⟨fun hc => absurd (by decide) hc, fun _ => ?_⟩); conv => whnf)
              try dsimp only
              exact loopk 0 (Nat.zero_le _) wi' hF hS')
          conv => whnf
          repeat ((first | refine ⟨zG_of _, ?_⟩ | refine ⟨trivial, ?_⟩ | refine ⟨rfl, ?_⟩ | refine ⟨fun hc => absurd hc (by decide), fun _ => ?_⟩ | refine ⟨fun _ => ?_, fun hc => absurd (by decide) hc⟩ | refine ⟨fun _ => ?_, fun hc => absurd hc (by decide)⟩ | refine ⟨fun hc => absurd (by decide) hc, fun _ => ?_⟩); conv => whnf)
          try dsimp only
          exact loopj 0 (Nat.zero_le _) wi' hF hS')
      exact hs 400 0 _ _ _ _ _ (loop 0 (Nat.zero_le _) wi (Fr_refl _ _ _) hS)
    · refine ⟨Nat.le_of_ble_eq_true rfl, fun Jm hs => ?_⟩
      have loop := up_ind (P := fun i => ∀ wi' : Nat → Nat → Int32, Fr 6 8 wi wi' → CS wi' 6 d q (apI 0 d i T).1 (apI 0 d i T).2 → Jm 2 [some (.ref 6), some (.int (nI 0)), some (.int (nI i)), none, none, none] [] (GC ++ r, wi', wl) 0 0) (d 0) (fun i hi ih => by
        intro wi' hF hS'
        refine hs 400 2 _ _ _ _ _ ?_
        conv => whnf
        repeat ((first | refine ⟨zG_of _, ?_⟩ | refine ⟨trivial, ?_⟩ | refine ⟨rfl, ?_⟩ | refine ⟨fun hc => absurd hc (by decide), fun _ => ?_⟩ | refine ⟨fun _ => ?_, fun hc => absurd (by decide) hc⟩ | refine ⟨fun _ => ?_, fun hc => absurd hc (by decide)⟩ | refine ⟨fun hc => absurd (by decide) hc, fun _ => ?_⟩); conv => whnf)
        try dsimp only
        rw [cs_1 hS', ltN (by omega) (by omega)]
        refine ⟨fun hc => ?_, fun hc => ?_⟩
        · obtain rfl : i = d 0 := by omega
          exact h wi' hF hS'
        · have ih := ih hc
          have m_i := apI_mono 0 d T (show i + 1 ≤ d 0 from hc)
          rw [apI] at m_i
          have loopj := up_ind (P := fun j => ∀ wi' : Nat → Nat → Int32, Fr 6 8 wi wi' → CS wi' 6 d q (apJ 0 d i j (apI 0 d i T)).1 (apJ 0 d i j (apI 0 d i T)).2 → Jm 12 [some (.ref 6), some (.int (nI 0)), some (.int (nI i)), some (.int (nI j)), none, none] [] (GC ++ r, wi', wl) 0 0) (d 1) (fun j hj ihj => by
            intro wi' hF hS'
            refine hs 400 12 _ _ _ _ _ ?_
            conv => whnf
            repeat ((first | refine ⟨zG_of _, ?_⟩ | refine ⟨trivial, ?_⟩ | refine ⟨rfl, ?_⟩ | refine ⟨fun hc => absurd hc (by decide), fun _ => ?_⟩ | refine ⟨fun _ => ?_, fun hc => absurd (by decide) hc⟩ | refine ⟨fun _ => ?_, fun hc => absurd hc (by decide)⟩ | refine ⟨fun hc => absurd (by decide) hc, fun _ => ?_⟩); conv => whnf)
            try dsimp only
            rw [cs_2 hS', ltN (by omega) (by omega)]
            refine ⟨fun hc2 => ?_, fun hc2 => ?_⟩
            · obtain rfl : j = d 1 := by omega
              conv => whnf
              repeat ((first | refine ⟨zG_of _, ?_⟩ | refine ⟨trivial, ?_⟩ | refine ⟨rfl, ?_⟩ | refine ⟨fun hc => absurd hc (by decide), fun _ => ?_⟩ | refine ⟨fun _ => ?_, fun hc => absurd (by decide) hc⟩ | refine ⟨fun _ => ?_, fun hc => absurd hc (by decide)⟩ | refine ⟨fun hc => absurd (by decide) hc, fun _ => ?_⟩); conv => whnf)
              try dsimp only
              rw [nI_add]
              exact ih wi' hF hS'
            · have ihj := ihj hc2
              have m_j := apJ_mono 0 d i (apI 0 d i T) (show j + 1 ≤ d 1 from hc2)
              rw [apJ] at m_j
              have loopk := up_ind (P := fun k => ∀ wi' : Nat → Nat → Int32, Fr 6 8 wi wi' → CS wi' 6 d q (apK 0 d i j k (apJ 0 d i j (apI 0 d i T))).1 (apK 0 d i j k (apJ 0 d i j (apI 0 d i T))).2 → Jm 23 [some (.ref 6), some (.int (nI 0)), some (.int (nI i)), some (.int (nI j)), some (.int (nI k)), none] [] (GC ++ r, wi', wl) 0 0) (d 2) (fun k hk ihk => by
                intro wi' hF hS'
                refine hs 400 23 _ _ _ _ _ ?_
                conv => whnf
                repeat ((first | refine ⟨zG_of _, ?_⟩ | refine ⟨trivial, ?_⟩ | refine ⟨rfl, ?_⟩ | refine ⟨fun hc => absurd hc (by decide), fun _ => ?_⟩ | refine ⟨fun _ => ?_, fun hc => absurd (by decide) hc⟩ | refine ⟨fun _ => ?_, fun hc => absurd hc (by decide)⟩ | refine ⟨fun hc => absurd (by decide) hc, fun _ => ?_⟩); conv => whnf)
                try dsimp only
                rw [cs_3 hS', ltN (by omega) (by omega)]
                refine ⟨fun hc3 => ?_, fun hc3 => ?_⟩
                · obtain rfl : k = d 2 := by omega
                  conv => whnf
                  repeat ((first | refine ⟨zG_of _, ?_⟩ | refine ⟨trivial, ?_⟩ | refine ⟨rfl, ?_⟩ | refine ⟨fun hc => absurd hc (by decide), fun _ => ?_⟩ | refine ⟨fun _ => ?_, fun hc => absurd (by decide) hc⟩ | refine ⟨fun _ => ?_, fun hc => absurd hc (by decide)⟩ | refine ⟨fun hc => absurd (by decide) hc, fun _ => ?_⟩); conv => whnf)
                  try dsimp only
                  rw [nI_add]
                  exact ihj wi' hF hS'
                · have ihk := ihk hc3
                  have m_k := apK_mono 0 d i j (apJ 0 d i j (apI 0 d i T)) (show k + 1 ≤ d 2 from hc3)
                  rw [apK] at ihk m_k
                  have e1 : wi' 6 1 - nI 1 = nI (d 0 - 1) := by rw [cs_1 hS', pk_sub (by omega)]
                  have e2 : wi' 6 2 - nI 1 = nI (d 1 - 1) := by rw [cs_2 hS', pk_sub (by omega)]
                  have e3 : wi' 6 3 - nI 1 = nI (d 2 - 1) := by rw [cs_3 hS', pk_sub (by omega)]
                  have add : apC 0 d i j k = true → ∃ d' q' c' A' x' y' z', CS wi' 6 d' q' c' A' ∧ c' < 40 ∧ nI i * wi' 6 2 + nI j = nI x' ∧ x' < 9 ∧ nI j * wi' 6 3 + nI k = nI y' ∧ y' < 9 ∧ nI k * wi' 6 1 + nI i = nI z' ∧ z' < 9 ∧ ∀ wi2 : Nat → Nat → Int32, Fr 6 8 wi' wi2 → CS wi2 6 d' q' (c' + 1) (onA A' c' x' y' z') → Jm 23 [some (.ref 6), some (.int (nI 0)), some (.int (nI i)), some (.int (nI j)), some (.int (nI (k + 1))), none] [] (GC ++ r, wi2, wl) 0 0 := fun hC => by
                    rw [if_pos hC] at ihk m_k
                    refine ⟨d, q, _, _, i * d 1 + j, j * d 2 + k, k * d 0 + i, hS', by omega, by rw [cs_2 hS', pk_mul, nI_add], ap_idx hd (u := 0) (v := 1) (by decide) (by decide) hc hc2, by rw [cs_3 hS', pk_mul, nI_add], ap_idx hd (u := 1) (v := 2) (by decide) (by decide) hc2 hc3, by rw [cs_1 hS', pk_mul, nI_add], ap_idx hd (u := 2) (v := 0) (by decide) (by decide) hc3 hc, fun wi2 hF2 hS2 => ihk wi2 (Fr_trans hF hF2) hS2⟩
                  have skip : ¬ apC 0 d i j k = true → Jm 23 [some (.ref 6), some (.int (nI 0)), some (.int (nI i)), some (.int (nI j)), some (.int (nI (k + 1))), none] [] (GC ++ r, wi', wl) 0 0 := fun hC => by
                    rw [if_neg hC] at ihk
                    exact ihk wi' hF hS'
                  conv => whnf
                  repeat ((first | refine ⟨zG_of _, ?_⟩ | refine ⟨trivial, ?_⟩ | refine ⟨rfl, ?_⟩ | refine ⟨fun hc => absurd hc (by decide), fun _ => ?_⟩ | refine ⟨fun _ => ?_, fun hc => absurd (by decide) hc⟩ | refine ⟨fun _ => ?_, fun hc => absurd hc (by decide)⟩ | refine ⟨fun hc => absurd (by decide) hc, fun _ => ?_⟩); conv => whnf)
                  try dsimp only
                  rw [e1, nI_eq (by omega) (by omega)]
                  refine ⟨fun hq => ?_, fun hq => ?_⟩
                  · conv => whnf
                    repeat ((first | refine ⟨zG_of _, ?_⟩ | refine ⟨trivial, ?_⟩ | refine ⟨rfl, ?_⟩ | refine ⟨fun hc => absurd hc (by decide), fun _ => ?_⟩ | refine ⟨fun _ => ?_, fun hc => absurd (by decide) hc⟩ | refine ⟨fun _ => ?_, fun hc => absurd hc (by decide)⟩ | refine ⟨fun hc => absurd (by decide) hc, fun _ => ?_⟩); conv => whnf)
                    try dsimp only
                    obtain ⟨d', q', c', A', x', y', z', g1, g2, g3, g4, g5, g6, g7, g8, g9⟩ := add (by simp [apC]; omega)
                    refine ⟨d', q', c', A', x', y', z', g1, g2, g3, g4, g5, g6, g7, g8, fun wi2 hF2 hS2 => ?_⟩
                    conv => whnf
                    repeat ((first | refine ⟨zG_of _, ?_⟩ | refine ⟨trivial, ?_⟩ | refine ⟨rfl, ?_⟩ | refine ⟨fun hc => absurd hc (by decide), fun _ => ?_⟩ | refine ⟨fun _ => ?_, fun hc => absurd (by decide) hc⟩ | refine ⟨fun _ => ?_, fun hc => absurd hc (by decide)⟩ | refine ⟨fun hc => absurd (by decide) hc, fun _ => ?_⟩); conv => whnf)
                    try dsimp only
                    rw [nI_add]
                    exact g9 wi2 hF2 hS2
                  · conv => whnf
                    repeat ((first | refine ⟨zG_of _, ?_⟩ | refine ⟨trivial, ?_⟩ | refine ⟨rfl, ?_⟩ | refine ⟨fun hc => absurd hc (by decide), fun _ => ?_⟩ | refine ⟨fun _ => ?_, fun hc => absurd (by decide) hc⟩ | refine ⟨fun _ => ?_, fun hc => absurd hc (by decide)⟩ | refine ⟨fun hc => absurd (by decide) hc, fun _ => ?_⟩); conv => whnf)
                    try dsimp only
                    rw [nI_add]
                    exact skip (by simp [apC]; omega))
              conv => whnf
              repeat ((first | refine ⟨zG_of _, ?_⟩ | refine ⟨trivial, ?_⟩ | refine ⟨rfl, ?_⟩ | refine ⟨fun hc => absurd hc (by decide), fun _ => ?_⟩ | refine ⟨fun _ => ?_, fun hc => absurd (by decide) hc⟩ | refine ⟨fun _ => ?_, fun hc => absurd hc (by decide)⟩ | refine ⟨fun hc => absurd (by decide) hc, fun _ => ?_⟩); conv => whnf)
              try dsimp only
              exact loopk 0 (Nat.zero_le _) wi' hF hS')
          conv => whnf
          repeat ((first | refine ⟨zG_of _, ?_⟩ | refine ⟨trivial, ?_⟩ | refine ⟨rfl, ?_⟩ | refine ⟨fun hc => absurd hc (by decide), fun _ => ?_⟩ | refine ⟨fun _ => ?_, fun hc => absurd (by decide) hc⟩ | refine ⟨fun _ => ?_, fun hc => absurd hc (by decide)⟩ | refine ⟨fun hc => absurd (by decide) hc, fun _ => ?_⟩); conv => whnf)
          try dsimp only
          exact loopj 0 (Nat.zero_le _) wi' hF hS')
      exact hs 400 0 _ _ _ _ _ (loop 0 (Nat.zero_le _) wi (Fr_refl _ _ _) hS)
    · refine ⟨Nat.le_of_ble_eq_true rfl, fun Jm hs => ?_⟩
      have loop := up_ind (P := fun i => ∀ wi' : Nat → Nat → Int32, Fr 6 8 wi wi' → CS wi' 6 d q (apI 1 d i T).1 (apI 1 d i T).2 → Jm 2 [some (.ref 6), some (.int (nI 1)), some (.int (nI i)), none, none, none] [] (GC ++ r, wi', wl) 0 0) (d 0) (fun i hi ih => by
        intro wi' hF hS'
        refine hs 400 2 _ _ _ _ _ ?_
        conv => whnf
        repeat ((first | refine ⟨zG_of _, ?_⟩ | refine ⟨trivial, ?_⟩ | refine ⟨rfl, ?_⟩ | refine ⟨fun hc => absurd hc (by decide), fun _ => ?_⟩ | refine ⟨fun _ => ?_, fun hc => absurd (by decide) hc⟩ | refine ⟨fun _ => ?_, fun hc => absurd hc (by decide)⟩ | refine ⟨fun hc => absurd (by decide) hc, fun _ => ?_⟩); conv => whnf)
        try dsimp only
        rw [cs_1 hS', ltN (by omega) (by omega)]
        refine ⟨fun hc => ?_, fun hc => ?_⟩
        · obtain rfl : i = d 0 := by omega
          exact h wi' hF hS'
        · have ih := ih hc
          have m_i := apI_mono 1 d T (show i + 1 ≤ d 0 from hc)
          rw [apI] at m_i
          have loopj := up_ind (P := fun j => ∀ wi' : Nat → Nat → Int32, Fr 6 8 wi wi' → CS wi' 6 d q (apJ 1 d i j (apI 1 d i T)).1 (apJ 1 d i j (apI 1 d i T)).2 → Jm 12 [some (.ref 6), some (.int (nI 1)), some (.int (nI i)), some (.int (nI j)), none, none] [] (GC ++ r, wi', wl) 0 0) (d 1) (fun j hj ihj => by
            intro wi' hF hS'
            refine hs 400 12 _ _ _ _ _ ?_
            conv => whnf
            repeat ((first | refine ⟨zG_of _, ?_⟩ | refine ⟨trivial, ?_⟩ | refine ⟨rfl, ?_⟩ | refine ⟨fun hc => absurd hc (by decide), fun _ => ?_⟩ | refine ⟨fun _ => ?_, fun hc => absurd (by decide) hc⟩ | refine ⟨fun _ => ?_, fun hc => absurd hc (by decide)⟩ | refine ⟨fun hc => absurd (by decide) hc, fun _ => ?_⟩); conv => whnf)
            try dsimp only
            rw [cs_2 hS', ltN (by omega) (by omega)]
            refine ⟨fun hc2 => ?_, fun hc2 => ?_⟩
            · obtain rfl : j = d 1 := by omega
              conv => whnf
              repeat ((first | refine ⟨zG_of _, ?_⟩ | refine ⟨trivial, ?_⟩ | refine ⟨rfl, ?_⟩ | refine ⟨fun hc => absurd hc (by decide), fun _ => ?_⟩ | refine ⟨fun _ => ?_, fun hc => absurd (by decide) hc⟩ | refine ⟨fun _ => ?_, fun hc => absurd hc (by decide)⟩ | refine ⟨fun hc => absurd (by decide) hc, fun _ => ?_⟩); conv => whnf)
              try dsimp only
              rw [nI_add]
              exact ih wi' hF hS'
            · have ihj := ihj hc2
              have m_j := apJ_mono 1 d i (apI 1 d i T) (show j + 1 ≤ d 1 from hc2)
              rw [apJ] at m_j
              have loopk := up_ind (P := fun k => ∀ wi' : Nat → Nat → Int32, Fr 6 8 wi wi' → CS wi' 6 d q (apK 1 d i j k (apJ 1 d i j (apI 1 d i T))).1 (apK 1 d i j k (apJ 1 d i j (apI 1 d i T))).2 → Jm 23 [some (.ref 6), some (.int (nI 1)), some (.int (nI i)), some (.int (nI j)), some (.int (nI k)), none] [] (GC ++ r, wi', wl) 0 0) (d 2) (fun k hk ihk => by
                intro wi' hF hS'
                refine hs 400 23 _ _ _ _ _ ?_
                conv => whnf
                repeat ((first | refine ⟨zG_of _, ?_⟩ | refine ⟨trivial, ?_⟩ | refine ⟨rfl, ?_⟩ | refine ⟨fun hc => absurd hc (by decide), fun _ => ?_⟩ | refine ⟨fun _ => ?_, fun hc => absurd (by decide) hc⟩ | refine ⟨fun _ => ?_, fun hc => absurd hc (by decide)⟩ | refine ⟨fun hc => absurd (by decide) hc, fun _ => ?_⟩); conv => whnf)
                try dsimp only
                rw [cs_3 hS', ltN (by omega) (by omega)]
                refine ⟨fun hc3 => ?_, fun hc3 => ?_⟩
                · obtain rfl : k = d 2 := by omega
                  conv => whnf
                  repeat ((first | refine ⟨zG_of _, ?_⟩ | refine ⟨trivial, ?_⟩ | refine ⟨rfl, ?_⟩ | refine ⟨fun hc => absurd hc (by decide), fun _ => ?_⟩ | refine ⟨fun _ => ?_, fun hc => absurd (by decide) hc⟩ | refine ⟨fun _ => ?_, fun hc => absurd hc (by decide)⟩ | refine ⟨fun hc => absurd (by decide) hc, fun _ => ?_⟩); conv => whnf)
                  try dsimp only
                  rw [nI_add]
                  exact ihj wi' hF hS'
                · have ihk := ihk hc3
                  have m_k := apK_mono 1 d i j (apJ 1 d i j (apI 1 d i T)) (show k + 1 ≤ d 2 from hc3)
                  rw [apK] at ihk m_k
                  have e1 : wi' 6 1 - nI 1 = nI (d 0 - 1) := by rw [cs_1 hS', pk_sub (by omega)]
                  have e2 : wi' 6 2 - nI 1 = nI (d 1 - 1) := by rw [cs_2 hS', pk_sub (by omega)]
                  have e3 : wi' 6 3 - nI 1 = nI (d 2 - 1) := by rw [cs_3 hS', pk_sub (by omega)]
                  have add : apC 1 d i j k = true → ∃ d' q' c' A' x' y' z', CS wi' 6 d' q' c' A' ∧ c' < 40 ∧ nI i * wi' 6 2 + nI j = nI x' ∧ x' < 9 ∧ nI j * wi' 6 3 + nI k = nI y' ∧ y' < 9 ∧ nI k * wi' 6 1 + nI i = nI z' ∧ z' < 9 ∧ ∀ wi2 : Nat → Nat → Int32, Fr 6 8 wi' wi2 → CS wi2 6 d' q' (c' + 1) (onA A' c' x' y' z') → Jm 23 [some (.ref 6), some (.int (nI 1)), some (.int (nI i)), some (.int (nI j)), some (.int (nI (k + 1))), none] [] (GC ++ r, wi2, wl) 0 0 := fun hC => by
                    rw [if_pos hC] at ihk m_k
                    refine ⟨d, q, _, _, i * d 1 + j, j * d 2 + k, k * d 0 + i, hS', by omega, by rw [cs_2 hS', pk_mul, nI_add], ap_idx hd (u := 0) (v := 1) (by decide) (by decide) hc hc2, by rw [cs_3 hS', pk_mul, nI_add], ap_idx hd (u := 1) (v := 2) (by decide) (by decide) hc2 hc3, by rw [cs_1 hS', pk_mul, nI_add], ap_idx hd (u := 2) (v := 0) (by decide) (by decide) hc3 hc, fun wi2 hF2 hS2 => ihk wi2 (Fr_trans hF hF2) hS2⟩
                  have skip : ¬ apC 1 d i j k = true → Jm 23 [some (.ref 6), some (.int (nI 1)), some (.int (nI i)), some (.int (nI j)), some (.int (nI (k + 1))), none] [] (GC ++ r, wi', wl) 0 0 := fun hC => by
                    rw [if_neg hC] at ihk
                    exact ihk wi' hF hS'
                  conv => whnf
                  repeat ((first | refine ⟨zG_of _, ?_⟩ | refine ⟨trivial, ?_⟩ | refine ⟨rfl, ?_⟩ | refine ⟨fun hc => absurd hc (by decide), fun _ => ?_⟩ | refine ⟨fun _ => ?_, fun hc => absurd (by decide) hc⟩ | refine ⟨fun _ => ?_, fun hc => absurd hc (by decide)⟩ | refine ⟨fun hc => absurd (by decide) hc, fun _ => ?_⟩); conv => whnf)
                  try dsimp only
                  rw [e2, nI_eq (by omega) (by omega)]
                  refine ⟨fun hq => ?_, fun hq => ?_⟩
                  · conv => whnf
                    repeat ((first | refine ⟨zG_of _, ?_⟩ | refine ⟨trivial, ?_⟩ | refine ⟨rfl, ?_⟩ | refine ⟨fun hc => absurd hc (by decide), fun _ => ?_⟩ | refine ⟨fun _ => ?_, fun hc => absurd (by decide) hc⟩ | refine ⟨fun _ => ?_, fun hc => absurd hc (by decide)⟩ | refine ⟨fun hc => absurd (by decide) hc, fun _ => ?_⟩); conv => whnf)
                    try dsimp only
                    obtain ⟨d', q', c', A', x', y', z', g1, g2, g3, g4, g5, g6, g7, g8, g9⟩ := add (by simp [apC]; omega)
                    refine ⟨d', q', c', A', x', y', z', g1, g2, g3, g4, g5, g6, g7, g8, fun wi2 hF2 hS2 => ?_⟩
                    conv => whnf
                    repeat ((first | refine ⟨zG_of _, ?_⟩ | refine ⟨trivial, ?_⟩ | refine ⟨rfl, ?_⟩ | refine ⟨fun hc => absurd hc (by decide), fun _ => ?_⟩ | refine ⟨fun _ => ?_, fun hc => absurd (by decide) hc⟩ | refine ⟨fun _ => ?_, fun hc => absurd hc (by decide)⟩ | refine ⟨fun hc => absurd (by decide) hc, fun _ => ?_⟩); conv => whnf)
                    try dsimp only
                    rw [nI_add]
                    exact g9 wi2 hF2 hS2
                  · conv => whnf
                    repeat ((first | refine ⟨zG_of _, ?_⟩ | refine ⟨trivial, ?_⟩ | refine ⟨rfl, ?_⟩ | refine ⟨fun hc => absurd hc (by decide), fun _ => ?_⟩ | refine ⟨fun _ => ?_, fun hc => absurd (by decide) hc⟩ | refine ⟨fun _ => ?_, fun hc => absurd hc (by decide)⟩ | refine ⟨fun hc => absurd (by decide) hc, fun _ => ?_⟩); conv => whnf)
                    try dsimp only
                    rw [nI_add]
                    exact skip (by simp [apC]; omega))
              conv => whnf
              repeat ((first | refine ⟨zG_of _, ?_⟩ | refine ⟨trivial, ?_⟩ | refine ⟨rfl, ?_⟩ | refine ⟨fun hc => absurd hc (by decide), fun _ => ?_⟩ | refine ⟨fun _ => ?_, fun hc => absurd (by decide) hc⟩ | refine ⟨fun _ => ?_, fun hc => absurd hc (by decide)⟩ | refine ⟨fun hc => absurd (by decide) hc, fun _ => ?_⟩); conv => whnf)
              try dsimp only
              exact loopk 0 (Nat.zero_le _) wi' hF hS')
          conv => whnf
          repeat ((first | refine ⟨zG_of _, ?_⟩ | refine ⟨trivial, ?_⟩ | refine ⟨rfl, ?_⟩ | refine ⟨fun hc => absurd hc (by decide), fun _ => ?_⟩ | refine ⟨fun _ => ?_, fun hc => absurd (by decide) hc⟩ | refine ⟨fun _ => ?_, fun hc => absurd hc (by decide)⟩ | refine ⟨fun hc => absurd (by decide) hc, fun _ => ?_⟩); conv => whnf)
          try dsimp only
          exact loopj 0 (Nat.zero_le _) wi' hF hS')
      exact hs 400 0 _ _ _ _ _ (loop 0 (Nat.zero_le _) wi (Fr_refl _ _ _) hS)
    · refine ⟨Nat.le_of_ble_eq_true rfl, fun Jm hs => ?_⟩
      have loop := up_ind (P := fun i => ∀ wi' : Nat → Nat → Int32, Fr 6 8 wi wi' → CS wi' 6 d q (apI 2 d i T).1 (apI 2 d i T).2 → Jm 2 [some (.ref 6), some (.int (nI 2)), some (.int (nI i)), none, none, none] [] (GC ++ r, wi', wl) 0 0) (d 0) (fun i hi ih => by
        intro wi' hF hS'
        refine hs 400 2 _ _ _ _ _ ?_
        conv => whnf
        repeat ((first | refine ⟨zG_of _, ?_⟩ | refine ⟨trivial, ?_⟩ | refine ⟨rfl, ?_⟩ | refine ⟨fun hc => absurd hc (by decide), fun _ => ?_⟩ | refine ⟨fun _ => ?_, fun hc => absurd (by decide) hc⟩ | refine ⟨fun _ => ?_, fun hc => absurd hc (by decide)⟩ | refine ⟨fun hc => absurd (by decide) hc, fun _ => ?_⟩); conv => whnf)
        try dsimp only
        rw [cs_1 hS', ltN (by omega) (by omega)]
        refine ⟨fun hc => ?_, fun hc => ?_⟩
        · obtain rfl : i = d 0 := by omega
          exact h wi' hF hS'
        · have ih := ih hc
          have m_i := apI_mono 2 d T (show i + 1 ≤ d 0 from hc)
          rw [apI] at m_i
          have loopj := up_ind (P := fun j => ∀ wi' : Nat → Nat → Int32, Fr 6 8 wi wi' → CS wi' 6 d q (apJ 2 d i j (apI 2 d i T)).1 (apJ 2 d i j (apI 2 d i T)).2 → Jm 12 [some (.ref 6), some (.int (nI 2)), some (.int (nI i)), some (.int (nI j)), none, none] [] (GC ++ r, wi', wl) 0 0) (d 1) (fun j hj ihj => by
            intro wi' hF hS'
            refine hs 400 12 _ _ _ _ _ ?_
            conv => whnf
            repeat ((first | refine ⟨zG_of _, ?_⟩ | refine ⟨trivial, ?_⟩ | refine ⟨rfl, ?_⟩ | refine ⟨fun hc => absurd hc (by decide), fun _ => ?_⟩ | refine ⟨fun _ => ?_, fun hc => absurd (by decide) hc⟩ | refine ⟨fun _ => ?_, fun hc => absurd hc (by decide)⟩ | refine ⟨fun hc => absurd (by decide) hc, fun _ => ?_⟩); conv => whnf)
            try dsimp only
            rw [cs_2 hS', ltN (by omega) (by omega)]
            refine ⟨fun hc2 => ?_, fun hc2 => ?_⟩
            · obtain rfl : j = d 1 := by omega
              conv => whnf
              repeat ((first | refine ⟨zG_of _, ?_⟩ | refine ⟨trivial, ?_⟩ | refine ⟨rfl, ?_⟩ | refine ⟨fun hc => absurd hc (by decide), fun _ => ?_⟩ | refine ⟨fun _ => ?_, fun hc => absurd (by decide) hc⟩ | refine ⟨fun _ => ?_, fun hc => absurd hc (by decide)⟩ | refine ⟨fun hc => absurd (by decide) hc, fun _ => ?_⟩); conv => whnf)
              try dsimp only
              rw [nI_add]
              exact ih wi' hF hS'
            · have ihj := ihj hc2
              have m_j := apJ_mono 2 d i (apI 2 d i T) (show j + 1 ≤ d 1 from hc2)
              rw [apJ] at m_j
              have loopk := up_ind (P := fun k => ∀ wi' : Nat → Nat → Int32, Fr 6 8 wi wi' → CS wi' 6 d q (apK 2 d i j k (apJ 2 d i j (apI 2 d i T))).1 (apK 2 d i j k (apJ 2 d i j (apI 2 d i T))).2 → Jm 23 [some (.ref 6), some (.int (nI 2)), some (.int (nI i)), some (.int (nI j)), some (.int (nI k)), none] [] (GC ++ r, wi', wl) 0 0) (d 2) (fun k hk ihk => by
                intro wi' hF hS'
                refine hs 400 23 _ _ _ _ _ ?_
                conv => whnf
                repeat ((first | refine ⟨zG_of _, ?_⟩ | refine ⟨trivial, ?_⟩ | refine ⟨rfl, ?_⟩ | refine ⟨fun hc => absurd hc (by decide), fun _ => ?_⟩ | refine ⟨fun _ => ?_, fun hc => absurd (by decide) hc⟩ | refine ⟨fun _ => ?_, fun hc => absurd hc (by decide)⟩ | refine ⟨fun hc => absurd (by decide) hc, fun _ => ?_⟩); conv => whnf)
                try dsimp only
                rw [cs_3 hS', ltN (by omega) (by omega)]
                refine ⟨fun hc3 => ?_, fun hc3 => ?_⟩
                · obtain rfl : k = d 2 := by omega
                  conv => whnf
                  repeat ((first | refine ⟨zG_of _, ?_⟩ | refine ⟨trivial, ?_⟩ | refine ⟨rfl, ?_⟩ | refine ⟨fun hc => absurd hc (by decide), fun _ => ?_⟩ | refine ⟨fun _ => ?_, fun hc => absurd (by decide) hc⟩ | refine ⟨fun _ => ?_, fun hc => absurd hc (by decide)⟩ | refine ⟨fun hc => absurd (by decide) hc, fun _ => ?_⟩); conv => whnf)
                  try dsimp only
                  rw [nI_add]
                  exact ihj wi' hF hS'
                · have ihk := ihk hc3
                  have m_k := apK_mono 2 d i j (apJ 2 d i j (apI 2 d i T)) (show k + 1 ≤ d 2 from hc3)
                  rw [apK] at ihk m_k
                  have e1 : wi' 6 1 - nI 1 = nI (d 0 - 1) := by rw [cs_1 hS', pk_sub (by omega)]
                  have e2 : wi' 6 2 - nI 1 = nI (d 1 - 1) := by rw [cs_2 hS', pk_sub (by omega)]
                  have e3 : wi' 6 3 - nI 1 = nI (d 2 - 1) := by rw [cs_3 hS', pk_sub (by omega)]
                  have add : apC 2 d i j k = true → ∃ d' q' c' A' x' y' z', CS wi' 6 d' q' c' A' ∧ c' < 40 ∧ nI i * wi' 6 2 + nI j = nI x' ∧ x' < 9 ∧ nI j * wi' 6 3 + nI k = nI y' ∧ y' < 9 ∧ nI k * wi' 6 1 + nI i = nI z' ∧ z' < 9 ∧ ∀ wi2 : Nat → Nat → Int32, Fr 6 8 wi' wi2 → CS wi2 6 d' q' (c' + 1) (onA A' c' x' y' z') → Jm 23 [some (.ref 6), some (.int (nI 2)), some (.int (nI i)), some (.int (nI j)), some (.int (nI (k + 1))), none] [] (GC ++ r, wi2, wl) 0 0 := fun hC => by
                    rw [if_pos hC] at ihk m_k
                    refine ⟨d, q, _, _, i * d 1 + j, j * d 2 + k, k * d 0 + i, hS', by omega, by rw [cs_2 hS', pk_mul, nI_add], ap_idx hd (u := 0) (v := 1) (by decide) (by decide) hc hc2, by rw [cs_3 hS', pk_mul, nI_add], ap_idx hd (u := 1) (v := 2) (by decide) (by decide) hc2 hc3, by rw [cs_1 hS', pk_mul, nI_add], ap_idx hd (u := 2) (v := 0) (by decide) (by decide) hc3 hc, fun wi2 hF2 hS2 => ihk wi2 (Fr_trans hF hF2) hS2⟩
                  have skip : ¬ apC 2 d i j k = true → Jm 23 [some (.ref 6), some (.int (nI 2)), some (.int (nI i)), some (.int (nI j)), some (.int (nI (k + 1))), none] [] (GC ++ r, wi', wl) 0 0 := fun hC => by
                    rw [if_neg hC] at ihk
                    exact ihk wi' hF hS'
                  conv => whnf
                  repeat ((first | refine ⟨zG_of _, ?_⟩ | refine ⟨trivial, ?_⟩ | refine ⟨rfl, ?_⟩ | refine ⟨fun hc => absurd hc (by decide), fun _ => ?_⟩ | refine ⟨fun _ => ?_, fun hc => absurd (by decide) hc⟩ | refine ⟨fun _ => ?_, fun hc => absurd hc (by decide)⟩ | refine ⟨fun hc => absurd (by decide) hc, fun _ => ?_⟩); conv => whnf)
                  try dsimp only
                  rw [e3, nI_eq (by omega) (by omega)]
                  refine ⟨fun hq => ?_, fun hq => ?_⟩
                  · conv => whnf
                    repeat ((first | refine ⟨zG_of _, ?_⟩ | refine ⟨trivial, ?_⟩ | refine ⟨rfl, ?_⟩ | refine ⟨fun hc => absurd hc (by decide), fun _ => ?_⟩ | refine ⟨fun _ => ?_, fun hc => absurd (by decide) hc⟩ | refine ⟨fun _ => ?_, fun hc => absurd hc (by decide)⟩ | refine ⟨fun hc => absurd (by decide) hc, fun _ => ?_⟩); conv => whnf)
                    try dsimp only
                    rw [nI_add]
                    exact skip (by simp [apC]; omega)
                  · conv => whnf
                    repeat ((first | refine ⟨zG_of _, ?_⟩ | refine ⟨trivial, ?_⟩ | refine ⟨rfl, ?_⟩ | refine ⟨fun hc => absurd hc (by decide), fun _ => ?_⟩ | refine ⟨fun _ => ?_, fun hc => absurd (by decide) hc⟩ | refine ⟨fun _ => ?_, fun hc => absurd hc (by decide)⟩ | refine ⟨fun hc => absurd (by decide) hc, fun _ => ?_⟩); conv => whnf)
                    try dsimp only
                    obtain ⟨d', q', c', A', x', y', z', g1, g2, g3, g4, g5, g6, g7, g8, g9⟩ := add (by simp [apC]; omega)
                    refine ⟨d', q', c', A', x', y', z', g1, g2, g3, g4, g5, g6, g7, g8, fun wi2 hF2 hS2 => ?_⟩
                    conv => whnf
                    repeat ((first | refine ⟨zG_of _, ?_⟩ | refine ⟨trivial, ?_⟩ | refine ⟨rfl, ?_⟩ | refine ⟨fun hc => absurd hc (by decide), fun _ => ?_⟩ | refine ⟨fun _ => ?_, fun hc => absurd (by decide) hc⟩ | refine ⟨fun _ => ?_, fun hc => absurd hc (by decide)⟩ | refine ⟨fun hc => absurd (by decide) hc, fun _ => ?_⟩); conv => whnf)
                    try dsimp only
                    rw [nI_add]
                    exact g9 wi2 hF2 hS2)
              conv => whnf
              repeat ((first | refine ⟨zG_of _, ?_⟩ | refine ⟨trivial, ?_⟩ | refine ⟨rfl, ?_⟩ | refine ⟨fun hc => absurd hc (by decide), fun _ => ?_⟩ | refine ⟨fun _ => ?_, fun hc => absurd (by decide) hc⟩ | refine ⟨fun _ => ?_, fun hc => absurd hc (by decide)⟩ | refine ⟨fun hc => absurd (by decide) hc, fun _ => ?_⟩); conv => whnf)
              try dsimp only
              exact loopk 0 (Nat.zero_le _) wi' hF hS')
          conv => whnf
          repeat ((first | refine ⟨zG_of _, ?_⟩ | refine ⟨trivial, ?_⟩ | refine ⟨rfl, ?_⟩ | refine ⟨fun hc => absurd hc (by decide), fun _ => ?_⟩ | refine ⟨fun _ => ?_, fun hc => absurd (by decide) hc⟩ | refine ⟨fun _ => ?_, fun hc => absurd hc (by decide)⟩ | refine ⟨fun hc => absurd (by decide) hc, fun _ => ?_⟩); conv => whnf)
          try dsimp only
          exact loopj 0 (Nat.zero_le _) wi' hF hS')
      exact hs 400 0 _ _ _ _ _ (loop 0 (Nat.zero_le _) wi (Fr_refl _ _ _) hS)

