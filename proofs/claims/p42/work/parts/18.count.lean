/-! more that is counted over a scheme's products -/
theorem z_remN {a d : Nat} (ha : a < 2 ^ 31) (h0 : 0 < d) (hd : d < 2 ^ 31) : z_rem (nI a) (nI d) = nI (a % d) := pk_rem ha h0 hd
theorem eq0N {a : Nat} (h : a < 2 ^ 31) : nI a = nI 0 ↔ a = 0 := nI_eq h (by decide)
def mtB (A : Nat → Nat → Nat) (x y z i : Nat) : Bool := A (3 * i) x != 0 && A (3 * i + 1) y != 0 && A (3 * i + 2) z != 0
def gvN (A : Nat → Nat → Nat) (c x y z : Nat) : Nat := fb_sm (fun i => A (3 * i) x * A (3 * i + 1) y * A (3 * i + 2) z) c
def lkB (q : Nat) (A : Nat → Nat → Nat) (t i k : Nat) : Bool := likeN q (A (3 * i + t)) (A (3 * k + t)) != 0
def flN (q : Nat) (A : Nat → Nat → Nat) (t c : Nat) : Nat := fb_sm (fun i => 2 * fb_ct (lkB q A t i) i) c
section
variable {wi : Nat → Nat → Int32} {o : Nat} {d : Nat → Nat} {q c : Nat} {A : Nat → Nat → Nat}
theorem row_S (h : CS wi 6 d q c A) {t p : Nat} (ht : t < 3) (hp : p < 9) : rowOfF wi 6 (nI t) (nI p) = nI (p / d ((t + 1) % 3)) := by
  have hd := cs_d h _ (mod3_lt (t + 1))
  unfold rowOfF
  rw [col_S h ht, if_pos (nI_lt (by omega) (by omega)), pk_div (by omega) (by omega) (by omega)]
theorem colO_S (h : CS wi 6 d q c A) {t p : Nat} (ht : t < 3) (hp : p < 9) : colOfF wi 6 (nI t) (nI p) = nI (p % d ((t + 1) % 3)) := by
  have hd := cs_d h _ (mod3_lt (t + 1))
  unfold colOfF
  rw [col_S h ht, if_pos (nI_lt (by omega) (by omega)), z_remN (by omega) (by omega) (by omega)]
end
/-- what is needed at three places -/
def ndB (d : Nat → Nat) (x y z : Nat) : Bool := x % d 1 == y / d 2 && y % d 2 == z / d 0 && z % d 0 == x / d 1
def ndN (d : Nat → Nat) (x y z : Nat) : Nat := if ndB d x y z = true then 1 else 0
theorem need_S {wi : Nat → Nat → Int32} {d : Nat → Nat} {q c : Nat} {A : Nat → Nat → Nat} (h : CS wi 6 d q c A) {x y z : Nat} (hx : x < 9) (hy : y < 9) (hz : z < 9) : needF wi (nI x) (nI y) (nI z) = nI (ndN d x y z) := by
  have d0 := cs_d h 0 (by decide)
  have d1 := cs_d h 1 (by decide)
  have d2 := cs_d h 2 (by decide)
  have e0 : colOfF wi 6 (nI 0) (nI x) = nI (x % d 1) := colO_S h (by decide) hx
  have e1 : rowOfF wi 6 (nI 1) (nI y) = nI (y / d 2) := row_S h (by decide) hy
  have e2 : colOfF wi 6 (nI 1) (nI y) = nI (y % d 2) := colO_S h (by decide) hy
  have e3 : rowOfF wi 6 (nI 2) (nI z) = nI (z / d 0) := row_S h (by decide) hz
  have e4 : colOfF wi 6 (nI 2) (nI z) = nI (z % d 0) := colO_S h (by decide) hz
  have e5 : rowOfF wi 6 (nI 0) (nI x) = nI (x / d 1) := row_S h (by decide) hx
  have l0 : x % d 1 < 3 := Nat.lt_of_lt_of_le (Nat.mod_lt _ (by omega)) d1.2
  have l1 : y % d 2 < 3 := Nat.lt_of_lt_of_le (Nat.mod_lt _ (by omega)) d2.2
  have l2 : z % d 0 < 3 := Nat.lt_of_lt_of_le (Nat.mod_lt _ (by omega)) d0.2
  have k0 := Nat.div_le_self y (d 2)
  have k1 := Nat.div_le_self z (d 0)
  have k2 := Nat.div_le_self x (d 1)
  unfold needF ndN ndB bI
  have p0 := nI_eq (a := x % d 1) (b := y / d 2) (by omega) (by omega)
  have p1 := nI_eq (a := y % d 2) (b := z / d 0) (by omega) (by omega)
  have p2 := nI_eq (a := z % d 0) (b := x / d 1) (by omega) (by omega)
  simp only [e0, e1, e2, e3, e4, e5, p0, p1, p2, Bool.and_eq_true, beq_iff_eq, and_assoc]
  split
  · rfl
  · rfl
def sp_X6_meetAt : zSp := fun av w K => match av with
  | [.ref o, .int x, .int y, .int z] => o = 6 ∧ zG w.1 ∧ ∃ d q c A x' y' z', CS w.2.1 6 d q c A ∧ x = nI x' ∧ x' < 9 ∧ y = nI y' ∧ y' < 9 ∧ z = nI z' ∧ z' < 9 ∧ K (some (.int (nI (fb_ct (mtB A x' y' z') c)))) w
  | _ => False
def rm_X6_meetAt : Room := { frames := 2, cells := 0, slots := 0, locals := 43 }
def M_X6_meetAt : zM := (k_X6_meetAt, f_X6, [(59, 4, 5, 3, 0, 0, sp_X6_formAt), (94, 0, 0, 2, 0, 0, sp_X2_numberAt)], ([], [], []), [], [(6, [true, true, true, true, true, true])], 1, false, (false, 0, fun _ => 0), (0, 0, []))
theorem ca_X6_meetAt_0 (l : Launch) : z_cok l RX6 (headSpec (.code yX6_meetAt cX6_meetAt 6 (some .int) :: zTT) rm_X6_meetAt).room (false, 0, fun _ => 0) (59, 4, 5, 3, 0, 0, sp_X6_formAt) := z_ca4 (c_X6_formAt l) mb_X6_formAt ⟨_, rfl, rfl⟩ wt_407 wt_408 wt_409 (by decide)
theorem ca_X6_meetAt_1 (l : Launch) : z_cok l RX6 (headSpec (.code yX6_meetAt cX6_meetAt 6 (some .int) :: zTT) rm_X6_meetAt).room (false, 0, fun _ => 0) (94, 0, 0, 2, 0, 0, sp_X2_numberAt) := z_ca0 (c_X2_numberAt l) mb_X2_numberAt wt_442 wt_390 (by decide)
theorem O_X6_meetAt (l : Launch) : z_OK l RX6 cX6_meetAt (headSpec (.code yX6_meetAt cX6_meetAt 6 (some .int) :: zTT) rm_X6_meetAt).room M_X6_meetAt := ⟨ok_X6_meetAt, fo_X6, List.forall_mem_cons.mpr ⟨ca_X6_meetAt_0 l, List.forall_mem_cons.mpr ⟨ca_X6_meetAt_1 l, fun _ h => absurd h List.not_mem_nil⟩⟩, fun _ h => absurd h List.not_mem_nil, fun _ h => absurd h List.not_mem_nil, fun _ h => absurd h List.not_mem_nil, fun _ h => absurd h List.not_mem_nil, rfl, rfl, fun _ h => absurd h List.not_mem_nil⟩
theorem c_X6_meetAt (l : Launch) : z_CS l yX6_meetAt cX6_meetAt 6 (some .int) rm_X6_meetAt sp_X6_meetAt := by
  refine z_meth (by decide) (Or.inr (Or.inl ⟨rfl, rfl⟩)) (fun h => by cases h) rfl (O_X6_meetAt l) ?_
  intro av w K h
  match av, h with
  | [.ref o, .int x, .int y, .int z], h =>
    obtain ⟨rfl, ⟨r, hG⟩, d, q, c, A, x', y', z', hS, rfl, hx, rfl, hy, rfl, hz, h⟩ := h
    obtain ⟨G, wi, wl⟩ := w
    subst hG
    try dsimp only at h hS
    have h40 := cs_40 hS
    refine ⟨Nat.le_of_ble_eq_true rfl, fun Jm hs => ?_⟩
    have loop := up_ind (P := fun i => Jm 6 [some (.ref 6), some (.int (nI x')), some (.int (nI y')), some (.int (nI z')), some (.int (nI (fb_ct (mtB A x' y' z') i))), some (.int (nI i))] [] (GC ++ r, wi, wl) 0 0) c (fun i hi ih => by
      refine hs 400 6 _ _ _ _ _ ?_
      conv => whnf
      repeat ((first | refine ⟨zG_of _, ?_⟩ | refine ⟨trivial, ?_⟩ | refine ⟨rfl, ?_⟩ | refine ⟨fun hc => absurd hc (by decide), fun _ => ?_⟩ | refine ⟨fun _ => ?_, fun hc => absurd (by decide) hc⟩ | refine ⟨fun _ => ?_, fun hc => absurd hc (by decide)⟩ | refine ⟨fun hc => absurd (by decide) hc, fun _ => ?_⟩); conv => whnf)
      try dsimp only
      rw [cs_c hS, ltN (by omega) (by omega)]
      refine ⟨fun hc => ?_, fun hc => ?_⟩
      · obtain rfl : i = c := by omega
        exact ⟨trivial, h⟩
      · have ih := ih hc
        have e0 : fnum (fmF wi 6 (nI i) (nI 0)) (nI x') = nI (A (3 * i) x') := fn_S hS hc (by decide) hx
        have e1 : fnum (fmF wi 6 (nI i) (nI 1)) (nI y') = nI (A (3 * i + 1) y') := fn_S hS hc (by decide) hy
        have e2 : fnum (fmF wi 6 (nI i) (nI 2)) (nI z') = nI (A (3 * i + 2) z') := fn_S hS hc (by decide) hz
        have a0 := cs_A3 hS (3 * i) (by omega) x' hx
        have a1 := cs_A3 hS (3 * i + 1) (by omega) y' hy
        have a2 := cs_A3 hS (3 * i + 2) (by omega) z' hz
        conv => whnf
        repeat ((first | refine ⟨zG_of _, ?_⟩ | refine ⟨trivial, ?_⟩ | refine ⟨rfl, ?_⟩ | refine ⟨fun hc => absurd hc (by decide), fun _ => ?_⟩ | refine ⟨fun _ => ?_, fun hc => absurd (by decide) hc⟩ | refine ⟨fun _ => ?_, fun hc => absurd hc (by decide)⟩ | refine ⟨fun hc => absurd (by decide) hc, fun _ => ?_⟩); conv => whnf)
        try dsimp only
        refine ⟨fun hq => ?_, fun hq => ?_⟩
        · have hq := e0.symm.trans hq
          rw [eq0N (by omega)] at hq
          rw [ct_f (by simp [mtB, hq])] at ih
          conv => whnf
          repeat ((first | refine ⟨zG_of _, ?_⟩ | refine ⟨trivial, ?_⟩ | refine ⟨rfl, ?_⟩ | refine ⟨fun hc => absurd hc (by decide), fun _ => ?_⟩ | refine ⟨fun _ => ?_, fun hc => absurd (by decide) hc⟩ | refine ⟨fun _ => ?_, fun hc => absurd hc (by decide)⟩ | refine ⟨fun hc => absurd (by decide) hc, fun _ => ?_⟩); conv => whnf)
          try dsimp only
          rw [nI_add]
          exact ih
        · have hq := fun k => hq (e0.trans k)
          rw [eq0N (by omega)] at hq
          conv => whnf
          repeat ((first | refine ⟨zG_of _, ?_⟩ | refine ⟨trivial, ?_⟩ | refine ⟨rfl, ?_⟩ | refine ⟨fun hc => absurd hc (by decide), fun _ => ?_⟩ | refine ⟨fun _ => ?_, fun hc => absurd (by decide) hc⟩ | refine ⟨fun _ => ?_, fun hc => absurd hc (by decide)⟩ | refine ⟨fun hc => absurd (by decide) hc, fun _ => ?_⟩); conv => whnf)
          try dsimp only
          refine ⟨fun hq1 => ?_, fun hq1 => ?_⟩
          · have hq1 := e1.symm.trans hq1
            rw [eq0N (by omega)] at hq1
            rw [ct_f (by simp [mtB, hq1])] at ih
            conv => whnf
            repeat ((first | refine ⟨zG_of _, ?_⟩ | refine ⟨trivial, ?_⟩ | refine ⟨rfl, ?_⟩ | refine ⟨fun hc => absurd hc (by decide), fun _ => ?_⟩ | refine ⟨fun _ => ?_, fun hc => absurd (by decide) hc⟩ | refine ⟨fun _ => ?_, fun hc => absurd hc (by decide)⟩ | refine ⟨fun hc => absurd (by decide) hc, fun _ => ?_⟩); conv => whnf)
            try dsimp only
            rw [nI_add]
            exact ih
          · have hq1 := fun k => hq1 (e1.trans k)
            rw [eq0N (by omega)] at hq1
            conv => whnf
            repeat ((first | refine ⟨zG_of _, ?_⟩ | refine ⟨trivial, ?_⟩ | refine ⟨rfl, ?_⟩ | refine ⟨fun hc => absurd hc (by decide), fun _ => ?_⟩ | refine ⟨fun _ => ?_, fun hc => absurd (by decide) hc⟩ | refine ⟨fun _ => ?_, fun hc => absurd hc (by decide)⟩ | refine ⟨fun hc => absurd (by decide) hc, fun _ => ?_⟩); conv => whnf)
            try dsimp only
            refine ⟨fun hq2 => ?_, fun hq2 => ?_⟩
            · have hq2 := e2.symm.trans hq2
              rw [eq0N (by omega)] at hq2
              rw [ct_f (by simp [mtB, hq2])] at ih
              conv => whnf
              repeat ((first | refine ⟨zG_of _, ?_⟩ | refine ⟨trivial, ?_⟩ | refine ⟨rfl, ?_⟩ | refine ⟨fun hc => absurd hc (by decide), fun _ => ?_⟩ | refine ⟨fun _ => ?_, fun hc => absurd (by decide) hc⟩ | refine ⟨fun _ => ?_, fun hc => absurd hc (by decide)⟩ | refine ⟨fun hc => absurd (by decide) hc, fun _ => ?_⟩); conv => whnf)
              try dsimp only
              rw [nI_add]
              exact ih
            · have hq2 := fun k => hq2 (e2.trans k)
              rw [eq0N (by omega)] at hq2
              rw [ct_t (by simpa [mtB] using And.intro (And.intro hq hq1) hq2)] at ih
              conv => whnf
              repeat ((first | refine ⟨zG_of _, ?_⟩ | refine ⟨trivial, ?_⟩ | refine ⟨rfl, ?_⟩ | refine ⟨fun hc => absurd hc (by decide), fun _ => ?_⟩ | refine ⟨fun _ => ?_, fun hc => absurd (by decide) hc⟩ | refine ⟨fun _ => ?_, fun hc => absurd hc (by decide)⟩ | refine ⟨fun hc => absurd (by decide) hc, fun _ => ?_⟩); conv => whnf)
              try dsimp only
              rw [nI_add, nI_add]
              exact ih)
    exact hs 400 0 _ _ _ _ _ (loop 0 (Nat.zero_le _))
theorem gvN_lt {A : Nat → Nat → Nat} {c x y z : Nat} (h : ∀ i, i < c → A (3 * i) x < 3 ∧ A (3 * i + 1) y < 3 ∧ A (3 * i + 2) z < 3) : gvN A c x y z ≤ c * 8 :=
  fb_sm_bound (fun i hi => by
    have h3 := h i hi
    exact Nat.mul_le_mul (Nat.mul_le_mul (show A (3 * i) x ≤ 2 by omega) (show A (3 * i + 1) y ≤ 2 by omega)) (show A (3 * i + 2) z ≤ 2 by omega))
def sp_X6_givenAt : zSp := fun av w K => match av with
  | [.ref o, .int x, .int y, .int z] => (o = 6 ∨ o = 9) ∧ zG w.1 ∧ ∃ d q c A x' y' z', CS w.2.1 o d q c A ∧ x = nI x' ∧ x' < 9 ∧ y = nI y' ∧ y' < 9 ∧ z = nI z' ∧ z' < 9 ∧ K (some (.int (nI (gvN A c x' y' z' % q)))) w
  | _ => False
def rm_X6_givenAt : Room := { frames := 2, cells := 0, slots := 0, locals := 43 }
def M_X6_givenAt : zM := (k_X6_givenAt, f_X6, [(59, 4, 5, 3, 0, 0, sp_X6_formAt), (94, 0, 0, 2, 0, 0, sp_X2_numberAt), (97, 0, 0, 2, 0, 0, sp_X2_mod)], ([], [], []), [], [(6, [true, true, true, true, true, true, false])], 1, false, (false, 0, fun _ => 0), (0, 0, []))
theorem ca_X6_givenAt_0 (l : Launch) : z_cok l RX6 (headSpec (.code yX6_givenAt cX6_givenAt 7 (some .int) :: zTT) rm_X6_givenAt).room (false, 0, fun _ => 0) (59, 4, 5, 3, 0, 0, sp_X6_formAt) := z_ca4 (c_X6_formAt l) mb_X6_formAt ⟨_, rfl, rfl⟩ wt_407 wt_408 wt_409 (by decide)
theorem ca_X6_givenAt_1 (l : Launch) : z_cok l RX6 (headSpec (.code yX6_givenAt cX6_givenAt 7 (some .int) :: zTT) rm_X6_givenAt).room (false, 0, fun _ => 0) (94, 0, 0, 2, 0, 0, sp_X2_numberAt) := z_ca0 (c_X2_numberAt l) mb_X2_numberAt wt_442 wt_390 (by decide)
theorem ca_X6_givenAt_2 (l : Launch) : z_cok l RX6 (headSpec (.code yX6_givenAt cX6_givenAt 7 (some .int) :: zTT) rm_X6_givenAt).room (false, 0, fun _ => 0) (97, 0, 0, 2, 0, 0, sp_X2_mod) := z_ca0 (c_X2_mod l) mb_X2_mod wt_443 wt_444 (by decide)
theorem O_X6_givenAt (l : Launch) : z_OK l RX6 cX6_givenAt (headSpec (.code yX6_givenAt cX6_givenAt 7 (some .int) :: zTT) rm_X6_givenAt).room M_X6_givenAt := ⟨ok_X6_givenAt, fo_X6, List.forall_mem_cons.mpr ⟨ca_X6_givenAt_0 l, List.forall_mem_cons.mpr ⟨ca_X6_givenAt_1 l, List.forall_mem_cons.mpr ⟨ca_X6_givenAt_2 l, fun _ h => absurd h List.not_mem_nil⟩⟩⟩, fun _ h => absurd h List.not_mem_nil, fun _ h => absurd h List.not_mem_nil, fun _ h => absurd h List.not_mem_nil, fun _ h => absurd h List.not_mem_nil, rfl, rfl, fun _ h => absurd h List.not_mem_nil⟩
theorem c_X6_givenAt (l : Launch) : z_CS l yX6_givenAt cX6_givenAt 7 (some .int) rm_X6_givenAt sp_X6_givenAt := by
  refine z_meth (by decide) (Or.inr (Or.inl ⟨rfl, rfl⟩)) (fun h => by cases h) rfl (O_X6_givenAt l) ?_
  intro av w K h
  match av, h with
  | [.ref o, .int x, .int y, .int z], h =>
    obtain ⟨ho, ⟨r, hG⟩, d, q, c, A, x', y', z', hS, rfl, hx, rfl, hy, rfl, hz, h⟩ := h
    obtain ⟨G, wi, wl⟩ := w
    subst hG
    try dsimp only at h hS
    have h40 := cs_40 hS
    rcases ho with rfl | rfl
    · refine ⟨Nat.le_of_ble_eq_true rfl, fun Jm hs => ?_⟩
      have loop := up_ind (P := fun i => Jm 6 [some (.ref 6), some (.int (nI x')), some (.int (nI y')), some (.int (nI z')), some (.int (nI (gvN A i x' y' z'))), some (.int (nI i)), none] [] (GC ++ r, wi, wl) 0 0) c (fun i hi ih => by
        refine hs 400 6 _ _ _ _ _ ?_
        conv => whnf
        repeat ((first | refine ⟨zG_of _, ?_⟩ | refine ⟨trivial, ?_⟩ | refine ⟨rfl, ?_⟩ | refine ⟨fun hc => absurd hc (by decide), fun _ => ?_⟩ | refine ⟨fun _ => ?_, fun hc => absurd (by decide) hc⟩ | refine ⟨fun _ => ?_, fun hc => absurd hc (by decide)⟩ | refine ⟨fun hc => absurd (by decide) hc, fun _ => ?_⟩); conv => whnf)
        try dsimp only
        rw [cs_c hS, ltN (by omega) (by omega)]
        refine ⟨fun hc => ?_, fun hc => ?_⟩
        · obtain rfl : i = c := by omega
          have hl := gvN_lt (A := A) (c := i) (x := x') (y := y') (z := z') (fun k hk => ⟨cs_A3 hS _ (by omega) _ hx, cs_A3 hS _ (by omega) _ hy, cs_A3 hS _ (by omega) _ hz⟩)
          conv => whnf
          repeat ((first | refine ⟨zG_of _, ?_⟩ | refine ⟨trivial, ?_⟩ | refine ⟨rfl, ?_⟩ | refine ⟨fun hc => absurd hc (by decide), fun _ => ?_⟩ | refine ⟨fun _ => ?_, fun hc => absurd (by decide) hc⟩ | refine ⟨fun _ => ?_, fun hc => absurd hc (by decide)⟩ | refine ⟨fun hc => absurd (by decide) hc, fun _ => ?_⟩); conv => whnf)
          try dsimp only
          rw [cs_q hS, fmod_N (cs_q23 hS) (by omega)]
          exact h
        · have ih := ih hc
          have e0 : fnum (fmF wi 6 (nI i) (nI 0)) (nI x') = nI (A (3 * i) x') := fn_S hS hc (by decide) hx
          have e1 : fnum (fmF wi 6 (nI i) (nI 1)) (nI y') = nI (A (3 * i + 1) y') := fn_S hS hc (by decide) hy
          have e2 : fnum (fmF wi 6 (nI i) (nI 2)) (nI z') = nI (A (3 * i + 2) z') := fn_S hS hc (by decide) hz
          have a0 := cs_A3 hS (3 * i) (by omega) x' hx
          have g1 : gvN A (i + 1) x' y' z' = gvN A i x' y' z' + A (3 * i) x' * A (3 * i + 1) y' * A (3 * i + 2) z' := rfl
          have g2 : nI (gvN A (i + 1) x' y' z') = nI (gvN A i x' y' z') + fnum (fmF wi 6 (nI i) (nI 0)) (nI x') * fnum (fmF wi 6 (nI i) (nI 1)) (nI y') * fnum (fmF wi 6 (nI i) (nI 2)) (nI z') := by
            rw [e0, e1, e2, pk_mul, pk_mul, nI_add, g1]
          conv => whnf
          repeat ((first | refine ⟨zG_of _, ?_⟩ | refine ⟨trivial, ?_⟩ | refine ⟨rfl, ?_⟩ | refine ⟨fun hc => absurd hc (by decide), fun _ => ?_⟩ | refine ⟨fun _ => ?_, fun hc => absurd (by decide) hc⟩ | refine ⟨fun _ => ?_, fun hc => absurd hc (by decide)⟩ | refine ⟨fun hc => absurd (by decide) hc, fun _ => ?_⟩); conv => whnf)
          try dsimp only
          refine ⟨fun hq => ?_, fun hq => ?_⟩
          · have hq := e0.symm.trans hq
            rw [eq0N (by omega)] at hq
            rw [g1, hq, Nat.zero_mul, Nat.zero_mul, Nat.add_zero] at ih
            conv => whnf
            repeat ((first | refine ⟨zG_of _, ?_⟩ | refine ⟨trivial, ?_⟩ | refine ⟨rfl, ?_⟩ | refine ⟨fun hc => absurd hc (by decide), fun _ => ?_⟩ | refine ⟨fun _ => ?_, fun hc => absurd (by decide) hc⟩ | refine ⟨fun _ => ?_, fun hc => absurd hc (by decide)⟩ | refine ⟨fun hc => absurd (by decide) hc, fun _ => ?_⟩); conv => whnf)
            try dsimp only
            rw [nI_add]
            exact ih
          · rw [g2] at ih
            conv => whnf
            repeat ((first | refine ⟨zG_of _, ?_⟩ | refine ⟨trivial, ?_⟩ | refine ⟨rfl, ?_⟩ | refine ⟨fun hc => absurd hc (by decide), fun _ => ?_⟩ | refine ⟨fun _ => ?_, fun hc => absurd (by decide) hc⟩ | refine ⟨fun _ => ?_, fun hc => absurd hc (by decide)⟩ | refine ⟨fun hc => absurd (by decide) hc, fun _ => ?_⟩); conv => whnf)
            try dsimp only
            rw [nI_add]
            exact ih)
      exact hs 400 0 _ _ _ _ _ (loop 0 (Nat.zero_le _))
    · refine ⟨Nat.le_of_ble_eq_true rfl, fun Jm hs => ?_⟩
      have loop := up_ind (P := fun i => Jm 6 [some (.ref 9), some (.int (nI x')), some (.int (nI y')), some (.int (nI z')), some (.int (nI (gvN A i x' y' z'))), some (.int (nI i)), none] [] (GC ++ r, wi, wl) 0 0) c (fun i hi ih => by
        refine hs 400 6 _ _ _ _ _ ?_
        conv => whnf
        repeat ((first | refine ⟨zG_of _, ?_⟩ | refine ⟨trivial, ?_⟩ | refine ⟨rfl, ?_⟩ | refine ⟨fun hc => absurd hc (by decide), fun _ => ?_⟩ | refine ⟨fun _ => ?_, fun hc => absurd (by decide) hc⟩ | refine ⟨fun _ => ?_, fun hc => absurd hc (by decide)⟩ | refine ⟨fun hc => absurd (by decide) hc, fun _ => ?_⟩); conv => whnf)
        try dsimp only
        rw [cs_c hS, ltN (by omega) (by omega)]
        refine ⟨fun hc => ?_, fun hc => ?_⟩
        · obtain rfl : i = c := by omega
          have hl := gvN_lt (A := A) (c := i) (x := x') (y := y') (z := z') (fun k hk => ⟨cs_A3 hS _ (by omega) _ hx, cs_A3 hS _ (by omega) _ hy, cs_A3 hS _ (by omega) _ hz⟩)
          conv => whnf
          repeat ((first | refine ⟨zG_of _, ?_⟩ | refine ⟨trivial, ?_⟩ | refine ⟨rfl, ?_⟩ | refine ⟨fun hc => absurd hc (by decide), fun _ => ?_⟩ | refine ⟨fun _ => ?_, fun hc => absurd (by decide) hc⟩ | refine ⟨fun _ => ?_, fun hc => absurd hc (by decide)⟩ | refine ⟨fun hc => absurd (by decide) hc, fun _ => ?_⟩); conv => whnf)
          try dsimp only
          rw [cs_q hS, fmod_N (cs_q23 hS) (by omega)]
          exact h
        · have ih := ih hc
          have e0 : fnum (fmF wi 9 (nI i) (nI 0)) (nI x') = nI (A (3 * i) x') := fn_S hS hc (by decide) hx
          have e1 : fnum (fmF wi 9 (nI i) (nI 1)) (nI y') = nI (A (3 * i + 1) y') := fn_S hS hc (by decide) hy
          have e2 : fnum (fmF wi 9 (nI i) (nI 2)) (nI z') = nI (A (3 * i + 2) z') := fn_S hS hc (by decide) hz
          have a0 := cs_A3 hS (3 * i) (by omega) x' hx
          have g1 : gvN A (i + 1) x' y' z' = gvN A i x' y' z' + A (3 * i) x' * A (3 * i + 1) y' * A (3 * i + 2) z' := rfl
          have g2 : nI (gvN A (i + 1) x' y' z') = nI (gvN A i x' y' z') + fnum (fmF wi 9 (nI i) (nI 0)) (nI x') * fnum (fmF wi 9 (nI i) (nI 1)) (nI y') * fnum (fmF wi 9 (nI i) (nI 2)) (nI z') := by
            rw [e0, e1, e2, pk_mul, pk_mul, nI_add, g1]
          conv => whnf
          repeat ((first | refine ⟨zG_of _, ?_⟩ | refine ⟨trivial, ?_⟩ | refine ⟨rfl, ?_⟩ | refine ⟨fun hc => absurd hc (by decide), fun _ => ?_⟩ | refine ⟨fun _ => ?_, fun hc => absurd (by decide) hc⟩ | refine ⟨fun _ => ?_, fun hc => absurd hc (by decide)⟩ | refine ⟨fun hc => absurd (by decide) hc, fun _ => ?_⟩); conv => whnf)
          try dsimp only
          refine ⟨fun hq => ?_, fun hq => ?_⟩
          · have hq := e0.symm.trans hq
            rw [eq0N (by omega)] at hq
            rw [g1, hq, Nat.zero_mul, Nat.zero_mul, Nat.add_zero] at ih
            conv => whnf
            repeat ((first | refine ⟨zG_of _, ?_⟩ | refine ⟨trivial, ?_⟩ | refine ⟨rfl, ?_⟩ | refine ⟨fun hc => absurd hc (by decide), fun _ => ?_⟩ | refine ⟨fun _ => ?_, fun hc => absurd (by decide) hc⟩ | refine ⟨fun _ => ?_, fun hc => absurd hc (by decide)⟩ | refine ⟨fun hc => absurd (by decide) hc, fun _ => ?_⟩); conv => whnf)
            try dsimp only
            rw [nI_add]
            exact ih
          · rw [g2] at ih
            conv => whnf
            repeat ((first | refine ⟨zG_of _, ?_⟩ | refine ⟨trivial, ?_⟩ | refine ⟨rfl, ?_⟩ | refine ⟨fun hc => absurd hc (by decide), fun _ => ?_⟩ | refine ⟨fun _ => ?_, fun hc => absurd (by decide) hc⟩ | refine ⟨fun _ => ?_, fun hc => absurd hc (by decide)⟩ | refine ⟨fun hc => absurd (by decide) hc, fun _ => ?_⟩); conv => whnf)
            try dsimp only
            rw [nI_add]
            exact ih)
      exact hs 400 0 _ _ _ _ _ (loop 0 (Nat.zero_le _))
def sp_X6_groupOf : zSp := fun av w K => match av with
  | [.ref o, .int i, .int t] => o = 6 ∧ zG w.1 ∧ ∃ d q c A i' t', CS w.2.1 6 d q c A ∧ i = nI i' ∧ i' < c ∧ t = nI t' ∧ t' < 3 ∧ K (some (.long (lN (bs (lkB q A t' i') c)))) w
  | _ => False
def rm_X6_groupOf : Room := { frames := 3, cells := 0, slots := 0, locals := 66 }
def M_X6_groupOf : zM := (k_X6_groupOf, f_X6, [(139, 4, 5, 4, 0, 0, sp_X6_likeBy), (126, 2, 0, 1, 0, 0, sp_X11_bit)], ([], [], []), [], [(5, [true, true, true, true, true, true])], 3, false, (false, 0, fun _ => 0), (0, 0, []))
theorem ca_X6_groupOf_0 (l : Launch) : z_cok l RX6 (headSpec (.code yX6_groupOf cX6_groupOf 6 (some .long) :: zTT) rm_X6_groupOf).room (false, 0, fun _ => 0) (139, 4, 5, 4, 0, 0, sp_X6_likeBy) := z_ca4 (c_X6_likeBy l) mb_X6_likeBy ⟨_, rfl, rfl⟩ wt_526 wt_509 wt_510 (by decide)
theorem ca_X6_groupOf_1 (l : Launch) : z_cok l RX6 (headSpec (.code yX6_groupOf cX6_groupOf 6 (some .long) :: zTT) rm_X6_groupOf).room (false, 0, fun _ => 0) (126, 2, 0, 1, 0, 0, sp_X11_bit) := z_ca2 (host := "FewProducts") (c_X11_bit l) mb_X11_bit (by decide +kernel) wt_750 (by decide)
theorem O_X6_groupOf (l : Launch) : z_OK l RX6 cX6_groupOf (headSpec (.code yX6_groupOf cX6_groupOf 6 (some .long) :: zTT) rm_X6_groupOf).room M_X6_groupOf := ⟨ok_X6_groupOf, fo_X6, List.forall_mem_cons.mpr ⟨ca_X6_groupOf_0 l, List.forall_mem_cons.mpr ⟨ca_X6_groupOf_1 l, fun _ h => absurd h List.not_mem_nil⟩⟩, fun _ h => absurd h List.not_mem_nil, fun _ h => absurd h List.not_mem_nil, fun _ h => absurd h List.not_mem_nil, fun _ h => absurd h List.not_mem_nil, rfl, rfl, fun _ h => absurd h List.not_mem_nil⟩
theorem c_X6_groupOf (l : Launch) : z_CS l yX6_groupOf cX6_groupOf 6 (some .long) rm_X6_groupOf sp_X6_groupOf := by
  refine z_meth (by decide) (Or.inr (Or.inr (Or.inr (Or.inl ⟨rfl, rfl⟩)))) (fun h => by cases h) rfl (O_X6_groupOf l) ?_
  intro av w K h
  match av, h with
  | [.ref o, .int i, .int t], h =>
    obtain ⟨rfl, ⟨r, hG⟩, d, q, c, A, i', t', hS, rfl, hi', rfl, ht, h⟩ := h
    obtain ⟨G, wi, wl⟩ := w
    subst hG
    try dsimp only at h hS
    have h40 := cs_40 hS
    refine ⟨Nat.le_of_ble_eq_true rfl, fun Jm hs => ?_⟩
    have loop := up_ind (P := fun k => Jm 5 [some (.ref 6), some (.int (nI i')), some (.int (nI t')), some (.long (lN (bs (lkB q A t' i') k))), none, some (.int (nI k))] [] (GC ++ r, wi, wl) 0 0) c (fun k hk ih => by
      refine hs 400 5 _ _ _ _ _ ?_
      conv => whnf
      repeat ((first | refine ⟨zG_of _, ?_⟩ | refine ⟨trivial, ?_⟩ | refine ⟨rfl, ?_⟩ | refine ⟨fun hc => absurd hc (by decide), fun _ => ?_⟩ | refine ⟨fun _ => ?_, fun hc => absurd (by decide) hc⟩ | refine ⟨fun _ => ?_, fun hc => absurd hc (by decide)⟩ | refine ⟨fun hc => absurd (by decide) hc, fun _ => ?_⟩); conv => whnf)
      try dsimp only
      rw [cs_c hS, ltN (by omega) (by omega)]
      refine ⟨fun hc => ?_, fun hc => ?_⟩
      · obtain rfl : k = c := by omega
        exact h
      · have ih := ih hc
        have e0 := lk_S hS hi' hc ht
        have a0 := likeN_lt q (A (3 * i' + t')) (A (3 * k + t'))
        conv => whnf
        repeat ((first | refine ⟨zG_of _, ?_⟩ | refine ⟨trivial, ?_⟩ | refine ⟨rfl, ?_⟩ | refine ⟨fun hc => absurd hc (by decide), fun _ => ?_⟩ | refine ⟨fun _ => ?_, fun hc => absurd (by decide) hc⟩ | refine ⟨fun _ => ?_, fun hc => absurd hc (by decide)⟩ | refine ⟨fun hc => absurd (by decide) hc, fun _ => ?_⟩); conv => whnf)
        try dsimp only
        refine ⟨fun hq => ?_, fun hq => ?_⟩
        · have hq : ¬ nI 0 < nI (likeN q (A (3 * i' + t')) (A (3 * k + t'))) := fun z => hq (by have z2 := z; rw [← e0] at z2; exact z2)
          rw [ltN (by omega) (by omega)] at hq
          rw [bs_f (by simpa [lkB] using (show likeN q (A (3 * i' + t')) (A (3 * k + t')) = 0 by omega))] at ih
          conv => whnf
          repeat ((first | refine ⟨zG_of _, ?_⟩ | refine ⟨trivial, ?_⟩ | refine ⟨rfl, ?_⟩ | refine ⟨fun hc => absurd hc (by decide), fun _ => ?_⟩ | refine ⟨fun _ => ?_, fun hc => absurd (by decide) hc⟩ | refine ⟨fun _ => ?_, fun hc => absurd hc (by decide)⟩ | refine ⟨fun hc => absurd (by decide) hc, fun _ => ?_⟩); conv => whnf)
          try dsimp only
          rw [nI_add]
          exact ih
        · have hq : nI 0 < nI (likeN q (A (3 * i' + t')) (A (3 * k + t'))) := by rw [← e0]; exact hq
          rw [ltN (by omega) (by omega)] at hq
          rw [bs_t (by simpa [lkB] using (show ¬ likeN q (A (3 * i' + t')) (A (3 * k + t')) = 0 by omega)), ← fb_orL, ← bit_N (by omega)] at ih
          conv => whnf
          repeat ((first | refine ⟨zG_of _, ?_⟩ | refine ⟨trivial, ?_⟩ | refine ⟨rfl, ?_⟩ | refine ⟨fun hc => absurd hc (by decide), fun _ => ?_⟩ | refine ⟨fun _ => ?_, fun hc => absurd (by decide) hc⟩ | refine ⟨fun _ => ?_, fun hc => absurd hc (by decide)⟩ | refine ⟨fun hc => absurd (by decide) hc, fun _ => ?_⟩); conv => whnf)
          try dsimp only
          rw [nI_add]
          exact ih)
    exact hs 400 0 _ _ _ _ _ (loop 0 (Nat.zero_le _))
def sp_X6_flipsAt : zSp := fun av w K => match av with
  | [.ref o, .int t] => o = 6 ∧ zG w.1 ∧ ∃ d q c A t', CS w.2.1 6 d q c A ∧ t = nI t' ∧ t' < 3 ∧ K (some (.int (nI (flN q A t' c)))) w
  | _ => False
def rm_X6_flipsAt : Room := { frames := 3, cells := 0, slots := 0, locals := 66 }
def M_X6_flipsAt : zM := (k_X6_flipsAt, f_X6, [(139, 4, 5, 4, 0, 0, sp_X6_likeBy)], ([], [], []), [], [(4, [true, true, true, true, false]), (15, [true, true, true, true, true])], 1, false, (false, 0, fun _ => 0), (0, 0, []))
theorem ca_X6_flipsAt_0 (l : Launch) : z_cok l RX6 (headSpec (.code yX6_flipsAt cX6_flipsAt 5 (some .int) :: zTT) rm_X6_flipsAt).room (false, 0, fun _ => 0) (139, 4, 5, 4, 0, 0, sp_X6_likeBy) := z_ca4 (c_X6_likeBy l) mb_X6_likeBy ⟨_, rfl, rfl⟩ wt_526 wt_509 wt_510 (by decide)
theorem O_X6_flipsAt (l : Launch) : z_OK l RX6 cX6_flipsAt (headSpec (.code yX6_flipsAt cX6_flipsAt 5 (some .int) :: zTT) rm_X6_flipsAt).room M_X6_flipsAt := ⟨ok_X6_flipsAt, fo_X6, List.forall_mem_cons.mpr ⟨ca_X6_flipsAt_0 l, fun _ h => absurd h List.not_mem_nil⟩, fun _ h => absurd h List.not_mem_nil, fun _ h => absurd h List.not_mem_nil, fun _ h => absurd h List.not_mem_nil, fun _ h => absurd h List.not_mem_nil, rfl, rfl, fun _ h => absurd h List.not_mem_nil⟩
theorem c_X6_flipsAt (l : Launch) : z_CS l yX6_flipsAt cX6_flipsAt 5 (some .int) rm_X6_flipsAt sp_X6_flipsAt := by
  refine z_meth (by decide) (Or.inr (Or.inl ⟨rfl, rfl⟩)) (fun h => by cases h) rfl (O_X6_flipsAt l) ?_
  intro av w K h
  match av, h with
  | [.ref o, .int t], h =>
    obtain ⟨rfl, ⟨r, hG⟩, d, q, c, A, t', hS, rfl, ht, h⟩ := h
    obtain ⟨G, wi, wl⟩ := w
    subst hG
    try dsimp only at h hS
    have h40 := cs_40 hS
    refine ⟨Nat.le_of_ble_eq_true rfl, fun Jm hs => ?_⟩
    have loop := up_ind (P := fun i => Jm 4 [some (.ref 6), some (.int (nI t')), some (.int (nI (flN q A t' i))), some (.int (nI i)), none] [] (GC ++ r, wi, wl) 0 0) c (fun i hi ih => by
      refine hs 400 4 _ _ _ _ _ ?_
      conv => whnf
      repeat ((first | refine ⟨zG_of _, ?_⟩ | refine ⟨trivial, ?_⟩ | refine ⟨rfl, ?_⟩ | refine ⟨fun hc => absurd hc (by decide), fun _ => ?_⟩ | refine ⟨fun _ => ?_, fun hc => absurd (by decide) hc⟩ | refine ⟨fun _ => ?_, fun hc => absurd hc (by decide)⟩ | refine ⟨fun hc => absurd (by decide) hc, fun _ => ?_⟩); conv => whnf)
      try dsimp only
      rw [cs_c hS, ltN (by omega) (by omega)]
      refine ⟨fun hc => ?_, fun hc => ?_⟩
      · obtain rfl : i = c := by omega
        exact ⟨trivial, h⟩
      · have ih := ih hc
        have inner := up_ind (P := fun j => Jm 15 [some (.ref 6), some (.int (nI t')), some (.int (nI (flN q A t' i + 2 * fb_ct (lkB q A t' i) j))), some (.int (nI i)), some (.int (nI j))] [] (GC ++ r, wi, wl) 0 0) i (fun j hj ihj => by
          refine hs 400 15 _ _ _ _ _ ?_
          conv => whnf
          repeat ((first | refine ⟨zG_of _, ?_⟩ | refine ⟨trivial, ?_⟩ | refine ⟨rfl, ?_⟩ | refine ⟨fun hc => absurd hc (by decide), fun _ => ?_⟩ | refine ⟨fun _ => ?_, fun hc => absurd (by decide) hc⟩ | refine ⟨fun _ => ?_, fun hc => absurd hc (by decide)⟩ | refine ⟨fun hc => absurd (by decide) hc, fun _ => ?_⟩); conv => whnf)
          try dsimp only
          rw [ltN (by omega) (by omega)]
          refine ⟨fun hc2 => ?_, fun hc2 => ?_⟩
          · obtain rfl : j = i := by omega
            conv => whnf
            repeat ((first | refine ⟨zG_of _, ?_⟩ | refine ⟨trivial, ?_⟩ | refine ⟨rfl, ?_⟩ | refine ⟨fun hc => absurd hc (by decide), fun _ => ?_⟩ | refine ⟨fun _ => ?_, fun hc => absurd (by decide) hc⟩ | refine ⟨fun _ => ?_, fun hc => absurd hc (by decide)⟩ | refine ⟨fun hc => absurd (by decide) hc, fun _ => ?_⟩); conv => whnf)
            try dsimp only
            rw [nI_add]
            exact ih
          · have ihj := ihj hc2
            have e0 := lk_S hS hc (show j < c by omega) ht
            have a0 := likeN_lt q (A (3 * i + t')) (A (3 * j + t'))
            conv => whnf
            repeat ((first | refine ⟨zG_of _, ?_⟩ | refine ⟨trivial, ?_⟩ | refine ⟨rfl, ?_⟩ | refine ⟨fun hc => absurd hc (by decide), fun _ => ?_⟩ | refine ⟨fun _ => ?_, fun hc => absurd (by decide) hc⟩ | refine ⟨fun _ => ?_, fun hc => absurd hc (by decide)⟩ | refine ⟨fun hc => absurd (by decide) hc, fun _ => ?_⟩); conv => whnf)
            try dsimp only
            refine ⟨fun hq => ?_, fun hq => ?_⟩
            · have hq : ¬ nI 0 < nI (likeN q (A (3 * i + t')) (A (3 * j + t'))) := fun z => hq (by have z2 := z; rw [← e0] at z2; exact z2)
              rw [ltN (by omega) (by omega)] at hq
              rw [ct_f (by simpa [lkB] using (show likeN q (A (3 * i + t')) (A (3 * j + t')) = 0 by omega))] at ihj
              conv => whnf
              repeat ((first | refine ⟨zG_of _, ?_⟩ | refine ⟨trivial, ?_⟩ | refine ⟨rfl, ?_⟩ | refine ⟨fun hc => absurd hc (by decide), fun _ => ?_⟩ | refine ⟨fun _ => ?_, fun hc => absurd (by decide) hc⟩ | refine ⟨fun _ => ?_, fun hc => absurd hc (by decide)⟩ | refine ⟨fun hc => absurd (by decide) hc, fun _ => ?_⟩); conv => whnf)
              try dsimp only
              rw [nI_add]
              exact ihj
            · have hq : nI 0 < nI (likeN q (A (3 * i + t')) (A (3 * j + t'))) := by rw [← e0]; exact hq
              rw [ltN (by omega) (by omega)] at hq
              rw [ct_t (by simpa [lkB] using (show ¬ likeN q (A (3 * i + t')) (A (3 * j + t')) = 0 by omega)), Nat.mul_add, Nat.mul_one, ← Nat.add_assoc] at ihj
              conv => whnf
              repeat ((first | refine ⟨zG_of _, ?_⟩ | refine ⟨trivial, ?_⟩ | refine ⟨rfl, ?_⟩ | refine ⟨fun hc => absurd hc (by decide), fun _ => ?_⟩ | refine ⟨fun _ => ?_, fun hc => absurd (by decide) hc⟩ | refine ⟨fun _ => ?_, fun hc => absurd hc (by decide)⟩ | refine ⟨fun hc => absurd (by decide) hc, fun _ => ?_⟩); conv => whnf)
              try dsimp only
              rw [nI_add, nI_add]
              exact ihj)
        conv => whnf
        repeat ((first | refine ⟨zG_of _, ?_⟩ | refine ⟨trivial, ?_⟩ | refine ⟨rfl, ?_⟩ | refine ⟨fun hc => absurd hc (by decide), fun _ => ?_⟩ | refine ⟨fun _ => ?_, fun hc => absurd (by decide) hc⟩ | refine ⟨fun _ => ?_, fun hc => absurd hc (by decide)⟩ | refine ⟨fun hc => absurd (by decide) hc, fun _ => ?_⟩); conv => whnf)
        try dsimp only
        exact inner 0 (Nat.zero_le _))
    exact hs 400 0 _ _ _ _ _ (loop 0 (Nat.zero_le _))

