/-! vectors of bits, in words of 64 -/
abbrev zV : Type := Nat → Bool
def wd (v : zV) (k : Nat) : Nat := bs (fun j => v (64 * k + j)) 64
theorem wd_lt (v : zV) (k : Nat) : wd v k < 2 ^ 64 := bs_lt _ 64
def vset (v : zV) (e : Nat) : zV := fun x => v x || x == e
def vxor (v u : zV) : zV := fun x => v x ^^ u x
theorem wd_set (v : zV) (e : Nat) : wd (vset v e) (e / 64) = wd v (e / 64) ||| 2 ^ (e % 64) := by
  unfold wd
  rw [← bs_or1 (Nat.mod_lt e (by decide))]
  refine bs_congr (fun j hj => ?_)
  unfold vset
  congr 1
  by_cases h : j = e % 64
  · rw [h, show 64 * (e / 64) + e % 64 = e by omega]
    simp
  · have h2 : ¬ 64 * (e / 64) + j = e := by omega
    have b1 : (j == e % 64) = false := beq_eq_false_iff_ne.mpr h
    have b2 : (64 * (e / 64) + j == e) = false := beq_eq_false_iff_ne.mpr h2
    show (64 * (e / 64) + j == e) = (j == e % 64)
    rw [b1, b2]
theorem wd_set_ne (v : zV) {e k : Nat} (h : k ≠ e / 64) : wd (vset v e) k = wd v k := by
  refine bs_congr (fun j hj => ?_)
  unfold vset
  have h2 : ¬ 64 * k + j = e := by omega
  simp [h2]
theorem bs_xor (f g : Nat → Bool) (n : Nat) : bs f n ^^^ bs g n = bs (fun j => f j ^^ g j) n := by
  apply Nat.eq_of_testBit_eq
  intro j
  rw [Nat.testBit_xor, bs_bit, bs_bit, bs_bit]
  by_cases q : j < n <;> simp [q]
theorem wd_xor (v u : zV) (k : Nat) : wd (vxor v u) k = wd v k ^^^ wd u k := (bs_xor _ _ _).symm
theorem wd_bit (v : zV) (e : Nat) : (wd v (e / 64)).testBit (e % 64) = v e := by
  unfold wd
  rw [bs_bit, decide_eq_true (Nat.mod_lt e (by decide)), Bool.true_and, show 64 * (e / 64) + e % 64 = e by omega]
theorem lN_0 {n : Nat} (h : n < 2 ^ 64) : lN n = lN 0 ↔ n = 0 := by
  constructor
  · intro e
    have e1 := wb_tn h
    have e2 := wb_tn (n := 0) (by decide)
    rw [e] at e1
    omega
  · rintro rfl; rfl
theorem bit64 {n j : Nat} (hn : n < 2 ^ 64) : lg_cmp (lN n &&& lN (2 ^ j)) (lN 0) = nI 0 ↔ n.testBit j = false := by
  rw [show (nI 0 : Int32) = 0 from rfl, lg_cmp_eq, fb_andL, lN_0 (Nat.lt_of_le_of_lt Nat.and_le_left hn)]
  exact fb_bit_nat n j
/-- a vector, in cells from a place on -/
def LV (wl : Nat → Nat → Int64) (o s : Nat) (v : zV) : Prop := ∀ k, k < 12 → wl o (s + k) = lN (wd v k)
theorem LV_up {wl : Nat → Nat → Int64} {o s e : Nat} {v : zV} (h : LV wl o s v) (he : e < 768) : LV (z_up wl o (s + e / 64) (lN (wd v (e / 64)) ||| lN (2 ^ (e % 64)))) o s (vset v e) := fun k hk => by
  by_cases q : k = e / 64
  · subst q
    rw [z_up_eq, fb_orL, wd_set]
  · rw [z_up_nei (by omega), wd_set_ne v q]
    exact h k hk
def LF (wl wl' : Nat → Nat → Int64) : Prop := ∀ y, y ≠ 42 → wl' y = wl y
def sp_X5_clearColumn : zSp := fun av w K => match av with
  | [.ref o] => o = 38 ∧ zG w.1 ∧ ∀ wl' : Nat → Nat → Int64, LF w.2.2 wl' → LV wl' 42 0 (fun _ => false) → K none (w.1, w.2.1, wl')
  | _ => False
def rm_X5_clearColumn : Room := { frames := 0, cells := 0, slots := 0, locals := 0 }
def M_X5_clearColumn : zM := (k_X5_clearColumn, f_X5, [], ([], [], []), [], [(2, [true, true])], 0, false, (false, 0, fun _ => 0), (0, 0, []))
theorem O_X5_clearColumn (l : Launch) : z_OK l RX5 cX5_clearColumn (headSpec (.code yX5_clearColumn cX5_clearColumn 2 none :: zTT) rm_X5_clearColumn).room M_X5_clearColumn := ⟨ok_X5_clearColumn, fo_X5, fun _ h => absurd h List.not_mem_nil, fun _ h => absurd h List.not_mem_nil, fun _ h => absurd h List.not_mem_nil, fun _ h => absurd h List.not_mem_nil, fun _ h => absurd h List.not_mem_nil, rfl, rfl, fun _ h => absurd h List.not_mem_nil⟩
theorem c_X5_clearColumn (l : Launch) : z_CS l yX5_clearColumn cX5_clearColumn 2 none rm_X5_clearColumn sp_X5_clearColumn := by
  refine z_meth (by decide) (Or.inl ⟨rfl, rfl⟩) (fun h => by cases h) rfl (O_X5_clearColumn l) ?_
  intro av w K h
  match av, h with
  | [.ref o], h =>
    obtain ⟨rfl, ⟨r, hG⟩, h⟩ := h
    obtain ⟨G, wi, wl⟩ := w
    subst hG
    try dsimp only at h
    refine ⟨Nat.le_of_ble_eq_true rfl, fun Jm hs => ?_⟩
    have e0 : ∀ k, wd (fun _ => false) k = 0 := fun k => bs_0.mpr (fun _ _ => rfl)
    have loop := up_ind (P := fun k => ∀ wl' : Nat → Nat → Int64, LF wl wl' → (∀ j, j < k → wl' 42 j = lN 0) → Jm 2 [some (.ref 38), some (.int (nI k))] [] (GC ++ r, wi, wl') 0 0) 12 (fun k hk ih => by
      intro wl' hF hz
      refine hs 400 2 _ _ _ _ _ ?_
      conv => whnf
      repeat ((first | refine ⟨zG_of _, ?_⟩ | refine ⟨trivial, ?_⟩ | refine ⟨rfl, ?_⟩ | refine ⟨fun hc => absurd hc (by decide), fun _ => ?_⟩ | refine ⟨fun _ => ?_, fun hc => absurd (by decide) hc⟩ | refine ⟨fun _ => ?_, fun hc => absurd hc (by decide)⟩ | refine ⟨fun hc => absurd (by decide) hc, fun _ => ?_⟩); conv => whnf)
      try dsimp only
      rw [ltN (by omega) (by omega)]
      refine ⟨fun hc => ?_, fun hc => ?_⟩
      · exact h wl' hF (fun j hj => by rw [Nat.zero_add, e0]; exact hz j (by omega))
      · have ihn := ih hc
        conv => whnf
        repeat ((first | refine ⟨zG_of _, ?_⟩ | refine ⟨trivial, ?_⟩ | refine ⟨rfl, ?_⟩ | refine ⟨fun hc => absurd hc (by decide), fun _ => ?_⟩ | refine ⟨fun _ => ?_, fun hc => absurd (by decide) hc⟩ | refine ⟨fun _ => ?_, fun hc => absurd hc (by decide)⟩ | refine ⟨fun hc => absurd (by decide) hc, fun _ => ?_⟩); conv => whnf)
        try dsimp only
        refine ⟨vp_in_nI hc (by decide), ?_⟩
        conv => whnf
        repeat ((first | refine ⟨zG_of _, ?_⟩ | refine ⟨trivial, ?_⟩ | refine ⟨rfl, ?_⟩ | refine ⟨fun hc => absurd hc (by decide), fun _ => ?_⟩ | refine ⟨fun _ => ?_, fun hc => absurd (by decide) hc⟩ | refine ⟨fun _ => ?_, fun hc => absurd hc (by decide)⟩ | refine ⟨fun hc => absurd (by decide) hc, fun _ => ?_⟩); conv => whnf)
        try dsimp only
        rw [nI_clamp (by omega), nI_add]
        refine ihn _ (fun y hy => by rw [z_up_ne hy, hF y hy]) (fun j hj => ?_)
        by_cases e : j = k
        · subst e
          rw [z_up_eq]
        · rw [z_up_nei e]
          exact hz j (by omega))
    exact hs 400 0 _ _ _ _ _ (loop 0 (Nat.zero_le _) wl (fun _ _ => rfl) (fun j hj => absurd hj (Nat.not_lt_zero j)))
theorem sar6 {e : Nat} (h : e < 768) : z_sar (nI e) (nI 6) = nI (e / 64) := z_sarN (by omega) (by decide)
theorem and63N (e : Nat) : nI e &&& nI 63 = nI (e % 64) := by rw [fa_and, and63]
def sp_X5_setBit : zSp := fun av w K => match av with
  | [.ref o, .int x] => o = 38 ∧ zG w.1 ∧ ∃ e v, LV w.2.2 42 0 v ∧ x = nI e ∧ e < 768 ∧ ∀ wl' : Nat → Nat → Int64, LF w.2.2 wl' → LV wl' 42 0 (vset v e) → K none (w.1, w.2.1, wl')
  | _ => False
def rm_X5_setBit : Room := { frames := 1, cells := 0, slots := 0, locals := 20 }
def M_X5_setBit : zM := (k_X5_setBit, f_X5, [(71, 2, 0, 1, 0, 0, sp_X11_bit)], ([], [], []), [], [], 0, false, (false, 0, fun _ => 0), (0, 0, []))
theorem ca_X5_setBit_0 (l : Launch) : z_cok l RX5 (headSpec (.code yX5_setBit cX5_setBit 3 none :: zTT) rm_X5_setBit).room (false, 0, fun _ => 0) (71, 2, 0, 1, 0, 0, sp_X11_bit) := z_ca2 (host := "FewProducts") (c_X11_bit l) mb_X11_bit (by decide +kernel) wt_750 (by decide)
theorem O_X5_setBit (l : Launch) : z_OK l RX5 cX5_setBit (headSpec (.code yX5_setBit cX5_setBit 3 none :: zTT) rm_X5_setBit).room M_X5_setBit := ⟨ok_X5_setBit, fo_X5, List.forall_mem_cons.mpr ⟨ca_X5_setBit_0 l, fun _ h => absurd h List.not_mem_nil⟩, fun _ h => absurd h List.not_mem_nil, fun _ h => absurd h List.not_mem_nil, fun _ h => absurd h List.not_mem_nil, fun _ h => absurd h List.not_mem_nil, rfl, rfl, fun _ h => absurd h List.not_mem_nil⟩
theorem c_X5_setBit (l : Launch) : z_CS l yX5_setBit cX5_setBit 3 none rm_X5_setBit sp_X5_setBit := by
  refine z_meth (by decide) (Or.inl ⟨rfl, rfl⟩) (fun h => by cases h) rfl (O_X5_setBit l) ?_
  intro av w K h
  match av, h with
  | [.ref o, .int x], h =>
    obtain ⟨rfl, ⟨r, hG⟩, e, v, hV, rfl, he, h⟩ := h
    obtain ⟨G, wi, wl⟩ := w
    subst hG
    try dsimp only at h hV
    refine ⟨Nat.le_of_ble_eq_true rfl, fun Jm hs => hs 400 0 _ _ _ _ _ ?_⟩
    have h6 := sar6 he
    conv => whnf
    repeat ((first | refine ⟨zG_of _, ?_⟩ | refine ⟨trivial, ?_⟩ | refine ⟨rfl, ?_⟩ | refine ⟨fun hc => absurd hc (by decide), fun _ => ?_⟩ | refine ⟨fun _ => ?_, fun hc => absurd (by decide) hc⟩ | refine ⟨fun _ => ?_, fun hc => absurd hc (by decide)⟩ | refine ⟨fun hc => absurd (by decide) hc, fun _ => ?_⟩); conv => whnf)
    try dsimp only
    rw [h6]
    refine ⟨fun z => absurd z (nI_nlt (Nat.zero_le _) (by omega)), fun _ => ?_⟩
    conv => whnf
    repeat ((first | refine ⟨zG_of _, ?_⟩ | refine ⟨trivial, ?_⟩ | refine ⟨rfl, ?_⟩ | refine ⟨fun hc => absurd hc (by decide), fun _ => ?_⟩ | refine ⟨fun _ => ?_, fun hc => absurd (by decide) hc⟩ | refine ⟨fun _ => ?_, fun hc => absurd hc (by decide)⟩ | refine ⟨fun hc => absurd (by decide) hc, fun _ => ?_⟩); conv => whnf)
    try dsimp only
    rw [ltN (by omega) (by omega)]
    refine ⟨fun z => absurd (show e / 64 < 12 by omega) z, fun _ => ?_⟩
    conv => whnf
    repeat ((first | refine ⟨zG_of _, ?_⟩ | refine ⟨trivial, ?_⟩ | refine ⟨rfl, ?_⟩ | refine ⟨fun hc => absurd hc (by decide), fun _ => ?_⟩ | refine ⟨fun _ => ?_, fun hc => absurd (by decide) hc⟩ | refine ⟨fun _ => ?_, fun hc => absurd hc (by decide)⟩ | refine ⟨fun hc => absurd (by decide) hc, fun _ => ?_⟩); conv => whnf)
    try dsimp only
    refine ⟨vp_in_nI (show e / 64 < 12 by omega) (by decide), ?_⟩
    conv => whnf
    repeat ((first | refine ⟨zG_of _, ?_⟩ | refine ⟨trivial, ?_⟩ | refine ⟨rfl, ?_⟩ | refine ⟨fun hc => absurd hc (by decide), fun _ => ?_⟩ | refine ⟨fun _ => ?_, fun hc => absurd (by decide) hc⟩ | refine ⟨fun _ => ?_, fun hc => absurd hc (by decide)⟩ | refine ⟨fun hc => absurd (by decide) hc, fun _ => ?_⟩); conv => whnf)
    try dsimp only
    refine ⟨vp_in_nI (show e / 64 < 12 by omega) (by decide), ?_⟩
    have hw : wl 42 (e / 64) = lN (wd v (e / 64)) := by
      have := hV (e / 64) (by omega)
      rw [Nat.zero_add] at this
      exact this
    rw [nI_clamp (by omega), hw, and63N, bit_N (Nat.mod_lt _ (by decide))]
    refine h _ (fun y hy => z_up_ne hy) ?_
    have := LV_up hV he
    rw [Nat.zero_add] at this
    exact this
def sp_X5_hasBit : zSp := fun av w K => match av with
  | [.ref o, .int x] => o = 38 ∧ zG w.1 ∧ ∃ e v, LV w.2.2 42 0 v ∧ x = nI e ∧ e < 768 ∧ K (some (.int (bI (v e = true)))) w
  | _ => False
def rm_X5_hasBit : Room := { frames := 1, cells := 0, slots := 0, locals := 20 }
def M_X5_hasBit : zM := (k_X5_hasBit, f_X5, [(71, 2, 0, 1, 0, 0, sp_X11_bit)], ([], [], []), [], [], 2, false, (false, 0, fun _ => 0), (0, 0, []))
theorem ca_X5_hasBit_0 (l : Launch) : z_cok l RX5 (headSpec (.code yX5_hasBit cX5_hasBit 3 (some .boolean) :: zTT) rm_X5_hasBit).room (false, 0, fun _ => 0) (71, 2, 0, 1, 0, 0, sp_X11_bit) := z_ca2 (host := "FewProducts") (c_X11_bit l) mb_X11_bit (by decide +kernel) wt_750 (by decide)
theorem O_X5_hasBit (l : Launch) : z_OK l RX5 cX5_hasBit (headSpec (.code yX5_hasBit cX5_hasBit 3 (some .boolean) :: zTT) rm_X5_hasBit).room M_X5_hasBit := ⟨ok_X5_hasBit, fo_X5, List.forall_mem_cons.mpr ⟨ca_X5_hasBit_0 l, fun _ h => absurd h List.not_mem_nil⟩, fun _ h => absurd h List.not_mem_nil, fun _ h => absurd h List.not_mem_nil, fun _ h => absurd h List.not_mem_nil, fun _ h => absurd h List.not_mem_nil, rfl, rfl, fun _ h => absurd h List.not_mem_nil⟩
theorem c_X5_hasBit (l : Launch) : z_CS l yX5_hasBit cX5_hasBit 3 (some .boolean) rm_X5_hasBit sp_X5_hasBit := by
  refine z_meth (by decide) (Or.inr (Or.inr (Or.inl ⟨rfl, rfl⟩))) (fun h => by cases h) rfl (O_X5_hasBit l) ?_
  intro av w K h
  match av, h with
  | [.ref o, .int x], h =>
    obtain ⟨rfl, ⟨r, hG⟩, e, v, hV, rfl, he, h⟩ := h
    obtain ⟨G, wi, wl⟩ := w
    subst hG
    try dsimp only at h hV
    refine ⟨Nat.le_of_ble_eq_true rfl, fun Jm hs => hs 400 0 _ _ _ _ _ ?_⟩
    have h6 := sar6 he
    conv => whnf
    repeat ((first | refine ⟨zG_of _, ?_⟩ | refine ⟨trivial, ?_⟩ | refine ⟨rfl, ?_⟩ | refine ⟨fun hc => absurd hc (by decide), fun _ => ?_⟩ | refine ⟨fun _ => ?_, fun hc => absurd (by decide) hc⟩ | refine ⟨fun _ => ?_, fun hc => absurd hc (by decide)⟩ | refine ⟨fun hc => absurd (by decide) hc, fun _ => ?_⟩); conv => whnf)
    try dsimp only
    rw [h6]
    refine ⟨fun z => absurd z (nI_nlt (Nat.zero_le _) (by omega)), fun _ => ?_⟩
    conv => whnf
    repeat ((first | refine ⟨zG_of _, ?_⟩ | refine ⟨trivial, ?_⟩ | refine ⟨rfl, ?_⟩ | refine ⟨fun hc => absurd hc (by decide), fun _ => ?_⟩ | refine ⟨fun _ => ?_, fun hc => absurd (by decide) hc⟩ | refine ⟨fun _ => ?_, fun hc => absurd hc (by decide)⟩ | refine ⟨fun hc => absurd (by decide) hc, fun _ => ?_⟩); conv => whnf)
    try dsimp only
    rw [ltN (by omega) (by omega)]
    refine ⟨fun z => absurd (show e / 64 < 12 by omega) z, fun _ => ?_⟩
    conv => whnf
    repeat ((first | refine ⟨zG_of _, ?_⟩ | refine ⟨trivial, ?_⟩ | refine ⟨rfl, ?_⟩ | refine ⟨fun hc => absurd hc (by decide), fun _ => ?_⟩ | refine ⟨fun _ => ?_, fun hc => absurd (by decide) hc⟩ | refine ⟨fun _ => ?_, fun hc => absurd hc (by decide)⟩ | refine ⟨fun hc => absurd (by decide) hc, fun _ => ?_⟩); conv => whnf)
    try dsimp only
    refine ⟨vp_in_nI (show e / 64 < 12 by omega) (by decide), ?_⟩
    have hw : wl 42 (e / 64) = lN (wd v (e / 64)) := by
      have := hV (e / 64) (by omega)
      rw [Nat.zero_add] at this
      exact this
    conv => whnf
    repeat ((first | refine ⟨zG_of _, ?_⟩ | refine ⟨trivial, ?_⟩ | refine ⟨rfl, ?_⟩ | refine ⟨fun hc => absurd hc (by decide), fun _ => ?_⟩ | refine ⟨fun _ => ?_, fun hc => absurd (by decide) hc⟩ | refine ⟨fun _ => ?_, fun hc => absurd hc (by decide)⟩ | refine ⟨fun hc => absurd (by decide) hc, fun _ => ?_⟩); conv => whnf)
    try dsimp only
    rw [nI_clamp (by omega), hw, and63N, bit_N (Nat.mod_lt _ (by decide)), bit64 (wd_lt _ _), wd_bit]
    refine ⟨fun hb => ?_, fun hb => ?_⟩
    · rw [bI_f (by rw [hb]; decide)] at h
      exact ⟨Or.inl rfl, h⟩
    · rw [bI_t (by simpa using hb)] at h
      exact ⟨Or.inr rfl, h⟩
def sp_X5_lessPivot : zSp := fun av w K => match av with
  | [.ref o, .int x] => o = 38 ∧ zG w.1 ∧ ∃ p v u, LV w.2.2 42 0 v ∧ x = nI p ∧ p < 729 ∧ LV w.2.2 39 (12 * p) u ∧ (∀ e, e < p → u e = false) ∧ ∀ wl' : Nat → Nat → Int64, LF w.2.2 wl' → LV wl' 42 0 (vxor v u) → K none (w.1, w.2.1, wl')
  | _ => False
def rm_X5_lessPivot : Room := { frames := 0, cells := 0, slots := 0, locals := 0 }
def M_X5_lessPivot : zM := (k_X5_lessPivot, f_X5, [], ([], [], []), [], [(5, [true, true, true, false])], 0, false, (false, 0, fun _ => 0), (0, 0, []))
theorem O_X5_lessPivot (l : Launch) : z_OK l RX5 cX5_lessPivot (headSpec (.code yX5_lessPivot cX5_lessPivot 4 none :: zTT) rm_X5_lessPivot).room M_X5_lessPivot := ⟨ok_X5_lessPivot, fo_X5, fun _ h => absurd h List.not_mem_nil, fun _ h => absurd h List.not_mem_nil, fun _ h => absurd h List.not_mem_nil, fun _ h => absurd h List.not_mem_nil, fun _ h => absurd h List.not_mem_nil, rfl, rfl, fun _ h => absurd h List.not_mem_nil⟩
theorem c_X5_lessPivot (l : Launch) : z_CS l yX5_lessPivot cX5_lessPivot 4 none rm_X5_lessPivot sp_X5_lessPivot := by
  refine z_meth (by decide) (Or.inl ⟨rfl, rfl⟩) (fun h => by cases h) rfl (O_X5_lessPivot l) ?_
  intro av w K h
  match av, h with
  | [.ref o, .int x], h =>
    obtain ⟨rfl, ⟨r, hG⟩, p, v, u, hV, rfl, hp, hU, hu, h⟩ := h
    obtain ⟨G, wi, wl⟩ := w
    subst hG
    try dsimp only at h hV hU
    have h6 := sar6 (show p < 768 by omega)
    refine ⟨Nat.le_of_ble_eq_true rfl, fun Jm hs => ?_⟩
    have loop := up_ind (P := fun k => p / 64 ≤ k → ∀ wl' : Nat → Nat → Int64, LF wl wl' → (∀ j, j < 12 → wl' 42 j = lN (if j < k then wd (vxor v u) j else wd v j)) → Jm 5 [some (.ref 38), some (.int (nI p)), some (.int (nI k)), none] [] (GC ++ r, wi, wl') 0 0) 12 (fun k hk ih => by
      intro hpk wl' hF hW
      refine hs 400 5 _ _ _ _ _ ?_
      conv => whnf
      repeat ((first | refine ⟨zG_of _, ?_⟩ | refine ⟨trivial, ?_⟩ | refine ⟨rfl, ?_⟩ | refine ⟨fun hc => absurd hc (by decide), fun _ => ?_⟩ | refine ⟨fun _ => ?_, fun hc => absurd (by decide) hc⟩ | refine ⟨fun _ => ?_, fun hc => absurd hc (by decide)⟩ | refine ⟨fun hc => absurd (by decide) hc, fun _ => ?_⟩); conv => whnf)
      try dsimp only
      refine ⟨fun z => absurd z (nI_nlt (Nat.zero_le _) (by omega)), fun _ => ?_⟩
      conv => whnf
      repeat ((first | refine ⟨zG_of _, ?_⟩ | refine ⟨trivial, ?_⟩ | refine ⟨rfl, ?_⟩ | refine ⟨fun hc => absurd hc (by decide), fun _ => ?_⟩ | refine ⟨fun _ => ?_, fun hc => absurd (by decide) hc⟩ | refine ⟨fun _ => ?_, fun hc => absurd hc (by decide)⟩ | refine ⟨fun hc => absurd (by decide) hc, fun _ => ?_⟩); conv => whnf)
      try dsimp only
      rw [ltN (by omega) (by omega)]
      refine ⟨fun hc => ?_, fun hc => ?_⟩
      · refine h wl' hF (fun j hj => ?_)
        rw [Nat.zero_add, hW j hj, if_pos (by omega)]
      · have ihn := ih hc (by omega)
        conv => whnf
        repeat ((first | refine ⟨zG_of _, ?_⟩ | refine ⟨trivial, ?_⟩ | refine ⟨rfl, ?_⟩ | refine ⟨fun hc => absurd hc (by decide), fun _ => ?_⟩ | refine ⟨fun _ => ?_, fun hc => absurd (by decide) hc⟩ | refine ⟨fun _ => ?_, fun hc => absurd hc (by decide)⟩ | refine ⟨fun hc => absurd (by decide) hc, fun _ => ?_⟩); conv => whnf)
        try dsimp only
        rw [pk_mul, nI_add]
        refine ⟨fun z => absurd z (nI_nlt (Nat.zero_le _) (by omega)), fun _ => ?_⟩
        conv => whnf
        repeat ((first | refine ⟨zG_of _, ?_⟩ | refine ⟨trivial, ?_⟩ | refine ⟨rfl, ?_⟩ | refine ⟨fun hc => absurd hc (by decide), fun _ => ?_⟩ | refine ⟨fun _ => ?_, fun hc => absurd (by decide) hc⟩ | refine ⟨fun _ => ?_, fun hc => absurd hc (by decide)⟩ | refine ⟨fun hc => absurd (by decide) hc, fun _ => ?_⟩); conv => whnf)
        try dsimp only
        rw [ltN (by omega) (by omega)]
        refine ⟨fun z => absurd (show p * 12 + k < 8748 by omega) z, fun _ => ?_⟩
        conv => whnf
        repeat ((first | refine ⟨zG_of _, ?_⟩ | refine ⟨trivial, ?_⟩ | refine ⟨rfl, ?_⟩ | refine ⟨fun hc => absurd hc (by decide), fun _ => ?_⟩ | refine ⟨fun _ => ?_, fun hc => absurd (by decide) hc⟩ | refine ⟨fun _ => ?_, fun hc => absurd hc (by decide)⟩ | refine ⟨fun hc => absurd (by decide) hc, fun _ => ?_⟩); conv => whnf)
        try dsimp only
        refine ⟨vp_in_nI hc (by decide), ?_⟩
        conv => whnf
        repeat ((first | refine ⟨zG_of _, ?_⟩ | refine ⟨trivial, ?_⟩ | refine ⟨rfl, ?_⟩ | refine ⟨fun hc => absurd hc (by decide), fun _ => ?_⟩ | refine ⟨fun _ => ?_, fun hc => absurd (by decide) hc⟩ | refine ⟨fun _ => ?_, fun hc => absurd hc (by decide)⟩ | refine ⟨fun hc => absurd (by decide) hc, fun _ => ?_⟩); conv => whnf)
        try dsimp only
        refine ⟨vp_in_nI (show p * 12 + k < 8748 by omega) (by decide), ?_⟩
        conv => whnf
        repeat ((first | refine ⟨zG_of _, ?_⟩ | refine ⟨trivial, ?_⟩ | refine ⟨rfl, ?_⟩ | refine ⟨fun hc => absurd hc (by decide), fun _ => ?_⟩ | refine ⟨fun _ => ?_, fun hc => absurd (by decide) hc⟩ | refine ⟨fun _ => ?_, fun hc => absurd hc (by decide)⟩ | refine ⟨fun hc => absurd (by decide) hc, fun _ => ?_⟩); conv => whnf)
        try dsimp only
        refine ⟨vp_in_nI hc (by decide), ?_⟩
        have e1 : wl' 39 (p * 12 + k) = lN (wd u k) := by
          rw [hF 39 (by decide), Nat.mul_comm]
          exact hU k hc
        have e2 : wl' 42 k = lN (wd v k) := by
          rw [hW k hc, if_neg (by omega)]
        conv => whnf
        repeat ((first | refine ⟨zG_of _, ?_⟩ | refine ⟨trivial, ?_⟩ | refine ⟨rfl, ?_⟩ | refine ⟨fun hc => absurd hc (by decide), fun _ => ?_⟩ | refine ⟨fun _ => ?_, fun hc => absurd (by decide) hc⟩ | refine ⟨fun _ => ?_, fun hc => absurd hc (by decide)⟩ | refine ⟨fun hc => absurd (by decide) hc, fun _ => ?_⟩); conv => whnf)
        try dsimp only
        rw [nI_clamp (by omega), nI_clamp (by omega), e1, e2, fb_xorL, ← wd_xor, nI_add]
        refine ihn _ (fun y hy => by rw [z_up_ne hy, hF y hy]) (fun j hj => ?_)
        by_cases e : j = k
        · subst e
          rw [z_up_eq, if_pos (by omega)]
        · rw [z_up_nei e, hW j hj]
          by_cases e3 : j < k
          · have e4 : j < k + 1 := by omega
            rw [if_pos e3, if_pos e4]
          · have e4 : ¬ j < k + 1 := by omega
            rw [if_neg e3, if_neg e4])
    refine hs 400 0 _ _ _ _ _ ?_
    conv => whnf
    repeat ((first | refine ⟨zG_of _, ?_⟩ | refine ⟨trivial, ?_⟩ | refine ⟨rfl, ?_⟩ | refine ⟨fun hc => absurd hc (by decide), fun _ => ?_⟩ | refine ⟨fun _ => ?_, fun hc => absurd (by decide) hc⟩ | refine ⟨fun _ => ?_, fun hc => absurd hc (by decide)⟩ | refine ⟨fun hc => absurd (by decide) hc, fun _ => ?_⟩); conv => whnf)
    try dsimp only
    rw [h6]
    refine loop (p / 64) (by omega) (Nat.le_refl _) wl (fun _ _ => rfl) (fun j hj => ?_)
    have := hV j hj
    rw [Nat.zero_add] at this
    rw [this]
    by_cases e : j < p / 64
    · rw [if_pos e]
      congr 1
      refine bs_congr (fun b hb => ?_)
      show v (64 * j + b) = (v (64 * j + b) ^^ u (64 * j + b))
      rw [hu _ (by omega), Bool.xor_false]
    · rw [if_neg e]

