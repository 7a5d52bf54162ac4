/-! the flip that is drawn; two joined; all joined -/
/-- the k-th index with a property -/
def kt (f : Nat → Bool) (k : Nat) : Nat := fi (fun n => f n && fb_ct f n == k) 1600
theorem kt_spec {f : Nat → Bool} {k : Nat} (h : k < fb_ct f 1600) : kt f k < 1600 ∧ f (kt f k) = true ∧ fb_ct f (kt f k) = k := by
  obtain ⟨i, h1, h2, h3⟩ := fb_ct_kth h
  have e : kt f k = i := fi_at h1 (by simp [h2, h3]) (fun j hj q => by
    simp only [Bool.and_eq_true, beq_iff_eq] at q
    have := fb_ct_kth_one q.1 h2 (q.2.trans h3.symm)
    omega)
  rw [e]
  exact ⟨h1, h2, h3⟩
/-- a scheme behind the k-th flip at a table -/
def ktA (q : Nat) (A : Nat → Nat → Nat) (c t k : Nat) : Nat → Nat → Nat := tfA q A (kt (pfB q A t c) k / 40) (kt (pfB q A t c) k % 40) t
def dfA (q : Nat) (A : Nat → Nat → Nat) (c k : Nat) : Nat → Nat → Nat := if k < flN q A 0 c then ktA q A c 0 k else if k < flN q A 0 c + flN q A 1 c then ktA q A c 1 (k - flN q A 0 c) else ktA q A c 2 (k - flN q A 0 c - flN q A 1 c)
def flAll (q : Nat) (A : Nat → Nat → Nat) (c : Nat) : Nat := flN q A 0 c + flN q A 1 c + flN q A 2 c
theorem lremN {a d : Nat} (ha : a < 2 ^ 63) (h0 : 0 < d) (hd : d < 2 ^ 63) : z_lrem (lN a) (lN d) = lN (a % d) := pk_lRem ha h0 hd
theorem fl_le {q : Nat} {A : Nat → Nat → Nat} {t c : Nat} (hc : c ≤ 40) : flN q A t c ≤ 3200 := by
  have : flN q A t c ≤ c * 80 := fb_sm_bound (fun i hi => by
    have := fb_ct_le (lkB q A t i) i
    show 2 * fb_ct (lkB q A t i) i ≤ 80
    omega)
  omega
def sp_X4_flipDrawn : zSp := fun av w K => match av with
  | [.ref o, .long x] => o = 6 ∧ zG w.1 ∧ ∃ d q c A X, CS w.2.1 6 d q c A ∧ x = lN X ∧ X < 2 ^ 31 ∧ (flAll q A c = 0 → K (some (.int (nI 0))) w) ∧ (flAll q A c ≠ 0 → ∀ wi' : Nat → Nat → Int32, Fr 6 8 w.2.1 wi' → CS wi' 6 d q c (dfA q A c (X % flAll q A c)) → K (some (.int (nI 1))) (w.1, wi', w.2.2))
  | _ => False
def rm_X4_flipDrawn : Room := { frames := 5, cells := 0, slots := 0, locals := 117 }
def M_X4_flipDrawn : zM := (k_X4_flipDrawn, f_X4, [(66, 4, 5, 2, 0, 0, sp_X6_flipsAt), (69, 0, 0, 3, 0, 0, sp_X4_flipAt)], ([], [], []), [], [], 2, false, (false, 0, fun _ => 0), (0, 0, []))
theorem ca_X4_flipDrawn_0 (l : Launch) : z_cok l RX4 (headSpec (.code yX4_flipDrawn cX4_flipDrawn 7 (some .boolean) :: zTT) rm_X4_flipDrawn).room (false, 0, fun _ => 0) (66, 4, 5, 2, 0, 0, sp_X6_flipsAt) := z_ca4 (c_X6_flipsAt l) mb_X6_flipsAt ⟨_, rfl, rfl⟩ wt_692 wt_693 wt_694 (by decide)
theorem ca_X4_flipDrawn_1 (l : Launch) : z_cok l RX4 (headSpec (.code yX4_flipDrawn cX4_flipDrawn 7 (some .boolean) :: zTT) rm_X4_flipDrawn).room (false, 0, fun _ => 0) (69, 0, 0, 3, 0, 0, sp_X4_flipAt) := z_ca0 (c_X4_flipAt l) mb_X4_flipAt wt_696 wt_697 (by decide)
theorem O_X4_flipDrawn (l : Launch) : z_OK l RX4 cX4_flipDrawn (headSpec (.code yX4_flipDrawn cX4_flipDrawn 7 (some .boolean) :: zTT) rm_X4_flipDrawn).room M_X4_flipDrawn := ⟨ok_X4_flipDrawn, fo_X4, List.forall_mem_cons.mpr ⟨ca_X4_flipDrawn_0 l, List.forall_mem_cons.mpr ⟨ca_X4_flipDrawn_1 l, fun _ h => absurd h List.not_mem_nil⟩⟩, fun _ h => absurd h List.not_mem_nil, fun _ h => absurd h List.not_mem_nil, fun _ h => absurd h List.not_mem_nil, fun _ h => absurd h List.not_mem_nil, rfl, rfl, fun _ h => absurd h List.not_mem_nil⟩
theorem c_X4_flipDrawn (l : Launch) : z_CS l yX4_flipDrawn cX4_flipDrawn 7 (some .boolean) rm_X4_flipDrawn sp_X4_flipDrawn := by
  refine z_meth (by decide) (Or.inr (Or.inr (Or.inl ⟨rfl, rfl⟩))) (fun h => by cases h) rfl (O_X4_flipDrawn l) ?_
  intro av w K h
  match av, h with
  | [.ref o, .long x], h =>
    obtain ⟨rfl, ⟨r, hG⟩, d, q, c, A, X, hS, rfl, hX, h0, h1⟩ := h
    obtain ⟨G, wi, wl⟩ := w
    subst hG
    try dsimp only at h0 h1 hS
    have h40 := cs_40 hS
    have ha : ∀ t, t < 3 → ∀ i, i < c → ∀ p, p < 9 → A (3 * i + t) p < 3 := fun t ht i hi => cs_A3 hS _ (by omega)
    have p0 := pf_count h40 (q := q) (ha 0 (by decide))
    have p1 := pf_count h40 (q := q) (ha 1 (by decide))
    have p2 := pf_count h40 (q := q) (ha 2 (by decide))
    have l0 := fl_le (q := q) (A := A) (t := 0) h40
    have l1 := fl_le (q := q) (A := A) (t := 1) h40
    have l2 := fl_le (q := q) (A := A) (t := 2) h40
    have eall : flAll q A c = flN q A 0 c + flN q A 1 c + flN q A 2 c := rfl
    refine ⟨Nat.le_of_ble_eq_true rfl, fun Jm hs => ?_⟩
    refine hs 400 0 _ _ _ _ _ ?_
    conv => whnf
    repeat ((first | refine ⟨zG_of _, ?_⟩ | refine ⟨trivial, ?_⟩ | refine ⟨rfl, ?_⟩ | refine ⟨fun hc => absurd hc (by decide), fun _ => ?_⟩ | refine ⟨fun _ => ?_, fun hc => absurd (by decide) hc⟩ | refine ⟨fun _ => ?_, fun hc => absurd hc (by decide)⟩ | refine ⟨fun hc => absurd (by decide) hc, fun _ => ?_⟩); conv => whnf)
    try dsimp only
    refine ⟨d, q, c, A, 0, hS, rfl, by decide, ?_⟩
    conv => whnf
    repeat ((first | refine ⟨zG_of _, ?_⟩ | refine ⟨trivial, ?_⟩ | refine ⟨rfl, ?_⟩ | refine ⟨fun hc => absurd hc (by decide), fun _ => ?_⟩ | refine ⟨fun _ => ?_, fun hc => absurd (by decide) hc⟩ | refine ⟨fun _ => ?_, fun hc => absurd hc (by decide)⟩ | refine ⟨fun hc => absurd (by decide) hc, fun _ => ?_⟩); conv => whnf)
    try dsimp only
    refine ⟨d, q, c, A, 1, hS, rfl, by decide, ?_⟩
    conv => whnf
    repeat ((first | refine ⟨zG_of _, ?_⟩ | refine ⟨trivial, ?_⟩ | refine ⟨rfl, ?_⟩ | refine ⟨fun hc => absurd hc (by decide), fun _ => ?_⟩ | refine ⟨fun _ => ?_, fun hc => absurd (by decide) hc⟩ | refine ⟨fun _ => ?_, fun hc => absurd hc (by decide)⟩ | refine ⟨fun hc => absurd (by decide) hc, fun _ => ?_⟩); conv => whnf)
    try dsimp only
    refine ⟨d, q, c, A, 2, hS, rfl, by decide, ?_⟩
    conv => whnf
    repeat ((first | refine ⟨zG_of _, ?_⟩ | refine ⟨trivial, ?_⟩ | refine ⟨rfl, ?_⟩ | refine ⟨fun hc => absurd hc (by decide), fun _ => ?_⟩ | refine ⟨fun _ => ?_, fun hc => absurd (by decide) hc⟩ | refine ⟨fun _ => ?_, fun hc => absurd hc (by decide)⟩ | refine ⟨fun hc => absurd (by decide) hc, fun _ => ?_⟩); conv => whnf)
    try dsimp only
    rw [nI_add, nI_add, ← eall, ltN (by omega) (by omega)]
    refine ⟨fun hq => ?_, fun hq => ⟨Or.inl rfl, h0 (by omega)⟩⟩
    have h1 := h1 (by omega)
    have hk : X % flAll q A c < flAll q A c := Nat.mod_lt _ hq
    have e : (z_lrem (lN X) (nI (flAll q A c)).toInt64).toInt32 = nI (X % flAll q A c) := by
      rw [nI_l (by omega), lremN (by omega) hq (by omega), lN_i]
    generalize hK : X % flAll q A c = k at *
    conv => whnf
    repeat ((first | refine ⟨zG_of _, ?_⟩ | refine ⟨trivial, ?_⟩ | refine ⟨rfl, ?_⟩ | refine ⟨fun hc => absurd hc (by decide), fun _ => ?_⟩ | refine ⟨fun _ => ?_, fun hc => absurd (by decide) hc⟩ | refine ⟨fun _ => ?_, fun hc => absurd hc (by decide)⟩ | refine ⟨fun hc => absurd (by decide) hc, fun _ => ?_⟩); conv => whnf)
    try dsimp only
    refine ⟨?_, ?_⟩
    · intro hz
      have hz : flAll q A c = 0 := by
        rw [nI_l (by omega), show (0 : Int64) = lN 0 from rfl, lN_eq (by omega) (by decide)] at hz
        exact hz
      omega
    · conv => whnf
      repeat ((first | refine ⟨zG_of _, ?_⟩ | refine ⟨trivial, ?_⟩ | refine ⟨rfl, ?_⟩ | refine ⟨fun hc => absurd hc (by decide), fun _ => ?_⟩ | refine ⟨fun _ => ?_, fun hc => absurd (by decide) hc⟩ | refine ⟨fun _ => ?_, fun hc => absurd hc (by decide)⟩ | refine ⟨fun hc => absurd (by decide) hc, fun _ => ?_⟩); conv => whnf)
      try dsimp only
      rw [e, ltN (by omega) (by omega)]
      refine ⟨fun hq1 => ?_, fun hq1 => ?_⟩
      · conv => whnf
        repeat ((first | refine ⟨zG_of _, ?_⟩ | refine ⟨trivial, ?_⟩ | refine ⟨rfl, ?_⟩ | refine ⟨fun hc => absurd hc (by decide), fun _ => ?_⟩ | refine ⟨fun _ => ?_, fun hc => absurd (by decide) hc⟩ | refine ⟨fun _ => ?_, fun hc => absurd hc (by decide)⟩ | refine ⟨fun hc => absurd (by decide) hc, fun _ => ?_⟩); conv => whnf)
        try dsimp only
        rw [nI_add, ltN (by omega) (by omega)]
        refine ⟨fun hq2 => ?_, fun hq2 => ?_⟩
        · have ks := kt_spec (f := pfB q A 2 c) (k := k - flN q A 0 c - flN q A 1 c) (by omega)
          conv => whnf
          repeat ((first | refine ⟨zG_of _, ?_⟩ | refine ⟨trivial, ?_⟩ | refine ⟨rfl, ?_⟩ | refine ⟨fun hc => absurd hc (by decide), fun _ => ?_⟩ | refine ⟨fun _ => ?_, fun hc => absurd (by decide) hc⟩ | refine ⟨fun _ => ?_, fun hc => absurd hc (by decide)⟩ | refine ⟨fun hc => absurd (by decide) hc, fun _ => ?_⟩); conv => whnf)
          try dsimp only
          refine ⟨d, q, c, A, 2, kt (pfB q A 2 c) (k - flN q A 0 c - flN q A 1 c), hS, rfl, by decide, ks.1, ks.2.1, ?_, fun wi' hF hS' => ?_⟩
          · rw [ks.2.2, pk_sub (by omega), pk_sub (by omega)]
          · refine ⟨Or.inr rfl, h1 wi' hF ?_⟩
            unfold dfA
            rw [if_neg hq1, if_neg hq2]
            exact hS'
        · have ks := kt_spec (f := pfB q A 1 c) (k := k - flN q A 0 c) (by omega)
          conv => whnf
          repeat ((first | refine ⟨zG_of _, ?_⟩ | refine ⟨trivial, ?_⟩ | refine ⟨rfl, ?_⟩ | refine ⟨fun hc => absurd hc (by decide), fun _ => ?_⟩ | refine ⟨fun _ => ?_, fun hc => absurd (by decide) hc⟩ | refine ⟨fun _ => ?_, fun hc => absurd hc (by decide)⟩ | refine ⟨fun hc => absurd (by decide) hc, fun _ => ?_⟩); conv => whnf)
          try dsimp only
          refine ⟨d, q, c, A, 1, kt (pfB q A 1 c) (k - flN q A 0 c), hS, rfl, by decide, ks.1, ks.2.1, ?_, fun wi' hF hS' => ?_⟩
          · rw [ks.2.2, pk_sub (by omega)]
          · refine ⟨Or.inr rfl, h1 wi' hF ?_⟩
            unfold dfA
            rw [if_neg hq1, if_pos hq2]
            exact hS'
      · have ks := kt_spec (f := pfB q A 0 c) (k := k) (by omega)
        conv => whnf
        repeat ((first | refine ⟨zG_of _, ?_⟩ | refine ⟨trivial, ?_⟩ | refine ⟨rfl, ?_⟩ | refine ⟨fun hc => absurd hc (by decide), fun _ => ?_⟩ | refine ⟨fun _ => ?_, fun hc => absurd (by decide) hc⟩ | refine ⟨fun _ => ?_, fun hc => absurd hc (by decide)⟩ | refine ⟨fun hc => absurd (by decide) hc, fun _ => ?_⟩); conv => whnf)
        try dsimp only
        refine ⟨d, q, c, A, 0, kt (pfB q A 0 c) k, hS, rfl, by decide, ks.1, ks.2.1, ?_, fun wi' hF hS' => ?_⟩
        · rw [ks.2.2]
        · refine ⟨Or.inr rfl, h1 wi' hF ?_⟩
          unfold dfA
          rw [if_pos hq1]
          exact hS'
/-- two that become one -/
def jB (q : Nat) (A : Nat → Nat → Nat) (i j w : Nat) : Bool := lkB q A (nx w) i j && lkB q A (nx (nx w)) i j
def bothN (q : Nat) (A : Nat → Nat → Nat) (i j w : Nat) : Nat := if likeN q (A (3 * i + nx w)) (A (3 * j + nx w)) = likeN q (A (3 * i + nx (nx w))) (A (3 * j + nx (nx w))) then 1 else 2
def jnA (q : Nat) (A : Nat → Nat → Nat) (i j w : Nat) : Nat → Nat → Nat := rmA (upA A (3 * i + w) (fAdd q (A (3 * i + w)) (fMul q (bothN q A i j w) (A (3 * j + w))))) j
def sp_X4_joinTwo : zSp := fun av w K => match av with
  | [.ref o, .int i, .int j, .int t] => o = 6 ∧ zG w.1 ∧ ∃ d q c A i' j' t', CS w.2.1 6 d q c A ∧ i = nI i' ∧ i' < c ∧ j = nI j' ∧ j' < c ∧ t = nI t' ∧ t' < 3 ∧ (¬ jB q A i' j' t' = true → K (some (.int (nI 0))) w) ∧ (jB q A i' j' t' = true → ∀ wi' : Nat → Nat → Int32, Fr 6 8 w.2.1 wi' → CS wi' 6 d q (c - 1) (jnA q A i' j' t') → K (some (.int (nI 1))) (w.1, wi', w.2.2))
  | _ => False
def rm_X4_joinTwo : Room := { frames := 3, cells := 0, slots := 0, locals := 66 }
def M_X4_joinTwo : zM := (k_X4_joinTwo, f_X4, [(39, 2, 0, 1, 0, 0, sp_X11_behind), (43, 4, 5, 4, 0, 0, sp_X6_likeBy), (47, 4, 5, 3, 0, 0, sp_X6_formAt), (51, 0, 0, 2, 0, 0, sp_X2_times), (59, 0, 0, 3, 0, 0, sp_X2_sum), (62, 4, 5, 4, 0, 0, sp_X6_setForm), (24, 4, 5, 2, 0, 0, sp_X6_remove)], ([], [], []), [], [], 2, false, (false, 0, fun _ => 0), (0, 0, []))
theorem ca_X4_joinTwo_0 (l : Launch) : z_cok l RX4 (headSpec (.code yX4_joinTwo cX4_joinTwo 8 (some .boolean) :: zTT) rm_X4_joinTwo).room (false, 0, fun _ => 0) (39, 2, 0, 1, 0, 0, sp_X11_behind) := z_ca2 (host := "FewProducts") (c_X11_behind l) mb_X11_behind (by decide +kernel) wt_386 (by decide)
theorem ca_X4_joinTwo_1 (l : Launch) : z_cok l RX4 (headSpec (.code yX4_joinTwo cX4_joinTwo 8 (some .boolean) :: zTT) rm_X4_joinTwo).room (false, 0, fun _ => 0) (43, 4, 5, 4, 0, 0, sp_X6_likeBy) := z_ca4 (c_X6_likeBy l) mb_X6_likeBy ⟨_, rfl, rfl⟩ wt_563 wt_509 wt_510 (by decide)
theorem ca_X4_joinTwo_2 (l : Launch) : z_cok l RX4 (headSpec (.code yX4_joinTwo cX4_joinTwo 8 (some .boolean) :: zTT) rm_X4_joinTwo).room (false, 0, fun _ => 0) (47, 4, 5, 3, 0, 0, sp_X6_formAt) := z_ca4 (c_X6_formAt l) mb_X6_formAt ⟨_, rfl, rfl⟩ wt_564 wt_408 wt_409 (by decide)
theorem ca_X4_joinTwo_3 (l : Launch) : z_cok l RX4 (headSpec (.code yX4_joinTwo cX4_joinTwo 8 (some .boolean) :: zTT) rm_X4_joinTwo).room (false, 0, fun _ => 0) (51, 0, 0, 2, 0, 0, sp_X2_times) := z_ca0 (c_X2_times l) mb_X2_times wt_565 wt_516 (by decide)
theorem ca_X4_joinTwo_4 (l : Launch) : z_cok l RX4 (headSpec (.code yX4_joinTwo cX4_joinTwo 8 (some .boolean) :: zTT) rm_X4_joinTwo).room (false, 0, fun _ => 0) (59, 0, 0, 3, 0, 0, sp_X2_sum) := z_ca0 (c_X2_sum l) mb_X2_sum wt_566 wt_529 (by decide)
theorem ca_X4_joinTwo_5 (l : Launch) : z_cok l RX4 (headSpec (.code yX4_joinTwo cX4_joinTwo 8 (some .boolean) :: zTT) rm_X4_joinTwo).room (false, 0, fun _ => 0) (62, 4, 5, 4, 0, 0, sp_X6_setForm) := z_ca4 (c_X6_setForm l) mb_X6_setForm ⟨_, rfl, rfl⟩ wt_567 wt_289 wt_290 (by decide)
theorem ca_X4_joinTwo_6 (l : Launch) : z_cok l RX4 (headSpec (.code yX4_joinTwo cX4_joinTwo 8 (some .boolean) :: zTT) rm_X4_joinTwo).room (false, 0, fun _ => 0) (24, 4, 5, 2, 0, 0, sp_X6_remove) := z_ca4 (c_X6_remove l) mb_X6_remove ⟨_, rfl, rfl⟩ wt_555 wt_421 wt_422 (by decide)
theorem O_X4_joinTwo (l : Launch) : z_OK l RX4 cX4_joinTwo (headSpec (.code yX4_joinTwo cX4_joinTwo 8 (some .boolean) :: zTT) rm_X4_joinTwo).room M_X4_joinTwo := ⟨ok_X4_joinTwo, fo_X4, List.forall_mem_cons.mpr ⟨ca_X4_joinTwo_0 l, List.forall_mem_cons.mpr ⟨ca_X4_joinTwo_1 l, List.forall_mem_cons.mpr ⟨ca_X4_joinTwo_2 l, List.forall_mem_cons.mpr ⟨ca_X4_joinTwo_3 l, List.forall_mem_cons.mpr ⟨ca_X4_joinTwo_4 l, List.forall_mem_cons.mpr ⟨ca_X4_joinTwo_5 l, List.forall_mem_cons.mpr ⟨ca_X4_joinTwo_6 l, fun _ h => absurd h List.not_mem_nil⟩⟩⟩⟩⟩⟩⟩, fun _ h => absurd h List.not_mem_nil, fun _ h => absurd h List.not_mem_nil, fun _ h => absurd h List.not_mem_nil, fun _ h => absurd h List.not_mem_nil, rfl, rfl, fun _ h => absurd h List.not_mem_nil⟩
theorem c_X4_joinTwo (l : Launch) : z_CS l yX4_joinTwo cX4_joinTwo 8 (some .boolean) rm_X4_joinTwo sp_X4_joinTwo := by
  refine z_meth (by decide) (Or.inr (Or.inr (Or.inl ⟨rfl, rfl⟩))) (fun h => by cases h) rfl (O_X4_joinTwo l) ?_
  intro av w K h
  match av, h with
  | [.ref o, .int i, .int j, .int t], h =>
    obtain ⟨rfl, ⟨r, hG⟩, d, q, c, A, i', j', t', hS, rfl, hi, rfl, hj, rfl, ht, h0, h1⟩ := h
    obtain ⟨G, wi, wl⟩ := w
    subst hG
    try dsimp only at h0 h1 hS
    have h40 := cs_40 hS
    have q23 := cs_q23 hS
    have b1 := beh_nx ht
    have b2 := beh_nx (nx_lt t')
    have n1 := nx_lt t'
    have n2 := nx_lt (nx t')
    have f3 := likeN_lt_q q23 (A (3 * i' + nx t')) (A (3 * j' + nx t'))
    have g3 := likeN_lt_q q23 (A (3 * i' + nx (nx t'))) (A (3 * j' + nx (nx t')))
    have lk : flike (atF (wi 8) 120 (nI 3 * nI i' + nI (nx t'))) (atF (wi 8) 120 (nI 3 * nI j' + nI (nx t'))) (wi 6 4) = nI (likeN q (A (3 * i' + nx t')) (A (3 * j' + nx t'))) := lk_S hS hi hj (nx_lt _)
    have lk2 : flike (atF (wi 8) 120 (nI 3 * nI i' + nI (nx (nx t')))) (atF (wi 8) 120 (nI 3 * nI j' + nI (nx (nx t')))) (wi 6 4) = nI (likeN q (A (3 * i' + nx (nx t'))) (A (3 * j' + nx (nx t')))) := lk_S hS hi hj (nx_lt _)
    refine ⟨Nat.le_of_ble_eq_true rfl, fun Jm hs => ?_⟩
    refine hs 400 0 _ _ _ _ _ ?_
    conv => whnf
    repeat ((first | refine ⟨zG_of _, ?_⟩ | refine ⟨trivial, ?_⟩ | refine ⟨rfl, ?_⟩ | refine ⟨fun hc => absurd hc (by decide), fun _ => ?_⟩ | refine ⟨fun _ => ?_, fun hc => absurd (by decide) hc⟩ | refine ⟨fun _ => ?_, fun hc => absurd hc (by decide)⟩ | refine ⟨fun hc => absurd (by decide) hc, fun _ => ?_⟩); conv => whnf)
    try dsimp only
    rw [b1, lk, eq0N (by omega)]
    refine ⟨fun hf => ?_, fun hf => ?_⟩
    · conv => whnf
      repeat ((first | refine ⟨zG_of _, ?_⟩ | refine ⟨trivial, ?_⟩ | refine ⟨rfl, ?_⟩ | refine ⟨fun hc => absurd hc (by decide), fun _ => ?_⟩ | refine ⟨fun _ => ?_, fun hc => absurd (by decide) hc⟩ | refine ⟨fun _ => ?_, fun hc => absurd hc (by decide)⟩ | refine ⟨fun hc => absurd (by decide) hc, fun _ => ?_⟩); conv => whnf)
      try dsimp only
      rw [b2, lk2, eq0N (by omega)]
      refine ⟨fun hg => ?_, fun hg => ?_⟩
      · conv => whnf
        repeat ((first | refine ⟨zG_of _, ?_⟩ | refine ⟨trivial, ?_⟩ | refine ⟨rfl, ?_⟩ | refine ⟨fun hc => absurd hc (by decide), fun _ => ?_⟩ | refine ⟨fun _ => ?_, fun hc => absurd (by decide) hc⟩ | refine ⟨fun _ => ?_, fun hc => absurd hc (by decide)⟩ | refine ⟨fun hc => absurd (by decide) hc, fun _ => ?_⟩); conv => whnf)
        try dsimp only
        rw [nI_eq (by omega) (by omega)]
        have hjB : jB q A i' j' t' = true := by simp [jB, lkB, hf, hg]
        have h1 := h1 hjB
        refine ⟨fun he => ?_, fun he => ?_⟩
        · have eb : bothN q A i' j' t' = 2 := if_neg he
          conv => whnf
          repeat ((first | refine ⟨zG_of _, ?_⟩ | refine ⟨trivial, ?_⟩ | refine ⟨rfl, ?_⟩ | refine ⟨fun hc => absurd hc (by decide), fun _ => ?_⟩ | refine ⟨fun _ => ?_, fun hc => absurd (by decide) hc⟩ | refine ⟨fun _ => ?_, fun hc => absurd hc (by decide)⟩ | refine ⟨fun hc => absurd (by decide) hc, fun _ => ?_⟩); conv => whnf)
          try dsimp only
          have hv : fsum (fmF wi 6 (nI i') (nI t')) (ftimes (nI 2) (fmF wi 6 (nI j') (nI t'))) (wi 6 4) = pk (fAdd q (A (3 * i' + t')) (fMul q (bothN q A i' j' t') (A (3 * j' + t')))) := by
            rw [vMul hS (by omega) hj ht, fm_S hS hi ht, cs_q hS, eb]
            exact fsum_pk q23 (cs_A hS _ (by omega)) (fun p _ => mod_q hS _)
          refine ⟨Or.inl rfl, zG_of _, i', t', rfl, by omega, rfl, ht, fun wi1 e1 => ?_⟩
          have k1 := cs_set hS hi ht hv (fun p _ => mod_q hS _) e1
          conv => whnf
          repeat ((first | refine ⟨zG_of _, ?_⟩ | refine ⟨trivial, ?_⟩ | refine ⟨rfl, ?_⟩ | refine ⟨fun hc => absurd hc (by decide), fun _ => ?_⟩ | refine ⟨fun _ => ?_, fun hc => absurd (by decide) hc⟩ | refine ⟨fun _ => ?_, fun hc => absurd hc (by decide)⟩ | refine ⟨fun hc => absurd (by decide) hc, fun _ => ?_⟩); conv => whnf)
          try dsimp only
          refine ⟨d, q, c, _, j', k1.1, rfl, hj, fun wi2 hF2 hS2 => ?_⟩
          exact ⟨Or.inr rfl, h1 wi2 (Fr_trans k1.2 hF2) hS2⟩
        · have eb : bothN q A i' j' t' = 1 := if_pos he
          conv => whnf
          repeat ((first | refine ⟨zG_of _, ?_⟩ | refine ⟨trivial, ?_⟩ | refine ⟨rfl, ?_⟩ | refine ⟨fun hc => absurd hc (by decide), fun _ => ?_⟩ | refine ⟨fun _ => ?_, fun hc => absurd (by decide) hc⟩ | refine ⟨fun _ => ?_, fun hc => absurd hc (by decide)⟩ | refine ⟨fun hc => absurd (by decide) hc, fun _ => ?_⟩); conv => whnf)
          try dsimp only
          have hv : fsum (fmF wi 6 (nI i') (nI t')) (ftimes (nI 1) (fmF wi 6 (nI j') (nI t'))) (wi 6 4) = pk (fAdd q (A (3 * i' + t')) (fMul q (bothN q A i' j' t') (A (3 * j' + t')))) := by
            rw [vMul hS (by omega) hj ht, fm_S hS hi ht, cs_q hS, eb]
            exact fsum_pk q23 (cs_A hS _ (by omega)) (fun p _ => mod_q hS _)
          refine ⟨Or.inl rfl, zG_of _, i', t', rfl, by omega, rfl, ht, fun wi1 e1 => ?_⟩
          have k1 := cs_set hS hi ht hv (fun p _ => mod_q hS _) e1
          conv => whnf
          repeat ((first | refine ⟨zG_of _, ?_⟩ | refine ⟨trivial, ?_⟩ | refine ⟨rfl, ?_⟩ | refine ⟨fun hc => absurd hc (by decide), fun _ => ?_⟩ | refine ⟨fun _ => ?_, fun hc => absurd (by decide) hc⟩ | refine ⟨fun _ => ?_, fun hc => absurd hc (by decide)⟩ | refine ⟨fun hc => absurd (by decide) hc, fun _ => ?_⟩); conv => whnf)
          try dsimp only
          refine ⟨d, q, c, _, j', k1.1, rfl, hj, fun wi2 hF2 hS2 => ?_⟩
          exact ⟨Or.inr rfl, h1 wi2 (Fr_trans k1.2 hF2) hS2⟩
      · exact ⟨Or.inl rfl, h0 (by simp [jB, lkB, hg])⟩
    · conv => whnf
      repeat ((first | refine ⟨zG_of _, ?_⟩ | refine ⟨trivial, ?_⟩ | refine ⟨rfl, ?_⟩ | refine ⟨fun hc => absurd hc (by decide), fun _ => ?_⟩ | refine ⟨fun _ => ?_, fun hc => absurd (by decide) hc⟩ | refine ⟨fun _ => ?_, fun hc => absurd hc (by decide)⟩ | refine ⟨fun hc => absurd (by decide) hc, fun _ => ?_⟩); conv => whnf)
      try dsimp only
      exact ⟨Or.inl rfl, h0 (by simp [jB, lkB, hf])⟩

