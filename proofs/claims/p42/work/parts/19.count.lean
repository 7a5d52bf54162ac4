/-! groups, likeness of products, matches, what is right -/
theorem bs_0 {f : Nat → Bool} {n : Nat} : bs f n = 0 ↔ ∀ j, j < n → f j = false := by
  constructor
  · intro h j hj
    have h1 := bs_bit f n j
    rw [h] at h1
    simp [hj] at h1
    simpa using h1
  · intro h
    apply Nat.eq_of_testBit_eq
    intro j
    rw [bs_bit]
    by_cases q : j < n
    · simp [h j q]
    · simp [q]
theorem bs_mod {f : Nat → Bool} {n i : Nat} (h : i ≤ n) : bs f n % 2 ^ i = bs f i := by
  apply Nat.eq_of_testBit_eq
  intro j
  rw [Nat.testBit_mod_two_pow, bs_bit, bs_bit]
  by_cases q : j < i
  · simp [q, show j < n by omega]
  · simp [q]
theorem bs_lt63 (f : Nat → Bool) {n : Nat} (h : n ≤ 40) : bs f n < 2 ^ 40 := Nat.lt_of_lt_of_le (bs_lt f n) (Nat.pow_le_pow_right (by decide) h)
theorem zB_like {q : Nat} {a b : Nat → Nat} (h : zB a = true) : likeN q a b = 0 := by
  have h : ∀ p, p < 9 → a p = 0 := of_decide_eq_true h
  unfold likeN
  rw [if_pos (Or.inl h)]
theorem like_self {q : Nat} {a : Nat → Nat} (h : ¬ zB a = true) : likeN q a a = 1 := by
  have h : ¬ ∀ p : Nat, p < 9 → a p = 0 := fun k => h (decide_eq_true k)
  have h2 : ¬ ((∀ p : Nat, p < 9 → a p = 0) ∨ ∀ p : Nat, p < 9 → a p = 0) := fun k => k.elim h h
  have h3 : ∀ p : Nat, p < 9 → a p = a p := fun _ _ => rfl
  unfold likeN
  rw [if_neg h2, if_pos h3]
def ulB (q : Nat) (A : Nat → Nat → Nat) (t i : Nat) : Bool := !zB (A (3 * i + t)) && decide (∀ j : Nat, j < i → lkB q A t i j = false)
theorem grp_0 {q : Nat} {A : Nat → Nat → Nat} {t i c : Nat} (hi : i < c) : bs (lkB q A t i) c = 0 ↔ zB (A (3 * i + t)) = true := by
  rw [bs_0]
  constructor
  · intro h
    have h1 := h i hi
    by_cases k : zB (A (3 * i + t)) = true
    · exact k
    · unfold lkB at h1
      rw [like_self k] at h1
      exact absurd h1 (by decide)
  · intro h j _
    unfold lkB
    rw [zB_like h]
    rfl
def sp_X6_unlikeForms : zSp := fun av w K => match av with
  | [.ref o, .int t] => o = 6 ∧ zG w.1 ∧ ∃ d q c A t', CS w.2.1 6 d q c A ∧ t = nI t' ∧ t' < 3 ∧ K (some (.int (nI (fb_ct (ulB q A t') c)))) w
  | _ => False
def rm_X6_unlikeForms : Room := { frames := 4, cells := 0, slots := 0, locals := 91 }
def M_X6_unlikeForms : zM := (k_X6_unlikeForms, f_X6, [(140, 4, 5, 3, 0, 0, sp_X6_groupOf), (126, 2, 0, 1, 0, 0, sp_X11_bit)], ([], [], []), [], [(4, [true, true, true, true, false, false])], 1, false, (false, 0, fun _ => 0), (0, 0, []))
theorem ca_X6_unlikeForms_0 (l : Launch) : z_cok l RX6 (headSpec (.code yX6_unlikeForms cX6_unlikeForms 6 (some .int) :: zTT) rm_X6_unlikeForms).room (false, 0, fun _ => 0) (140, 4, 5, 3, 0, 0, sp_X6_groupOf) := z_ca4 (c_X6_groupOf l) mb_X6_groupOf ⟨_, rfl, rfl⟩ wt_876 wt_746 wt_747 (by decide)
theorem ca_X6_unlikeForms_1 (l : Launch) : z_cok l RX6 (headSpec (.code yX6_unlikeForms cX6_unlikeForms 6 (some .int) :: zTT) rm_X6_unlikeForms).room (false, 0, fun _ => 0) (126, 2, 0, 1, 0, 0, sp_X11_bit) := z_ca2 (host := "FewProducts") (c_X11_bit l) mb_X11_bit (by decide +kernel) wt_750 (by decide)
theorem O_X6_unlikeForms (l : Launch) : z_OK l RX6 cX6_unlikeForms (headSpec (.code yX6_unlikeForms cX6_unlikeForms 6 (some .int) :: zTT) rm_X6_unlikeForms).room M_X6_unlikeForms := ⟨ok_X6_unlikeForms, fo_X6, List.forall_mem_cons.mpr ⟨ca_X6_unlikeForms_0 l, List.forall_mem_cons.mpr ⟨ca_X6_unlikeForms_1 l, fun _ h => absurd h List.not_mem_nil⟩⟩, fun _ h => absurd h List.not_mem_nil, fun _ h => absurd h List.not_mem_nil, fun _ h => absurd h List.not_mem_nil, fun _ h => absurd h List.not_mem_nil, rfl, rfl, fun _ h => absurd h List.not_mem_nil⟩
theorem c_X6_unlikeForms (l : Launch) : z_CS l yX6_unlikeForms cX6_unlikeForms 6 (some .int) rm_X6_unlikeForms sp_X6_unlikeForms := by
  refine z_meth (by decide) (Or.inr (Or.inl ⟨rfl, rfl⟩)) (fun h => by cases h) rfl (O_X6_unlikeForms l) ?_
  intro av w K h
  match av, h with
  | [.ref o, .int t], h =>
    obtain ⟨rfl, ⟨r, hG⟩, d, q, c, A, t', hS, rfl, ht, h⟩ := h
    obtain ⟨G, wi, wl⟩ := w
    subst hG
    try dsimp only at h hS
    have h40 := cs_40 hS
    refine ⟨Nat.le_of_ble_eq_true rfl, fun Jm hs => ?_⟩
    have loop := up_ind (P := fun i => Jm 4 [some (.ref 6), some (.int (nI t')), some (.int (nI (fb_ct (ulB q A t') i))), some (.int (nI i)), none, none] [] (GC ++ r, wi, wl) 0 0) c (fun i hi ih => by
      refine hs 400 4 _ _ _ _ _ ?_
      conv => whnf
      repeat ((first | refine ⟨zG_of _, ?_⟩ | refine ⟨trivial, ?_⟩ | refine ⟨rfl, ?_⟩ | refine ⟨fun hc => absurd hc (by decide), fun _ => ?_⟩ | refine ⟨fun _ => ?_, fun hc => absurd (by decide) hc⟩ | refine ⟨fun _ => ?_, fun hc => absurd hc (by decide)⟩ | refine ⟨fun hc => absurd (by decide) hc, fun _ => ?_⟩); conv => whnf)
      try dsimp only
      rw [cs_c hS, ltN (by omega) (by omega)]
      refine ⟨fun hc => ?_, fun hc => ?_⟩
      · obtain rfl : i = c := by omega
        exact ⟨trivial, h⟩
      · have ih := ih hc
        have l40 := bs_lt63 (lkB q A t' i) h40
        conv => whnf
        repeat ((first | refine ⟨zG_of _, ?_⟩ | refine ⟨trivial, ?_⟩ | refine ⟨rfl, ?_⟩ | refine ⟨fun hc => absurd hc (by decide), fun _ => ?_⟩ | refine ⟨fun _ => ?_, fun hc => absurd (by decide) hc⟩ | refine ⟨fun _ => ?_, fun hc => absurd hc (by decide)⟩ | refine ⟨fun hc => absurd (by decide) hc, fun _ => ?_⟩); conv => whnf)
        try dsimp only
        refine ⟨d, q, c, A, i, t', hS, rfl, hc, rfl, ht, ?_⟩
        conv => whnf
        repeat ((first | refine ⟨zG_of _, ?_⟩ | refine ⟨trivial, ?_⟩ | refine ⟨rfl, ?_⟩ | refine ⟨fun hc => absurd hc (by decide), fun _ => ?_⟩ | refine ⟨fun _ => ?_, fun hc => absurd (by decide) hc⟩ | refine ⟨fun _ => ?_, fun hc => absurd hc (by decide)⟩ | refine ⟨fun hc => absurd (by decide) hc, fun _ => ?_⟩); conv => whnf)
        try dsimp only
        refine ⟨fun hz => ?_, fun hz => ?_⟩
        · have hz := (lg_cmp_eq _ _).mp hz
          rw [fb_lN_inj (by omega) (by decide), grp_0 hc] at hz
          rw [ct_f (by simp [ulB, hz])] at ih
          conv => whnf
          repeat ((first | refine ⟨zG_of _, ?_⟩ | refine ⟨trivial, ?_⟩ | refine ⟨rfl, ?_⟩ | refine ⟨fun hc => absurd hc (by decide), fun _ => ?_⟩ | refine ⟨fun _ => ?_, fun hc => absurd (by decide) hc⟩ | refine ⟨fun _ => ?_, fun hc => absurd hc (by decide)⟩ | refine ⟨fun hc => absurd (by decide) hc, fun _ => ?_⟩); conv => whnf)
          try dsimp only
          rw [nI_add]
          exact ih
        · have hz := fun k => hz ((lg_cmp_eq _ _).mpr k)
          rw [fb_lN_inj (by omega) (by decide), grp_0 hc] at hz
          have hz' : zB (A (3 * i + t')) = false := by simpa using hz
          conv => whnf
          repeat ((first | refine ⟨zG_of _, ?_⟩ | refine ⟨trivial, ?_⟩ | refine ⟨rfl, ?_⟩ | refine ⟨fun hc => absurd hc (by decide), fun _ => ?_⟩ | refine ⟨fun _ => ?_, fun hc => absurd (by decide) hc⟩ | refine ⟨fun _ => ?_, fun hc => absurd hc (by decide)⟩ | refine ⟨fun hc => absurd (by decide) hc, fun _ => ?_⟩); conv => whnf)
          try dsimp only
          have e : lN (bs (lkB q A t' i) c) &&& (bitF (nI i) - lN 1) = lN (bs (lkB q A t' i) i) := by
            rw [bit_N (by omega), lN_sub (Nat.two_pow_pos i), fb_maskL, bs_mod (by omega)]
          have l2 := bs_lt63 (lkB q A t' i) (show i ≤ 40 by omega)
          refine ⟨fun hz2 => ?_, fun hz2 => ?_⟩
          · have hz2 := fun k => hz2 ((lg_cmp_eq _ _).mpr (e.trans k))
            rw [fb_lN_inj (by omega) (by decide), bs_0] at hz2
            rw [ct_f (by simpa [ulB, hz'] using hz2)] at ih
            conv => whnf
            repeat ((first | refine ⟨zG_of _, ?_⟩ | refine ⟨trivial, ?_⟩ | refine ⟨rfl, ?_⟩ | refine ⟨fun hc => absurd hc (by decide), fun _ => ?_⟩ | refine ⟨fun _ => ?_, fun hc => absurd (by decide) hc⟩ | refine ⟨fun _ => ?_, fun hc => absurd hc (by decide)⟩ | refine ⟨fun hc => absurd (by decide) hc, fun _ => ?_⟩); conv => whnf)
            try dsimp only
            rw [nI_add]
            exact ih
          · have hz2 := e.symm.trans ((lg_cmp_eq _ _).mp hz2)
            rw [fb_lN_inj (by omega) (by decide), bs_0] at hz2
            rw [ct_t (by simpa [ulB, hz'] using hz2)] at ih
            conv => whnf
            repeat ((first | refine ⟨zG_of _, ?_⟩ | refine ⟨trivial, ?_⟩ | refine ⟨rfl, ?_⟩ | refine ⟨fun hc => absurd hc (by decide), fun _ => ?_⟩ | refine ⟨fun _ => ?_, fun hc => absurd (by decide) hc⟩ | refine ⟨fun _ => ?_, fun hc => absurd hc (by decide)⟩ | refine ⟨fun hc => absurd (by decide) hc, fun _ => ?_⟩); conv => whnf)
            try dsimp only
            rw [nI_add, nI_add]
            exact ih)
    exact hs 400 0 _ _ _ _ _ (loop 0 (Nat.zero_le _))
/-- by what a product is another one, form by form, multiplied -/
def lkP (q : Nat) (A : Nat → Nat → Nat) (i : Nat) (B : Nat → Nat → Nat) (k : Nat) : Nat → Nat
  | 0 => 1
  | t + 1 => lkP q A i B k t * likeN q (A (3 * i + t)) (B (3 * k + t))
def alB (q : Nat) (A : Nat → Nat → Nat) (i : Nat) (B : Nat → Nat → Nat) (k : Nat) : Bool := lkP q A i B k 3 % q == 1
theorem lkP_le (q : Nat) (A : Nat → Nat → Nat) (i : Nat) (B : Nat → Nat → Nat) (k : Nat) : ∀ t, lkP q A i B k t ≤ 2 ^ t
  | 0 => Nat.le_refl 1
  | t + 1 => by
    rw [lkP, Nat.pow_succ]
    have := likeN_lt q (A (3 * i + t)) (B (3 * k + t))
    exact Nat.mul_le_mul (lkP_le q A i B k t) (by omega)
def sp_X6_isLike : zSp := fun av w K => match av with
  | [.ref o, .int i, .ref o2, .int k] => o = 6 ∧ zG w.1 ∧ (o2 = 9 ∨ o2 = 12) ∧ ∃ d q c A d2 c2 B i' k', CS w.2.1 6 d q c A ∧ CS w.2.1 o2 d2 q c2 B ∧ i = nI i' ∧ i' < c ∧ k = nI k' ∧ k' < c2 ∧ K (some (.int (bI (alB q A i' B k' = true)))) w
  | _ => False
def rm_X6_isLike : Room := { frames := 2, cells := 0, slots := 0, locals := 43 }
def M_X6_isLike : zM := (k_X6_isLike, f_X6, [(59, 4, 5, 3, 0, 0, sp_X6_formAt), (123, 0, 0, 3, 0, 0, sp_X2_likeBy), (97, 0, 0, 2, 0, 0, sp_X2_mod)], ([], [], []), [], [(6, [true, true, true, true, true, true])], 2, false, (false, 0, fun _ => 0), (0, 0, []))
theorem ca_X6_isLike_0 (l : Launch) : z_cok l RX6 (headSpec (.code yX6_isLike cX6_isLike 6 (some .boolean) :: zTT) rm_X6_isLike).room (false, 0, fun _ => 0) (59, 4, 5, 3, 0, 0, sp_X6_formAt) := z_ca4 (c_X6_formAt l) mb_X6_formAt ⟨_, rfl, rfl⟩ wt_407 wt_408 wt_409 (by decide)
theorem ca_X6_isLike_1 (l : Launch) : z_cok l RX6 (headSpec (.code yX6_isLike cX6_isLike 6 (some .boolean) :: zTT) rm_X6_isLike).room (false, 0, fun _ => 0) (123, 0, 0, 3, 0, 0, sp_X2_likeBy) := z_ca0 (c_X2_likeBy l) mb_X2_likeBy wt_512 wt_513 (by decide)
theorem ca_X6_isLike_2 (l : Launch) : z_cok l RX6 (headSpec (.code yX6_isLike cX6_isLike 6 (some .boolean) :: zTT) rm_X6_isLike).room (false, 0, fun _ => 0) (97, 0, 0, 2, 0, 0, sp_X2_mod) := z_ca0 (c_X2_mod l) mb_X2_mod wt_443 wt_444 (by decide)
theorem O_X6_isLike (l : Launch) : z_OK l RX6 cX6_isLike (headSpec (.code yX6_isLike cX6_isLike 6 (some .boolean) :: zTT) rm_X6_isLike).room M_X6_isLike := ⟨ok_X6_isLike, fo_X6, List.forall_mem_cons.mpr ⟨ca_X6_isLike_0 l, List.forall_mem_cons.mpr ⟨ca_X6_isLike_1 l, List.forall_mem_cons.mpr ⟨ca_X6_isLike_2 l, fun _ h => absurd h List.not_mem_nil⟩⟩⟩, fun _ h => absurd h List.not_mem_nil, fun _ h => absurd h List.not_mem_nil, fun _ h => absurd h List.not_mem_nil, fun _ h => absurd h List.not_mem_nil, rfl, rfl, fun _ h => absurd h List.not_mem_nil⟩
theorem c_X6_isLike (l : Launch) : z_CS l yX6_isLike cX6_isLike 6 (some .boolean) rm_X6_isLike sp_X6_isLike := by
  refine z_meth (by decide) (Or.inr (Or.inr (Or.inl ⟨rfl, rfl⟩))) (fun h => by cases h) rfl (O_X6_isLike l) ?_
  intro av w K h
  match av, h with
  | [.ref o, .int i, .ref o2, .int k], h =>
    obtain ⟨rfl, ⟨r, hG⟩, ho, d, q, c, A, d2, c2, B, i', k', hS, hS2, rfl, hi', rfl, hk', h⟩ := h
    obtain ⟨G, wi, wl⟩ := w
    subst hG
    try dsimp only at h hS hS2
    have h40 := cs_40 hS
    have h41 := cs_40 hS2
    rcases ho with rfl | rfl
    · refine ⟨Nat.le_of_ble_eq_true rfl, fun Jm hs => ?_⟩
      have loop := up_ind (P := fun t => Jm 6 [some (.ref 6), some (.int (nI i')), some (.ref 9), some (.int (nI k')), some (.int (nI (lkP q A i' B k' t))), some (.int (nI t))] [] (GC ++ r, wi, wl) 0 0) 3 (fun t hi ih => by
        refine hs 400 6 _ _ _ _ _ ?_
        conv => whnf
        repeat ((first | refine ⟨zG_of _, ?_⟩ | refine ⟨trivial, ?_⟩ | refine ⟨rfl, ?_⟩ | refine ⟨fun hc => absurd hc (by decide), fun _ => ?_⟩ | refine ⟨fun _ => ?_, fun hc => absurd (by decide) hc⟩ | refine ⟨fun _ => ?_, fun hc => absurd hc (by decide)⟩ | refine ⟨fun hc => absurd (by decide) hc, fun _ => ?_⟩); conv => whnf)
        try dsimp only
        rw [ltN (by omega) (by omega)]
        refine ⟨fun hc => ?_, fun hc => ?_⟩
        · obtain rfl : t = 3 := by omega
          have hl := lkP_le q A i' B k' 3
          have e : fmod (nI (lkP q A i' B k' 3)) (wi 6 4) = nI (lkP q A i' B k' 3 % q) := by
            rw [cs_q hS, fmod_N (cs_q23 hS) (by omega)]
          have hm := Nat.mod_le (lkP q A i' B k' 3) q
          conv => whnf
          repeat ((first | refine ⟨zG_of _, ?_⟩ | refine ⟨trivial, ?_⟩ | refine ⟨rfl, ?_⟩ | refine ⟨fun hc => absurd hc (by decide), fun _ => ?_⟩ | refine ⟨fun _ => ?_, fun hc => absurd (by decide) hc⟩ | refine ⟨fun _ => ?_, fun hc => absurd hc (by decide)⟩ | refine ⟨fun hc => absurd (by decide) hc, fun _ => ?_⟩); conv => whnf)
          try dsimp only
          rw [e, nI_eq (by omega) (by decide)]
          refine ⟨fun hz => ?_, fun hz => ?_⟩
          · rw [bI_f (by simpa [alB] using hz)] at h
            exact ⟨Or.inl rfl, h⟩
          · rw [bI_t (by simpa [alB] using hz)] at h
            exact ⟨Or.inr rfl, h⟩
        · have ih := ih hc
          have e : nI (lkP q A i' B k' (t + 1)) = nI (lkP q A i' B k' t) * flike (fmF wi 6 (nI i') (nI t)) (fmF wi 9 (nI k') (nI t)) (wi 6 4) := by
            rw [fm_S hS hi' hc, fm_S hS2 hk' hc, cs_q hS, flike_pk (cs_q23 hS) (cs_A hS _ (by omega)) (cs_A hS2 _ (by omega)), pk_mul]
            rfl
          rw [e] at ih
          conv => whnf
          repeat ((first | refine ⟨zG_of _, ?_⟩ | refine ⟨trivial, ?_⟩ | refine ⟨rfl, ?_⟩ | refine ⟨fun hc => absurd hc (by decide), fun _ => ?_⟩ | refine ⟨fun _ => ?_, fun hc => absurd (by decide) hc⟩ | refine ⟨fun _ => ?_, fun hc => absurd hc (by decide)⟩ | refine ⟨fun hc => absurd (by decide) hc, fun _ => ?_⟩); conv => whnf)
          try dsimp only
          rw [nI_add]
          exact ih)
      exact hs 400 0 _ _ _ _ _ (loop 0 (Nat.zero_le _))
    · refine ⟨Nat.le_of_ble_eq_true rfl, fun Jm hs => ?_⟩
      have loop := up_ind (P := fun t => Jm 6 [some (.ref 6), some (.int (nI i')), some (.ref 12), some (.int (nI k')), some (.int (nI (lkP q A i' B k' t))), some (.int (nI t))] [] (GC ++ r, wi, wl) 0 0) 3 (fun t hi ih => by
        refine hs 400 6 _ _ _ _ _ ?_
        conv => whnf
        repeat ((first | refine ⟨zG_of _, ?_⟩ | refine ⟨trivial, ?_⟩ | refine ⟨rfl, ?_⟩ | refine ⟨fun hc => absurd hc (by decide), fun _ => ?_⟩ | refine ⟨fun _ => ?_, fun hc => absurd (by decide) hc⟩ | refine ⟨fun _ => ?_, fun hc => absurd hc (by decide)⟩ | refine ⟨fun hc => absurd (by decide) hc, fun _ => ?_⟩); conv => whnf)
        try dsimp only
        rw [ltN (by omega) (by omega)]
        refine ⟨fun hc => ?_, fun hc => ?_⟩
        · obtain rfl : t = 3 := by omega
          have hl := lkP_le q A i' B k' 3
          have e : fmod (nI (lkP q A i' B k' 3)) (wi 6 4) = nI (lkP q A i' B k' 3 % q) := by
            rw [cs_q hS, fmod_N (cs_q23 hS) (by omega)]
          have hm := Nat.mod_le (lkP q A i' B k' 3) q
          conv => whnf
          repeat ((first | refine ⟨zG_of _, ?_⟩ | refine ⟨trivial, ?_⟩ | refine ⟨rfl, ?_⟩ | refine ⟨fun hc => absurd hc (by decide), fun _ => ?_⟩ | refine ⟨fun _ => ?_, fun hc => absurd (by decide) hc⟩ | refine ⟨fun _ => ?_, fun hc => absurd hc (by decide)⟩ | refine ⟨fun hc => absurd (by decide) hc, fun _ => ?_⟩); conv => whnf)
          try dsimp only
          rw [e, nI_eq (by omega) (by decide)]
          refine ⟨fun hz => ?_, fun hz => ?_⟩
          · rw [bI_f (by simpa [alB] using hz)] at h
            exact ⟨Or.inl rfl, h⟩
          · rw [bI_t (by simpa [alB] using hz)] at h
            exact ⟨Or.inr rfl, h⟩
        · have ih := ih hc
          have e : nI (lkP q A i' B k' (t + 1)) = nI (lkP q A i' B k' t) * flike (fmF wi 6 (nI i') (nI t)) (fmF wi 12 (nI k') (nI t)) (wi 6 4) := by
            rw [fm_S hS hi' hc, fm_S hS2 hk' hc, cs_q hS, flike_pk (cs_q23 hS) (cs_A hS _ (by omega)) (cs_A hS2 _ (by omega)), pk_mul]
            rfl
          rw [e] at ih
          conv => whnf
          repeat ((first | refine ⟨zG_of _, ?_⟩ | refine ⟨trivial, ?_⟩ | refine ⟨rfl, ?_⟩ | refine ⟨fun hc => absurd hc (by decide), fun _ => ?_⟩ | refine ⟨fun _ => ?_, fun hc => absurd (by decide) hc⟩ | refine ⟨fun _ => ?_, fun hc => absurd hc (by decide)⟩ | refine ⟨fun hc => absurd (by decide) hc, fun _ => ?_⟩); conv => whnf)
          try dsimp only
          rw [nI_add]
          exact ih)
      exact hs 400 0 _ _ _ _ _ (loop 0 (Nat.zero_le _))
def otB (A B : Nat → Nat → Nat) (k : Nat) : Bool := !eqB (A k) (B k)
def sp_X6_othersThan : zSp := fun av w K => match av with
  | [.ref o, .ref o2] => o = 6 ∧ zG w.1 ∧ o2 = 12 ∧ ∃ d q c A d2 B, CS w.2.1 6 d q c A ∧ CS w.2.1 12 d2 q c B ∧ K (some (.int (nI (fb_ct (otB A B) (3 * c))))) w
  | _ => False
def rm_X6_othersThan : Room := { frames := 1, cells := 0, slots := 0, locals := 21 }
def M_X6_othersThan : zM := (k_X6_othersThan, f_X6, [(67, 4, 2, 2, 0, 0, sp_X3_at)], ([], [], []), [], [(4, [true, true, true, true])], 1, false, (false, 0, fun _ => 0), (0, 0, []))
theorem ca_X6_othersThan_0 (l : Launch) : z_cok l RX6 (headSpec (.code yX6_othersThan cX6_othersThan 4 (some .int) :: zTT) rm_X6_othersThan).room (false, 0, fun _ => 0) (67, 4, 2, 2, 0, 0, sp_X3_at) := z_ca4 (c_X3_at l) mb_X3_at ⟨_, rfl, rfl⟩ wt_411 wt_366 wt_367 (by decide)
theorem O_X6_othersThan (l : Launch) : z_OK l RX6 cX6_othersThan (headSpec (.code yX6_othersThan cX6_othersThan 4 (some .int) :: zTT) rm_X6_othersThan).room M_X6_othersThan := ⟨ok_X6_othersThan, fo_X6, List.forall_mem_cons.mpr ⟨ca_X6_othersThan_0 l, fun _ h => absurd h List.not_mem_nil⟩, fun _ h => absurd h List.not_mem_nil, fun _ h => absurd h List.not_mem_nil, fun _ h => absurd h List.not_mem_nil, fun _ h => absurd h List.not_mem_nil, rfl, rfl, fun _ h => absurd h List.not_mem_nil⟩
theorem c_X6_othersThan (l : Launch) : z_CS l yX6_othersThan cX6_othersThan 4 (some .int) rm_X6_othersThan sp_X6_othersThan := by
  refine z_meth (by decide) (Or.inr (Or.inl ⟨rfl, rfl⟩)) (fun h => by cases h) rfl (O_X6_othersThan l) ?_
  intro av w K h
  match av, h with
  | [.ref o, .ref o2], h =>
    obtain ⟨rfl, ⟨r, hG⟩, rfl, d, q, c, A, d2, B, hS, hS2, h⟩ := h
    obtain ⟨G, wi, wl⟩ := w
    subst hG
    try dsimp only at h hS hS2
    have h40 := cs_40 hS
    refine ⟨Nat.le_of_ble_eq_true rfl, fun Jm hs => ?_⟩
    have loop := up_ind (P := fun k => Jm 4 [some (.ref 6), some (.ref 12), some (.int (nI (fb_ct (otB A B) k))), some (.int (nI k))] [] (GC ++ r, wi, wl) 0 0) (3 * c) (fun k hk ih => by
      refine hs 400 4 _ _ _ _ _ ?_
      conv => whnf
      repeat ((first | refine ⟨zG_of _, ?_⟩ | refine ⟨trivial, ?_⟩ | refine ⟨rfl, ?_⟩ | refine ⟨fun hc => absurd hc (by decide), fun _ => ?_⟩ | refine ⟨fun _ => ?_, fun hc => absurd (by decide) hc⟩ | refine ⟨fun _ => ?_, fun hc => absurd hc (by decide)⟩ | refine ⟨fun hc => absurd (by decide) hc, fun _ => ?_⟩); conv => whnf)
      try dsimp only
      rw [cs_c hS, pk_mul, ltN (by omega) (by omega)]
      refine ⟨fun hc => ?_, fun hc => ?_⟩
      · obtain rfl : k = 3 * c := by omega
        exact ⟨trivial, h⟩
      · have ih := ih hc
        have e : atF (wi 8) 120 (nI k) = atF (wi 14) 120 (nI k) ↔ eqB (A k) (B k) = true := by
          rw [show atF (wi 8) 120 (nI k) = pk (A k) from at_S hS hc, show atF (wi 14) 120 (nI k) = pk (B k) from at_S hS2 hc]
          exact eqB_pk (cs_A3 hS k hc) (cs_A3 hS2 k hc)
        conv => whnf
        repeat ((first | refine ⟨zG_of _, ?_⟩ | refine ⟨trivial, ?_⟩ | refine ⟨rfl, ?_⟩ | refine ⟨fun hc => absurd hc (by decide), fun _ => ?_⟩ | refine ⟨fun _ => ?_, fun hc => absurd (by decide) hc⟩ | refine ⟨fun _ => ?_, fun hc => absurd hc (by decide)⟩ | refine ⟨fun hc => absurd (by decide) hc, fun _ => ?_⟩); conv => whnf)
        try dsimp only
        rw [e]
        refine ⟨fun hz => ?_, fun hz => ?_⟩
        · rw [ct_f (by simp [otB, hz])] at ih
          conv => whnf
          repeat ((first | refine ⟨zG_of _, ?_⟩ | refine ⟨trivial, ?_⟩ | refine ⟨rfl, ?_⟩ | refine ⟨fun hc => absurd hc (by decide), fun _ => ?_⟩ | refine ⟨fun _ => ?_, fun hc => absurd (by decide) hc⟩ | refine ⟨fun _ => ?_, fun hc => absurd hc (by decide)⟩ | refine ⟨fun hc => absurd (by decide) hc, fun _ => ?_⟩); conv => whnf)
          try dsimp only
          rw [nI_add]
          exact ih
        · rw [ct_t (by simp [otB, hz])] at ih
          conv => whnf
          repeat ((first | refine ⟨zG_of _, ?_⟩ | refine ⟨trivial, ?_⟩ | refine ⟨rfl, ?_⟩ | refine ⟨fun hc => absurd hc (by decide), fun _ => ?_⟩ | refine ⟨fun _ => ?_, fun hc => absurd (by decide) hc⟩ | refine ⟨fun _ => ?_, fun hc => absurd hc (by decide)⟩ | refine ⟨fun hc => absurd (by decide) hc, fun _ => ?_⟩); conv => whnf)
          try dsimp only
          rw [nI_add, nI_add]
          exact ih)
    exact hs 400 0 _ _ _ _ _ (loop 0 (Nat.zero_le _))
def sgB (A : Nat → Nat → Nat) (i : Nat) : Bool := nzc (A (3 * i)) == 1 && nzc (A (3 * i + 1)) == 1 && nzc (A (3 * i + 2)) == 1
theorem nzc_le (a : Nat → Nat) : nzc a ≤ 9 := fb_ct_le _ 9
def sp_X6_singles : zSp := fun av w K => match av with
  | [.ref o] => o = 6 ∧ zG w.1 ∧ ∃ d q c A, CS w.2.1 6 d q c A ∧ K (some (.int (nI (fb_ct (sgB A) c)))) w
  | _ => False
def rm_X6_singles : Room := { frames := 2, cells := 0, slots := 0, locals := 43 }
def M_X6_singles : zM := (k_X6_singles, f_X6, [(59, 4, 5, 3, 0, 0, sp_X6_formAt), (115, 0, 0, 1, 0, 0, sp_J6_bitCount_0f7a4)], ([], [], []), [], [(4, [true, true, true])], 1, false, (false, 0, fun _ => 0), (0, 0, []))
theorem ca_X6_singles_0 (l : Launch) : z_cok l RX6 (headSpec (.code yX6_singles cX6_singles 3 (some .int) :: zTT) rm_X6_singles).room (false, 0, fun _ => 0) (59, 4, 5, 3, 0, 0, sp_X6_formAt) := z_ca4 (c_X6_formAt l) mb_X6_formAt ⟨_, rfl, rfl⟩ wt_407 wt_408 wt_409 (by decide)
theorem ca_X6_singles_1 (l : Launch) : z_cok l RX6 (headSpec (.code yX6_singles cX6_singles 3 (some .int) :: zTT) rm_X6_singles).room (false, 0, fun _ => 0) (115, 0, 0, 1, 0, 0, sp_J6_bitCount_0f7a4) := z_ca0 (c_J6_bitCount_0f7a4 l) mb_J6_bitCount_0f7a4 wt_866 wt_867 (by decide)
theorem O_X6_singles (l : Launch) : z_OK l RX6 cX6_singles (headSpec (.code yX6_singles cX6_singles 3 (some .int) :: zTT) rm_X6_singles).room M_X6_singles := ⟨ok_X6_singles, fo_X6, List.forall_mem_cons.mpr ⟨ca_X6_singles_0 l, List.forall_mem_cons.mpr ⟨ca_X6_singles_1 l, fun _ h => absurd h List.not_mem_nil⟩⟩, fun _ h => absurd h List.not_mem_nil, fun _ h => absurd h List.not_mem_nil, fun _ h => absurd h List.not_mem_nil, fun _ h => absurd h List.not_mem_nil, rfl, rfl, fun _ h => absurd h List.not_mem_nil⟩
theorem c_X6_singles (l : Launch) : z_CS l yX6_singles cX6_singles 3 (some .int) rm_X6_singles sp_X6_singles := by
  refine z_meth (by decide) (Or.inr (Or.inl ⟨rfl, rfl⟩)) (fun h => by cases h) rfl (O_X6_singles l) ?_
  intro av w K h
  match av, h with
  | [.ref o], h =>
    obtain ⟨rfl, ⟨r, hG⟩, d, q, c, A, hS, h⟩ := h
    obtain ⟨G, wi, wl⟩ := w
    subst hG
    try dsimp only at h hS
    have h40 := cs_40 hS
    refine ⟨Nat.le_of_ble_eq_true rfl, fun Jm hs => ?_⟩
    have loop := up_ind (P := fun i => Jm 4 [some (.ref 6), some (.int (nI (fb_ct (sgB A) i))), some (.int (nI i))] [] (GC ++ r, wi, wl) 0 0) c (fun i hi ih => by
      refine hs 400 4 _ _ _ _ _ ?_
      conv => whnf
      repeat ((first | refine ⟨zG_of _, ?_⟩ | refine ⟨trivial, ?_⟩ | refine ⟨rfl, ?_⟩ | refine ⟨fun hc => absurd hc (by decide), fun _ => ?_⟩ | refine ⟨fun _ => ?_, fun hc => absurd (by decide) hc⟩ | refine ⟨fun _ => ?_, fun hc => absurd hc (by decide)⟩ | refine ⟨fun hc => absurd (by decide) hc, fun _ => ?_⟩); conv => whnf)
      try dsimp only
      rw [cs_c hS, ltN (by omega) (by omega)]
      refine ⟨fun hc => ?_, fun hc => ?_⟩
      · obtain rfl : i = c := by omega
        exact ⟨trivial, h⟩
      · have ih := ih hc
        have e : ∀ t, t < 3 → (bcF (fmF wi 6 (nI i) (nI t)) = nI 1 ↔ nzc (A (3 * i + t)) = 1) := fun t ht => by
          have := nzc_le (A (3 * i + t))
          rw [fm_S hS hc ht, bc_pk (cs_A3 hS _ (by omega)), nI_eq (by omega) (by decide)]
        conv => whnf
        repeat ((first | refine ⟨zG_of _, ?_⟩ | refine ⟨trivial, ?_⟩ | refine ⟨rfl, ?_⟩ | refine ⟨fun hc => absurd hc (by decide), fun _ => ?_⟩ | refine ⟨fun _ => ?_, fun hc => absurd (by decide) hc⟩ | refine ⟨fun _ => ?_, fun hc => absurd hc (by decide)⟩ | refine ⟨fun hc => absurd (by decide) hc, fun _ => ?_⟩); conv => whnf)
        try dsimp only
        refine ⟨fun hz => ?_, fun hz => ?_⟩
        · have hz := fun k => hz ((e 0 (by decide)).mpr k)
          rw [ct_f (by simp [sgB]; intro k; exact absurd k hz)] at ih
          conv => whnf
          repeat ((first | refine ⟨zG_of _, ?_⟩ | refine ⟨trivial, ?_⟩ | refine ⟨rfl, ?_⟩ | refine ⟨fun hc => absurd hc (by decide), fun _ => ?_⟩ | refine ⟨fun _ => ?_, fun hc => absurd (by decide) hc⟩ | refine ⟨fun _ => ?_, fun hc => absurd hc (by decide)⟩ | refine ⟨fun hc => absurd (by decide) hc, fun _ => ?_⟩); conv => whnf)
          try dsimp only
          rw [nI_add]
          exact ih
        · have hz := (e 0 (by decide)).mp hz
          conv => whnf
          repeat ((first | refine ⟨zG_of _, ?_⟩ | refine ⟨trivial, ?_⟩ | refine ⟨rfl, ?_⟩ | refine ⟨fun hc => absurd hc (by decide), fun _ => ?_⟩ | refine ⟨fun _ => ?_, fun hc => absurd (by decide) hc⟩ | refine ⟨fun _ => ?_, fun hc => absurd hc (by decide)⟩ | refine ⟨fun hc => absurd (by decide) hc, fun _ => ?_⟩); conv => whnf)
          try dsimp only
          refine ⟨fun hz1 => ?_, fun hz1 => ?_⟩
          · have hz1 := fun k => hz1 ((e 1 (by decide)).mpr k)
            rw [ct_f (by simp [sgB]; intro _ k; exact absurd k hz1)] at ih
            conv => whnf
            repeat ((first | refine ⟨zG_of _, ?_⟩ | refine ⟨trivial, ?_⟩ | refine ⟨rfl, ?_⟩ | refine ⟨fun hc => absurd hc (by decide), fun _ => ?_⟩ | refine ⟨fun _ => ?_, fun hc => absurd (by decide) hc⟩ | refine ⟨fun _ => ?_, fun hc => absurd hc (by decide)⟩ | refine ⟨fun hc => absurd (by decide) hc, fun _ => ?_⟩); conv => whnf)
            try dsimp only
            rw [nI_add]
            exact ih
          · have hz1 := (e 1 (by decide)).mp hz1
            conv => whnf
            repeat ((first | refine ⟨zG_of _, ?_⟩ | refine ⟨trivial, ?_⟩ | refine ⟨rfl, ?_⟩ | refine ⟨fun hc => absurd hc (by decide), fun _ => ?_⟩ | refine ⟨fun _ => ?_, fun hc => absurd (by decide) hc⟩ | refine ⟨fun _ => ?_, fun hc => absurd hc (by decide)⟩ | refine ⟨fun hc => absurd (by decide) hc, fun _ => ?_⟩); conv => whnf)
            try dsimp only
            refine ⟨fun hz2 => ?_, fun hz2 => ?_⟩
            · have hz2 := fun k => hz2 ((e 2 (by decide)).mpr k)
              rw [ct_f (by simp [sgB]; intro _ _ k; exact absurd k hz2)] at ih
              conv => whnf
              repeat ((first | refine ⟨zG_of _, ?_⟩ | refine ⟨trivial, ?_⟩ | refine ⟨rfl, ?_⟩ | refine ⟨fun hc => absurd hc (by decide), fun _ => ?_⟩ | refine ⟨fun _ => ?_, fun hc => absurd (by decide) hc⟩ | refine ⟨fun _ => ?_, fun hc => absurd hc (by decide)⟩ | refine ⟨fun hc => absurd (by decide) hc, fun _ => ?_⟩); conv => whnf)
              try dsimp only
              rw [nI_add]
              exact ih
            · have hz2 := (e 2 (by decide)).mp hz2
              rw [ct_t (by simp [sgB]; exact ⟨⟨hz, hz1⟩, hz2⟩)] at ih
              conv => whnf
              repeat ((first | refine ⟨zG_of _, ?_⟩ | refine ⟨trivial, ?_⟩ | refine ⟨rfl, ?_⟩ | refine ⟨fun hc => absurd hc (by decide), fun _ => ?_⟩ | refine ⟨fun _ => ?_, fun hc => absurd (by decide) hc⟩ | refine ⟨fun _ => ?_, fun hc => absurd hc (by decide)⟩ | refine ⟨fun hc => absurd (by decide) hc, fun _ => ?_⟩); conv => whnf)
              try dsimp only
              rw [nI_add, nI_add]
              exact ih)
    exact hs 400 0 _ _ _ _ _ (loop 0 (Nat.zero_le _))
def nzS (A : Nat → Nat → Nat) (k : Nat) : Nat := nzc (A k)
def sp_X6_notZero : zSp := fun av w K => match av with
  | [.ref o] => o = 6 ∧ zG w.1 ∧ ∃ d q c A, CS w.2.1 6 d q c A ∧ K (some (.int (nI (fb_sm (nzS A) (3 * c))))) w
  | _ => False
def rm_X6_notZero : Room := { frames := 1, cells := 0, slots := 0, locals := 21 }
def M_X6_notZero : zM := (k_X6_notZero, f_X6, [(67, 4, 2, 2, 0, 0, sp_X3_at), (115, 0, 0, 1, 0, 0, sp_J6_bitCount_0f7a4)], ([], [], []), [], [(4, [true, true, true])], 1, false, (false, 0, fun _ => 0), (0, 0, []))
theorem ca_X6_notZero_0 (l : Launch) : z_cok l RX6 (headSpec (.code yX6_notZero cX6_notZero 3 (some .int) :: zTT) rm_X6_notZero).room (false, 0, fun _ => 0) (67, 4, 2, 2, 0, 0, sp_X3_at) := z_ca4 (c_X3_at l) mb_X3_at ⟨_, rfl, rfl⟩ wt_411 wt_366 wt_367 (by decide)
theorem ca_X6_notZero_1 (l : Launch) : z_cok l RX6 (headSpec (.code yX6_notZero cX6_notZero 3 (some .int) :: zTT) rm_X6_notZero).room (false, 0, fun _ => 0) (115, 0, 0, 1, 0, 0, sp_J6_bitCount_0f7a4) := z_ca0 (c_J6_bitCount_0f7a4 l) mb_J6_bitCount_0f7a4 wt_866 wt_867 (by decide)
theorem O_X6_notZero (l : Launch) : z_OK l RX6 cX6_notZero (headSpec (.code yX6_notZero cX6_notZero 3 (some .int) :: zTT) rm_X6_notZero).room M_X6_notZero := ⟨ok_X6_notZero, fo_X6, List.forall_mem_cons.mpr ⟨ca_X6_notZero_0 l, List.forall_mem_cons.mpr ⟨ca_X6_notZero_1 l, fun _ h => absurd h List.not_mem_nil⟩⟩, fun _ h => absurd h List.not_mem_nil, fun _ h => absurd h List.not_mem_nil, fun _ h => absurd h List.not_mem_nil, fun _ h => absurd h List.not_mem_nil, rfl, rfl, fun _ h => absurd h List.not_mem_nil⟩
theorem c_X6_notZero (l : Launch) : z_CS l yX6_notZero cX6_notZero 3 (some .int) rm_X6_notZero sp_X6_notZero := by
  refine z_meth (by decide) (Or.inr (Or.inl ⟨rfl, rfl⟩)) (fun h => by cases h) rfl (O_X6_notZero l) ?_
  intro av w K h
  match av, h with
  | [.ref o], h =>
    obtain ⟨rfl, ⟨r, hG⟩, d, q, c, A, hS, h⟩ := h
    obtain ⟨G, wi, wl⟩ := w
    subst hG
    try dsimp only at h hS
    have h40 := cs_40 hS
    refine ⟨Nat.le_of_ble_eq_true rfl, fun Jm hs => ?_⟩
    have loop := up_ind (P := fun k => Jm 4 [some (.ref 6), some (.int (nI (fb_sm (nzS A) k))), some (.int (nI k))] [] (GC ++ r, wi, wl) 0 0) (3 * c) (fun k hk ih => by
      refine hs 400 4 _ _ _ _ _ ?_
      conv => whnf
      repeat ((first | refine ⟨zG_of _, ?_⟩ | refine ⟨trivial, ?_⟩ | refine ⟨rfl, ?_⟩ | refine ⟨fun hc => absurd hc (by decide), fun _ => ?_⟩ | refine ⟨fun _ => ?_, fun hc => absurd (by decide) hc⟩ | refine ⟨fun _ => ?_, fun hc => absurd hc (by decide)⟩ | refine ⟨fun hc => absurd (by decide) hc, fun _ => ?_⟩); conv => whnf)
      try dsimp only
      rw [cs_c hS, pk_mul, ltN (by omega) (by omega)]
      refine ⟨fun hc => ?_, fun hc => ?_⟩
      · obtain rfl : k = 3 * c := by omega
        exact ⟨trivial, h⟩
      · have ih := ih hc
        have e : nI (fb_sm (nzS A) (k + 1)) = nI (fb_sm (nzS A) k) + bcF (atF (wi 8) 120 (nI k)) := by
          rw [show atF (wi 8) 120 (nI k) = pk (A k) from at_S hS hc, bc_pk (cs_A3 hS k hc), nI_add]
          rfl
        rw [e] at ih
        conv => whnf
        repeat ((first | refine ⟨zG_of _, ?_⟩ | refine ⟨trivial, ?_⟩ | refine ⟨rfl, ?_⟩ | refine ⟨fun hc => absurd hc (by decide), fun _ => ?_⟩ | refine ⟨fun _ => ?_, fun hc => absurd (by decide) hc⟩ | refine ⟨fun _ => ?_, fun hc => absurd hc (by decide)⟩ | refine ⟨fun hc => absurd (by decide) hc, fun _ => ?_⟩); conv => whnf)
        try dsimp only
        rw [nI_add]
        exact ih)
    exact hs 400 0 _ _ _ _ _ (loop 0 (Nat.zero_le _))
def usB (A : Nat → Nat → Nat) (t : Nat) : Nat → Nat → Bool
  | 0, _ => false
  | i + 1, p => usB A t i p || A (3 * i + t) p != 0
def sp_X6_unused : zSp := fun av w K => match av with
  | [.ref o, .int t] => o = 6 ∧ zG w.1 ∧ ∃ d q c A t', CS w.2.1 6 d q c A ∧ t = nI t' ∧ t' < 3 ∧ K (some (.int (nI (pl d t') - nI (fb_ct (usB A t' c) 9)))) w
  | _ => False
