/-! the reference: groups of products that share a form -/
theorem like_n0 {q : Nat} {a b : Nat → Nat} : likeN q a b ≠ 0 ↔ ¬ (∀ p : Nat, p < 9 → a p = 0) ∧ ¬ (∀ p : Nat, p < 9 → b p = 0) ∧ ((∀ p : Nat, p < 9 → b p = a p) ∨ (q = 3 ∧ ∀ p : Nat, p < 9 → b p = 2 * a p % 3)) := by
  unfold likeN
  by_cases h0 : (∀ p : Nat, p < 9 → a p = 0) ∨ (∀ p : Nat, p < 9 → b p = 0)
  · rw [if_pos h0]
    exact ⟨fun z => absurd rfl z, fun z => absurd h0 (fun o => o.elim z.1 z.2.1)⟩
  · rw [if_neg h0]
    have z1 := fun z => h0 (Or.inl z)
    have z2 := fun z => h0 (Or.inr z)
    by_cases h1 : ∀ p : Nat, p < 9 → b p = a p
    · rw [if_pos h1]
      exact ⟨fun _ => ⟨z1, z2, Or.inl h1⟩, fun _ => by decide⟩
    · rw [if_neg h1]
      by_cases h2 : q = 3 ∧ ∀ p : Nat, p < 9 → b p = 2 * a p % 3
      · rw [if_pos h2]
        exact ⟨fun _ => ⟨z1, z2, Or.inr h2⟩, fun _ => by decide⟩
      · rw [if_neg h2]
        exact ⟨fun z => absurd rfl z, fun z => absurd z.2.2 (fun o => o.elim h1 h2)⟩
theorem like_rf {q : Nat} {a b : Nat → Nat} (h : likeN q a b ≠ 0) : likeN q a a ≠ 0 := like_n0.mpr ⟨(like_n0.mp h).1, (like_n0.mp h).1, Or.inl (fun _ _ => rfl)⟩
theorem like_tr {q : Nat} {a b e : Nat → Nat} (ha : ∀ p, p < 9 → a p < q) (h1 : likeN q a b ≠ 0) (h2 : likeN q b e ≠ 0) : likeN q a e ≠ 0 := by
  have k1 := like_n0.mp h1
  have k2 := like_n0.mp h2
  refine like_n0.mpr ⟨k1.1, k2.2.1, ?_⟩
  rcases k1.2.2 with g1 | ⟨rfl, g1⟩
  · rcases k2.2.2 with g2 | ⟨g0, g2⟩
    · exact Or.inl (fun p hp => (g2 p hp).trans (g1 p hp))
    · exact Or.inr ⟨g0, fun p hp => by rw [g2 p hp, g1 p hp]⟩
  · rcases k2.2.2 with g2 | ⟨g0, g2⟩
    · exact Or.inr ⟨rfl, fun p hp => (g2 p hp).trans (g1 p hp)⟩
    · refine Or.inl (fun p hp => ?_)
      have := ha p hp
      rw [g2 p hp, g1 p hp]
      omega
theorem lkB_n {q : Nat} {A : Nat → Nat → Nat} {t i k : Nat} : lkB q A t i k = true ↔ likeN q (A (3 * i + t)) (A (3 * k + t)) ≠ 0 := by
  unfold lkB
  simp
/-- what has a group that was seen ahead of i -/
def cnB (q : Nat) (A : Nat → Nat → Nat) (t c i : Nat) : Bool := decide (bs (lkB q A t i) i = 0 ∧ 2 ≤ fb_ct (lkB q A t i) c)
def snB (q : Nat) (A : Nat → Nat → Nat) (t c : Nat) : Nat → Nat → Bool
  | 0, _ => false
  | i + 1, j => snB q A t c i j || (cnB q A t c i && lkB q A t i j)
theorem ct_two {f : Nat → Bool} {n i j : Nat} (hi : i < n) (hj : j < n) (h : i ≠ j) (h1 : f i = true) (h2 : f j = true) : 2 ≤ fb_ct f n := by
  rcases Nat.lt_or_ge i j with g | g
  · have a := ct_t (f := f) (n := j) h2
    have b := fb_ct_mono f (show j + 1 ≤ n from hj)
    have c := fb_ct_pos.mpr ⟨i, g, h1⟩
    omega
  · have a := ct_t (f := f) (n := i) h1
    have b := fb_ct_mono f (show i + 1 ≤ n from hi)
    have c := fb_ct_pos.mpr ⟨j, show j < i by omega, h2⟩
    omega
theorem sn_of {q : Nat} {A : Nat → Nat → Nat} {t c j : Nat} : ∀ i, snB q A t c i j = true → ∃ k, k < i ∧ lkB q A t k j = true
  | 0, h => by cases h
  | i + 1, h => by
    have h : (snB q A t c i j || (cnB q A t c i && lkB q A t i j)) = true := h
    rw [Bool.or_eq_true, Bool.and_eq_true] at h
    rcases h with h | h
    · obtain ⟨k, h1, h2⟩ := sn_of i h
      exact ⟨k, by omega, h2⟩
    · exact ⟨i, by omega, h.2⟩
theorem sn_up {q : Nat} {A : Nat → Nat → Nat} {t c j k : Nat} (hc : cnB q A t c k = true) (hk : lkB q A t k j = true) : ∀ i, k < i → snB q A t c i j = true
  | 0, h => absurd h (Nat.not_lt_zero k)
  | i + 1, h => by
    show (snB q A t c i j || (cnB q A t c i && lkB q A t i j)) = true
    rw [Bool.or_eq_true, Bool.and_eq_true]
    rcases Nat.lt_or_ge k i with g | g
    · exact Or.inl (sn_up hc hk i g)
    · rw [show i = k by omega]
      exact Or.inr ⟨hc, hk⟩
theorem sn_iff {q : Nat} (hq : q = 2 ∨ q = 3) {A : Nat → Nat → Nat} {t c i j : Nat} (ht : t < 3) (hA : ∀ k, k < 3 * c → ∀ p, p < 9 → A k p < q) (hij : i ≤ j) (hj : j < c) : snB q A t c i j = true ↔ ∃ k, k < i ∧ lkB q A t k j = true := by
  refine ⟨sn_of i, fun h => ?_⟩
  obtain ⟨k, k1, k2, k3⟩ := fb_first h
  have kA : ∀ x, x < c → ∀ p, p < 9 → A (3 * x + t) p < q := fun x hx => hA _ (by omega)
  have kj := lkB_n.mp k2
  have c2 : bs (lkB q A t k) k = 0 := bs_0.mpr (fun m hm => by
    have n1 := k3 m hm
    cases e : lkB q A t k m with
    | false => rfl
    | true =>
      have e2 := lkB_n.mp e
      rw [like_sym hq (kA k (by omega)) (kA m (by omega))] at e2
      exact absurd (lkB_n.mpr (like_tr (kA m (by omega)) e2 kj)) n1)
  exact sn_up (k := k) (decide_eq_true ⟨c2, ct_two (i := k) (j := j) (by omega) hj (by omega) (lkB_n.mpr (like_rf kj)) k2⟩) k2 i k1
theorem sn_skip {q : Nat} (hq : q = 2 ∨ q = 3) {A : Nat → Nat → Nat} {t c i : Nat} (ht : t < 3) (hA : ∀ k, k < 3 * c → ∀ p, p < 9 → A k p < q) (hi : i < c) : snB q A t c i i = true ↔ ¬ bs (lkB q A t i) i = 0 := by
  rw [sn_iff hq ht hA (Nat.le_refl i) hi, bs_0]
  constructor
  · rintro ⟨k, h1, h2⟩ h
    have e2 := lkB_n.mp h2
    rw [like_sym hq (hA _ (by omega)) (hA _ (by omega))] at e2
    have := lkB_n.mpr e2
    rw [h k h1] at this
    cases this
  · intro h
    refine Classical.byContradiction (fun n => h (fun j hj => ?_))
    cases e : lkB q A t i j with
    | false => rfl
    | true =>
      have e2 := lkB_n.mp e
      rw [like_sym hq (hA _ (by omega)) (hA _ (by omega))] at e2
      exact absurd ⟨j, hj, lkB_n.mpr e2⟩ n
def sp_X12_groupOf : zSp := fun av w K => match av with
  | [.ref o, .int i, .int t] => o = 45 ∧ zH w.1 ∧ ∃ d q c A i' t', MS w.2.1 d q c A ∧ i = nI i' ∧ i' < c ∧ t = nI t' ∧ t' < 3 ∧ K (some (.long (lN (bs (lkB q A t' i') c)))) w
  | _ => False
def rm_X12_groupOf : Room := { frames := 3, cells := 0, slots := 0, locals := 72 }
def M_X12_groupOf : zM := (k_X12_groupOf, f_X12, [(217, 4, 10, 4, 0, 0, sp_X12_likeAt)], ([], [], []), [], [(5, [true, true, true, true, false, true])], 3, false, (false, 0, fun _ => 0), (0, 0))
theorem ca_X12_groupOf_0 (l : Launch) : z_cok l RX12 (headSpec (.code yX12_groupOf cX12_groupOf 6 (some .long) :: zTT) rm_X12_groupOf).room (217, 4, 10, 4, 0, 0, sp_X12_likeAt) := z_ca4 (c_X12_likeAt l) mb_X12_likeAt ⟨_, rfl, rfl⟩ wt_1404 wt_1406 wt_53 (by decide)
theorem O_X12_groupOf (l : Launch) : z_OK l RX12 cX12_groupOf (headSpec (.code yX12_groupOf cX12_groupOf 6 (some .long) :: zTT) rm_X12_groupOf).room M_X12_groupOf := ⟨ok_X12_groupOf, fo_X12, List.forall_mem_cons.mpr ⟨ca_X12_groupOf_0 l, fun _ h => absurd h List.not_mem_nil⟩, fun _ h => absurd h List.not_mem_nil, fun _ h => absurd h List.not_mem_nil, fun _ h => absurd h List.not_mem_nil, fun _ h => absurd h List.not_mem_nil, rfl, rfl⟩
theorem c_X12_groupOf (l : Launch) : z_CS l yX12_groupOf cX12_groupOf 6 (some .long) rm_X12_groupOf sp_X12_groupOf := by
  refine z_meth (by decide) (Or.inr (Or.inr (Or.inr ⟨rfl, rfl⟩))) (fun h => by cases h) rfl (O_X12_groupOf l) ?_
  intro av w K h
  match av, h with
  | [.ref o, .int i, .int t], h =>
    obtain ⟨rfl, ⟨r, hG⟩, d, q, c, A, i', t', hS, rfl, hi, rfl, ht, h⟩ := h
    obtain ⟨G, wi, wl⟩ := w
    subst hG
    try dsimp only at h hS
    have h40 := ms_40 hS
    refine ⟨Nat.le_of_ble_eq_true rfl, fun Jm hs => ?_⟩
    have loop := up_ind (P := fun j => Jm 5 [some (.ref 45), some (.int (nI i')), some (.int (nI t')), some (.long (lN (bs (lkB q A t' i') j))), none, some (.int (nI j))] [] (GC ++ (GM ++ r), wi, wl) 0 0) c (fun j hj ih => by
      refine hs 400 5 _ _ _ _ _ ?_
      conv => whnf
      repeat ((first | refine ⟨zH_of _, ?_⟩ | refine ⟨trivial, ?_⟩ | refine ⟨rfl, ?_⟩ | refine ⟨fun hc => absurd hc (by decide), fun _ => ?_⟩ | refine ⟨fun _ => ?_, fun hc => absurd (by decide) hc⟩ | refine ⟨fun _ => ?_, fun hc => absurd hc (by decide)⟩ | refine ⟨fun hc => absurd (by decide) hc, fun _ => ?_⟩); conv => whnf)
      try dsimp only
      rw [ms_c hS, ltN (by omega) (by omega)]
      refine ⟨fun hc => ?_, fun hc => ?_⟩
      · obtain rfl : j = c := by omega
        conv => whnf
        repeat ((first | refine ⟨zH_of _, ?_⟩ | refine ⟨trivial, ?_⟩ | refine ⟨rfl, ?_⟩ | refine ⟨fun hc => absurd hc (by decide), fun _ => ?_⟩ | refine ⟨fun _ => ?_, fun hc => absurd (by decide) hc⟩ | refine ⟨fun _ => ?_, fun hc => absurd hc (by decide)⟩ | refine ⟨fun hc => absurd (by decide) hc, fun _ => ?_⟩); conv => whnf)
        try dsimp only
        exact h
      · have ih := ih hc
        have l3 := likeN_lt q (A (3 * i' + t')) (A (3 * j + t'))
        conv => whnf
        repeat ((first | refine ⟨zH_of _, ?_⟩ | refine ⟨trivial, ?_⟩ | refine ⟨rfl, ?_⟩ | refine ⟨fun hc => absurd hc (by decide), fun _ => ?_⟩ | refine ⟨fun _ => ?_, fun hc => absurd (by decide) hc⟩ | refine ⟨fun _ => ?_, fun hc => absurd hc (by decide)⟩ | refine ⟨fun hc => absurd (by decide) hc, fun _ => ?_⟩); conv => whnf)
        try dsimp only
        refine ⟨d, q, c, A, i', j, t', hS, rfl, hi, rfl, hc, rfl, ht, ?_⟩
        conv => whnf
        repeat ((first | refine ⟨zH_of _, ?_⟩ | refine ⟨trivial, ?_⟩ | refine ⟨rfl, ?_⟩ | refine ⟨fun hc => absurd hc (by decide), fun _ => ?_⟩ | refine ⟨fun _ => ?_, fun hc => absurd (by decide) hc⟩ | refine ⟨fun _ => ?_, fun hc => absurd hc (by decide)⟩ | refine ⟨fun hc => absurd (by decide) hc, fun _ => ?_⟩); conv => whnf)
        try dsimp only
        rw [eq0N (by omega)]
        refine ⟨fun hz => ?_, fun hz => ?_⟩
        · have e : bs (lkB q A t' i') (j + 1) = bs (lkB q A t' i') j := bs_f (fun z => lkB_n.mp z hz)
          rw [e] at ih
          conv => whnf
          repeat ((first | refine ⟨zH_of _, ?_⟩ | refine ⟨trivial, ?_⟩ | refine ⟨rfl, ?_⟩ | refine ⟨fun hc => absurd hc (by decide), fun _ => ?_⟩ | refine ⟨fun _ => ?_, fun hc => absurd (by decide) hc⟩ | refine ⟨fun _ => ?_, fun hc => absurd hc (by decide)⟩ | refine ⟨fun hc => absurd (by decide) hc, fun _ => ?_⟩); conv => whnf)
          try dsimp only
          rw [fb_orL, Nat.or_zero, nI_add]
          exact ih
        · have e : bs (lkB q A t' i') (j + 1) = bs (lkB q A t' i') j ||| 2 ^ j := bs_t (lkB_n.mpr hz)
          rw [e, ← fb_orL, ← bit_N (by omega)] at ih
          conv => whnf
          repeat ((first | refine ⟨zH_of _, ?_⟩ | refine ⟨trivial, ?_⟩ | refine ⟨rfl, ?_⟩ | refine ⟨fun hc => absurd hc (by decide), fun _ => ?_⟩ | refine ⟨fun _ => ?_, fun hc => absurd (by decide) hc⟩ | refine ⟨fun _ => ?_, fun hc => absurd hc (by decide)⟩ | refine ⟨fun hc => absurd (by decide) hc, fun _ => ?_⟩); conv => whnf)
          try dsimp only
          rw [nI_add]
          exact ih)
    exact hs 400 0 _ _ _ _ _ (loop 0 (Nat.zero_le _))
theorem low_off {f : Nat → Bool} {n m : Nat} (hm : m < n) (h0 : f m = true) : bs (fun j => decide (m ≤ j) && f j) n &&& (bs (fun j => decide (m ≤ j) && f j) n - 1) = bs (fun j => decide (m + 1 ≤ j) && f j) n := by
  obtain ⟨g, hg⟩ : ∃ g : Nat → Bool, g = fun j => decide (m ≤ j) && f j := ⟨_, rfl⟩
  rw [← hg]
  have gm : g m = true := by rw [hg]; simp [h0]
  have gl : ∀ j, j < m → g j = false := fun j hj => by rw [hg]; simp; omega
  have b1 : bs g (m + 1) = 2 ^ m := by
    rw [bs_t gm, bs_0.mpr gl, Nat.zero_or]
  have b2 := bs_mod (f := g) (show m + 1 ≤ n from hm)
  rw [b1] at b2
  have b3 := Nat.div_add_mod (bs g n) (2 ^ (m + 1))
  rw [b2] at b3
  generalize hu : bs g n / 2 ^ (m + 1) = u at b3
  have p1 := Nat.two_pow_pos m
  have p2 : 2 ^ (m + 1) = 2 * 2 ^ m := by rw [Nat.pow_succ, Nat.mul_comm]
  have b4 : bs g n - 1 = 2 ^ (m + 1) * u + (2 ^ m - 1) := by omega
  refine Nat.eq_of_testBit_eq (fun i => ?_)
  rw [bs_bit, Nat.testBit_and, b4]
  rw [← b3]
  rw [Nat.testBit_two_pow_mul_add u (by omega), Nat.testBit_two_pow_mul_add u (by omega)]
  have bi := bs_bit g n i
  rw [← b3, Nat.testBit_two_pow_mul_add u (by omega)] at bi
  by_cases e : i < m + 1
  · have x1 : ((2 ^ m).testBit i && (2 ^ m - 1).testBit i) = false := by
      rw [Nat.testBit_two_pow, Nat.testBit_two_pow_sub_one]
      by_cases z : m = i
      · rw [decide_eq_false (show ¬ i < m by omega), Bool.and_false]
      · rw [decide_eq_false z, Bool.false_and]
    rw [if_pos e, if_pos e, x1, decide_eq_false (show ¬ m + 1 ≤ i by omega), Bool.false_and, Bool.and_false]
  · rw [if_neg e] at bi ⊢
    rw [if_neg e, bi, Bool.and_self, hg]
    dsimp only
    rw [decide_eq_true (show m ≤ i by omega), decide_eq_true (show m + 1 ≤ i by omega)]
theorem pf_shr {a d : Nat} {D : Int64} (hD : (D.toBitVec.smod 64).toNat = d) (h : a < 2 ^ 62) : lN a >>> D = lN (a / 2 ^ d) := by
  have hd : a / 2 ^ d ≤ a := Nat.div_le_self _ _
  apply Int64.toInt_inj.mp
  have e : (lN a >>> D).toInt = (lN a).toInt >>> d := by
    rw [← hD]
    exact BitVec.toInt_sshiftRight ..
  rw [e, Int.shiftRight_eq_div_pow, show (lN a).toInt = (a : Int) from lg_ofNat_toInt (by omega), show (lN (a / 2 ^ d)).toInt = ((a / 2 ^ d : Nat) : Int) from lg_ofNat_toInt (by omega)]
  rfl
def sp_X12_ones : zSp := fun av w K => match av with
  | [.long x] => ∃ f n, x = lN (bs f n) ∧ n ≤ 40 ∧ K (some (.int (nI (fb_ct f n)))) w
  | _ => False
def rm_X12_ones : Room := { frames := 0, cells := 0, slots := 0, locals := 0 }
def M_X12_ones : zM := (k_X12_ones, f_X12, [], ([], [], []), [], [(4, [false, false, true, true, false])], 1, false, (false, 0, fun _ => 0), (0, 0))
theorem O_X12_ones (l : Launch) : z_OK l RX12 cX12_ones (headSpec (.code yX12_ones cX12_ones 5 (some .int) :: zTT) rm_X12_ones).room M_X12_ones := ⟨ok_X12_ones, fo_X12, fun _ h => absurd h List.not_mem_nil, fun _ h => absurd h List.not_mem_nil, fun _ h => absurd h List.not_mem_nil, fun _ h => absurd h List.not_mem_nil, fun _ h => absurd h List.not_mem_nil, rfl, rfl⟩
theorem c_X12_ones (l : Launch) : z_CS l yX12_ones cX12_ones 5 (some .int) rm_X12_ones sp_X12_ones := by
  refine z_meth (by decide) (Or.inr (Or.inl ⟨rfl, rfl⟩)) (fun h => by cases h) rfl (O_X12_ones l) ?_
  intro av w K h
  match av, h with
  | [.long x], h =>
    obtain ⟨f, n, rfl, hn, h⟩ := h
    refine ⟨Nat.le_of_ble_eq_true rfl, fun Jm hs => ?_⟩
    have l40 := fun g => bs_lt63 g hn
    have loop := up_ind (P := fun m => Jm 4 [none, none, some (.int (nI (fb_ct f m))), some (.long (lN (bs (fun j => decide (m ≤ j) && f j) n))), none] [] w 0 0) n (fun m hm ih => by
      have lb := l40 (fun j => decide (m ≤ j) && f j)
      have en : lg_cmp (lN (bs (fun j => decide (m ≤ j) && f j) n)) (lN 0) = nI 0 ↔ bs (fun j => decide (m ≤ j) && f j) n = 0 := by
        rw [show (nI 0 : Int32) = 0 from rfl, lg_cmp_eq, fb_lN_inj (by omega) (by decide)]
      by_cases e : m < n
      · have ih := ih e
        cases f0 : f m with
        | false =>
          have e1 : bs (fun j => decide (m + 1 ≤ j) && f j) n = bs (fun j => decide (m ≤ j) && f j) n := bs_congr (fun j _ => by
            by_cases g : j = m
            · rw [g, f0, Bool.and_false, Bool.and_false]
            · congr 1
              exact decide_eq_decide.mpr (by omega))
          rw [ct_f (by rw [f0]; decide), e1] at ih
          exact ih
        | true =>
          have l1 := low_off e f0
          have nz : ¬ bs (fun j => decide (m ≤ j) && f j) n = 0 := fun z => by
            have := bs_0.mp z m e
            simp [f0] at this
          rw [ct_t f0, ← l1] at ih
          refine hs 400 4 _ _ _ _ _ ?_
          conv => whnf
          repeat ((first | refine ⟨zH_of _, ?_⟩ | refine ⟨trivial, ?_⟩ | refine ⟨rfl, ?_⟩ | refine ⟨fun hc => absurd hc (by decide), fun _ => ?_⟩ | refine ⟨fun _ => ?_, fun hc => absurd (by decide) hc⟩ | refine ⟨fun _ => ?_, fun hc => absurd hc (by decide)⟩ | refine ⟨fun hc => absurd (by decide) hc, fun _ => ?_⟩); conv => whnf)
          try dsimp only
          rw [en]
          refine ⟨fun z => absurd z nz, fun _ => ?_⟩
          conv => whnf
          repeat ((first | refine ⟨zH_of _, ?_⟩ | refine ⟨trivial, ?_⟩ | refine ⟨rfl, ?_⟩ | refine ⟨fun hc => absurd hc (by decide), fun _ => ?_⟩ | refine ⟨fun _ => ?_, fun hc => absurd (by decide) hc⟩ | refine ⟨fun _ => ?_, fun hc => absurd hc (by decide)⟩ | refine ⟨fun hc => absurd (by decide) hc, fun _ => ?_⟩); conv => whnf)
          try dsimp only
          rw [lN_sub (by omega), fb_andL, nI_add]
          exact ih
      · obtain hmn : m = n := by omega
        have z : bs (fun j => decide (m ≤ j) && f j) n = 0 := bs_0.mpr (fun j hj => by simp; omega)
        refine hs 400 4 _ _ _ _ _ ?_
        conv => whnf
        repeat ((first | refine ⟨zH_of _, ?_⟩ | refine ⟨trivial, ?_⟩ | refine ⟨rfl, ?_⟩ | refine ⟨fun hc => absurd hc (by decide), fun _ => ?_⟩ | refine ⟨fun _ => ?_, fun hc => absurd (by decide) hc⟩ | refine ⟨fun _ => ?_, fun hc => absurd hc (by decide)⟩ | refine ⟨fun hc => absurd (by decide) hc, fun _ => ?_⟩); conv => whnf)
        try dsimp only
        rw [en]
        refine ⟨fun _ => ?_, fun y => absurd z y⟩
        rw [hmn]
        exact ⟨trivial, h⟩)
    have l0 := loop 0 (Nat.zero_le _)
    rw [show bs (fun j => decide (0 ≤ j) && f j) n = bs f n from bs_congr (fun j _ => by simp)] at l0
    exact hs 400 0 _ _ _ _ _ l0
theorem z_lsarN {n k : Nat} (h : n < 2 ^ 62) (hk : k < 64) : z_lsar (lN n) (nI k) = lN (n / 2 ^ k) := by
  refine pf_shr ?_ h
  rw [wb_c k hk]
  show ((BitVec.ofNat 64 k).smod 64).toNat = k
  rw [wb_sm k hk, BitVec.toNat_ofNat, Nat.mod_eq_of_lt (by omega)]
def sp_X12_groups : zSp := fun av w K => match av with
  | [.ref o, .int t] => o = 45 ∧ zH w.1 ∧ ∃ T, MT w.2.1 w.2.2 T ∧ ZT T ∧ ∀ wi' wl', FrM w.2.1 w.2.2 wi' wl' → MT wi' wl' (st_groups T t).1 → K (some (.int (st_groups T t).2)) (w.1, wi', wl')
  | _ => False
def rm_X12_groups : Room := { frames := 4, cells := 0, slots := 0, locals := 97 }
def M_X12_groups : zM := (k_X12_groups, f_X12, [(170, 0, 0, 1, 0, 0, sp_X12_isTable), (325, 4, 10, 3, 0, 0, sp_X12_groupOf), (329, 0, 0, 1, 0, 0, sp_X12_ones), (192, 4, 10, 2, 0, 0, sp_X12_tell)], ([], [], []), [], [(24, [true, true, true, true, true, true, true, true, false, false]), (95, [true, true, true, true, true, true, true, true, false, false])], 1, false, (false, 0, fun _ => 0), (0, 0))
theorem ca_X12_groups_0 (l : Launch) : z_cok l RX12 (headSpec (.code yX12_groups cX12_groups 10 (some .int) :: zTT) rm_X12_groups).room (170, 0, 0, 1, 0, 0, sp_X12_isTable) := z_ca0 (c_X12_isTable l) mb_X12_isTable wt_1338 wt_1339 (by decide)
theorem ca_X12_groups_1 (l : Launch) : z_cok l RX12 (headSpec (.code yX12_groups cX12_groups 10 (some .int) :: zTT) rm_X12_groups).room (325, 4, 10, 3, 0, 0, sp_X12_groupOf) := z_ca4 (c_X12_groupOf l) mb_X12_groupOf ⟨_, rfl, rfl⟩ wt_1601 wt_1603 wt_81 (by decide)
theorem ca_X12_groups_2 (l : Launch) : z_cok l RX12 (headSpec (.code yX12_groups cX12_groups 10 (some .int) :: zTT) rm_X12_groups).room (329, 0, 0, 1, 0, 0, sp_X12_ones) := z_ca0 (c_X12_ones l) mb_X12_ones wt_1605 wt_1606 (by decide)
theorem ca_X12_groups_3 (l : Launch) : z_cok l RX12 (headSpec (.code yX12_groups cX12_groups 10 (some .int) :: zTT) rm_X12_groups).room (192, 4, 10, 2, 0, 0, sp_X12_tell) := z_ca4 (c_X12_tell l) mb_X12_tell ⟨_, rfl, rfl⟩ wt_1369 wt_1371 wt_49 (by decide)
theorem O_X12_groups (l : Launch) : z_OK l RX12 cX12_groups (headSpec (.code yX12_groups cX12_groups 10 (some .int) :: zTT) rm_X12_groups).room M_X12_groups := ⟨ok_X12_groups, fo_X12, List.forall_mem_cons.mpr ⟨ca_X12_groups_0 l, List.forall_mem_cons.mpr ⟨ca_X12_groups_1 l, List.forall_mem_cons.mpr ⟨ca_X12_groups_2 l, List.forall_mem_cons.mpr ⟨ca_X12_groups_3 l, fun _ h => absurd h List.not_mem_nil⟩⟩⟩⟩, fun _ h => absurd h List.not_mem_nil, fun _ h => absurd h List.not_mem_nil, fun _ h => absurd h List.not_mem_nil, fun _ h => absurd h List.not_mem_nil, rfl, rfl⟩
theorem c_X12_groups (l : Launch) : z_CS l yX12_groups cX12_groups 10 (some .int) rm_X12_groups sp_X12_groups := by
  refine z_meth (by decide) (Or.inr (Or.inl ⟨rfl, rfl⟩)) (fun h => by cases h) rfl (O_X12_groups l) ?_
  intro av w K h
  match av, h with
  | [.ref o, .int t], h =>
    obtain ⟨rfl, ⟨r, hG⟩, ⟨d, q, c, A, kp, tx, tl⟩, hC, hZ, h⟩ := h
    obtain ⟨G, wi, wl⟩ := w
    subst hG
    try dsimp only at h hC hZ
    have hC := mt_fld (i := 11) (v := nI 0) hC (by decide)
    have hF0 : FrM wi wl (z_up wi 45 11 (nI 0)) wl := fm_fld
    refine ⟨Nat.le_of_ble_eq_true rfl, fun Jm hs => ?_⟩
    unfold st_groups wTl at h
    dsimp only at h
    refine hs 400 0 _ _ _ _ _ ?_
    conv => whnf
    repeat ((first | refine ⟨zH_of _, ?_⟩ | refine ⟨trivial, ?_⟩ | refine ⟨rfl, ?_⟩ | refine ⟨fun hc => absurd hc (by decide), fun _ => ?_⟩ | refine ⟨fun _ => ?_, fun hc => absurd (by decide) hc⟩ | refine ⟨fun _ => ?_, fun hc => absurd hc (by decide)⟩ | refine ⟨fun hc => absurd (by decide) hc, fun _ => ?_⟩); conv => whnf)
    try dsimp only
    generalize z_up wi 45 11 (nI 0) = wi0 at *
    have hS := mt_S hC
    have h40 := ms_40 hS
    have q23 := ms_q23 hS
    rw [bI_0, Classical.not_not]
    refine ⟨fun h1 => ?_, fun h1 => ?_⟩
    case refine_2 =>
      rw [if_neg h1] at h
      exact ⟨trivial, h wi0 wl hF0 hC⟩
    rw [if_pos h1] at h
    obtain ⟨t', ht, rfl⟩ := idB_N h1 (by omega)
    rw [nc_N (by omega)] at h
    have gc := gs_ct q A t' c
    have sk := fun i hi => sn_skip (i := i) q23 ht (ms_A hS) hi
    have sne : ∀ i j, snB q A t' c (i + 1) j = (snB q A t' c i j || (cnB q A t' c i && lkB q A t' i j)) := fun _ _ => rfl
    have sn0 : ∀ j, snB q A t' c 0 j = false := fun _ => rfl
    generalize snB q A t' c = sn at sk sne sn0
    generalize hg : gsS q A t' c = g at h gc
    have loop := up_ind (P := fun i => Jm 24 [some (.ref 45), some (.int (nI t')), some (.int (nI (g i).1)), some (.long (lN (bs (g i).2.1 c))), none, some (.long (lN (bs (sn i) c))), none, some (.int (nI i)), none, none] [] (GC ++ (GM ++ r), wi0, wl) 0 0) c (fun i hi ih => by
      refine hs 400 24 _ _ _ _ _ ?_
      have gl := fb_ct_le (g i).2.1 c
      conv => whnf
      repeat ((first | refine ⟨zH_of _, ?_⟩ | refine ⟨trivial, ?_⟩ | refine ⟨rfl, ?_⟩ | refine ⟨fun hc => absurd hc (by decide), fun _ => ?_⟩ | refine ⟨fun _ => ?_, fun hc => absurd (by decide) hc⟩ | refine ⟨fun _ => ?_, fun hc => absurd hc (by decide)⟩ | refine ⟨fun hc => absurd (by decide) hc, fun _ => ?_⟩); conv => whnf)
      try dsimp only
      rw [ms_c hS, ltN (by omega) (by omega)]
      refine ⟨fun hc => ?_, fun hc => ?_⟩
      · obtain hin : i = c := by omega
        rw [hin] at gl ⊢
        have T1 : TF wi0 wl (z_up wi0 45 10 (nI 0)) wl := tf_fld (by decide)
        have M1 : TM (z_up wi0 45 10 (nI 0)) wl 0 (fun _ => 0) := tm_0
        conv => whnf
        repeat ((first | refine ⟨zH_of _, ?_⟩ | refine ⟨trivial, ?_⟩ | refine ⟨rfl, ?_⟩ | refine ⟨fun hc => absurd hc (by decide), fun _ => ?_⟩ | refine ⟨fun _ => ?_, fun hc => absurd (by decide) hc⟩ | refine ⟨fun _ => ?_, fun hc => absurd hc (by decide)⟩ | refine ⟨fun hc => absurd (by decide) hc, fun _ => ?_⟩); conv => whnf)
        try dsimp only
        generalize z_up wi0 45 10 (nI 0) = wi1 at *
        refine ⟨(g c).2.1, c, rfl, h40, ?_⟩
        conv => whnf
        repeat ((first | refine ⟨zH_of _, ?_⟩ | refine ⟨trivial, ?_⟩ | refine ⟨rfl, ?_⟩ | refine ⟨fun hc => absurd hc (by decide), fun _ => ?_⟩ | refine ⟨fun _ => ?_, fun hc => absurd (by decide) hc⟩ | refine ⟨fun _ => ?_, fun hc => absurd hc (by decide)⟩ | refine ⟨fun hc => absurd (by decide) hc, fun _ => ?_⟩); conv => whnf)
        try dsimp only
        rw [nI_l (by omega), ← (gc c).1]
        refine ⟨0, _, M1, by decide, fun wi2 wl2 a1 a2 a3 M2 => ?_⟩
        have T2 := tf_trans T1 (tf_tell a1 a2 a3)
        conv => whnf
        repeat ((first | refine ⟨zH_of _, ?_⟩ | refine ⟨trivial, ?_⟩ | refine ⟨rfl, ?_⟩ | refine ⟨fun hc => absurd hc (by decide), fun _ => ?_⟩ | refine ⟨fun _ => ?_, fun hc => absurd (by decide) hc⟩ | refine ⟨fun _ => ?_, fun hc => absurd hc (by decide)⟩ | refine ⟨fun hc => absurd (by decide) hc, fun _ => ?_⟩); conv => whnf)
        try dsimp only
        refine ⟨1, _, M2, by decide, fun wi3 wl3 a1 a2 a3 M3 => ?_⟩
        have T3 := tf_trans T2 (tf_tell a1 a2 a3)
        conv => whnf
        repeat ((first | refine ⟨zH_of _, ?_⟩ | refine ⟨trivial, ?_⟩ | refine ⟨rfl, ?_⟩ | refine ⟨fun hc => absurd hc (by decide), fun _ => ?_⟩ | refine ⟨fun _ => ?_, fun hc => absurd (by decide) hc⟩ | refine ⟨fun _ => ?_, fun hc => absurd hc (by decide)⟩ | refine ⟨fun hc => absurd (by decide) hc, fun _ => ?_⟩); conv => whnf)
        try dsimp only
        exact h wi3 wl3 (FrM_trans hF0 (tf_fr T3)) (tf_mt T3 hC M3)
      · have ihn := ih hc
        have eg : g (i + 1) = gsS q A t' c (i + 1) := by rw [← hg]
        rw [gsS, hg] at eg
        have il := fb_ct_le (lkB q A t' i) c
        have lsn := bs_lt63 (sn i) h40
        have skip : ¬ (bs (lkB q A t' i) i = 0 ∧ 2 ≤ fb_ct (lkB q A t' i) c) → Jm 95 [some (.ref 45), some (.int (nI t')), some (.int (nI (g i).1)), some (.long (lN (bs (g i).2.1 c))), none, some (.long (lN (bs (sn i) c))), none, some (.int (nI i)), none, none] [] (GC ++ (GM ++ r), wi0, wl) 0 0 := fun hn => by
          have es : bs (sn (i + 1)) c = bs (sn i) c := bs_congr (fun j _ => by
            rw [sne, show cnB q A t' c i = false from decide_eq_false hn, Bool.false_and, Bool.or_false])
          rw [if_neg hn] at eg
          rw [eg, es] at ihn
          refine hs 400 95 _ _ _ _ _ ?_
          conv => whnf
          repeat ((first | refine ⟨zH_of _, ?_⟩ | refine ⟨trivial, ?_⟩ | refine ⟨rfl, ?_⟩ | refine ⟨fun hc => absurd hc (by decide), fun _ => ?_⟩ | refine ⟨fun _ => ?_, fun hc => absurd (by decide) hc⟩ | refine ⟨fun _ => ?_, fun hc => absurd hc (by decide)⟩ | refine ⟨fun hc => absurd (by decide) hc, fun _ => ?_⟩); conv => whnf)
          try dsimp only
          rw [nI_add]
          exact ihn
        conv => whnf
        repeat ((first | refine ⟨zH_of _, ?_⟩ | refine ⟨trivial, ?_⟩ | refine ⟨rfl, ?_⟩ | refine ⟨fun hc => absurd hc (by decide), fun _ => ?_⟩ | refine ⟨fun _ => ?_, fun hc => absurd (by decide) hc⟩ | refine ⟨fun _ => ?_, fun hc => absurd hc (by decide)⟩ | refine ⟨fun hc => absurd (by decide) hc, fun _ => ?_⟩); conv => whnf)
        try dsimp only
        refine ⟨d, q, c, A, i, t', hS, rfl, hc, rfl, ht, ?_⟩
        have es : z_lsar (lN (bs (sn i) c)) (nI i) &&& lN 1 = lN (bs (sn i) c / 2 ^ i % 2) := by
          rw [z_lsarN (by omega) (by omega), show (lN 1 : Int64) = lN (2 ^ 1 - 1) from rfl, fb_maskL]
        have en : lg_cmp (lN (bs (sn i) c / 2 ^ i % 2)) (lN 1) = nI 0 ↔ sn i i = true := by
          rw [show (nI 0 : Int32) = 0 from rfl, lg_cmp_eq, fb_lN_inj (by omega) (by decide)]
          have b := bs_bit (sn i) c i
          rw [decide_eq_true hc, Bool.true_and, Nat.testBit_eq_decide_div_mod_eq] at b
          rw [← b, decide_eq_true_iff]
        conv => whnf
        repeat ((first | refine ⟨zH_of _, ?_⟩ | refine ⟨trivial, ?_⟩ | refine ⟨rfl, ?_⟩ | refine ⟨fun hc => absurd hc (by decide), fun _ => ?_⟩ | refine ⟨fun _ => ?_, fun hc => absurd (by decide) hc⟩ | refine ⟨fun _ => ?_, fun hc => absurd hc (by decide)⟩ | refine ⟨fun hc => absurd (by decide) hc, fun _ => ?_⟩); conv => whnf)
        try dsimp only
        rw [es, en, sk i hc]
        refine ⟨fun hz => ?_, fun hz => ?_⟩
        · conv => whnf
          repeat ((first | refine ⟨zH_of _, ?_⟩ | refine ⟨trivial, ?_⟩ | refine ⟨rfl, ?_⟩ | refine ⟨fun hc => absurd hc (by decide), fun _ => ?_⟩ | refine ⟨fun _ => ?_, fun hc => absurd (by decide) hc⟩ | refine ⟨fun _ => ?_, fun hc => absurd hc (by decide)⟩ | refine ⟨fun hc => absurd (by decide) hc, fun _ => ?_⟩); conv => whnf)
          try dsimp only
          exact skip (fun z => hz z.1)
        · have hz := Classical.not_not.mp hz
          conv => whnf
          repeat ((first | refine ⟨zH_of _, ?_⟩ | refine ⟨trivial, ?_⟩ | refine ⟨rfl, ?_⟩ | refine ⟨fun hc => absurd hc (by decide), fun _ => ?_⟩ | refine ⟨fun _ => ?_, fun hc => absurd (by decide) hc⟩ | refine ⟨fun _ => ?_, fun hc => absurd hc (by decide)⟩ | refine ⟨fun hc => absurd (by decide) hc, fun _ => ?_⟩); conv => whnf)
          try dsimp only
          refine ⟨_, c, rfl, h40, ?_⟩
          conv => whnf
          repeat ((first | refine ⟨zH_of _, ?_⟩ | refine ⟨trivial, ?_⟩ | refine ⟨rfl, ?_⟩ | refine ⟨fun hc => absurd hc (by decide), fun _ => ?_⟩ | refine ⟨fun _ => ?_, fun hc => absurd (by decide) hc⟩ | refine ⟨fun _ => ?_, fun hc => absurd hc (by decide)⟩ | refine ⟨fun hc => absurd (by decide) hc, fun _ => ?_⟩); conv => whnf)
          try dsimp only
          rw [ltN (by omega) (by omega)]
          refine ⟨fun h2 => ?_, fun h2 => ?_⟩
          · have cn : cnB q A t' c i = true := decide_eq_true ⟨hz, by omega⟩
            have es2 : bs (sn (i + 1)) c = bs (sn i) c ||| bs (lkB q A t' i) c := by
              rw [bs_orf]
              exact bs_congr (fun j _ => by rw [sne, cn, Bool.true_and])
            rw [if_pos ⟨hz, by omega⟩] at eg
            conv => whnf
            repeat ((first | refine ⟨zH_of _, ?_⟩ | refine ⟨trivial, ?_⟩ | refine ⟨rfl, ?_⟩ | refine ⟨fun hc => absurd hc (by decide), fun _ => ?_⟩ | refine ⟨fun _ => ?_, fun hc => absurd (by decide) hc⟩ | refine ⟨fun _ => ?_, fun hc => absurd hc (by decide)⟩ | refine ⟨fun hc => absurd (by decide) hc, fun _ => ?_⟩); conv => whnf)
            try dsimp only
            refine ⟨_, c, rfl, h40, ?_⟩
            conv => whnf
            repeat ((first | refine ⟨zH_of _, ?_⟩ | refine ⟨trivial, ?_⟩ | refine ⟨rfl, ?_⟩ | refine ⟨fun hc => absurd hc (by decide), fun _ => ?_⟩ | refine ⟨fun _ => ?_, fun hc => absurd (by decide) hc⟩ | refine ⟨fun _ => ?_, fun hc => absurd hc (by decide)⟩ | refine ⟨fun hc => absurd (by decide) hc, fun _ => ?_⟩); conv => whnf)
            try dsimp only
            refine ⟨_, c, rfl, h40, ?_⟩
            conv => whnf
            repeat ((first | refine ⟨zH_of _, ?_⟩ | refine ⟨trivial, ?_⟩ | refine ⟨rfl, ?_⟩ | refine ⟨fun hc => absurd hc (by decide), fun _ => ?_⟩ | refine ⟨fun _ => ?_, fun hc => absurd (by decide) hc⟩ | refine ⟨fun _ => ?_, fun hc => absurd hc (by decide)⟩ | refine ⟨fun hc => absurd (by decide) hc, fun _ => ?_⟩); conv => whnf)
            try dsimp only
            rw [ltN (by omega) (by omega)]
            refine ⟨fun h3 => ?_, fun h3 => ?_⟩
            · rw [if_neg (by rw [(gc i).1]; exact h3)] at eg
              rw [eg, es2, ← fb_orL] at ihn
              conv => whnf
              repeat ((first | refine ⟨zH_of _, ?_⟩ | refine ⟨trivial, ?_⟩ | refine ⟨rfl, ?_⟩ | refine ⟨fun hc => absurd hc (by decide), fun _ => ?_⟩ | refine ⟨fun _ => ?_, fun hc => absurd (by decide) hc⟩ | refine ⟨fun _ => ?_, fun hc => absurd hc (by decide)⟩ | refine ⟨fun hc => absurd (by decide) hc, fun _ => ?_⟩); conv => whnf)
              try dsimp only
              refine hs 400 95 _ _ _ _ _ ?_
              conv => whnf
              repeat ((first | refine ⟨zH_of _, ?_⟩ | refine ⟨trivial, ?_⟩ | refine ⟨rfl, ?_⟩ | refine ⟨fun hc => absurd hc (by decide), fun _ => ?_⟩ | refine ⟨fun _ => ?_, fun hc => absurd (by decide) hc⟩ | refine ⟨fun _ => ?_, fun hc => absurd hc (by decide)⟩ | refine ⟨fun hc => absurd (by decide) hc, fun _ => ?_⟩); conv => whnf)
              try dsimp only
              rw [nI_add, nI_add]
              exact ihn
            · rw [if_pos (by rw [(gc i).1]; exact h3)] at eg
              rw [eg, es2, ← fb_orL] at ihn
              conv => whnf
              repeat ((first | refine ⟨zH_of _, ?_⟩ | refine ⟨trivial, ?_⟩ | refine ⟨rfl, ?_⟩ | refine ⟨fun hc => absurd hc (by decide), fun _ => ?_⟩ | refine ⟨fun _ => ?_, fun hc => absurd (by decide) hc⟩ | refine ⟨fun _ => ?_, fun hc => absurd hc (by decide)⟩ | refine ⟨fun hc => absurd (by decide) hc, fun _ => ?_⟩); conv => whnf)
              try dsimp only
              refine hs 400 95 _ _ _ _ _ ?_
              conv => whnf
              repeat ((first | refine ⟨zH_of _, ?_⟩ | refine ⟨trivial, ?_⟩ | refine ⟨rfl, ?_⟩ | refine ⟨fun hc => absurd hc (by decide), fun _ => ?_⟩ | refine ⟨fun _ => ?_, fun hc => absurd (by decide) hc⟩ | refine ⟨fun _ => ?_, fun hc => absurd hc (by decide)⟩ | refine ⟨fun hc => absurd (by decide) hc, fun _ => ?_⟩); conv => whnf)
              try dsimp only
              rw [nI_add, nI_add]
              exact ihn
          · conv => whnf
            repeat ((first | refine ⟨zH_of _, ?_⟩ | refine ⟨trivial, ?_⟩ | refine ⟨rfl, ?_⟩ | refine ⟨fun hc => absurd hc (by decide), fun _ => ?_⟩ | refine ⟨fun _ => ?_, fun hc => absurd (by decide) hc⟩ | refine ⟨fun _ => ?_, fun hc => absurd hc (by decide)⟩ | refine ⟨fun hc => absurd (by decide) hc, fun _ => ?_⟩); conv => whnf)
            try dsimp only
            exact skip (fun z => by omega))
    have l0 := loop 0 (Nat.zero_le _)
    have e0 : bs (g 0).2.1 c = 0 := bs_0.mpr (fun j _ => by rw [← hg]; rfl)
    have e1 : (g 0).1 = 0 := by rw [← hg]; rfl
    have e2 : bs (sn 0) c = 0 := bs_0.mpr (fun j _ => sn0 j)
    rw [e0, e1, e2] at l0
    conv => whnf
    repeat ((first | refine ⟨zH_of _, ?_⟩ | refine ⟨trivial, ?_⟩ | refine ⟨rfl, ?_⟩ | refine ⟨fun hc => absurd hc (by decide), fun _ => ?_⟩ | refine ⟨fun _ => ?_, fun hc => absurd (by decide) hc⟩ | refine ⟨fun _ => ?_, fun hc => absurd hc (by decide)⟩ | refine ⟨fun hc => absurd (by decide) hc, fun _ => ?_⟩); conv => whnf)
    try dsimp only
    exact l0

