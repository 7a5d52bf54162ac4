/-! counts -/
theorem ct_t {f : Nat → Bool} {n : Nat} (h : f n = true) : fb_ct f (n + 1) = fb_ct f n + 1 := by
  rw [fb_ct_succ, if_pos h]
theorem ct_f {f : Nat → Bool} {n : Nat} (h : ¬ f n = true) : fb_ct f (n + 1) = fb_ct f n := by
  rw [fb_ct_succ, if_neg h, Nat.add_zero]
/-- the first index below n with a property, or n -/
def fi (f : Nat → Bool) : Nat → Nat
  | 0 => 0
  | n + 1 => if fi f n < n then fi f n else if f n = true then n else n + 1
theorem fi_none {f : Nat → Bool} : ∀ {n : Nat}, (∀ j, j < n → ¬ f j = true) → fi f n = n
  | 0, _ => rfl
  | n + 1, h => by
    have ih := fi_none (n := n) (fun j hj => h j (by omega))
    rw [fi, ih, if_neg (by omega), if_neg (h n (by omega))]
theorem fi_at {f : Nat → Bool} {i : Nat} : ∀ {n : Nat}, i < n → f i = true → (∀ j, j < i → ¬ f j = true) → fi f n = i
  | 0, h, _, _ => absurd h (Nat.not_lt_zero i)
  | n + 1, h, hi, hj => by
    rcases Nat.lt_or_ge i n with h1 | h1
    · rw [fi, fi_at h1 hi hj, if_pos h1]
    · obtain rfl : i = n := by omega
      rw [fi, fi_none hj, if_neg (by omega), if_pos hi]
theorem fi_le (f : Nat → Bool) : ∀ n, fi f n ≤ n
  | 0 => Nat.le_refl 0
  | n + 1 => by
    have := fi_le f n
    rw [fi]
    split
    · omega
    · split <;> omega
theorem fi_lt {f : Nat → Bool} {n : Nat} (h : fi f n < n) : f (fi f n) = true ∧ ∀ j, j < fi f n → ¬ f j = true := by
  by_cases q : ∃ i, i < n ∧ f i = true
  · obtain ⟨i, h1, h2, h3⟩ := fb_first q
    rw [fi_at h1 h2 h3]
    exact ⟨h2, h3⟩
  · rw [fi_none (fun j hj q2 => q ⟨j, hj, q2⟩)] at h
    omega
theorem fi_ge {f : Nat → Bool} {n : Nat} (h : ¬ fi f n < n) : ∀ j, j < n → ¬ f j = true := by
  intro j hj q
  obtain ⟨i, h1, h2, h3⟩ := fb_first (p := fun k => f k = true) ⟨j, hj, q⟩
  rw [fi_at h1 h2 h3] at h
  exact h h1
def nO (f : Nat → Bool) (n : Nat) : Int32 := if fi f n < n then nI (fi f n) else mI 1
/-! a scheme, in the class's cells: tables' sides d, field q, c products, form k = 3 i + t of numbers A k p -/
def pl (d : Nat → Nat) (t : Nat) : Nat := d t * d ((t + 1) % 3)
def CS (wi : Nat → Nat → Int32) (o : Nat) (d : Nat → Nat) (q c : Nat) (A : Nat → Nat → Nat) : Prop :=
  (wi o 1 = nI (d 0) ∧ wi o 2 = nI (d 1) ∧ wi o 3 = nI (d 2) ∧ wi o 4 = nI q ∧ wi o 5 = nI c) ∧ (∀ k, k < 3 * c → wi (o + 2) k = pk (A k)) ∧ (q = 2 ∨ q = 3) ∧ (∀ t, t < 3 → 1 ≤ d t ∧ d t ≤ 3) ∧ c ≤ 40 ∧ ∀ k, k < 3 * c → ∀ p, p < 9 → A k p < q
/-- a form that is 0; two that are the same; a product with a form that is 0 -/
def zB (a : Nat → Nat) : Bool := decide (∀ p : Nat, p < 9 → a p = 0)
def eqB (a b : Nat → Nat) : Bool := decide (∀ p : Nat, p < 9 → a p = b p)
def hzB (A : Nat → Nat → Nat) (i : Nat) : Bool := zB (A (3 * i)) || zB (A (3 * i + 1)) || zB (A (3 * i + 2))
theorem zB_pk {a : Nat → Nat} (ha : ∀ p, p < 9 → a p < 3) : pk a = nI 0 ↔ zB a = true := by
  rw [pk_eq0 ha]
  exact decide_eq_true_iff.symm
theorem eqB_pk {a b : Nat → Nat} (ha : ∀ p, p < 9 → a p < 3) (hb : ∀ p, p < 9 → b p < 3) : pk a = pk b ↔ eqB a b = true := by
  rw [pk_inj ha hb]
  exact decide_eq_true_iff.symm
section
variable {wi : Nat → Nat → Int32} {o : Nat} {d : Nat → Nat} {q c : Nat} {A : Nat → Nat → Nat}
theorem cs_1 (h : CS wi o d q c A) : wi o 1 = nI (d 0) := h.1.1
theorem cs_2 (h : CS wi o d q c A) : wi o 2 = nI (d 1) := h.1.2.1
theorem cs_3 (h : CS wi o d q c A) : wi o 3 = nI (d 2) := h.1.2.2.1
theorem cs_q (h : CS wi o d q c A) : wi o 4 = nI q := h.1.2.2.2.1
theorem cs_c (h : CS wi o d q c A) : wi o 5 = nI c := h.1.2.2.2.2
theorem cs_f (h : CS wi o d q c A) : ∀ k, k < 3 * c → wi (o + 2) k = pk (A k) := h.2.1
theorem cs_q23 (h : CS wi o d q c A) : q = 2 ∨ q = 3 := h.2.2.1
theorem cs_d (h : CS wi o d q c A) : ∀ t, t < 3 → 1 ≤ d t ∧ d t ≤ 3 := h.2.2.2.1
theorem cs_40 (h : CS wi o d q c A) : c ≤ 40 := h.2.2.2.2.1
theorem cs_A (h : CS wi o d q c A) : ∀ k, k < 3 * c → ∀ p, p < 9 → A k p < q := h.2.2.2.2.2
theorem cs_A3 (h : CS wi o d q c A) : ∀ k, k < 3 * c → ∀ p, p < 9 → A k p < 3 := fun k hk p hp => by
  have := cs_A h k hk p hp
  have := cs_q23 h
  omega
theorem lt3 {t : Nat} (h : t < 3) : t = 0 ∨ t = 1 ∨ t = 2 := by omega
theorem beh_N {t : Nat} (h : t < 3) : behF (nI t) = nI ((t + 1) % 3) := by
  rcases lt3 h with rfl | rfl | rfl <;> decide
theorem ahd_N {t : Nat} (h : t < 3) : ahdF (nI t) = nI ((t + 2) % 3) := by
  rcases lt3 h with rfl | rfl | rfl <;> decide
theorem mod3_lt (t : Nat) : t % 3 < 3 := Nat.mod_lt _ (by decide)
theorem rows_S (h : CS wi o d q c A) {t : Nat} (ht : t < 3) : rowsF wi o (nI t) = nI (d t) := by
  unfold rowsF
  rcases lt3 ht with rfl | rfl | rfl
  · rw [if_pos rfl]; exact cs_1 h
  · rw [if_neg (by decide), if_pos rfl]; exact cs_2 h
  · rw [if_neg (by decide), if_neg (by decide)]; exact cs_3 h
theorem col_S (h : CS wi o d q c A) {t : Nat} (ht : t < 3) : colF wi o (nI t) = nI (d ((t + 1) % 3)) := by
  unfold colF
  rw [beh_N ht, rows_S h (mod3_lt _)]
theorem pl_S (h : CS wi o d q c A) {t : Nat} (ht : t < 3) : plF wi o (nI t) = nI (pl d t) := by
  unfold plF pl
  rw [col_S h ht, rows_S h ht, pk_mul]
theorem pl_le (h : ∀ t, t < 3 → 1 ≤ d t ∧ d t ≤ 3) {t : Nat} (ht : t < 3) : 1 ≤ pl d t ∧ pl d t ≤ 9 := by
  have h1 := h t ht
  have h2 := h ((t + 1) % 3) (mod3_lt _)
  exact ⟨Nat.mul_le_mul h1.1 h2.1, Nat.mul_le_mul h1.2 h2.2⟩
theorem fm_S (h : CS wi o d q c A) {i t : Nat} (hi : i < c) (ht : t < 3) : fmF wi o (nI i) (nI t) = pk (A (3 * i + t)) := by
  have := cs_40 h
  unfold fmF
  rw [pk_mul, nI_add, atF_in (by omega) (by decide)]
  exact cs_f h _ (by omega)
theorem at_S (h : CS wi o d q c A) {k : Nat} (hk : k < 3 * c) : atF (wi (o + 2)) 120 (nI k) = pk (A k) := by
  have := cs_40 h
  rw [atF_in (by omega) (by decide)]
  exact cs_f h _ hk
theorem fn_S (h : CS wi o d q c A) {i t p : Nat} (hi : i < c) (ht : t < 3) (hp : p < 9) : fnum (fmF wi o (nI i) (nI t)) (nI p) = nI (A (3 * i + t) p) := by
  rw [fm_S h hi ht]
  exact fnum_pk (cs_A3 h _ (by omega)) hp
theorem lk_S (h : CS wi o d q c A) {i j t : Nat} (hi : i < c) (hj : j < c) (ht : t < 3) : flike (fmF wi o (nI i) (nI t)) (fmF wi o (nI j) (nI t)) (wi o 4) = nI (likeN q (A (3 * i + t)) (A (3 * j + t))) := by
  rw [fm_S h hi ht, fm_S h hj ht, cs_q h]
  exact flike_pk (cs_q23 h) (cs_A h _ (by omega)) (cs_A h _ (by omega))
theorem hz_S (h : CS wi 6 d q c A) {i : Nat} (hi : i < c) : hzF wi (nI i) = bI (hzB A i = true) := by
  unfold hzF
  rw [fm_S h hi (by decide), fm_S h hi (by decide), fm_S h hi (by decide)]
  unfold bI hzB
  have e0 := zB_pk (cs_A3 h (3 * i) (by omega))
  have e1 := zB_pk (cs_A3 h (3 * i + 1) (by omega))
  have e2 := zB_pk (cs_A3 h (3 * i + 2) (by omega))
  simp only [Nat.add_zero, e0, e1, e2, Bool.or_eq_true, or_assoc]
end
/-! what is counted over a scheme's products -/
def sp_X6_zeros : zSp := fun av w K => match av with
  | [.ref o] => o = 6 ∧ zG w.1 ∧ ∃ d q c A, CS w.2.1 6 d q c A ∧ K (some (.int (nI (fb_ct (hzB A) c)))) w
  | _ => False
def rm_X6_zeros : Room := { frames := 3, cells := 0, slots := 0, locals := 64 }
def M_X6_zeros : zM := (k_X6_zeros, f_X6, [(112, 4, 5, 2, 0, 0, sp_X6_hasZero)], ([], [], []), [], [(4, [true, true, true])], 1, false, (false, 0, fun _ => 0), (0, 0, []))
theorem ca_X6_zeros_0 (l : Launch) : z_cok l RX6 (headSpec (.code yX6_zeros cX6_zeros 3 (some .int) :: zTT) rm_X6_zeros).room (false, 0, fun _ => 0) (112, 4, 5, 2, 0, 0, sp_X6_hasZero) := z_ca4 (c_X6_hasZero l) mb_X6_hasZero ⟨_, rfl, rfl⟩ wt_539 wt_540 wt_541 (by decide)
theorem O_X6_zeros (l : Launch) : z_OK l RX6 cX6_zeros (headSpec (.code yX6_zeros cX6_zeros 3 (some .int) :: zTT) rm_X6_zeros).room M_X6_zeros := ⟨ok_X6_zeros, fo_X6, List.forall_mem_cons.mpr ⟨ca_X6_zeros_0 l, fun _ h => absurd h List.not_mem_nil⟩, fun _ h => absurd h List.not_mem_nil, fun _ h => absurd h List.not_mem_nil, fun _ h => absurd h List.not_mem_nil, fun _ h => absurd h List.not_mem_nil, rfl, rfl, fun _ h => absurd h List.not_mem_nil⟩
theorem c_X6_zeros (l : Launch) : z_CS l yX6_zeros cX6_zeros 3 (some .int) rm_X6_zeros sp_X6_zeros := by
  refine z_meth (by decide) (Or.inr (Or.inl ⟨rfl, rfl⟩)) (fun h => by cases h) rfl (O_X6_zeros l) ?_
  intro av w K h
  match av, h with
  | [.ref o], h =>
    obtain ⟨rfl, ⟨r, hG⟩, d, q, c, A, hS, h⟩ := h
    obtain ⟨G, wi, wl⟩ := w
    subst hG
    try dsimp only at h hS
    have h40 := cs_40 hS
    refine ⟨Nat.le_of_ble_eq_true rfl, fun Jm hs => ?_⟩
    have loop := up_ind (P := fun i => Jm 4 [some (.ref 6), some (.int (nI (fb_ct (hzB A) i))), some (.int (nI i))] [] (GC ++ r, wi, wl) 0 0) c (fun i hi ih => by
      refine hs 400 4 _ _ _ _ _ ?_
      conv => whnf
      repeat ((first | refine ⟨zG_of _, ?_⟩ | refine ⟨trivial, ?_⟩ | refine ⟨rfl, ?_⟩ | refine ⟨fun hc => absurd hc (by decide), fun _ => ?_⟩ | refine ⟨fun _ => ?_, fun hc => absurd (by decide) hc⟩ | refine ⟨fun _ => ?_, fun hc => absurd hc (by decide)⟩ | refine ⟨fun hc => absurd (by decide) hc, fun _ => ?_⟩); conv => whnf)
      try dsimp only
      rw [cs_c hS, ltN (by omega) (by omega)]
      refine ⟨fun hc => ?_, fun hc => ?_⟩
      · obtain rfl : i = c := by omega
        exact ⟨trivial, h⟩
      · have ih := ih hc
        conv => whnf
        repeat ((first | refine ⟨zG_of _, ?_⟩ | refine ⟨trivial, ?_⟩ | refine ⟨rfl, ?_⟩ | refine ⟨fun hc => absurd hc (by decide), fun _ => ?_⟩ | refine ⟨fun _ => ?_, fun hc => absurd (by decide) hc⟩ | refine ⟨fun _ => ?_, fun hc => absurd hc (by decide)⟩ | refine ⟨fun hc => absurd (by decide) hc, fun _ => ?_⟩); conv => whnf)
        try dsimp only
        rw [hz_S hS hc]
        refine ⟨fun hz => ?_, fun hz => ?_⟩
        · rw [bI_0] at hz
          rw [ct_f hz] at ih
          conv => whnf
          repeat ((first | refine ⟨zG_of _, ?_⟩ | refine ⟨trivial, ?_⟩ | refine ⟨rfl, ?_⟩ | refine ⟨fun hc => absurd hc (by decide), fun _ => ?_⟩ | refine ⟨fun _ => ?_, fun hc => absurd (by decide) hc⟩ | refine ⟨fun _ => ?_, fun hc => absurd hc (by decide)⟩ | refine ⟨fun hc => absurd (by decide) hc, fun _ => ?_⟩); conv => whnf)
          try dsimp only
          rw [nI_add]
          exact ih
        · rw [bI_0, Classical.not_not] at hz
          rw [ct_t hz] at ih
          conv => whnf
          repeat ((first | refine ⟨zG_of _, ?_⟩ | refine ⟨trivial, ?_⟩ | refine ⟨rfl, ?_⟩ | refine ⟨fun hc => absurd hc (by decide), fun _ => ?_⟩ | refine ⟨fun _ => ?_, fun hc => absurd (by decide) hc⟩ | refine ⟨fun _ => ?_, fun hc => absurd hc (by decide)⟩ | refine ⟨fun hc => absurd (by decide) hc, fun _ => ?_⟩); conv => whnf)
          try dsimp only
          rw [nI_add, nI_add]
          exact ih)
    exact hs 400 0 _ _ _ _ _ (loop 0 (Nat.zero_le _))
def sp_X6_firstZero : zSp := fun av w K => match av with
  | [.ref o] => o = 6 ∧ zG w.1 ∧ ∃ d q c A, CS w.2.1 6 d q c A ∧ K (some (.int (nO (hzB A) c))) w
  | _ => False
def rm_X6_firstZero : Room := { frames := 3, cells := 0, slots := 0, locals := 64 }
def M_X6_firstZero : zM := (k_X6_firstZero, f_X6, [(112, 4, 5, 2, 0, 0, sp_X6_hasZero)], ([], [], []), [], [(2, [true, true])], 1, false, (false, 0, fun _ => 0), (0, 0, []))
theorem ca_X6_firstZero_0 (l : Launch) : z_cok l RX6 (headSpec (.code yX6_firstZero cX6_firstZero 2 (some .int) :: zTT) rm_X6_firstZero).room (false, 0, fun _ => 0) (112, 4, 5, 2, 0, 0, sp_X6_hasZero) := z_ca4 (c_X6_hasZero l) mb_X6_hasZero ⟨_, rfl, rfl⟩ wt_539 wt_540 wt_541 (by decide)
theorem O_X6_firstZero (l : Launch) : z_OK l RX6 cX6_firstZero (headSpec (.code yX6_firstZero cX6_firstZero 2 (some .int) :: zTT) rm_X6_firstZero).room M_X6_firstZero := ⟨ok_X6_firstZero, fo_X6, List.forall_mem_cons.mpr ⟨ca_X6_firstZero_0 l, fun _ h => absurd h List.not_mem_nil⟩, fun _ h => absurd h List.not_mem_nil, fun _ h => absurd h List.not_mem_nil, fun _ h => absurd h List.not_mem_nil, fun _ h => absurd h List.not_mem_nil, rfl, rfl, fun _ h => absurd h List.not_mem_nil⟩
theorem c_X6_firstZero (l : Launch) : z_CS l yX6_firstZero cX6_firstZero 2 (some .int) rm_X6_firstZero sp_X6_firstZero := by
  refine z_meth (by decide) (Or.inr (Or.inl ⟨rfl, rfl⟩)) (fun h => by cases h) rfl (O_X6_firstZero l) ?_
  intro av w K h
  match av, h with
  | [.ref o], h =>
    obtain ⟨rfl, ⟨r, hG⟩, d, q, c, A, hS, h⟩ := h
    obtain ⟨G, wi, wl⟩ := w
    subst hG
    try dsimp only at h hS
    have h40 := cs_40 hS
    refine ⟨Nat.le_of_ble_eq_true rfl, fun Jm hs => ?_⟩
    have loop := up_ind (P := fun i => (∀ j, j < i → ¬ hzB A j = true) → Jm 2 [some (.ref 6), some (.int (nI i))] [] (GC ++ r, wi, wl) 0 0) c (fun i hi ih hno => by
      refine hs 400 2 _ _ _ _ _ ?_
      conv => whnf
      repeat ((first | refine ⟨zG_of _, ?_⟩ | refine ⟨trivial, ?_⟩ | refine ⟨rfl, ?_⟩ | refine ⟨fun hc => absurd hc (by decide), fun _ => ?_⟩ | refine ⟨fun _ => ?_, fun hc => absurd (by decide) hc⟩ | refine ⟨fun _ => ?_, fun hc => absurd hc (by decide)⟩ | refine ⟨fun hc => absurd (by decide) hc, fun _ => ?_⟩); conv => whnf)
      try dsimp only
      rw [cs_c hS, ltN (by omega) (by omega)]
      refine ⟨fun hc => ?_, fun hc => ?_⟩
      · obtain rfl : i = c := by omega
        rw [nO, fi_none hno, if_neg (Nat.lt_irrefl _)] at h
        exact ⟨trivial, h⟩
      · have ih := ih hc
        conv => whnf
        repeat ((first | refine ⟨zG_of _, ?_⟩ | refine ⟨trivial, ?_⟩ | refine ⟨rfl, ?_⟩ | refine ⟨fun hc => absurd hc (by decide), fun _ => ?_⟩ | refine ⟨fun _ => ?_, fun hc => absurd (by decide) hc⟩ | refine ⟨fun _ => ?_, fun hc => absurd hc (by decide)⟩ | refine ⟨fun hc => absurd (by decide) hc, fun _ => ?_⟩); conv => whnf)
        try dsimp only
        rw [hz_S hS hc]
        refine ⟨fun hz => ?_, fun hz => ?_⟩
        · rw [bI_0] at hz
          conv => whnf
          repeat ((first | refine ⟨zG_of _, ?_⟩ | refine ⟨trivial, ?_⟩ | refine ⟨rfl, ?_⟩ | refine ⟨fun hc => absurd hc (by decide), fun _ => ?_⟩ | refine ⟨fun _ => ?_, fun hc => absurd (by decide) hc⟩ | refine ⟨fun _ => ?_, fun hc => absurd hc (by decide)⟩ | refine ⟨fun hc => absurd (by decide) hc, fun _ => ?_⟩); conv => whnf)
          try dsimp only
          rw [nI_add]
          exact ih (fun j hj => by
            rcases Nat.lt_or_ge j i with q | q
            · exact hno j q
            · obtain rfl : j = i := by omega
              exact hz)
        · rw [bI_0, Classical.not_not] at hz
          rw [nO, fi_at hc hz hno, if_pos hc] at h
          exact ⟨trivial, h⟩)
    exact hs 400 0 _ _ _ _ _ (loop 0 (Nat.zero_le _) (fun j hj => absurd hj (Nat.not_lt_zero j)))
def sp_X6_usersOf : zSp := fun av w K => match av with
  | [.ref o, .int t, .int p, .int v] => o = 6 ∧ zG w.1 ∧ ∃ d q c A t' p' v', CS w.2.1 6 d q c A ∧ t = nI t' ∧ t' < 3 ∧ p = nI p' ∧ p' < 9 ∧ v = nI v' ∧ v' < 3 ∧ K (some (.int (nI (fb_ct (fun i => A (3 * i + t') p' == v') c)))) w
  | _ => False
