/-! forms made less, one by one: where what is left is 0 -/
def ldN (a : Nat → Nat) : Nat := fi (fun p => a p != 0) 9
theorem ld_z {a : Nat → Nat} : ¬ ldN a < 9 ↔ zB a = true := by
  constructor
  · intro h
    have k := fi_ge h
    exact zB_iff.mpr (fun p hp => by simpa using k p hp)
  · intro h k
    have e : (a (ldN a) != 0) = true := (fi_lt k).1
    rw [zB_iff.mp h _ k] at e
    exact absurd e (by decide)
theorem ld_n {a : Nat → Nat} (h : ¬ zB a = true) : fp a = ldN a ∧ ldN a < 9 ∧ a (ldN a) ≠ 0 ∧ ∀ p, p < ldN a → a p = 0 := by
  have k : ldN a < 9 := Classical.byContradiction (fun z => h (ld_z.mp z))
  have e1 : (a (ldN a) != 0) = true := (fi_lt k).1
  have e2 : ∀ p, p < ldN a → ¬ (a p != 0) = true := (fi_lt k).2
  exact ⟨if_pos k, k, by simpa using e1, fun p hp => by simpa using e2 p hp⟩
theorem ld_at {a : Nat → Nat} {p : Nat} (hp : p < 9) (h : a p ≠ 0) (h0 : ∀ j, j < p → a j = 0) : ldN a = p := fi_at hp (by simpa using h) (fun j hj => by simp [h0 j hj])
theorem ld_le (a : Nat → Nat) : ldN a ≤ 9 := fi_le _ 9
theorem setp_ne {a : Nat → Nat} {k v p : Nat} (h : p ≠ k) : setp a k v p = a p := if_neg h
theorem setp_at (a : Nat → Nat) (k v : Nat) : setp a k v k = v := if_pos rfl
def BV (q n : Nat) (B : zB4) : Prop := ∀ k, k < B.1 → B.2.2.2 k < n ∧ (∀ p, n ≤ p → p < 9 → B.2.1 k p = 0) ∧ (∀ p, p < 9 → B.2.1 k p < q) ∧ B.2.1 k (B.2.2.2 k) = 1 ∧ (∀ j, j < k → B.2.1 k (B.2.2.2 j) = 0) ∧ ldN (B.2.1 k) = B.2.2.2 k
theorem BV_0 (q n : Nat) : BV q n b0 := fun k hk => absurd hk (Nat.not_lt_zero k)
theorem rd_piv {q n : Nat} (hq : q = 2 ∨ q = 3) (hn : n ≤ 9) {B : zB4} (hB : BV q n B) {a : Nat → Nat} (ha : ∀ p, p < 9 → a p < q) (hz : ∀ p, n ≤ p → p < 9 → a p = 0) : ∀ k, k ≤ B.1 → (∀ j, j < k → (rdB q B a k).1 (B.2.2.2 j) = 0) ∧ ∀ p, n ≤ p → p < 9 → (rdB q B a k).1 p = 0
  | 0, _ => ⟨fun j hj => absurd hj (Nat.not_lt_zero j), hz⟩
  | k + 1, hk => by
    have ih := rd_piv hq hn hB ha hz k (by omega)
    have b := hB k (by omega)
    have z0 : ∀ p, (rdB q B a k).1 p = 0 → B.2.1 k p = 0 → (rdB q B a (k + 1)).1 p = 0 := fun p h1 h2 => by
      show ((rdB q B a k).1 p + (q - (rdB q B a k).1 (B.2.2.2 k) * B.2.1 k p % q)) % q = 0
      rw [h1, h2, Nat.mul_zero, Nat.zero_mod, Nat.sub_zero, Nat.zero_add, Nat.mod_self]
    refine ⟨fun j hj => ?_, fun p h1 h2 => z0 p (ih.2 p h1 h2) (b.2.1 p h1 h2)⟩
    by_cases e : j = k
    · have lt := (rdB_lt hq B ha k).1 (B.2.2.2 k) (by omega)
      rw [e]
      show ((rdB q B a k).1 (B.2.2.2 k) + (q - (rdB q B a k).1 (B.2.2.2 k) * B.2.1 k (B.2.2.2 k) % q)) % q = 0
      rw [b.2.2.2.1, Nat.mul_one, Nat.mod_eq_of_lt lt, show (rdB q B a k).1 (B.2.2.2 k) + (q - (rdB q B a k).1 (B.2.2.2 k)) = q by omega, Nat.mod_self]
    · exact z0 _ (ih.1 j (by omega)) (b.2.2.2.2.1 j (by omega))
theorem mul_n0 {q : Nat} (hq : q = 2 ∨ q = 3) {x y : Nat} (hx : x < q) (hy : y < q) (h0 : x ≠ 0) : x * y % q = 0 ↔ y = 0 := by
  have h2 : ∀ x, x < 2 → ∀ y, y < 2 → x ≠ 0 → (x * y % 2 = 0 ↔ y = 0) := by decide
  have h3 : ∀ x, x < 3 → ∀ y, y < 3 → x ≠ 0 → (x * y % 3 = 0 ↔ y = 0) := by decide
  rcases hq with rfl | rfl
  · exact h2 x hx y hy h0
  · exact h3 x hx y hy h0
theorem sq_1 {q : Nat} (hq : q = 2 ∨ q = 3) {x : Nat} (hx : x < q) (h0 : x ≠ 0) : x * x % q = 1 := by
  have h2 : ∀ x, x < 2 → x ≠ 0 → x * x % 2 = 1 := by decide
  have h3 : ∀ x, x < 3 → x ≠ 0 → x * x % 3 = 1 := by decide
  rcases hq with rfl | rfl
  · exact h2 x hx h0
  · exact h3 x hx h0
theorem ld_mul {q f : Nat} (hq : q = 2 ∨ q = 3) {a : Nat → Nat} (ha : ∀ p, p < 9 → a p < q) (hf : f < q) (h0 : f ≠ 0) (hz : ¬ zB a = true) : ldN (fMul q f a) = ldN a := by
  have k := ld_n hz
  exact ld_at k.2.1 (fun z => k.2.2.1 ((mul_n0 hq hf (ha _ k.2.1) h0).mp z)) (fun j hj => by
    show f * a j % q = 0
    rw [k.2.2.2 j hj, Nat.mul_zero, Nat.zero_mod])
theorem BV_s {q n : Nat} (hq : q = 2 ∨ q = 3) (hn : n ≤ 9) {B : zB4} (hB : BV q n B) {a : Nat → Nat} (ha : ∀ p, p < 9 → a p < q) (hz : ∀ p, n ≤ p → p < 9 → a p = 0) (h : ¬ zB (rest q B a) = true) : BV q n (bkS q B a) := by
  have lt := (rdB_lt hq B ha B.1).1
  have pv := rd_piv hq hn hB ha hz B.1 (Nat.le_refl _)
  have l := ld_n h
  have rd : (rdB q B a B.1).1 = rest q B a := rfl
  rw [rd] at lt pv
  have e0 : (bkS q B a).1 = B.1 + 1 := rfl
  have e1 : (bkS q B a).2.1 = upA B.2.1 B.1 (fMul q (rest q B a (fp (rest q B a))) (rest q B a)) := rfl
  have e2 : (bkS q B a).2.2.2 = setp B.2.2.2 B.1 (fp (rest q B a)) := rfl
  intro k hk
  rw [e0] at hk
  rw [e1, e2, l.1]
  generalize rest q B a = R at *
  have c1 := lt _ l.2.1
  by_cases e : k = B.1
  · rw [e, upA_at, setp_at]
    refine ⟨Classical.byContradiction (fun z => l.2.2.1 (pv.2 _ (by omega) l.2.1)), fun p h1 h2 => ?_, fun p _ => fMul_lt hq _ _ p, sq_1 hq c1 l.2.2.1, fun j hj => ?_, ld_mul hq lt c1 l.2.2.1 h⟩
    · show R (ldN R) * R p % q = 0
      rw [pv.2 p h1 h2, Nat.mul_zero, Nat.zero_mod]
    · rw [setp_ne (by omega)]
      show R (ldN R) * R (B.2.2.2 j) % q = 0
      rw [pv.1 j hj, Nat.mul_zero, Nat.zero_mod]
  · have b := hB k (by omega)
    rw [upA_ne e, setp_ne e]
    exact ⟨b.1, b.2.1, b.2.2.1, b.2.2.2.1, fun j hj => by rw [setp_ne (by omega)]; exact b.2.2.2.2.1 j hj, b.2.2.2.2.2⟩
def pvB (P : Nat → Nat) : Nat → Nat → Bool
  | 0, _ => false
  | k + 1, p => pvB P k p || p == P k
theorem pvB_iff {P : Nat → Nat} {p : Nat} : ∀ k, pvB P k p = true ↔ ∃ j, j < k ∧ P j = p
  | 0 => ⟨fun h => (by cases h), fun h => (by
    obtain ⟨j, h1, _⟩ := h
    exact absurd h1 (Nat.not_lt_zero j))⟩
  | k + 1 => by
    have ih := pvB_iff (P := P) (p := p) k
    show (pvB P k p || p == P k) = true ↔ _
    rw [Bool.or_eq_true, ih, beq_iff_eq]
    constructor
    · rintro (⟨j, h1, h2⟩ | h)
      · exact ⟨j, by omega, h2⟩
      · exact ⟨k, by omega, h.symm⟩
    · rintro ⟨j, h1, h2⟩
      by_cases e : j = k
      · exact Or.inr (by rw [← h2, e])
      · exact Or.inl ⟨j, by omega, h2⟩
theorem pv_ct {P : Nat → Nat} {n : Nat} : ∀ k, (∀ j, j < k → P j < n) → (∀ i j, j < i → i < k → P j ≠ P i) → fb_ct (pvB P k) n = k
  | 0, _, _ => fb_ct_zero.mpr (fun _ _ => rfl)
  | k + 1, h1, h2 => by
    have ih := pv_ct (P := P) (n := n) k (fun j hj => h1 j (by omega)) (fun i j hj hi => h2 i j hj (by omega))
    have e : fb_ct (pvB P (k + 1)) n = fb_ct (fun p => if p = P k then true else pvB P k p) n := fb_ct_cong (fun p _ => by
      show (pvB P k p || p == P k) = _
      by_cases z : p = P k
      · rw [if_pos z]
        simp [z]
      · rw [if_neg z]
        simp [z])
    have u := fb_ct_upd (pvB P k) true (h1 k (Nat.lt_succ_self k))
    have f : pvB P k (P k) = false := by
      cases g : pvB P k (P k) with
      | false => rfl
      | true =>
        obtain ⟨j, j1, j2⟩ := (pvB_iff k).mp g
        exact absurd j2 (h2 k j j1 (Nat.lt_succ_self k))
    rw [f, ih] at u
    rw [e]
    simpa using u
theorem BV_ct {q n : Nat} {B : zB4} (hB : BV q n B) : fb_ct (pvB B.2.2.2 B.1) n = B.1 := pv_ct B.1 (fun j hj => (hB j hj).1) (fun i j hj hi e => by
  have b1 := (hB i hi).2.2.2.1
  have b2 := (hB i hi).2.2.2.2.1 j hj
  rw [e, b1] at b2
  exact absurd b2 (by decide))
theorem BV_le {q n : Nat} {B : zB4} (hB : BV q n B) : B.1 ≤ n := by
  have := BV_ct hB
  have := fb_ct_le (pvB B.2.2.2 B.1) n
  omega
/-- as many as there are places: nothing is left of any form -/
theorem BV_full {q n : Nat} (hq : q = 2 ∨ q = 3) (hn : n ≤ 9) {B : zB4} (hB : BV q n B) (h : B.1 = n) {a : Nat → Nat} (ha : ∀ p, p < 9 → a p < q) (hz : ∀ p, n ≤ p → p < 9 → a p = 0) : zB (rest q B a) = true := by
  have pv := rd_piv hq hn hB ha hz B.1 (Nat.le_refl _)
  have ct := BV_ct hB
  have al := fb_ct_all.mp (ct.trans h)
  refine zB_iff.mpr (fun p hp => ?_)
  rcases Nat.lt_or_ge p n with g | g
  · obtain ⟨j, j1, j2⟩ := (pvB_iff B.1).mp (al p g)
    rw [← j2]
    exact pv.1 j j1
  · exact pv.2 p g hp
theorem bk_not {q n : Nat} (hq : q = 2 ∨ q = 3) (hn : n ≤ 9) {B : zB4} (hB : BV q n B) {a : Nat → Nat} (ha : ∀ p, p < 9 → a p < q) (hz : ∀ p, n ≤ p → p < 9 → a p = 0) : bkB q B a = true ↔ ¬ zB (rest q B a) = true := by
  unfold bkB
  rw [Bool.and_eq_true, Bool.not_eq_true', decide_eq_true_iff]
  constructor
  · intro h
    rw [h.1]
    decide
  · intro h
    refine ⟨by simpa using h, ?_⟩
    have l := BV_le hB
    rcases Nat.lt_or_ge B.1 n with g | g
    · omega
    · exact absurd (BV_full hq hn hB (by omega) ha hz) h
theorem ra_congr {wi : Nat → Nat → Int32} {o f : Nat} {a b : Nat → Nat} (h : RA wi o f a) (e : ∀ p, p < 9 → a p = b p) : RA wi o f b := fun p hp => by rw [← e p hp]; exact h p hp

