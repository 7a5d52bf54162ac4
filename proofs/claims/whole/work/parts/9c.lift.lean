/-! the equations of a scheme, by rows -/
def wU (d : Nat → Nat) : Nat := pl d 0 + pl d 1 + pl d 2
def bf (d : Nat → Nat) (t : Nat) : Nat := if t = 0 then 0 else if t = 1 then pl d 0 else pl d 0 + pl d 1
def uk (d : Nat → Nat) (i t p : Nat) : Nat := i * wU d + bf d t + p
def vfl (b : Bool) (v : zV) (e : Nat) : zV := fun x => v x ^^ (b && x == e)
def rwT (d : Nat → Nat) (A : Nat → Nat → Nat) (x y z : Nat) : Nat → zV
  | 0 => fun _ => false
  | i + 1 => vfl (A (3 * i) x * A (3 * i + 1) y == 1) (vfl (A (3 * i) x * A (3 * i + 2) z == 1) (vfl (A (3 * i + 1) y * A (3 * i + 2) z == 1) (rwT d A x y z i) (uk d i 0 x)) (uk d i 1 y)) (uk d i 2 z)
def rwV (d : Nat → Nat) (A : Nat → Nat → Nat) (c x y z : Nat) : zV := vfl (rhB d A c x y z) (rwT d A x y z c) (ukN d c)
def rwE (d : Nat → Nat) (A : Nat → Nat → Nat) (c e : Nat) : zV := rwV d A c (e / (pl d 1 * pl d 2)) (e / pl d 2 % pl d 1) (e % pl d 2)
theorem bf_lt {d : Nat → Nat} {t p : Nat} (ht : t < 3) (hp : p < pl d t) : bf d t + p < wU d := by
  unfold bf wU
  rcases lt3 ht with rfl | rfl | rfl
  · rw [if_pos rfl]
    omega
  · rw [if_neg (by decide), if_pos rfl]
    omega
  · rw [if_neg (by decide), if_neg (by decide)]
    omega
theorem bf_inj {d : Nat → Nat} {t p s x : Nat} (ht : t < 3) (hp : p < pl d t) (hs : s < 3) (hx : x < pl d s) : bf d t + p = bf d s + x ↔ t = s ∧ p = x := by
  constructor
  · intro h
    unfold bf at h
    rcases lt3 ht with rfl | rfl | rfl <;> rcases lt3 hs with rfl | rfl | rfl <;> simp at h <;> first | exact ⟨rfl, by omega⟩ | omega
  · rintro ⟨rfl, rfl⟩
    rfl
theorem uk_inj {d : Nat → Nat} {i t p n s x : Nat} (ht : t < 3) (hp : p < pl d t) (hs : s < 3) (hx : x < pl d s) : uk d i t p = uk d n s x ↔ i = n ∧ t = s ∧ p = x := by
  unfold uk
  rw [Nat.add_assoc, Nat.add_assoc, dm_inj (bf_lt ht hp) (bf_lt hs hx), bf_inj ht hp hs hx]
theorem uk_lt {d : Nat → Nat} {i t p n : Nat} (ht : t < 3) (hp : p < pl d t) (hi : i < n) : uk d i t p < n * wU d := by
  have b := bf_lt ht hp
  have k : (i + 1) * wU d ≤ n * wU d := Nat.mul_le_mul_right _ hi
  rw [Nat.add_mul, Nat.one_mul] at k
  unfold uk
  omega
theorem uk_of {d : Nat → Nat} {c u : Nat} (h : u < c * wU d) : ∃ i t p, i < c ∧ t < 3 ∧ p < pl d t ∧ u = uk d i t p := by
  have w0 : 0 < wU d := by
    rcases Nat.eq_zero_or_pos (wU d) with g | g
    · rw [g, Nat.mul_zero] at h
      omega
    · exact g
  have hi : u / wU d < c := dv_lt h
  have hr : u % wU d < wU d := Nat.mod_lt _ w0
  have e := dm_eta (n := wU d) u
  have ww : wU d = pl d 0 + pl d 1 + pl d 2 := rfl
  rcases Nat.lt_or_ge (u % wU d) (pl d 0) with g | g
  · exact ⟨u / wU d, 0, u % wU d, hi, by decide, g, by show u = _ + 0 + _; omega⟩
  · rcases Nat.lt_or_ge (u % wU d) (pl d 0 + pl d 1) with g2 | g2
    · exact ⟨u / wU d, 1, u % wU d - pl d 0, hi, by decide, by omega, by show u = _ + pl d 0 + _; omega⟩
    · exact ⟨u / wU d, 2, u % wU d - (pl d 0 + pl d 1), hi, by decide, by omega, by show u = _ + (pl d 0 + pl d 1) + _; omega⟩
def cell (A : Nat → Nat → Nat) (x y z i t p : Nat) : Bool := if t = 0 then (p == x && A (3 * i + 1) y * A (3 * i + 2) z == 1) else if t = 1 then (p == y && A (3 * i) x * A (3 * i + 2) z == 1) else (p == z && A (3 * i) x * A (3 * i + 1) y == 1)
theorem rwT_far {d : Nat → Nat} {A : Nat → Nat → Nat} {x y z : Nat} (hx : x < pl d 0) (hy : y < pl d 1) (hz : z < pl d 2) : ∀ n u, n * wU d ≤ u → rwT d A x y z n u = false
  | 0, _, _ => rfl
  | n + 1, u, hu => by
    have k := hu
    rw [Nat.add_mul, Nat.one_mul] at k
    have l0 := uk_lt (n := n + 1) (d := d) (t := 0) (by decide) hx (Nat.lt_succ_self n)
    have l1 := uk_lt (n := n + 1) (d := d) (t := 1) (by decide) hy (Nat.lt_succ_self n)
    have l2 := uk_lt (n := n + 1) (d := d) (t := 2) (by decide) hz (Nat.lt_succ_self n)
    have ih := rwT_far (A := A) hx hy hz n u (by omega)
    unfold rwT vfl
    rw [ih, show (u == uk d n 0 x) = false by simp; omega, show (u == uk d n 1 y) = false by simp; omega, show (u == uk d n 2 z) = false by simp; omega]
    simp
theorem rwT_at {d : Nat → Nat} {A : Nat → Nat → Nat} {x y z : Nat} (hx : x < pl d 0) (hy : y < pl d 1) (hz : z < pl d 2) {i t p : Nat} (ht : t < 3) (hp : p < pl d t) : ∀ n, rwT d A x y z n (uk d i t p) = (decide (i < n) && cell A x y z i t p)
  | 0 => by
    rw [decide_eq_false (Nat.not_lt_zero i)]
    rfl
  | n + 1 => by
    have ih := rwT_at (A := A) (i := i) hx hy hz ht hp n
    have b0 : (uk d i t p == uk d n 0 x) = (decide (i = n) && (decide (t = 0) && p == x)) := by
      rw [Bool.eq_iff_iff]
      simp [uk_inj ht hp (show 0 < 3 by decide) hx]
    have b1 : (uk d i t p == uk d n 1 y) = (decide (i = n) && (decide (t = 1) && p == y)) := by
      rw [Bool.eq_iff_iff]
      simp [uk_inj ht hp (show 1 < 3 by decide) hy]
    have b2 : (uk d i t p == uk d n 2 z) = (decide (i = n) && (decide (t = 2) && p == z)) := by
      rw [Bool.eq_iff_iff]
      simp [uk_inj ht hp (show 2 < 3 by decide) hz]
    unfold rwT vfl
    rw [ih, b0, b1, b2]
    by_cases e : i = n
    · subst e
      rw [decide_eq_false (Nat.lt_irrefl i), decide_eq_true (Nat.lt_succ_self i)]
      unfold cell
      rcases lt3 ht with rfl | rfl | rfl
      · simp
        exact Bool.and_comm _ _
      · simp
        exact Bool.and_comm _ _
      · simp
        exact Bool.and_comm _ _
    · rw [decide_eq_false e, show decide (i < n + 1) = decide (i < n) from decide_eq_decide.mpr (by omega)]
      simp
/-- the equation of three places -/
def ei (d : Nat → Nat) (x y z : Nat) : Nat := x * sd d 0 + y * sd d 1 + z * sd d 2
theorem ei_e (d : Nat → Nat) (x y z : Nat) : ei d x y z = (x * pl d 1 + y) * pl d 2 + z := by
  show x * (pl d 1 * pl d 2) + y * pl d 2 + z * 1 = _
  rw [Nat.add_mul, Nat.mul_assoc, Nat.mul_one]
theorem ei_inj {d : Nat → Nat} {x y z x' y' z' : Nat} (hy : y < pl d 1) (hz : z < pl d 2) (hy' : y' < pl d 1) (hz' : z' < pl d 2) : ei d x y z = ei d x' y' z' ↔ x = x' ∧ y = y' ∧ z = z' := by
  rw [ei_e, ei_e, dm_inj hz hz', dm_inj hy hy']
  constructor
  · rintro ⟨⟨a, b⟩, c⟩
    exact ⟨a, b, c⟩
  · rintro ⟨a, b, c⟩
    exact ⟨⟨a, b⟩, c⟩
theorem ei_lt {d : Nat → Nat} {x y z : Nat} (hx : x < pl d 0) (hy : y < pl d 1) (hz : z < pl d 2) : ei d x y z < eqN d := by
  rw [ei_e]
  have k1 : (x + 1) * pl d 1 ≤ pl d 0 * pl d 1 := Nat.mul_le_mul_right _ hx
  rw [Nat.add_mul, Nat.one_mul] at k1
  have k2 : (x * pl d 1 + y + 1) * pl d 2 ≤ pl d 0 * pl d 1 * pl d 2 := Nat.mul_le_mul_right _ (by omega)
  rw [Nat.add_mul, Nat.one_mul] at k2
  show _ < pl d 0 * pl d 1 * pl d 2
  omega
theorem ei_dec {d : Nat → Nat} {x y z : Nat} (hy : y < pl d 1) (hz : z < pl d 2) : ei d x y z / (pl d 1 * pl d 2) = x ∧ ei d x y z / pl d 2 % pl d 1 = y ∧ ei d x y z % pl d 2 = z := by
  rw [ei_e, dm_div hz, dm_mod hz, dm_mod hy]
  refine ⟨?_, rfl, rfl⟩
  rw [Nat.mul_comm (pl d 1), ← Nat.div_div_eq_div_mul, dm_div hz, dm_div hy]
theorem ei_of {d : Nat → Nat} {e : Nat} (h : e < eqN d) : ∃ x y z, x < pl d 0 ∧ y < pl d 1 ∧ z < pl d 2 ∧ e = ei d x y z := by
  have h : e < pl d 0 * pl d 1 * pl d 2 := h
  have p2 : 0 < pl d 2 := by
    rcases Nat.eq_zero_or_pos (pl d 2) with g | g
    · rw [g, Nat.mul_zero] at h
      omega
    · exact g
  have h1 := dv_lt h
  have p1 : 0 < pl d 1 := by
    rcases Nat.eq_zero_or_pos (pl d 1) with g | g
    · rw [g, Nat.mul_zero] at h1
      exact absurd h1 (Nat.not_lt_zero _)
    · exact g
  refine ⟨e / pl d 2 / pl d 1, e / pl d 2 % pl d 1, e % pl d 2, dv_lt h1, Nat.mod_lt _ p1, Nat.mod_lt _ p2, ?_⟩
  rw [ei_e, dm_eta, dm_eta]
theorem suZ_iff {d : Nat → Nat} {A : Nat → Nat → Nat} {i t p y e : Nat} {v : zV} : ∀ n, suZ d A i t p y v n e = true ↔ v e = true ∨ ∃ z, z < n ∧ A (3 * i + nx (nx t)) z ≠ 0 ∧ e = p * sd d t + y * sd d (nx t) + z * sd d (nx (nx t))
  | 0 => ⟨Or.inl, fun h => h.elim id (fun z => by
    obtain ⟨k, h1, _⟩ := z
    exact absurd h1 (Nat.not_lt_zero k))⟩
  | n + 1 => by
    have ih := suZ_iff (d := d) (A := A) (i := i) (t := t) (p := p) (y := y) (e := e) (v := v) n
    rw [suZ]
    by_cases g : A (3 * i + nx (nx t)) n ≠ 0
    · rw [if_pos g]
      show (suZ d A i t p y v n e || e == _) = true ↔ _
      rw [Bool.or_eq_true, ih, beq_iff_eq]
      constructor
      · rintro ((h | ⟨z, h1, h2⟩) | h)
        · exact Or.inl h
        · exact Or.inr ⟨z, by omega, h2⟩
        · exact Or.inr ⟨n, by omega, g, h⟩
      · rintro (h | ⟨z, h1, h2, h3⟩)
        · exact Or.inl (Or.inl h)
        · by_cases e2 : z = n
          · exact Or.inr (by rw [← e2]; exact h3)
          · exact Or.inl (Or.inr ⟨z, by omega, h2, h3⟩)
    · rw [if_neg g, ih]
      constructor
      · rintro (h | ⟨z, h1, h2⟩)
        · exact Or.inl h
        · exact Or.inr ⟨z, by omega, h2⟩
      · rintro (h | ⟨z, h1, h2, h3⟩)
        · exact Or.inl h
        · by_cases e2 : z = n
          · exact absurd (by rw [← e2]; exact h2) g
          · exact Or.inr ⟨z, by omega, h2, h3⟩
theorem suY_iff {d : Nat → Nat} {A : Nat → Nat → Nat} {i t p e : Nat} : ∀ n, suY d A i t p n e = true ↔ ∃ y, y < n ∧ A (3 * i + nx t) y ≠ 0 ∧ ∃ z, z < pl d (nx (nx t)) ∧ A (3 * i + nx (nx t)) z ≠ 0 ∧ e = p * sd d t + y * sd d (nx t) + z * sd d (nx (nx t))
  | 0 => ⟨fun h => (by cases h), fun z => (by
    obtain ⟨k, h1, _⟩ := z
    exact absurd h1 (Nat.not_lt_zero k))⟩
  | n + 1 => by
    have ih := suY_iff (d := d) (A := A) (i := i) (t := t) (p := p) (e := e) n
    rw [suY]
    by_cases g : A (3 * i + nx t) n ≠ 0
    · rw [if_pos g, suZ_iff, ih]
      constructor
      · rintro (⟨y, h1, h2⟩ | h)
        · exact ⟨y, by omega, h2⟩
        · exact ⟨n, by omega, g, h⟩
      · rintro ⟨y, h1, h2, h3⟩
        by_cases e2 : y = n
        · exact Or.inr (by rw [← e2]; exact h3)
        · exact Or.inl ⟨y, by omega, h2, h3⟩
    · rw [if_neg g, ih]
      constructor
      · rintro ⟨y, h1, h2⟩
        exact ⟨y, by omega, h2⟩
      · rintro ⟨y, h1, h2, h3⟩
        by_cases e2 : y = n
        · exact absurd (by rw [← e2]; exact h2) g
        · exact ⟨y, by omega, h2, h3⟩
theorem mul_1 {a b : Nat} (ha : a < 2) (hb : b < 2) : a * b = 1 ↔ a ≠ 0 ∧ b ≠ 0 := by
  rcases (show a = 0 ∨ a = 1 by omega) with rfl | rfl <;> rcases (show b = 0 ∨ b = 1 by omega) with rfl | rfl <;> decide
theorem suV_at {d : Nat → Nat} {A : Nat → Nat → Nat} {x y z i t p : Nat} (hd : ∀ t, t < 3 → 1 ≤ d t ∧ d t ≤ 3) (hA : ∀ s, s < 3 → ∀ p, p < 9 → A (3 * i + s) p < 2) (hx : x < pl d 0) (hy : y < pl d 1) (hz : z < pl d 2) (ht : t < 3) (hp : p < pl d t) : suV d A i t p (ei d x y z) = cell A x y z i t p := by
  have p0 := (pl_le hd (t := 0) (by decide)).2
  have p1 := (pl_le hd (t := 1) (by decide)).2
  have p2 := (pl_le hd (t := 2) (by decide)).2
  have a0 : A (3 * i) x < 2 := hA 0 (by decide) x (by omega)
  have a1 := hA 1 (by decide) y (by omega)
  have a2 := hA 2 (by decide) z (by omega)
  rw [Bool.eq_iff_iff]
  unfold suV
  rw [suY_iff]
  unfold cell
  rcases lt3 ht with rfl | rfl | rfl
  · rw [if_pos rfl, Bool.and_eq_true, beq_iff_eq, beq_iff_eq, mul_1 a1 a2]
    constructor
    · rintro ⟨y', h1, h2, z', h3, h4, h5⟩
      have h5 : ei d x y z = ei d p y' z' := h5
      obtain ⟨rfl, rfl, rfl⟩ := (ei_inj hy hz h1 h3).mp h5
      exact ⟨rfl, h2, h4⟩
    · rintro ⟨rfl, h2, h4⟩
      exact ⟨y, hy, h2, z, hz, h4, rfl⟩
  · rw [if_neg (by decide), if_pos rfl, Bool.and_eq_true, beq_iff_eq, beq_iff_eq, mul_1 a0 a2]
    constructor
    · rintro ⟨y', h1, h2, z', h3, h4, h5⟩
      have h5 : ei d x y z = ei d z' p y' := by
        rw [h5]
        show p * sd d 1 + y' * sd d 2 + z' * sd d 0 = z' * sd d 0 + p * sd d 1 + y' * sd d 2
        omega
      obtain ⟨rfl, rfl, rfl⟩ := (ei_inj hy hz hp h1).mp h5
      exact ⟨rfl, h4, h2⟩
    · rintro ⟨rfl, h2, h4⟩
      refine ⟨z, hz, h4, x, hx, h2, ?_⟩
      show x * sd d 0 + p * sd d 1 + z * sd d 2 = p * sd d 1 + z * sd d 2 + x * sd d 0
      omega
  · rw [if_neg (by decide), if_neg (by decide), Bool.and_eq_true, beq_iff_eq, beq_iff_eq, mul_1 a0 a1]
    constructor
    · rintro ⟨y', h1, h2, z', h3, h4, h5⟩
      have h5 : ei d x y z = ei d y' z' p := by
        rw [h5]
        show p * sd d 2 + y' * sd d 0 + z' * sd d 1 = y' * sd d 0 + z' * sd d 1 + p * sd d 2
        omega
      obtain ⟨rfl, rfl, rfl⟩ := (ei_inj hy hz h3 hp).mp h5
      exact ⟨rfl, h2, h4⟩
    · rintro ⟨rfl, h2, h4⟩
      refine ⟨x, hx, h2, y, hy, h4, ?_⟩
      show x * sd d 0 + y * sd d 1 + p * sd d 2 = p * sd d 2 + x * sd d 0 + y * sd d 1
      omega
theorem srZ_iff {d : Nat → Nat} {A : Nat → Nat → Nat} {c x y e : Nat} {v : zV} : ∀ n, srZ d A c x y v n e = true ↔ v e = true ∨ ∃ z, z < n ∧ rhB d A c x y z = true ∧ e = ei d x y z
  | 0 => ⟨Or.inl, fun h => h.elim id (fun z => by
    obtain ⟨k, h1, _⟩ := z
    exact absurd h1 (Nat.not_lt_zero k))⟩
  | n + 1 => by
    have ih := srZ_iff (d := d) (A := A) (c := c) (x := x) (y := y) (e := e) (v := v) n
    have ee : x * sd d 0 + y * sd d 1 + n = ei d x y n := by
      show _ = x * sd d 0 + y * sd d 1 + n * 1
      omega
    rw [srZ]
    by_cases g : rhB d A c x y n = true
    · rw [if_pos g]
      show (srZ d A c x y v n e || e == _) = true ↔ _
      rw [Bool.or_eq_true, ih, beq_iff_eq, ee]
      constructor
      · rintro ((h | ⟨z, h1, h2⟩) | h)
        · exact Or.inl h
        · exact Or.inr ⟨z, by omega, h2⟩
        · exact Or.inr ⟨n, by omega, g, h⟩
      · rintro (h | ⟨z, h1, h2, h3⟩)
        · exact Or.inl (Or.inl h)
        · by_cases e2 : z = n
          · exact Or.inr (by rw [← e2]; exact h3)
          · exact Or.inl (Or.inr ⟨z, by omega, h2, h3⟩)
    · rw [if_neg g, ih]
      constructor
      · rintro (h | ⟨z, h1, h2⟩)
        · exact Or.inl h
        · exact Or.inr ⟨z, by omega, h2⟩
      · rintro (h | ⟨z, h1, h2, h3⟩)
        · exact Or.inl h
        · by_cases e2 : z = n
          · exact absurd (by rw [← e2]; exact h2) g
          · exact Or.inr ⟨z, by omega, h2, h3⟩
theorem srY_iff {d : Nat → Nat} {A : Nat → Nat → Nat} {c x e : Nat} {v : zV} : ∀ n, srY d A c x v n e = true ↔ v e = true ∨ ∃ y, y < n ∧ ∃ z, z < pl d 2 ∧ rhB d A c x y z = true ∧ e = ei d x y z
  | 0 => ⟨Or.inl, fun h => h.elim id (fun z => by
    obtain ⟨k, h1, _⟩ := z
    exact absurd h1 (Nat.not_lt_zero k))⟩
  | n + 1 => by
    rw [srY, srZ_iff, srY_iff n]
    constructor
    · rintro ((h | ⟨y, h1, h2⟩) | h)
      · exact Or.inl h
      · exact Or.inr ⟨y, by omega, h2⟩
      · exact Or.inr ⟨n, by omega, h⟩
    · rintro (h | ⟨y, h1, h2⟩)
      · exact Or.inl (Or.inl h)
      · by_cases e2 : y = n
        · exact Or.inr (by rw [← e2]; exact h2)
        · exact Or.inl (Or.inr ⟨y, by omega, h2⟩)
theorem srX_iff {d : Nat → Nat} {A : Nat → Nat → Nat} {c e : Nat} : ∀ n, srX d A c n e = true ↔ ∃ x, x < n ∧ ∃ y, y < pl d 1 ∧ ∃ z, z < pl d 2 ∧ rhB d A c x y z = true ∧ e = ei d x y z
  | 0 => ⟨fun h => (by cases h), fun z => (by
    obtain ⟨k, h1, _⟩ := z
    exact absurd h1 (Nat.not_lt_zero k))⟩
  | n + 1 => by
    rw [srX, srY_iff, srX_iff n]
    constructor
    · rintro (⟨y, h1, h2⟩ | h)
      · exact ⟨y, by omega, h2⟩
      · exact ⟨n, by omega, h⟩
    · rintro ⟨y, h1, h2⟩
      by_cases e2 : y = n
      · exact Or.inr (by rw [← e2]; exact h2)
      · exact Or.inl ⟨y, by omega, h2⟩
theorem srX_at {d : Nat → Nat} {A : Nat → Nat → Nat} {c x y z : Nat} (hx : x < pl d 0) (hy : y < pl d 1) (hz : z < pl d 2) : srX d A c (pl d 0) (ei d x y z) = rhB d A c x y z := by
  rw [Bool.eq_iff_iff, srX_iff]
  constructor
  · rintro ⟨x', _, y', h2, z', h3, h4, h5⟩
    obtain ⟨rfl, rfl, rfl⟩ := (ei_inj hy hz h2 h3).mp h5
    exact h4
  · exact fun h => ⟨x, hx, y, hy, z, hz, h, rfl⟩
/-- the columns that the class takes -/
theorem liP_CI {E : Nat} (hE : E ≤ 729) {d : Nat → Nat} {A : Nat → Nat → Nat} {i t : Nat} {S : zLs} {C : zV → Prop} (h : CI E S C) : ∀ n, CI E (liP E d A i t S n) (fun u => C u ∨ ∃ p, p < n ∧ u = suV d A i t p)
  | 0 => CI_c h (fun v => ⟨Or.inl, fun z => z.elim id (fun k => by
    obtain ⟨p, h1, _⟩ := k
    exact absurd h1 (Nat.not_lt_zero p))⟩)
  | n + 1 => CI_c (CI_tk hE (liP_CI hE h n) (suV d A i t n)) (fun v => by
    constructor
    · rintro ((h | ⟨p, h1, h2⟩) | h)
      · exact Or.inl h
      · exact Or.inr ⟨p, by omega, h2⟩
      · exact Or.inr ⟨n, by omega, h⟩
    · rintro (h | ⟨p, h1, h2⟩)
      · exact Or.inl (Or.inl h)
      · by_cases e2 : p = n
        · exact Or.inr (by rw [← e2]; exact h2)
        · exact Or.inl (Or.inr ⟨p, by omega, h2⟩))
theorem liT_CI {E : Nat} (hE : E ≤ 729) {d : Nat → Nat} {A : Nat → Nat → Nat} {i : Nat} {S : zLs} {C : zV → Prop} (h : CI E S C) : ∀ n, CI E (liT E d A i S n) (fun u => C u ∨ ∃ t, t < n ∧ ∃ p, p < pl d t ∧ u = suV d A i t p)
  | 0 => CI_c h (fun v => ⟨Or.inl, fun z => z.elim id (fun k => by
    obtain ⟨p, h1, _⟩ := k
    exact absurd h1 (Nat.not_lt_zero p))⟩)
  | n + 1 => CI_c (liP_CI hE (liT_CI hE h n) (pl d n)) (fun v => by
    constructor
    · rintro ((h | ⟨p, h1, h2⟩) | h)
      · exact Or.inl h
      · exact Or.inr ⟨p, by omega, h2⟩
      · exact Or.inr ⟨n, by omega, h⟩
    · rintro (h | ⟨p, h1, h2⟩)
      · exact Or.inl (Or.inl h)
      · by_cases e2 : p = n
        · exact Or.inr (by rw [← e2]; exact h2)
        · exact Or.inl (Or.inr ⟨p, by omega, h2⟩))
theorem liI_CI {E : Nat} (hE : E ≤ 729) {d : Nat → Nat} {A : Nat → Nat → Nat} : ∀ n, CI E (liI E d A n) (fun u => ∃ i, i < n ∧ ∃ t, t < 3 ∧ ∃ p, p < pl d t ∧ u = suV d A i t p)
  | 0 => CI_c (CI_0 E) (fun v => ⟨fun z => z.elim, fun k => by
    obtain ⟨p, h1, _⟩ := k
    exact absurd h1 (Nat.not_lt_zero p)⟩)
  | n + 1 => CI_c (liT_CI hE (liI_CI hE n) 3) (fun v => by
    constructor
    · rintro (⟨p, h1, h2⟩ | h)
      · exact ⟨p, by omega, h2⟩
      · exact ⟨n, by omega, h⟩
    · rintro ⟨p, h1, h2⟩
      by_cases e2 : p = n
      · exact Or.inr (by rw [← e2]; exact h2)
      · exact Or.inl ⟨p, by omega, h2⟩)
/-- by rows and by columns: as many, and alike -/
theorem li_both {d : Nat → Nat} {A : Nat → Nat → Nat} {c : Nat} (hd : ∀ t, t < 3 → 1 ≤ d t ∧ d t ≤ 3) (hA : ∀ k, k < 3 * c → ∀ p, p < 9 → A k p < 2) : (stR (ukN d c) (rwE d A c) (eqN d)).1 = (liI (eqN d) d A c).2.2 ∧ okA (ukN d c) (rwE d A c) (eqN d) = liB d A c := by
  have hu : ukN d c = c * wU d := rfl
  have rE : ∀ x y z, x < pl d 0 → y < pl d 1 → z < pl d 2 → rwE d A c (ei d x y z) = rwV d A c x y z := fun x y z _ hy hz => by
    have k := ei_dec (x := x) hy hz
    unfold rwE
    rw [k.1, k.2.1, k.2.2]
  have val : ∀ i t p x y z, i < c → t < 3 → p < pl d t → x < pl d 0 → y < pl d 1 → z < pl d 2 → suV d A i t p (ei d x y z) = rwE d A c (ei d x y z) (uk d i t p) := fun i t p x y z hi ht hp hx hy hz => by
    rw [rE x y z hx hy hz, suV_at hd (fun s hs => hA _ (by omega)) hx hy hz ht hp]
    unfold rwV vfl
    have l := uk_lt ht hp hi
    rw [rwT_at hx hy hz ht hp c, decide_eq_true hi, show (uk d i t p == ukN d c) = false by simp; omega]
    simp
  have b := both (E := eqN d) (U := ukN d c) (eq_le hd) (liI_CI (eq_le hd) (d := d) (A := A) c) (r := rwE d A c) (b := srX d A c (pl d 0)) (fun u hu => by
    obtain ⟨i, t, p, h1, h2, h3, rfl⟩ := uk_of hu
    refine ⟨suV d A i t p, ⟨i, h1, t, h2, p, h3, rfl⟩, fun e he => ?_⟩
    obtain ⟨x, y, z, hx, hy, hz, rfl⟩ := ei_of he
    exact val i t p x y z h1 h2 h3 hx hy hz) (fun v hv => by
    obtain ⟨i, h1, t, h2, p, h3, rfl⟩ := hv
    refine ⟨uk d i t p, by rw [hu]; exact uk_lt h2 h3 h1, fun e he => ?_⟩
    obtain ⟨x, y, z, hx, hy, hz, rfl⟩ := ei_of he
    exact val i t p x y z h1 h2 h3 hx hy hz) (fun e he => by
    obtain ⟨x, y, z, hx, hy, hz, rfl⟩ := ei_of he
    rw [rE x y z hx hy hz, srX_at hx hy hz]
    unfold rwV vfl
    rw [rwT_far (d := d) (A := A) hx hy hz c (ukN d c) (Nat.le_refl _)]
    simp)
  refine ⟨b.1, ?_⟩
  rw [Bool.eq_iff_iff, b.2]
  unfold liB
  simp

