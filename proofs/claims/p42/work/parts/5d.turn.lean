/-! at how many places what is given is not what is needed -/
def wr (d : Nat → Nat) (q : Nat) (A : Nat → Nat → Nat) (c : Nat) : Nat := fb_ct (ckB d q A c) 729
def RT (d : Nat → Nat) (q : Nat) (A : Nat → Nat → Nat) (c : Nat) : Prop := ∀ x, x < pl d 0 → ∀ y, y < pl d 1 → ∀ z, z < pl d 2 → gvN A c x y z % q = ndN d x y z
def Dd (d : Nat → Nat) : Prop := ∀ t, t < 3 → 1 ≤ d t ∧ d t ≤ 3
theorem rt_RT {d : Nat → Nat} {q c : Nat} {A : Nat → Nat → Nat} : rtB d q A c = true ↔ RT d q A c := decide_eq_true_iff
theorem pl9 {d : Nat → Nat} (hd : Dd d) {t : Nat} (ht : t < 3) : pl d t ≤ 9 := by
  have h1 := (hd t ht).2
  have h2 := (hd ((t + 1) % 3) (mod3_lt _)).2
  exact Nat.mul_le_mul h1 h2
theorem wr_eqG {d : Nat → Nat} {q c c2 : Nat} {A B : Nat → Nat → Nat} (h : eqG q A c B c2) : wr d q A c = wr d q B c2 := fb_ct_cong (fun m hm => by
  unfold ckB
  have e : gvN A c (m / 81) (m / 9 % 9) (m % 9) % q = gvN B c2 (m / 81) (m / 9 % 9) (m % 9) % q := h (pt (m / 81) (m / 9 % 9) (m % 9)) (in9_pt (by omega) (by omega) (by omega))
  rw [e])
theorem uk_eqG {d : Nat → Nat} {q c c2 : Nat} {A B : Nat → Nat → Nat} (h : eqG q A c B c2) : fb_ct (ukB d q A c B c2) 729 = 0 := fb_ct_zero.mpr (fun m hm => by
  unfold ukB
  have e : gvN A c (m / 81) (m / 9 % 9) (m % 9) % q = gvN B c2 (m / 81) (m / 9 % 9) (m % 9) % q := h (pt (m / 81) (m / 9 % 9) (m % 9)) (in9_pt (by omega) (by omega) (by omega))
  rw [e]
  simp)
theorem wr_RT {d : Nat → Nat} {q c : Nat} {A : Nat → Nat → Nat} (hd : Dd d) : wr d q A c = 0 ↔ RT d q A c := by
  have p0 := pl9 hd (show 0 < 3 by decide)
  have p1 := pl9 hd (show 1 < 3 by decide)
  have p2 := pl9 hd (show 2 < 3 by decide)
  unfold wr
  rw [fb_ct_zero]
  constructor
  · intro h x hx y hy z hz
    have h1 := h (x * 81 + y * 9 + z) (by omega)
    rw [ck_at (by omega) (by omega)] at h1
    simpa [hx, hy, hz] using h1
  · intro h m hm
    unfold ckB
    by_cases hx : m / 81 < pl d 0
    · by_cases hy : m / 9 % 9 < pl d 1
      · by_cases hz : m % 9 < pl d 2
        · rw [h _ hx _ hy _ hz]
          simp
        · simp [hz]
      · simp [hy]
    · simp [hx]
/-! counting in another order -/
theorem sm_swap (f : Nat → Nat → Nat) (m : Nat) : ∀ n, fb_sm (fun i => fb_sm (fun j => f i j) m) n = fb_sm (fun j => fb_sm (fun i => f i j) n) m
  | 0 => by
    show 0 = fb_sm (fun j => 0) m
    rw [fb_sm_const]
    rfl
  | n + 1 => by
    rw [fb_sm_succ, sm_swap f m n, ← fb_sm_add]
    rfl
theorem sm_at {i n v : Nat} (hi : i < n) : fb_sm (fun k => if k = i then v else 0) n = v := by
  have h := fb_sm_upd (fun _ => 0) v hi
  rw [fb_sm_const] at h
  omega
theorem ct_perm {f : Nat → Bool} {u v : Nat → Nat} {n : Nat} (h1 : ∀ k, k < n → u k < n) (h2 : ∀ k, k < n → v k < n) (h3 : ∀ k, k < n → v (u k) = k) (h4 : ∀ k, k < n → u (v k) = k) : fb_ct (fun k => f (u k)) n = fb_ct f n := by
  rw [ct_sm, ct_sm]
  have e1 : fb_sm (fun k => if f (u k) = true then 1 else 0) n = fb_sm (fun k => fb_sm (fun i => if i = u k then (if f i = true then 1 else 0) else 0) n) n := fb_sm_cong (fun k hk => by
    have h := sm_at (i := u k) (n := n) (v := if f (u k) = true then 1 else 0) (h1 k hk)
    rw [← h]
    refine fb_sm_cong (fun i _ => ?_)
    by_cases e : i = u k
    · rw [if_pos e, if_pos e, e]
    · rw [if_neg e, if_neg e])
  rw [e1, sm_swap]
  refine fb_sm_cong (fun i hi => ?_)
  refine Eq.trans (fb_sm_cong (fun k hk => ?_)) (sm_at (i := v i) (n := n) (v := if f i = true then 1 else 0) (h2 i hi))
  by_cases e : k = v i
  · rw [if_pos e, e, h4 i hi, if_pos rfl]
  · rw [if_neg e, if_neg (fun q => e (by rw [q, h3 k hk]))]
theorem dg {a b e : Nat} (hb : b < 9) (he : e < 9) : (a * 81 + b * 9 + e) / 81 = a ∧ (a * 81 + b * 9 + e) / 9 % 9 = b ∧ (a * 81 + b * 9 + e) % 9 = e := by
  refine ⟨by omega, by omega, by omega⟩
theorem dg_of (m : Nat) : m / 81 * 81 + m / 9 % 9 * 9 + m % 9 = m := by omega
/-! turned round -/
theorem rl_gv {A : Nat → Nat → Nat} {c x y z : Nat} : gvN (rlA A) c x y z = gvN A c z x y := fb_sm_cong (fun i _ => by
  have e0 := rl_at A i (t := 0) (by decide)
  have e1 := rl_at A i (t := 1) (by decide)
  have e2 := rl_at A i (t := 2) (by decide)
  rw [show rlA A (3 * i) = A (3 * i + 1) from e0, e1, e2]
  show A (3 * i + 1) x * A (3 * i + 2) y * A (3 * i + 0) z = A (3 * i) z * A (3 * i + 1) x * A (3 * i + 2) y
  rw [Nat.add_zero]
  ac_rfl)
theorem rl_nd {d : Nat → Nat} {x y z : Nat} : ndN (nxD d) x y z = ndN d z x y := by
  unfold ndN
  have e : ndB (nxD d) x y z = ndB d z x y := by
    show (x % d 2 == y / d 0 && y % d 0 == z / d 1 && z % d 1 == x / d 2) = (z % d 1 == x / d 2 && x % d 2 == y / d 0 && y % d 0 == z / d 1)
    ac_rfl
  rw [e]
theorem rl_wr {d : Nat → Nat} {q c : Nat} {A : Nat → Nat → Nat} : wr (nxD d) q (rlA A) c = wr d q A c := by
  unfold wr
  rw [← ct_perm (f := ckB d q A c) (u := fun m => (m % 9) * 81 + (m / 81) * 9 + m / 9 % 9) (v := fun m => (m / 9 % 9) * 81 + (m % 9) * 9 + m / 81) (n := 729) (fun k hk => by omega) (fun k hk => by omega)
    (fun k hk => by
      have h := dg (a := k % 9) (b := k / 81) (e := k / 9 % 9) (by omega) (by omega)
      rw [h.1, h.2.1, h.2.2]
      exact dg_of k)
    (fun k hk => by
      have h := dg (a := k / 9 % 9) (b := k % 9) (e := k / 81) (by omega) (by omega)
      rw [h.1, h.2.1, h.2.2]
      exact dg_of k)]
  refine fb_ct_cong (fun m hm => ?_)
  rw [ck_at (by omega) (by omega)]
  unfold ckB
  rw [rl_gv, rl_nd]
  show (decide (m / 81 < pl d 1) && decide (m / 9 % 9 < pl d 2) && decide (m % 9 < pl d 0) && _) = _
  ac_rfl
theorem rl_bd {q c : Nat} {A : Nat → Nat → Nat} (h : Bd q c A) : Bd q c (rlA A) := fun k hk p hp => by
  have := nx_lt (k % 3)
  exact h _ (by omega) p hp
/-! mirrored -/
def trp (R C p : Nat) : Nat := if p < R * C then (p % R) * C + p / R else p
def trQ (R C p : Nat) : Prop := trp C R (trp R C p) = p ∧ trp R C p < 9 ∧ (p < R * C → trp R C p < C * R ∧ trp R C p % C = p / R ∧ trp R C p / C = p % R) ∧ (¬ p < R * C → ¬ trp R C p < C * R)
theorem trp_all : al 4 (fun R => al 4 (fun C => R == 0 || (C == 0 || al 9 (fun p => (trp C R (trp R C p) == p && Nat.blt (trp R C p) 9) && ((!Nat.blt p (R * C) || (Nat.blt (trp R C p) (C * R) && (trp R C p % C == p / R && trp R C p / C == p % R))) && (Nat.blt p (R * C) || !Nat.blt (trp R C p) (C * R))))))) = true := by decide +kernel
theorem trp_ok (R : Nat) (hR : R < 4) (C : Nat) (hC : C < 4) (hR1 : 1 ≤ R) (hC1 : 1 ≤ C) (p : Nat) (hp : p < 9) : trQ R C p := by
  have h := al_ok (al_ok trp_all hR) hC
  rw [Bool.or_eq_true, Bool.or_eq_true] at h
  rcases h with h | h | h
  · have := eq_of_beq h; omega
  · have := eq_of_beq h; omega
  · have h := al_ok h hp
    simp only [Bool.and_eq_true, Bool.or_eq_true, Bool.not_eq_true', Nat.blt_eq, beq_iff_eq] at h
    obtain ⟨⟨a, b⟩, e, g⟩ := h
    refine ⟨a, b, fun k => ?_, fun k k2 => ?_⟩
    · rcases e with e | e
      · have : Nat.blt p (R * C) = true := Nat.blt_eq.mpr k
        rw [e] at this
        cases this
      · exact e
    · rcases g with g | g
      · exact k g
      · have : Nat.blt (trp R C p) (C * R) = true := Nat.blt_eq.mpr k2
        rw [g] at this
        cases this
theorem tr_at {a : Nat → Nat} {R C p : Nat} (hR : R < 4) (hC : C < 4) (hR1 : 1 ≤ R) (hC1 : 1 ≤ C) (hp : p < R * C) : trF a R C p = a (trp R C p) := by
  have hp9 : p < 9 := by
    have : R * C ≤ 3 * 3 := Nat.mul_le_mul (by omega) (by omega)
    omega
  have h9 : p = 0 ∨ p = 1 ∨ p = 2 ∨ p = 3 ∨ p = 4 ∨ p = 5 ∨ p = 6 ∨ p = 7 ∨ p = 8 := by omega
  rcases (show R = 1 ∨ R = 2 ∨ R = 3 by omega) with rfl | rfl | rfl <;> rcases (show C = 1 ∨ C = 2 ∨ C = 3 by omega) with rfl | rfl | rfl <;> rcases h9 with rfl | rfl | rfl | rfl | rfl | rfl | rfl | rfl | rfl <;> first | rfl | exact absurd hp (by decide)
section
variable {d : Nat → Nat} {q c : Nat} {A : Nat → Nat → Nat}
theorem mr_gv (hd : Dd d) {x y z : Nat} (hx : x < pl (mrD d) 0) (hy : y < pl (mrD d) 1) (hz : z < pl (mrD d) 2) : gvN (mrA d A) c x y z = gvN A c (trp (d 0) (d 1) z) (trp (d 1) (d 2) y) (trp (d 2) (d 0) x) := by
  have h0 := hd 0 (by decide)
  have h1 := hd 1 (by decide)
  have h2 := hd 2 (by decide)
  have hx : x < d 0 * d 2 := hx
  have hy : y < d 2 * d 1 := hy
  have hz : z < d 1 * d 0 := hz
  refine fb_sm_cong (fun i _ => ?_)
  have e0 := mr_at d A i (t := 0) (by decide)
  have e1 := mr_at d A i (t := 1) (by decide)
  have e2 := mr_at d A i (t := 2) (by decide)
  have e0 : mrA d A (3 * i) = trF (A (3 * i + 2)) (d 2) (d 0) := e0
  have e1 : mrA d A (3 * i + 1) = trF (A (3 * i + 1)) (d 1) (d 2) := e1
  have e2 : mrA d A (3 * i + 2) = trF (A (3 * i)) (d 0) (d 1) := e2
  rw [e0, e1, e2, tr_at (by omega) (by omega) h2.1 h0.1 (by rw [Nat.mul_comm]; exact hx), tr_at (by omega) (by omega) h1.1 h2.1 (by rw [Nat.mul_comm]; exact hy), tr_at (by omega) (by omega) h0.1 h1.1 (by rw [Nat.mul_comm]; exact hz)]
  ac_rfl
theorem mr_nd (hd : Dd d) {x y z : Nat} (hx : x < pl (mrD d) 0) (hy : y < pl (mrD d) 1) (hz : z < pl (mrD d) 2) (h9 : x < 9 ∧ y < 9 ∧ z < 9) : ndN (mrD d) x y z = ndN d (trp (d 0) (d 1) z) (trp (d 1) (d 2) y) (trp (d 2) (d 0) x) := by
  have h0 := hd 0 (by decide)
  have h1 := hd 1 (by decide)
  have h2 := hd 2 (by decide)
  have hx : x < d 0 * d 2 := hx
  have hy : y < d 2 * d 1 := hy
  have hz : z < d 1 * d 0 := hz
  have tx := ((trp_ok (d 2) (by omega) (d 0) (by omega) h2.1 h0.1 x h9.1).2.2.1 (by rw [Nat.mul_comm]; exact hx)).2
  have ty := ((trp_ok (d 1) (by omega) (d 2) (by omega) h1.1 h2.1 y h9.2.1).2.2.1 (by rw [Nat.mul_comm]; exact hy)).2
  have tz := ((trp_ok (d 0) (by omega) (d 1) (by omega) h0.1 h1.1 z h9.2.2).2.2.1 (by rw [Nat.mul_comm]; exact hz)).2
  unfold ndN
  have e : ndB (mrD d) x y z = ndB d (trp (d 0) (d 1) z) (trp (d 1) (d 2) y) (trp (d 2) (d 0) x) := by
    show (x % d 2 == y / d 1 && y % d 1 == z / d 0 && z % d 0 == x / d 2) = (trp (d 0) (d 1) z % d 1 == trp (d 1) (d 2) y / d 2 && trp (d 1) (d 2) y % d 2 == trp (d 2) (d 0) x / d 0 && trp (d 2) (d 0) x % d 0 == trp (d 0) (d 1) z / d 1)
    rw [tx.1, tx.2, ty.1, ty.2, tz.1, tz.2, Bool.eq_iff_iff]
    simp only [Bool.and_eq_true, beq_iff_eq]
    constructor
    · rintro ⟨⟨a, b⟩, e⟩; exact ⟨⟨b.symm, a.symm⟩, e.symm⟩
    · rintro ⟨⟨a, b⟩, e⟩; exact ⟨⟨b.symm, a.symm⟩, e.symm⟩
  rw [e]
theorem mr_wr (hd : Dd d) : wr (mrD d) q (mrA d A) c = wr d q A c := by
  have h0 := hd 0 (by decide)
  have h1 := hd 1 (by decide)
  have h2 := hd 2 (by decide)
  have t20 := trp_ok (d 2) (by omega) (d 0) (by omega) h2.1 h0.1
  have t02 := trp_ok (d 0) (by omega) (d 2) (by omega) h0.1 h2.1
  have t12 := trp_ok (d 1) (by omega) (d 2) (by omega) h1.1 h2.1
  have t21 := trp_ok (d 2) (by omega) (d 1) (by omega) h2.1 h1.1
  have t01 := trp_ok (d 0) (by omega) (d 1) (by omega) h0.1 h1.1
  have t10 := trp_ok (d 1) (by omega) (d 0) (by omega) h1.1 h0.1
  unfold wr
  rw [← ct_perm (f := ckB d q A c) (u := fun m => trp (d 0) (d 1) (m % 9) * 81 + trp (d 1) (d 2) (m / 9 % 9) * 9 + trp (d 2) (d 0) (m / 81)) (v := fun m => trp (d 0) (d 2) (m % 9) * 81 + trp (d 2) (d 1) (m / 9 % 9) * 9 + trp (d 1) (d 0) (m / 81)) (n := 729)
    (fun k hk => by
      have a1 := (t01 (k % 9) (by omega)).2.1
      have a2 := (t12 (k / 9 % 9) (by omega)).2.1
      have a3 := (t20 (k / 81) (by omega)).2.1
      omega)
    (fun k hk => by
      have a1 := (t02 (k % 9) (by omega)).2.1
      have a2 := (t21 (k / 9 % 9) (by omega)).2.1
      have a3 := (t10 (k / 81) (by omega)).2.1
      omega)
    (fun k hk => by
      have a1 := t01 (k % 9) (by omega)
      have a2 := t12 (k / 9 % 9) (by omega)
      have a3 := t20 (k / 81) (by omega)
      have b1 := a1.2.1
      have b2 := a2.2.1
      have b3 := a3.2.1
      rw [show (trp (d 0) (d 1) (k % 9) * 81 + trp (d 1) (d 2) (k / 9 % 9) * 9 + trp (d 2) (d 0) (k / 81)) % 9 = trp (d 2) (d 0) (k / 81) by omega, show (trp (d 0) (d 1) (k % 9) * 81 + trp (d 1) (d 2) (k / 9 % 9) * 9 + trp (d 2) (d 0) (k / 81)) / 9 % 9 = trp (d 1) (d 2) (k / 9 % 9) by omega, show (trp (d 0) (d 1) (k % 9) * 81 + trp (d 1) (d 2) (k / 9 % 9) * 9 + trp (d 2) (d 0) (k / 81)) / 81 = trp (d 0) (d 1) (k % 9) by omega, a1.1, a2.1, a3.1]
      omega)
    (fun k hk => by
      have a1 := t02 (k % 9) (by omega)
      have a2 := t21 (k / 9 % 9) (by omega)
      have a3 := t10 (k / 81) (by omega)
      have b1 := a1.2.1
      have b2 := a2.2.1
      have b3 := a3.2.1
      rw [show (trp (d 0) (d 2) (k % 9) * 81 + trp (d 2) (d 1) (k / 9 % 9) * 9 + trp (d 1) (d 0) (k / 81)) % 9 = trp (d 1) (d 0) (k / 81) by omega, show (trp (d 0) (d 2) (k % 9) * 81 + trp (d 2) (d 1) (k / 9 % 9) * 9 + trp (d 1) (d 0) (k / 81)) / 9 % 9 = trp (d 2) (d 1) (k / 9 % 9) by omega, show (trp (d 0) (d 2) (k % 9) * 81 + trp (d 2) (d 1) (k / 9 % 9) * 9 + trp (d 1) (d 0) (k / 81)) / 81 = trp (d 0) (d 2) (k % 9) by omega, a1.1, a2.1, a3.1]
      omega)]
  refine fb_ct_cong (fun m hm => ?_)
  have a1 := t01 (m % 9) (by omega)
  have a2 := t12 (m / 9 % 9) (by omega)
  have a3 := t20 (m / 81) (by omega)
  rw [ck_at a2.2.1 a3.2.1]
  unfold ckB
  have c0 : pl (mrD d) 0 = d 2 * d 0 := Nat.mul_comm _ _
  have c1 : pl (mrD d) 1 = d 1 * d 2 := Nat.mul_comm _ _
  have c2 : pl (mrD d) 2 = d 0 * d 1 := Nat.mul_comm _ _
  have g0 : pl d 0 = d 1 * d 0 := Nat.mul_comm _ _
  have g1 : pl d 1 = d 2 * d 1 := Nat.mul_comm _ _
  have g2 : pl d 2 = d 0 * d 2 := Nat.mul_comm _ _
  by_cases hx : m / 81 < pl (mrD d) 0
  · by_cases hy : m / 9 % 9 < pl (mrD d) 1
    · by_cases hz : m % 9 < pl (mrD d) 2
      · rw [mr_gv hd hx hy hz, mr_nd hd hx hy hz ⟨by omega, by omega, by omega⟩]
        rw [c0] at hx
        rw [c1] at hy
        rw [c2] at hz
        have k1 := (a1.2.2.1 hz).1
        have k2 := (a2.2.2.1 hy).1
        have k3 := (a3.2.2.1 hx).1
        rw [c0, c1, c2, g0, g1, g2]
        simp [hx, hy, hz, k1, k2, k3]
      · rw [c2] at hz
        have k1 := a1.2.2.2 hz
        rw [c2, g0]
        simp [hz, k1]
    · rw [c1] at hy
      have k2 := a2.2.2.2 hy
      rw [c1, g1]
      simp [hy, k2]
  · rw [c0] at hx
    have k3 := a3.2.2.2 hx
    rw [c0, g2]
    simp [hx, k3]
theorem mrD2 (d : Nat → Nat) : mrD (mrD d) = d := by
  funext t
  unfold mrD
  by_cases h1 : t = 1
  · subst h1; rfl
  · by_cases h2 : t = 2
    · subst h2; rfl
    · simp [h1, h2]
theorem mrD_d (hd : Dd d) : Dd (mrD d) := fun t ht => by
  rcases (show t = 0 ∨ t = 1 ∨ t = 2 by omega) with rfl | rfl | rfl
  · exact hd 0 (by decide)
  · exact hd 2 (by decide)
  · exact hd 1 (by decide)
/-- mirrored twice: what there was -/
theorem mr2_uk (hd : Dd d) : fb_ct (ukB (mrD (mrD d)) q (mrA (mrD d) (mrA d A)) c A c) 729 = 0 := by
  have hd2 := mrD_d hd
  refine fb_ct_zero.mpr (fun m hm => ?_)
  unfold ukB
  rw [mrD2]
  by_cases hx : m / 81 < pl d 0
  · by_cases hy : m / 9 % 9 < pl d 1
    · by_cases hz : m % 9 < pl d 2
      · have h0 := hd 0 (by decide)
        have h1 := hd 1 (by decide)
        have h2 := hd 2 (by decide)
        have a1 := trp_ok (d 0) (by omega) (d 2) (by omega) h0.1 h2.1 (m % 9) (by omega)
        have a2 := trp_ok (d 2) (by omega) (d 1) (by omega) h2.1 h1.1 (m / 9 % 9) (by omega)
        have a3 := trp_ok (d 1) (by omega) (d 0) (by omega) h1.1 h0.1 (m / 81) (by omega)
        have g0 : pl d 0 = d 1 * d 0 := Nat.mul_comm _ _
        have g1 : pl d 1 = d 2 * d 1 := Nat.mul_comm _ _
        have g2 : pl d 2 = d 0 * d 2 := Nat.mul_comm _ _
        have k1 := (a1.2.2.1 (by rw [← g2]; exact hz)).1
        have k2 := (a2.2.2.1 (by rw [← g1]; exact hy)).1
        have k3 := (a3.2.2.1 (by rw [← g0]; exact hx)).1
        have e1 : gvN (mrA (mrD d) (mrA d A)) c (m / 81) (m / 9 % 9) (m % 9) = gvN (mrA d A) c (trp (d 0) (d 2) (m % 9)) (trp (d 2) (d 1) (m / 9 % 9)) (trp (d 1) (d 0) (m / 81)) := mr_gv hd2 (by rw [mrD2]; exact hx) (by rw [mrD2]; exact hy) (by rw [mrD2]; exact hz)
        have e2 := mr_gv (A := A) (c := c) hd (x := trp (d 0) (d 2) (m % 9)) (y := trp (d 2) (d 1) (m / 9 % 9)) (z := trp (d 1) (d 0) (m / 81)) (by show _ < d 0 * d 2; rw [Nat.mul_comm]; exact k1) (by show _ < d 2 * d 1; rw [Nat.mul_comm]; exact k2) (by show _ < d 1 * d 0; rw [Nat.mul_comm]; exact k3)
        rw [e1, e2, a1.1, a2.1, a3.1]
        simp
      · simp [hz]
    · simp [hy]
  · simp [hx]
end
