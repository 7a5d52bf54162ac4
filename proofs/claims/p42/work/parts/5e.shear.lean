/-! what is right stays right, sheared -/
theorem shR_at {q n fr to f : Nat} {a : Nat → Nat} (hn : 1 ≤ n ∧ n ≤ 3) (hne : fr ≠ to) : ∀ c, c ≤ n → ∀ p, shR q a n fr to f c p = if p / n = to ∧ p % n < c then (a p + f * a (fr * n + p % n)) % q else a p
  | 0, _, p => by rw [if_neg (fun h => absurd h.2 (Nat.not_lt_zero _))]; rfl
  | c + 1, hc, p => by
    have ih := shR_at (q := q) (f := f) (a := a) hn hne c (by omega)
    have k1 : (to * n + c) / n = to ∧ (to * n + c) % n = c := by
      rcases (show n = 1 ∨ n = 2 ∨ n = 3 by omega) with rfl | rfl | rfl <;> constructor <;> omega
    have k2 : (fr * n + c) / n = fr ∧ (fr * n + c) % n = c := by
      rcases (show n = 1 ∨ n = 2 ∨ n = 3 by omega) with rfl | rfl | rfl <;> constructor <;> omega
    rw [shR, atA, setp]
    by_cases e : p = to * n + c
    · subst e
      rw [if_pos rfl, ih, ih, k1.1, k1.2, k2.1, if_neg (fun h => absurd h.2 (Nat.lt_irrefl _)), if_neg (fun h => hne h.1), if_pos ⟨rfl, Nat.lt_succ_self c⟩]
    · rw [if_neg e, ih]
      have h9 : (p / n = to ∧ p % n < c + 1) ↔ (p / n = to ∧ p % n < c) := by
        constructor
        · rintro ⟨h1, h2⟩
          refine ⟨h1, ?_⟩
          have : p % n ≠ c := fun h3 => e (by rw [← h1, ← h3, Nat.mul_comm]; exact (Nat.div_add_mod p n).symm)
          omega
        · rintro ⟨h1, h2⟩
          exact ⟨h1, by omega⟩
      by_cases h : p / n = to ∧ p % n < c
      · rw [if_pos h, if_pos (h9.mpr h)]
      · rw [if_neg h, if_neg (fun k => h (h9.mp k))]
theorem shC_at {q m fr to f : Nat} {a : Nat → Nat} (hm : 1 ≤ m ∧ m ≤ 3) (hfr : fr < m) (hto : to < m) (hne : fr ≠ to) : ∀ r p, shC q a m fr to f r p = if p % m = fr ∧ p / m < r then (a p + (q - f) * a (p / m * m + to)) % q else a p
  | 0, p => by rw [if_neg (fun h => absurd h.2 (Nat.not_lt_zero _))]; rfl
  | r + 1, p => by
    have ih := shC_at (q := q) (f := f) (a := a) hm hfr hto hne r
    have k1 : (r * m + fr) / m = r ∧ (r * m + fr) % m = fr := by
      rcases (show m = 1 ∨ m = 2 ∨ m = 3 by omega) with rfl | rfl | rfl <;> constructor <;> omega
    have k2 : (r * m + to) / m = r ∧ (r * m + to) % m = to := by
      rcases (show m = 1 ∨ m = 2 ∨ m = 3 by omega) with rfl | rfl | rfl <;> constructor <;> omega
    rw [shC, atA, setp]
    by_cases e : p = r * m + fr
    · subst e
      rw [if_pos rfl, ih, ih, k1.1, k1.2, k2.2, if_neg (fun h => absurd h.2 (Nat.lt_irrefl _)), if_neg (fun h => hne h.1.symm), if_pos ⟨rfl, Nat.lt_succ_self r⟩]
    · rw [if_neg e, ih]
      have h9 : (p % m = fr ∧ p / m < r + 1) ↔ (p % m = fr ∧ p / m < r) := by
        constructor
        · rintro ⟨h1, h2⟩
          refine ⟨h1, ?_⟩
          have : p / m ≠ r := fun h3 => e (by rw [← h1, ← h3, Nat.mul_comm]; exact (Nat.div_add_mod p m).symm)
          omega
        · rintro ⟨h1, h2⟩
          exact ⟨h1, by omega⟩
      by_cases h : p % m = fr ∧ p / m < r
      · rw [if_pos h, if_pos (h9.mpr h)]
      · rw [if_neg h, if_neg (fun k => h (h9.mp k))]
def upX (X : Nat → Nat) (t v : Nat) : Nat → Nat := fun u => if u = t then v else X u
theorem upX_eq (X : Nat → Nat) (t v : Nat) : upX X t v t = v := if_pos rfl
theorem upX_ne {X : Nat → Nat} {t v u : Nat} (h : u ≠ t) : upX X t v u = X u := if_neg h
theorem sm_scal (e : Nat) (f : Nat → Nat) : ∀ n, fb_sm (fun k => e * f k) n = e * fb_sm f n
  | 0 => (Nat.mul_zero e).symm
  | n + 1 => by rw [fb_sm_succ, fb_sm_succ, sm_scal e f n, Nat.mul_add]
theorem nd_s {d X : Nat → Nat} {s : Nat} (hs : s < 3) : ndB d (X 0) (X 1) (X 2) = (X s % d (nx s) == X (nx s) / d (nx (nx s)) && X (nx s) % d (nx (nx s)) == X (nx (nx s)) / d s && X (nx (nx s)) % d s == X s / d (nx s)) := by
  rcases (show s = 0 ∨ s = 1 ∨ s = 2 by omega) with rfl | rfl | rfl
  · rfl
  · show (X 0 % d 1 == X 1 / d 2 && X 1 % d 2 == X 2 / d 0 && X 2 % d 0 == X 0 / d 1) = (X 1 % d 2 == X 2 / d 0 && X 2 % d 0 == X 0 / d 1 && X 0 % d 1 == X 1 / d 2)
    ac_rfl
  · show (X 0 % d 1 == X 1 / d 2 && X 1 % d 2 == X 2 / d 0 && X 2 % d 0 == X 0 / d 1) = (X 2 % d 0 == X 0 / d 1 && X 0 % d 1 == X 1 / d 2 && X 1 % d 2 == X 2 / d 0)
    ac_rfl
theorem rt_X {d X : Nat → Nat} {q c : Nat} {A : Nat → Nat → Nat} (h : RT d q A c) (hX : ∀ t, t < 3 → X t < pl d t) : gX A c X % q = ndN d (X 0) (X 1) (X 2) := h _ (hX 0 (by decide)) _ (hX 1 (by decide)) _ (hX 2 (by decide))
/-- four cases of what is needed -/
theorem sh_num {q f : Nat} (hq : q = 2 ∨ q = 3) (hf : f < q) {P : Bool} {u v fr to : Nat} (hne : fr ≠ to) : cg q ((if (P && u == v) = true then 1 else 0) + (if v = to then f else 0) * (if (P && u == fr) = true then 1 else 0) + (if u = fr then q - f else 0) * (if (P && to == v) = true then 1 else 0) + (if v = to then f else 0) * (if u = fr then q - f else 0) * (if (P && to == fr) = true then 1 else 0)) (if (P && u == v) = true then 1 else 0) := by
  cases P with
  | false => simp [cg_refl]
  | true =>
    simp only [Bool.true_and, beq_iff_eq]
    rw [if_neg (fun h : to = fr => hne h.symm), Nat.mul_zero, Nat.add_zero]
    by_cases h1 : v = to
    · by_cases h2 : u = fr
      · have h3 : ¬ u = v := by omega
        rw [if_neg h3, if_pos h1, if_pos h2, if_pos h2, if_pos h1.symm, Nat.mul_one, Nat.mul_one, Nat.zero_add]
        unfold cg
        rw [show f + (q - f) = q by omega, Nat.mod_self]
        rfl
      · rw [if_neg h2, if_neg h2, Nat.mul_zero, Nat.zero_mul, Nat.add_zero]
        exact cg_refl _ _
    · have h4 : ¬ to = v := fun h => h1 h.symm
      rw [if_neg h1, if_neg h4, Nat.zero_mul, Nat.mul_zero, Nat.add_zero]
      exact cg_refl _ _
section
variable {d : Nat → Nat} {q c s fr to f : Nat} {A : Nat → Nat → Nat}
theorem shA_RT (hd : Dd d) (hq : q = 2 ∨ q = 3) (hA : Bd q c A) (hs : s < 3) (hfr : fr < d s) (hto : to < d s) (hne : fr ≠ to) (hf : f < q) (h : RT d q A c) : RT d q (shA d q A s fr to f) c := by
  intro x hx y hy z hz
  obtain ⟨n1, n2, n3, n4, n5⟩ := nxx hs
  obtain ⟨p1, p2, p3, p4, p5⟩ := pv_facts s hs
  have hX : ∀ t, t < 3 → pt x y z t < pl d t := fun t ht => by
    rcases (show t = 0 ∨ t = 1 ∨ t = 2 by omega) with rfl | rfl | rfl
    · exact hx
    · exact hy
    · exact hz
  have hX9 : in9 (pt x y z) := fun t ht => Nat.lt_of_lt_of_le (hX t ht) (pl9 hd ht)
  show gX (shA d q A s fr to f) c (pt x y z) % q = ndN d (pt x y z 0) (pt x y z 1) (pt x y z 2)
  generalize pt x y z = X at hX hX9
  have hn := hd (nx s) n1
  have hm := hd s hs
  have hv := hd (pv s) (pv_lt s)
  have xs : X s < d s * d (nx s) := hX s hs
  have zs : X (pv s) < d (pv s) * d s := by
    have := hX (pv s) (pv_lt s)
    rwa [pl_pv d hs] at this
  have rz : X (pv s) / d s < d (pv s) := Nat.div_lt_of_lt_mul (by rw [Nat.mul_comm]; exact zs)
  have cx : X s % d (nx s) < d (nx s) := Nat.mod_lt _ (by omega)
  -- the four places
  have i1 : ∀ t, t < 3 → upX X s (fr * d (nx s) + X s % d (nx s)) t < pl d t := fun t ht => by
    by_cases e : t = s
    · subst e; rw [upX_eq]; exact idx_pl hfr cx
    · rw [upX_ne e]; exact hX t ht
  have i2 : ∀ t, t < 3 → upX X (pv s) (X (pv s) / d s * d s + to) t < pl d t := fun t ht => by
    by_cases e : t = pv s
    · subst e; rw [upX_eq, pl_pv d hs]; exact idx_pl rz hto
    · rw [upX_ne e]; exact hX t ht
  have i3 : ∀ t, t < 3 → upX (upX X s (fr * d (nx s) + X s % d (nx s))) (pv s) (X (pv s) / d s * d s + to) t < pl d t := fun t ht => by
    by_cases e : t = pv s
    · subst e; rw [upX_eq, pl_pv d hs]; exact idx_pl rz hto
    · rw [upX_ne e]; exact i1 t ht
  have g0 := rt_X h hX
  have g1 := rt_X h i1
  have g2 := rt_X h i2
  have g3 := rt_X h i3
  -- one product's share
  have key : ∀ i, i < c → cg q (tm (shA d q A s fr to f) i X) (tm A i X + (if X s / d (nx s) = to then f else 0) * tm A i (upX X s (fr * d (nx s) + X s % d (nx s))) + (if X (pv s) % d s = fr then q - f else 0) * tm A i (upX X (pv s) (X (pv s) / d s * d s + to)) + (if X s / d (nx s) = to then f else 0) * (if X (pv s) % d s = fr then q - f else 0) * tm A i (upX (upX X s (fr * d (nx s) + X s % d (nx s))) (pv s) (X (pv s) / d s * d s + to))) := by
    intro i _
    have a1 : shA d q A s fr to f (3 * i + s) = shR q (A (3 * i + s)) (d (nx s)) fr to f (d (nx s)) := by
      unfold shA
      rw [if_pos (by omega)]
    have a2 : shA d q A s fr to f (3 * i + pv s) = shC q (A (3 * i + pv s)) (d s) fr to f (d (pv s)) := by
      have := pv_lt s
      unfold shA
      rw [if_neg (by omega), if_pos (by omega)]
    have a3 : shA d q A s fr to f (3 * i + nx s) = A (3 * i + nx s) := by
      unfold shA
      rw [if_neg (by omega), if_neg (by omega)]
    have b1 : cg q (shA d q A s fr to f (3 * i + s) (X s)) (A (3 * i + s) (X s) + (if X s / d (nx s) = to then f else 0) * A (3 * i + s) (fr * d (nx s) + X s % d (nx s))) := by
      rw [a1, shR_at hn hne _ (Nat.le_refl _)]
      by_cases e : X s / d (nx s) = to
      · rw [if_pos ⟨e, cx⟩, if_pos e]
        exact cg_mod _ _
      · rw [if_neg (fun k => e k.1), if_neg e, Nat.zero_mul, Nat.add_zero]
        exact cg_refl _ _
    have b2 : cg q (shA d q A s fr to f (3 * i + pv s) (X (pv s))) (A (3 * i + pv s) (X (pv s)) + (if X (pv s) % d s = fr then q - f else 0) * A (3 * i + pv s) (X (pv s) / d s * d s + to)) := by
      rw [a2, shC_at hm hfr hto hne]
      by_cases e : X (pv s) % d s = fr
      · rw [if_pos ⟨e, rz⟩, if_pos e]
        exact cg_mod _ _
      · rw [if_neg (fun k => e k.1), if_neg e, Nat.zero_mul, Nat.add_zero]
        exact cg_refl _ _
    rw [tm_w (A := shA d q A s fr to f) hs, tm_w (A := A) (X := X) hs, tm_w (A := A) (X := upX X s _) hs, tm_w (A := A) (X := upX X (pv s) _) hs, tm_w (A := A) (X := upX (upX X s _) (pv s) _) hs]
    rw [p4]
    rw [upX_eq, upX_eq, upX_eq, upX_ne p3, upX_ne p2, upX_ne (Ne.symm p2), upX_ne p5, upX_ne (Ne.symm p2), upX_eq, upX_ne p5, upX_ne p3, a3]
    refine cg_trans (cg_mul (cg_mul b1 (cg_refl _ _)) b2) ?_
    generalize A (3 * i + s) (X s) = v1
    generalize A (3 * i + s) (fr * d (nx s) + X s % d (nx s)) = v2
    generalize A (3 * i + nx s) (X (nx s)) = v3
    generalize A (3 * i + pv s) (X (pv s)) = v4
    generalize A (3 * i + pv s) (X (pv s) / d s * d s + to) = v5
    generalize (if X s / d (nx s) = to then f else 0) = e1
    generalize (if X (pv s) % d s = fr then q - f else 0) = e2
    rw [Nat.mul_add, Nat.add_mul, Nat.add_mul, Nat.add_mul]
    rw [show e1 * v2 * v3 * v4 = e1 * (v2 * v3 * v4) by ac_rfl, show v1 * v3 * (e2 * v5) = e2 * (v1 * v3 * v5) by ac_rfl, show e1 * v2 * v3 * (e2 * v5) = e1 * e2 * (v2 * v3 * v5) by ac_rfl]
    rw [← Nat.add_assoc]
    exact cg_refl _ _
  have hsum : cg q (gX (shA d q A s fr to f) c X) _ := sm_mod key
  refine Eq.trans (b := (gX A c X + (if X s / d (nx s) = to then f else 0) * gX A c (upX X s (fr * d (nx s) + X s % d (nx s))) + (if X (pv s) % d s = fr then q - f else 0) * gX A c (upX X (pv s) (X (pv s) / d s * d s + to)) + (if X s / d (nx s) = to then f else 0) * (if X (pv s) % d s = fr then q - f else 0) * gX A c (upX (upX X s (fr * d (nx s) + X s % d (nx s))) (pv s) (X (pv s) / d s * d s + to))) % q) ?_ ?_
  · unfold gX at *
    rw [← sm_scal, ← sm_scal, ← sm_scal, ← fb_sm_add, ← fb_sm_add, ← fb_sm_add]
    exact hsum
  · have nlt : ∀ X : Nat → Nat, cg q (gX A c X) (gX A c X % q) := fun X => cg_symm (cg_mod _ _)
    have e := cg_add (cg_add (cg_add (nlt X) (cg_mul (cg_refl q (if X s / d (nx s) = to then f else 0)) (nlt (upX X s (fr * d (nx s) + X s % d (nx s)))))) (cg_mul (cg_refl q (if X (pv s) % d s = fr then q - f else 0)) (nlt (upX X (pv s) (X (pv s) / d s * d s + to))))) (cg_mul (cg_refl q ((if X s / d (nx s) = to then f else 0) * (if X (pv s) % d s = fr then q - f else 0))) (nlt (upX (upX X s (fr * d (nx s) + X s % d (nx s))) (pv s) (X (pv s) / d s * d s + to))))
    rw [g0, g1, g2, g3] at e
    refine Eq.trans e ?_
    have m1 : (fr * d (nx s) + X s % d (nx s)) % d (nx s) = X s % d (nx s) ∧ (fr * d (nx s) + X s % d (nx s)) / d (nx s) = fr := by
      rcases (show d (nx s) = 1 ∨ d (nx s) = 2 ∨ d (nx s) = 3 by omega) with e | e | e <;> rw [e] <;> constructor <;> omega
    have m2 : (X (pv s) / d s * d s + to) % d s = to ∧ (X (pv s) / d s * d s + to) / d s = X (pv s) / d s := by
      rcases (show d s = 1 ∨ d s = 2 ∨ d s = 3 by omega) with e | e | e <;> rw [e] at hto ⊢ <;> constructor <;> omega
    unfold ndN
    rw [nd_s (X := X) hs, nd_s (X := upX X s _) hs, nd_s (X := upX X (pv s) _) hs, nd_s (X := upX (upX X s _) (pv s) _) hs, p4]
    rw [upX_eq, upX_eq, upX_eq, upX_ne p3, upX_ne p2, upX_ne (Ne.symm p2), upX_ne p5, upX_ne (Ne.symm p2), upX_eq, upX_ne p5, upX_ne p3, m1.1, m1.2, m2.1, m2.2]
    have fin := sh_num hq hf (P := X s % d (nx s) == X (nx s) / d (pv s) && X (nx s) % d (pv s) == X (pv s) / d s) (u := X (pv s) % d s) (v := X s / d (nx s)) hne
    refine Eq.trans fin ?_
    rw [Nat.mod_eq_of_lt]
    split <;> omega
theorem shA_wr (hd : Dd d) (hq : q = 2 ∨ q = 3) (hA : Bd q c A) (hs : s < 3) (hfr : fr < d s) (hto : to < d s) (hne : fr ≠ to) (hf : f < q) (h : wr d q A c = 0) : wr d q (shA d q A s fr to f) c = 0 := (wr_RT hd).mpr (shA_RT hd hq hA hs hfr hto hne hf ((wr_RT hd).mp h))
end
