/-! the plain scheme is right -/
theorem un_01 (x p : Nat) : un x p = if p = x then 1 else 0 := rfl
theorem gX_on {A : Nat → Nat → Nat} {c x y z : Nat} {X : Nat → Nat} : gX (onA A c x y z) (c + 1) X = gX A c X + (if X 0 = x ∧ X 1 = y ∧ X 2 = z then 1 else 0) := by
  unfold gX
  rw [fb_sm_succ]
  congr 1
  · refine fb_sm_cong (fun k hk => tm_cong (fun t ht => ?_))
    unfold onA
    rw [if_pos (by omega)]
  · unfold tm onA
    rw [if_neg (by omega), if_pos rfl, if_neg (by omega), if_neg (by omega), if_pos rfl, if_neg (by omega), if_neg (by omega), if_neg (by omega)]
    unfold un
    by_cases h0 : X 0 = x
    · by_cases h1 : X 1 = y
      · by_cases h2 : X 2 = z
        · simp [h0, h1, h2]
        · simp [h2]
      · simp [h1]
    · simp [h0]
section
variable {s : Nat} {d : Nat → Nat} {X : Nat → Nat}
/-- one plain product's share -/
def hit (s : Nat) (d X : Nat → Nat) (i j k : Nat) : Nat := if apC s d i j k = true ∧ X 0 = i * d 1 + j ∧ X 1 = j * d 2 + k ∧ X 2 = k * d 0 + i then 1 else 0
theorem apK_g (i j : Nat) (S : Nat × (Nat → Nat → Nat)) : ∀ k, gX (apK s d i j k S).2 (apK s d i j k S).1 X = gX S.2 S.1 X + fb_sm (hit s d X i j) k
  | 0 => rfl
  | k + 1 => by
    have ih := apK_g i j S k
    rw [apK, fb_sm_succ]
    split
    · rename_i h
      rw [gX_on, ih, Nat.add_assoc]
      congr 2
      unfold hit
      by_cases e : X 0 = i * d 1 + j ∧ X 1 = j * d 2 + k ∧ X 2 = k * d 0 + i
      · rw [if_pos e, if_pos ⟨h, e⟩]
      · rw [if_neg e, if_neg (fun q => e q.2)]
    · rename_i h
      rw [ih]
      unfold hit
      rw [if_neg (fun q => h q.1)]
      rfl
theorem apJ_g (i : Nat) (S : Nat × (Nat → Nat → Nat)) : ∀ j, gX (apJ s d i j S).2 (apJ s d i j S).1 X = gX S.2 S.1 X + fb_sm (fun j => fb_sm (hit s d X i j) (d 2)) j
  | 0 => rfl
  | j + 1 => by
    rw [apJ, apK_g, apJ_g i S j, fb_sm_succ, Nat.add_assoc]
theorem apI_g (S : Nat × (Nat → Nat → Nat)) : ∀ i, gX (apI s d i S).2 (apI s d i S).1 X = gX S.2 S.1 X + fb_sm (fun i => fb_sm (fun j => fb_sm (hit s d X i j) (d 2)) (d 1)) i
  | 0 => rfl
  | i + 1 => by
    rw [apI, apJ_g, apI_g S i, fb_sm_succ, Nat.add_assoc]
theorem dm_1 {x i j b : Nat} (hj : j < b) : x = i * b + j ↔ i = x / b ∧ j = x % b := by
  constructor
  · rintro rfl
    constructor
    · rw [Nat.mul_comm, Nat.mul_add_div (by omega), Nat.div_eq_of_lt hj, Nat.add_zero]
    · rw [Nat.mul_comm, Nat.mul_add_mod, Nat.mod_eq_of_lt hj]
  · rintro ⟨rfl, rfl⟩
    rw [Nat.mul_comm]
    exact (Nat.div_add_mod x b).symm
theorem pl_RT (hd : Dd d) {q : Nat} (hq : q = 2 ∨ q = 3) : RT d q (plS d).2 (plS d).1 := by
  intro x hx y hy z hz
  have h0 := hd 0 (by decide)
  have h1 := hd 1 (by decide)
  have h2 := hd 2 (by decide)
  have hx : x < d 0 * d 1 := hx
  have hy : y < d 1 * d 2 := hy
  have hz : z < d 2 * d 0 := hz
  have x0 : x / d 1 < d 0 := Nat.div_lt_of_lt_mul (by rw [Nat.mul_comm]; exact hx)
  have x1 : x % d 1 < d 1 := Nat.mod_lt _ (by omega)
  have y2 : y % d 2 < d 2 := Nat.mod_lt _ (by omega)
  show gX (plS d).2 (plS d).1 (pt x y z) % q = ndN d x y z
  have hg := apI_g (s := 3) (d := d) (X := pt x y z) (0, fun _ _ => 0) (d 0)
  have e0 : gX (fun _ _ => 0) 0 (pt x y z) = 0 := rfl
  have key : ∀ i, i < d 0 → ∀ j, j < d 1 → fb_sm (hit 3 d (pt x y z) i j) (d 2) = if i = x / d 1 then (if j = x % d 1 then ndN d x y z else 0) else 0 := by
    intro i hi j hj
    by_cases e1 : i = x / d 1
    · by_cases e2 : j = x % d 1
      · rw [if_pos e1, if_pos e2]
        have hx2 : x = i * d 1 + j := (dm_1 hj).mpr ⟨e1, e2⟩
        by_cases hn : ndB d x y z = true
        · have hn2 := hn
          unfold ndB at hn2
          simp only [Bool.and_eq_true, beq_iff_eq] at hn2
          obtain ⟨⟨a1, a2⟩, a3⟩ := hn2
          unfold ndN
          rw [if_pos hn]
          refine Eq.trans (fb_sm_cong (g := fun k => if k = y % d 2 then 1 else 0) (fun k hk => ?_)) (sm_at y2)
          unfold hit
          by_cases e3 : k = y % d 2
          · rw [if_pos e3, if_pos]
            exact ⟨rfl, hx2, show y = j * d 2 + k from (dm_1 hk).mpr ⟨by rw [e2, a1], e3⟩, show z = k * d 0 + i from (dm_1 hi).mpr ⟨by rw [e3, a2], by rw [e1, a3]⟩⟩
          · rw [if_neg e3, if_neg]
            rintro ⟨-, -, q2, -⟩
            exact e3 ((dm_1 hk).mp q2).2
        · unfold ndN
          rw [if_neg hn]
          refine Eq.trans (fb_sm_cong (g := fun _ => 0) (fun k hk => ?_)) (fb_sm_const 0 _)
          unfold hit
          rw [if_neg]
          rintro ⟨-, -, q2, q3⟩
          have r2 := (dm_1 hk).mp q2
          have r3 := (dm_1 hi).mp q3
          have r2a : j = y / d 2 := r2.1
          have r2b : k = y % d 2 := r2.2
          have r3a : k = z / d 0 := r3.1
          have r3b : i = z % d 0 := r3.2
          apply hn
          unfold ndB
          simp only [Bool.and_eq_true, beq_iff_eq]
          exact ⟨⟨by rw [← e2, r2a], by rw [← r2b, r3a]⟩, by rw [← r3b, e1]⟩
      · rw [if_pos e1, if_neg e2]
        refine Eq.trans (fb_sm_cong (g := fun _ => 0) (fun k hk => ?_)) (fb_sm_const 0 _)
        unfold hit
        rw [if_neg]
        rintro ⟨-, q1, -⟩
        exact e2 ((dm_1 hj).mp q1).2
    · rw [if_neg e1]
      refine Eq.trans (fb_sm_cong (g := fun _ => 0) (fun k hk => ?_)) (fb_sm_const 0 _)
      unfold hit
      rw [if_neg]
      rintro ⟨-, q1, -⟩
      exact e1 ((dm_1 hj).mp q1).1
  have k2 : fb_sm (fun i => fb_sm (fun j => fb_sm (hit 3 d (pt x y z) i j) (d 2)) (d 1)) (d 0) = ndN d x y z := by
    refine Eq.trans (fb_sm_cong (g := fun i => if i = x / d 1 then ndN d x y z else 0) (fun i hi => ?_)) (sm_at x0)
    by_cases e1 : i = x / d 1
    · rw [if_pos e1]
      refine Eq.trans (fb_sm_cong (g := fun j => if j = x % d 1 then ndN d x y z else 0) (fun j hj => ?_)) (sm_at x1)
      rw [key i hi j hj, if_pos e1]
    · rw [if_neg e1]
      refine Eq.trans (fb_sm_cong (g := fun _ => 0) (fun j hj => ?_)) (fb_sm_const 0 _)
      rw [key i hi j hj, if_neg e1]
  rw [k2] at hg
  have hg : gX (plS d).2 (plS d).1 (pt x y z) = 0 + ndN d x y z := hg
  rw [hg, Nat.zero_add, Nat.mod_eq_of_lt]
  unfold ndN
  split <;> omega
theorem pl_c : (plS d).1 = d 0 * d 1 * d 2 := by
  have h := apI_n 3 d (0, fun _ _ => 0) (d 0)
  have e : ∀ i j, fb_ct (cnC 3 (d 0) (d 1) (d 2) i j) (d 2) = d 2 := fun i j => fb_ct_all.mpr (fun _ _ => rfl)
  simp only [e, fb_sm_const] at h
  have h : (plS d).1 = 0 + d 0 * (d 1 * d 2) := h
  rw [h, Nat.zero_add, Nat.mul_assoc]
end
/-! a line more, then that line less: what there was -/
section
variable {s c : Nat} {d : Nat → Nat} {B : Nat → Nat → Nat}
/-- the first c products stand, those behind have at table s a one in the last row -/
def NW (s c : Nat) (d : Nat → Nat) (B : Nat → Nat → Nat) (S : Nat × (Nat → Nat → Nat)) : Prop := (∀ k, k < 3 * c → S.2 k = B k) ∧ c ≤ S.1 ∧ ∀ m, c ≤ m → m < S.1 → ∃ x, S.2 (3 * m + s) = un x ∧ (d s - 1) * d (nx s) ≤ x ∧ x < d s * d (nx s)
theorem nw_on {S : Nat × (Nat → Nat → Nat)} {i j k : Nat} (hs : s < 3) (h : NW s c d B S) (hi : i < d 0) (hj : j < d 1) (hk : k < d 2) (ha : apC s d i j k = true) : NW s c d B (S.1 + 1, onA S.2 S.1 (i * d 1 + j) (j * d 2 + k) (k * d 0 + i)) := by
  obtain ⟨h1, h2, h3⟩ := h
  refine ⟨fun m hm => ?_, Nat.le_succ_of_le h2, fun m hm hm2 => ?_⟩
  · show onA S.2 S.1 _ _ _ m = B m
    unfold onA
    rw [if_pos (by omega)]
    exact h1 m hm
  · have hm2 : m < S.1 + 1 := hm2
    show ∃ x, onA S.2 S.1 (i * d 1 + j) (j * d 2 + k) (k * d 0 + i) (3 * m + s) = un x ∧ _
    by_cases e : m = S.1
    · subst e
      unfold apC at ha
      simp only [Bool.or_eq_true, Bool.and_eq_true, beq_iff_eq] at ha
      unfold onA
      rcases (show s = 0 ∨ s = 1 ∨ s = 2 by omega) with rfl | rfl | rfl
      · have e : i = d 0 - 1 := by omega
        refine ⟨i * d 1 + j, by rw [if_neg (by omega), if_pos (by omega)], ?_, idx_pl hi hj⟩
        show (d 0 - 1) * d 1 ≤ i * d 1 + j
        rw [← e]
        omega
      · have e : j = d 1 - 1 := by omega
        refine ⟨j * d 2 + k, by rw [if_neg (by omega), if_neg (by omega), if_pos rfl], ?_, idx_pl hj hk⟩
        show (d 1 - 1) * d 2 ≤ j * d 2 + k
        rw [← e]
        omega
      · have e : k = d 2 - 1 := by omega
        refine ⟨k * d 0 + i, by rw [if_neg (by omega), if_neg (by omega), if_neg (by omega)], ?_, idx_pl hk hi⟩
        show (d 2 - 1) * d 0 ≤ k * d 0 + i
        rw [← e]
        omega
    · obtain ⟨x, g1, g2⟩ := h3 m hm (by omega)
      refine ⟨x, ?_, g2⟩
      unfold onA
      rw [if_pos (by omega)]
      exact g1
theorem nw_K {S : Nat × (Nat → Nat → Nat)} {i j : Nat} (hs : s < 3) (h : NW s c d B S) (hi : i < d 0) (hj : j < d 1) : ∀ k, k ≤ d 2 → NW s c d B (apK s d i j k S)
  | 0, _ => h
  | k + 1, hk => by
    rw [apK]
    split
    · exact nw_on hs (nw_K hs h hi hj k (by omega)) hi hj hk (by assumption)
    · exact nw_K hs h hi hj k (by omega)
theorem nw_J {S : Nat × (Nat → Nat → Nat)} {i : Nat} (hs : s < 3) (h : NW s c d B S) (hi : i < d 0) : ∀ j, j ≤ d 1 → NW s c d B (apJ s d i j S)
  | 0, _ => h
  | j + 1, hj => nw_K hs (nw_J hs h hi j (by omega)) hi hj _ (Nat.le_refl _)
theorem nw_I {S : Nat × (Nat → Nat → Nat)} (hs : s < 3) (h : NW s c d B S) : ∀ i, i ≤ d 0 → NW s c d B (apI s d i S)
  | 0, _ => h
  | i + 1, hi => nw_J hs (nw_I hs h i (by omega)) hi _ (Nat.le_refl _)
end
section
variable {s c q : Nat} {d : Nat → Nat} {A : Nat → Nat → Nat}
theorem upD_eq (d : Nat → Nat) (s v : Nat) : upD d s v s = v := if_pos rfl
theorem upD_ne {s v t : Nat} (h : t ≠ s) : upD d s v t = d t := if_neg h
theorem upD_back (d : Nat → Nat) (s v : Nat) : upD (upD d s v) s (d s) = d := by
  funext t
  unfold upD
  by_cases h : t = s
  · rw [if_pos h, h]
  · rw [if_neg h, if_neg h]
theorem wn_eqG (hd : Dd d) (hs : s < 3) (hZ : ZS d c A) : eqG q A c (nrA (upD d s (d s + 1)) (wdT d c A s).2 s (d s)) (wdT d c A s).1 := by
  intro X hX
  obtain ⟨n1, n2, n3, n4, n5⟩ := nxx hs
  obtain ⟨p1, p2, p3, p4, p5⟩ := pv_facts s hs
  have hds := hd s hs
  have hdn := hd (nx s) n1
  have hdp := hd (pv s) (pv_lt s)
  obtain ⟨w1, w2, w3⟩ : NW s c (upD d s (d s + 1)) (wdA d A s) (wdT d c A s) := nw_I (S := (c, wdA d A s)) (d := upD d s (d s + 1)) hs ⟨fun _ _ => rfl, Nat.le_refl _, fun m h1 h2 => absurd h2 (by show ¬ m < c; omega)⟩ _ (Nat.le_refl _)
  have e1 : upD d s (d s + 1) s = d s + 1 := upD_eq _ _ _
  have e2 : upD d s (d s + 1) (nx s) = d (nx s) := upD_ne n3
  have e3 : upD d s (d s + 1) (pv s) = d (pv s) := upD_ne p2
  obtain ⟨m, hm⟩ : ∃ m, (wdT d c A s).1 = c + m := ⟨(wdT d c A s).1 - c, by omega⟩
  unfold gX
  rw [hm, fb_sm_split]
  have z : fb_sm (fun k => tm (nrA (upD d s (d s + 1)) (wdT d c A s).2 s (d s)) (c + k) X) m = 0 := by
    refine Eq.trans (fb_sm_cong (g := fun _ => 0) (fun k hk => ?_)) (fb_sm_const 0 _)
    obtain ⟨x, g1, g2, g3⟩ := w3 (c + k) (by omega) (by omega)
    rw [e1, e2] at g2 g3
    rw [tm_w hs]
    have e : nrA (upD d s (d s + 1)) (wdT d c A s).2 s (d s) (3 * (c + k) + s) (X s) = 0 := by
      unfold nrA
      rw [if_pos (by omega), g1, e2]
      unfold woR un
      have g2 : d s * d (nx s) ≤ x := g2
      have g3 : x < d s * d (nx s) + d (nx s) := by rw [Nat.add_mul, Nat.one_mul] at g3; exact g3
      split
      · exact if_neg (by omega)
      · split
        · exact if_neg (by omega)
        · rfl
    rw [e, Nat.zero_mul, Nat.zero_mul]
  rw [z, Nat.add_zero]
  congr 1
  refine fb_sm_cong (fun i hi => ?_)
  have at_t : ∀ t, t < 3 → ∀ p, p < 9 → nrA (upD d s (d s + 1)) (wdT d c A s).2 s (d s) (3 * i + t) p = A (3 * i + t) p := by
    intro t ht p hp
    have hz : ∀ p, pl d t ≤ p → p < 9 → A (3 * i + t) p = 0 := zs_at hZ hi ht
    unfold nrA
    rw [w1 _ (by omega)]
    unfold wdA
    rw [show (3 * i + t) % 3 = t by omega]
    by_cases h1 : t = s
    · subst h1
      rw [if_pos rfl, if_neg (Ne.symm p2), e2]
      unfold woR
      split
      · rfl
      · rename_i h
        have h : pl d t ≤ p := by show d t * d (nx t) ≤ p; omega
        rw [hz p h hp]
        split
        · exact hz _ (by omega) (by assumption)
        · rfl
    · rw [if_neg h1]
      by_cases h2 : t = pv s
      · subst h2
        rw [if_pos rfl, if_pos rfl, e1, e3]
        unfold woC
        rw [Nat.add_sub_cancel]
        split
        · rename_i h
          have hc : p % d s < d s := Nat.mod_lt _ (by omega)
          have hr : p / d s < d (pv s) := Nat.div_lt_of_lt_mul (by rw [Nat.mul_comm]; exact h)
          rw [if_pos hc, wi_at hr hc]
          congr 1
          rw [Nat.mul_comm]
          exact Nat.div_add_mod p (d s)
        · rename_i h
          exact (hz p (by rw [pl_pv d hs]; omega) hp).symm
      · rw [if_neg h2, if_neg h2]
  unfold tm
  have a0 := at_t 0 (by decide) _ (hX 0 (by decide))
  have a1 := at_t 1 (by decide) _ (hX 1 (by decide))
  have a2 := at_t 2 (by decide) _ (hX 2 (by decide))
  have a0 : nrA (upD d s (d s + 1)) (wdT d c A s).2 s (d s) (3 * i) (X 0) = A (3 * i) (X 0) := a0
  rw [a0, a1, a2]
end
