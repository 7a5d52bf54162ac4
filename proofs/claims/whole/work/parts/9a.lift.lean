/-! sums of truths; as many forms as conditions and one more depend on each other -/
def xs (f : Nat → Bool) : Nat → Bool
  | 0 => false
  | n + 1 => xs f n ^^ f n
theorem xs_cong {f g : Nat → Bool} : ∀ {n : Nat}, (∀ k, k < n → f k = g k) → xs f n = xs g n
  | 0, _ => rfl
  | n + 1, h => by
    show (xs f n ^^ f n) = (xs g n ^^ g n)
    rw [xs_cong (fun k hk => h k (by omega)), h n (Nat.lt_succ_self n)]
theorem xs_0 {f : Nat → Bool} : ∀ {n : Nat}, (∀ k, k < n → f k = false) → xs f n = false
  | 0, _ => rfl
  | n + 1, h => by
    show (xs f n ^^ f n) = false
    rw [xs_0 (fun k hk => h k (by omega)), h n (Nat.lt_succ_self n)]
    rfl
theorem xs_xor (f g : Nat → Bool) : ∀ n, xs (fun k => f k ^^ g k) n = (xs f n ^^ xs g n)
  | 0 => rfl
  | n + 1 => by
    show (xs (fun k => f k ^^ g k) n ^^ (f n ^^ g n)) = ((xs f n ^^ f n) ^^ (xs g n ^^ g n))
    rw [xs_xor f g n]
    cases xs f n <;> cases xs g n <;> cases f n <;> cases g n <;> rfl
theorem xs_and (a : Bool) (f : Nat → Bool) : ∀ n, xs (fun k => a && f k) n = (a && xs f n)
  | 0 => by cases a <;> rfl
  | n + 1 => by
    show (xs (fun k => a && f k) n ^^ (a && f n)) = (a && (xs f n ^^ f n))
    rw [xs_and a f n]
    cases a <;> cases xs f n <;> cases f n <;> rfl
theorem xs_andr (a : Bool) (f : Nat → Bool) (n : Nat) : xs (fun k => f k && a) n = (xs f n && a) := by
  rw [show (fun k => f k && a) = fun k => a && f k from funext (fun k => Bool.and_comm _ _), xs_and, Bool.and_comm]
theorem xs_comm (f : Nat → Nat → Bool) (m : Nat) : ∀ n, xs (fun i => xs (fun e => f i e) m) n = xs (fun e => xs (fun i => f i e) n) m
  | 0 => (xs_0 (fun _ _ => rfl)).symm
  | n + 1 => by
    show (xs (fun i => xs (fun e => f i e) m) n ^^ xs (fun e => f n e) m) = xs (fun e => xs (fun i => f i e) n ^^ f n e) m
    rw [xs_comm f m n, xs_xor]
theorem xs_one {f : Nat → Bool} {i : Nat} : ∀ {n : Nat}, i < n → (∀ k, k < n → k ≠ i → f k = false) → xs f n = f i
  | 0, h, _ => absurd h (Nat.not_lt_zero i)
  | n + 1, h, h0 => by
    show (xs f n ^^ f n) = f i
    by_cases e : n = i
    · rw [xs_0 (fun k hk => h0 k (by omega) (by omega)), e, Bool.false_xor]
    · rw [xs_one (show i < n by omega) (fun k hk g => h0 k (by omega) g), h0 n (Nat.lt_succ_self n) e, Bool.xor_false]
theorem xs_un {f : Nat → Bool} {i n : Nat} (h : i < n) : xs (fun k => (k == i) && f k) n = f i := by
  rw [xs_one h (fun k _ g => by simp [g])]
  simp
/-- sums of sums, the other way round -/
theorem xs_fub (l : Nat → Bool) (a : Nat → Nat → Bool) (T : Nat → Bool) (E n : Nat) : xs (fun k => l k && xs (fun e => a k e && T e) E) n = xs (fun e => xs (fun k => l k && a k e) n && T e) E := by
  have e1 : xs (fun k => l k && xs (fun e => a k e && T e) E) n = xs (fun k => xs (fun e => l k && (a k e && T e)) E) n := xs_cong (fun k _ => (xs_and _ _ _).symm)
  rw [e1, xs_comm]
  refine xs_cong (fun e _ => ?_)
  rw [← xs_andr]
  exact xs_cong (fun k _ => (Bool.and_assoc _ _ _).symm)
theorem ct_less {P : Nat → Bool} {n j : Nat} (hj : j < n) (h : P j = true) : fb_ct (fun i => P i && !(i == j)) n + 1 = fb_ct P n := by
  have u := fb_ct_upd P false hj
  rw [h] at u
  have e : fb_ct (fun i => P i && !(i == j)) n = fb_ct (fun k => if k = j then false else P k) n := fb_ct_cong (fun k _ => by
    by_cases g : k = j
    · simp [g]
    · simp [g])
  rw [e]
  simpa using u
theorem dep {Q : Nat → Bool} {n : Nat} : ∀ (N : Nat) (P : Nat → Bool) (m : Nat → Nat → Bool), fb_ct Q N < fb_ct P n → ∃ l : Nat → Bool, (∀ i, l i = true → P i = true) ∧ (∃ i, i < n ∧ l i = true) ∧ ∀ k, k < N → Q k = true → xs (fun i => l i && m i k) n = false
  | 0, P, m, h => by
    obtain ⟨i, h1, h2⟩ := fb_ct_pos.mp (show 0 < fb_ct P n from h)
    refine ⟨fun k => k == i, fun k hk => ?_, ⟨i, h1, by simp⟩, fun k hk => absurd hk (Nat.not_lt_zero k)⟩
    rw [beq_iff_eq] at hk
    rw [hk]
    exact h2
  | N + 1, P, m, h => by
    cases hQ : Q N with
    | false =>
      rw [ct_f (by rw [hQ]; decide)] at h
      obtain ⟨l, h1, h2, h3⟩ := dep (Q := Q) (n := n) N P m h
      refine ⟨l, h1, h2, fun k hk hq => ?_⟩
      rcases Nat.lt_or_ge k N with g | g
      · exact h3 k g hq
      · rw [show k = N by omega, hQ] at hq
        cases hq
    | true =>
      rw [ct_t hQ] at h
      by_cases hj : ∃ j, j < n ∧ P j = true ∧ m j N = true
      · obtain ⟨j, j1, j2, j3⟩ := hj
        have ct := ct_less j1 j2
        obtain ⟨l, h1, ⟨i, i1, i2⟩, h3⟩ := dep (Q := Q) (n := n) N (fun i => P i && !(i == j)) (fun i k => m i k ^^ (m i N && m j k)) (by omega)
        have lj : l j = false := by
          cases g : l j with
          | false => rfl
          | true =>
            have := h1 j g
            simp at this
        generalize ht : xs (fun i => l i && m i N) n = t
        have key : ∀ k, xs (fun i => (if i = j then t else l i) && m i k) n = (xs (fun i => l i && m i k) n ^^ (t && m j k)) := fun k => by
          have e : xs (fun i => (if i = j then t else l i) && m i k) n = xs (fun i => (l i && m i k) ^^ ((i == j) && (t && m i k))) n := xs_cong (fun i _ => by
            show ((if i = j then t else l i) && m i k) = ((l i && m i k) ^^ ((i == j) && (t && m i k)))
            by_cases g : i = j
            · rw [if_pos g, g, lj]
              cases t <;> cases m j k <;> simp
            · rw [if_neg g, show (i == j) = false by simpa using g]
              simp)
          rw [e, xs_xor, xs_un j1]
        refine ⟨fun i => if i = j then t else l i, fun k hk => ?_, ⟨i, i1, ?_⟩, fun k hk hq => ?_⟩
        · have hk : (if k = j then t else l k) = true := hk
          by_cases g : k = j
          · rw [g]
            exact j2
          · rw [if_neg g] at hk
            have := h1 k hk
            simp only [Bool.and_eq_true] at this
            exact this.1
        · have ij : i ≠ j := fun z => by
            rw [z, lj] at i2
            cases i2
          show (if i = j then t else l i) = true
          rw [if_neg ij]
          exact i2
        · rw [key]
          rcases Nat.lt_or_ge k N with g | g
          · have := h3 k g hq
            have e : xs (fun i => l i && (m i k ^^ (m i N && m j k))) n = (xs (fun i => l i && m i k) n ^^ (t && m j k)) := by
              rw [← ht, ← xs_andr, ← xs_xor]
              exact xs_cong (fun i _ => by
                cases l i <;> cases m i k <;> cases m i N <;> cases m j k <;> rfl)
            rw [← e]
            exact this
          · rw [show k = N by omega, ht, j3]
            cases t <;> rfl
      · obtain ⟨l, h1, h2, h3⟩ := dep (Q := Q) (n := n) N P m (by omega)
        refine ⟨l, h1, h2, fun k hk hq => ?_⟩
        rcases Nat.lt_or_ge k N with g | g
        · exact h3 k g hq
        · rw [show k = N by omega]
          exact xs_0 (fun i hi => by
            cases g1 : l i with
            | false => rfl
            | true =>
              cases g2 : m i N with
              | false => rfl
              | true => exact absurd ⟨i, hi, h1 i g1, g2⟩ hj)
/-- forms of which each has 1 where all later ones have 0 -/
theorem indep {n : Nat} {P : Nat → Bool} {V : Nat → Nat → Bool} {K : Nat → Nat} (h1 : ∀ i, i < n → P i = true → V i (K i) = true) (h0 : ∀ i j, i < j → j < n → P i = true → P j = true → V j (K i) = false) {l : Nat → Bool} (hl : ∀ i, l i = true → P i = true) (hn : ∃ i, i < n ∧ l i = true) : ∃ i, i < n ∧ P i = true ∧ xs (fun k => l k && V k (K i)) n = true := by
  obtain ⟨i, i1, i2, i3⟩ := fb_first (p := fun i => l i = true) hn
  refine ⟨i, i1, hl i i2, ?_⟩
  rw [xs_one i1 (fun k hk g => ?_), i2, h1 i i1 (hl i i2)]
  · rfl
  · rcases Nat.lt_or_ge k i with z | z
    · have := i3 k z
      cases y : l k with
      | false => rfl
      | true => exact absurd y this
    · cases y : l k with
      | false => rfl
      | true => rw [h0 i k (by omega) hk (hl i i2) (hl k y)]; rfl
/-- sets of rows of truths that hold sums, and what is the same up to N -/
def clN (N : Nat) (W : (Nat → Bool) → Prop) : Prop := W (fun _ => false) ∧ (∀ u v, W u → W v → W (fun x => u x ^^ v x)) ∧ ∀ u v, (∀ e, e < N → u e = v e) → W u → W v
theorem cl_sum (N : Nat) (M : Nat → Nat → Bool) (n : Nat) : clN N (fun v => ∃ b : Nat → Bool, ∀ e, e < N → v e = xs (fun u => b u && M e u) n) := by
  refine ⟨⟨fun _ => false, fun e _ => (xs_0 (fun _ _ => rfl)).symm⟩, ?_, ?_⟩
  · rintro u v ⟨b, hb⟩ ⟨b', hb'⟩
    refine ⟨fun k => b k ^^ b' k, fun e he => ?_⟩
    show (u e ^^ v e) = _
    rw [hb e he, hb' e he, ← xs_xor]
    exact xs_cong (fun k _ => by
      show ((b k && M e k) ^^ (b' k && M e k)) = ((b k ^^ b' k) && M e k)
      cases b k <;> cases b' k <;> cases M e k <;> rfl)
  · rintro u v h ⟨b, hb⟩
    exact ⟨b, fun e he => by rw [← h e he]; exact hb e he⟩
theorem cl_dot (N : Nat) (w : Nat → Bool) : clN N (fun v => xs (fun e => w e && v e) N = false) := by
  refine ⟨xs_0 (fun _ _ => Bool.and_false _), ?_, ?_⟩
  · intro u v hu hv
    have e : xs (fun e => w e && (u e ^^ v e)) N = (xs (fun e => w e && u e) N ^^ xs (fun e => w e && v e) N) := by
      rw [← xs_xor]
      exact xs_cong (fun k _ => by
        show (w k && (u k ^^ v k)) = ((w k && u k) ^^ (w k && v k))
        cases w k <;> cases u k <;> cases v k <;> rfl)
    show xs (fun e => w e && (u e ^^ v e)) N = false
    rw [e, hu, hv]
    rfl
  · intro u v h hu
    show xs (fun e => w e && v e) N = false
    rw [← hu]
    exact xs_cong (fun k hk => by rw [h k hk])
/-- as many forms that don't depend as there are rows g by which all rows are made, at most -/
theorem rank_le {E N n : Nat} {P : Nat → Bool} {V : Nat → Nat → Bool} {M : Nat → Nat → Bool} {g : Nat → Nat → Bool} (h1 : ∀ p, p < E → P p = true → V p p = true) (h0 : ∀ p, p < E → P p = true → ∀ e, e < p → V p e = false) (hV : ∀ p, p < E → P p = true → ∃ b : Nat → Bool, ∀ e, e < E → V p e = xs (fun u => b u && M e u) N) (hR : ∀ W, clN N W → (∀ k, k < n → W (g k)) → ∀ e, e < E → W (M e)) : fb_ct P E ≤ n := by
  refine Nat.le_of_not_lt (fun hlt => ?_)
  have hb : ∀ p, ∃ b : Nat → Bool, p < E → P p = true → ∀ e, e < E → V p e = xs (fun u => b u && M e u) N := fun p => by
    by_cases z : p < E ∧ P p = true
    · obtain ⟨b, hb⟩ := hV p z.1 z.2
      exact ⟨b, fun _ _ => hb⟩
    · exact ⟨fun _ => false, fun z1 z2 => absurd ⟨z1, z2⟩ z⟩
  obtain ⟨b, hb⟩ := Classical.axiomOfChoice hb
  have hall : fb_ct (fun _ => true) n = n := fb_ct_all.mpr (fun _ _ => rfl)
  obtain ⟨l, l1, l2, l3⟩ := dep (Q := fun _ => true) (n := E) n P (fun p k => xs (fun u => b p u && g k u) N) (by rw [hall]; exact hlt)
  have W := hR _ (cl_dot N (fun u => xs (fun p => l p && b p u) E)) (fun k hk => by
    rw [← xs_fub]
    exact l3 k hk rfl)
  obtain ⟨i, i1, i2, i3⟩ := indep (n := E) (P := P) (V := V) (K := fun p => p) h1 (fun i j hij hj _ pj => h0 j hj pj i hij) l1 l2
  have w := W i i1
  rw [← xs_fub] at w
  have e : xs (fun k => l k && xs (fun e => b k e && M i e) N) E = xs (fun k => l k && V k i) E := xs_cong (fun k hk => by
    cases z : l k with
    | false => rfl
    | true => rw [hb k hk (l1 k z) i i1])
  rw [e, i3] at w
  cases w

