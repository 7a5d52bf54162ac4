/-! what a scheme gives, as one sum; sums modulo q -/
/-- one product's share at places X 0, X 1, X 2 -/
def tm (A : Nat → Nat → Nat) (i : Nat) (X : Nat → Nat) : Nat := A (3 * i) (X 0) * A (3 * i + 1) (X 1) * A (3 * i + 2) (X 2)
def gX (A : Nat → Nat → Nat) (c : Nat) (X : Nat → Nat) : Nat := fb_sm (fun i => tm A i X) c
def pt (x y z : Nat) : Nat → Nat := fun t => if t = 0 then x else if t = 1 then y else z
theorem gv_gX (A : Nat → Nat → Nat) (c x y z : Nat) : gvN A c x y z = gX A c (pt x y z) := rfl
def in9 (X : Nat → Nat) : Prop := ∀ t, t < 3 → X t < 9
theorem in9_pt {x y z : Nat} (hx : x < 9) (hy : y < 9) (hz : z < 9) : in9 (pt x y z) := fun t _ => by
  unfold pt
  split
  · exact hx
  · split
    · exact hy
    · exact hz
/-- two schemes give the same -/
def eqG (q : Nat) (A : Nat → Nat → Nat) (c : Nat) (B : Nat → Nat → Nat) (c2 : Nat) : Prop := ∀ X, in9 X → gX A c X % q = gX B c2 X % q
theorem eqG_refl (q : Nat) (A : Nat → Nat → Nat) (c : Nat) : eqG q A c A c := fun _ _ => rfl
theorem eqG_symm {q : Nat} {A B : Nat → Nat → Nat} {c c2 : Nat} (h : eqG q A c B c2) : eqG q B c2 A c := fun X hX => (h X hX).symm
theorem eqG_trans {q : Nat} {A B C : Nat → Nat → Nat} {c c2 c3 : Nat} (h : eqG q A c B c2) (h2 : eqG q B c2 C c3) : eqG q A c C c3 := fun X hX => (h X hX).trans (h2 X hX)
/-- all numbers are below q -/
def Bd (q c : Nat) (A : Nat → Nat → Nat) : Prop := ∀ k, k < 3 * c → ∀ p, p < 9 → A k p < q
theorem bd_at {q c i t : Nat} {A : Nat → Nat → Nat} (h : Bd q c A) (hi : i < c) (ht : t < 3) : ∀ p, p < 9 → A (3 * i + t) p < q := h _ (by omega)
theorem sm_mod {q : Nat} {f g : Nat → Nat} : ∀ {n : Nat}, (∀ k, k < n → f k % q = g k % q) → fb_sm f n % q = fb_sm g n % q
  | 0, _ => rfl
  | n + 1, h => by
    rw [fb_sm_succ, fb_sm_succ, Nat.add_mod, sm_mod (fun k hk => h k (by omega)), h n (by omega), ← Nat.add_mod]
/-- two of a sum taken out -/
theorem sm_pull {f : Nat → Nat} {i j n : Nat} (hi : i < n) (hj : j < n) (hij : i ≠ j) : fb_sm f n = fb_sm (fun k => if k = j then 0 else if k = i then 0 else f k) n + (f i + f j) := by
  have h1 := fb_sm_upd f 0 hi
  have h2 := fb_sm_upd (fun k => if k = i then 0 else f k) 0 hj
  have e : (if j = i then 0 else f j) = f j := if_neg (fun q => hij q.symm)
  rw [e] at h2
  omega
theorem sm_two {q : Nat} {f g : Nat → Nat} {i j n : Nat} (hi : i < n) (hj : j < n) (hij : i ≠ j) (h : ∀ k, k < n → k ≠ i → k ≠ j → f k % q = g k % q) (e : (f i + f j) % q = (g i + g j) % q) : fb_sm f n % q = fb_sm g n % q := by
  rw [sm_pull (f := f) hi hj hij, sm_pull (f := g) hi hj hij, Nat.add_mod, e, sm_mod (g := fun k => if k = j then 0 else if k = i then 0 else g k), ← Nat.add_mod]
  intro k hk
  by_cases h1 : k = j
  · rw [if_pos h1, if_pos h1]
  · rw [if_neg h1, if_neg h1]
    by_cases h2 : k = i
    · rw [if_pos h2, if_pos h2]
    · rw [if_neg h2, if_neg h2]
      exact h k hk h2 h1
theorem sm_one {q : Nat} {f g : Nat → Nat} {i n : Nat} (hi : i < n) (h : ∀ k, k < n → k ≠ i → f k % q = g k % q) (e : f i % q = g i % q) : fb_sm f n % q = fb_sm g n % q := sm_mod (fun k hk => by
  by_cases h1 : k = i
  · rw [h1]; exact e
  · exact h k hk h1)
theorem sm_sh (h : Nat → Nat) (m : Nat) : fb_sm h (m + 1) = h 0 + fb_sm (fun k => h (k + 1)) m := by
  rw [Nat.add_comm m 1, fb_sm_split]
  congr 1
  · show fb_sm h 0 + h 0 = h 0
    show 0 + h 0 = h 0
    omega
  · exact fb_sm_cong (fun k _ => by rw [Nat.add_comm])
/-- one of a sum goes, those behind it get a number less -/
theorem sm_rm (f : Nat → Nat) {j n : Nat} (hj : j < n) : fb_sm (fun k => if k < j then f k else f (k + 1)) (n - 1) + f j = fb_sm f n := by
  obtain ⟨m, rfl⟩ : ∃ m, n = j + (m + 1) := ⟨n - j - 1, by omega⟩
  rw [show j + (m + 1) - 1 = j + m by omega, fb_sm_split, fb_sm_split f j (m + 1), sm_sh]
  have e1 : fb_sm (fun k => if k < j then f k else f (k + 1)) j = fb_sm f j := fb_sm_cong (fun k hk => if_pos hk)
  have e2 : fb_sm (fun k => (fun k => if k < j then f k else f (k + 1)) (j + k)) m = fb_sm (fun k => f (j + (k + 1))) m := fb_sm_cong (fun k _ => by
    dsimp only
    rw [if_neg (by omega), Nat.add_assoc])
  rw [e1, e2, Nat.add_zero]
  omega
theorem sm_cut {q : Nat} {f : Nat → Nat} {i j n : Nat} (hi : i < n) (hj : j < n) (hij : i ≠ j) : fb_sm f n = fb_sm (fun k => if k = j then 0 else if k = i then 0 else f k) n + (f i + f j) := sm_pull hi hj hij
theorem gX_rm {A : Nat → Nat → Nat} {c j : Nat} {X : Nat → Nat} (hj : j < c) : gX (rmA A j) (c - 1) X + tm A j X = gX A c X := by
  unfold gX
  rw [← sm_rm (fun i => tm A i X) hj]
  congr 1
  refine fb_sm_cong (fun k _ => ?_)
  unfold tm rmA
  by_cases h : k < j
  · rw [if_pos h, if_pos (by omega), if_pos (by omega), if_pos (by omega)]
  · rw [if_neg h, if_neg (by omega), if_neg (by omega), if_neg (by omega), show 3 * k + 3 = 3 * (k + 1) by omega, show 3 * k + 1 + 3 = 3 * (k + 1) + 1 by omega, show 3 * k + 2 + 3 = 3 * (k + 1) + 2 by omega]
theorem gX_ad {A B : Nat → Nat → Nat} {c i : Nat} {X : Nat → Nat} : gX (adA A c B i) (c + 1) X = gX A c X + tm B i X := by
  unfold gX
  rw [fb_sm_succ]
  congr 1
  · refine fb_sm_cong (fun k hk => ?_)
    unfold tm adA
    rw [if_pos (by omega), if_pos (by omega), if_pos (by omega)]
  · unfold tm adA
    rw [if_neg (by omega), if_neg (by omega), if_neg (by omega), show 3 * c - 3 * c = 0 by omega, show 3 * c + 1 - 3 * c = 1 by omega, show 3 * c + 2 - 3 * c = 2 by omega]
    rfl
theorem tm_cong {A B : Nat → Nat → Nat} {i : Nat} {X : Nat → Nat} (h : ∀ t, t < 3 → A (3 * i + t) = B (3 * i + t)) : tm A i X = tm B i X := by
  unfold tm
  rw [show 3 * i = 3 * i + 0 from rfl, h 0 (by decide), h 1 (by decide), h 2 (by decide)]
theorem tm_w {A : Nat → Nat → Nat} {i w : Nat} {X : Nat → Nat} (hw : w < 3) : tm A i X = A (3 * i + w) (X w) * A (3 * i + nx w) (X (nx w)) * A (3 * i + nx (nx w)) (X (nx (nx w))) := by
  rcases (show w = 0 ∨ w = 1 ∨ w = 2 by omega) with rfl | rfl | rfl
  · rfl
  · show A (3 * i) (X 0) * A (3 * i + 1) (X 1) * A (3 * i + 2) (X 2) = A (3 * i + 1) (X 1) * A (3 * i + 2) (X 2) * A (3 * i) (X 0)
    rw [Nat.mul_comm (A (3 * i + 1) (X 1) * A (3 * i + 2) (X 2)), Nat.mul_assoc]
  · show A (3 * i) (X 0) * A (3 * i + 1) (X 1) * A (3 * i + 2) (X 2) = A (3 * i + 2) (X 2) * A (3 * i) (X 0) * A (3 * i + 1) (X 1)
    rw [Nat.mul_assoc (A (3 * i + 2) (X 2)), Nat.mul_comm (A (3 * i + 2) (X 2))]
theorem upA_eq (A : Nat → Nat → Nat) (k : Nat) (a : Nat → Nat) : upA A k a k = a := if_pos rfl
theorem upA_ne {A : Nat → Nat → Nat} {k j : Nat} {a : Nat → Nat} (h : j ≠ k) : upA A k a j = A j := if_neg h
theorem upA_ot {A : Nat → Nat → Nat} {i m t u : Nat} {a : Nat → Nat} (h : m ≠ i) (ht : t < 3) (hu : u < 3) : upA A (3 * i + t) a (3 * m + u) = A (3 * m + u) := upA_ne (by omega)
theorem upA_tt {A : Nat → Nat → Nat} {i t u : Nat} {a : Nat → Nat} (h : u ≠ t) : upA A (3 * i + t) a (3 * i + u) = A (3 * i + u) := upA_ne (by omega)
theorem bd_up {q c k : Nat} {A : Nat → Nat → Nat} {a : Nat → Nat} (h : Bd q c A) (ha : ∀ p, p < 9 → a p < q) : Bd q c (upA A k a) := fun j hj p hp => by
  unfold upA
  split
  · exact ha p hp
  · exact h j hj p hp
theorem bd_rm {q c j : Nat} {A : Nat → Nat → Nat} (h : Bd q c A) : Bd q (c - 1) (rmA A j) := fun k hk p hp => by
  unfold rmA
  split
  · exact h k (by omega) p hp
  · exact h (k + 3) (by omega) p hp
theorem bd_ad {q c i c2 : Nat} {A B : Nat → Nat → Nat} (h : Bd q c A) (h2 : Bd q c2 B) (hi : i < c2) : Bd q (c + 1) (adA A c B i) := fun k hk p hp => by
  unfold adA
  split
  · exact h k (by omega) p hp
  · exact h2 _ (by omega) p hp
theorem bd_0 {q : Nat} {A : Nat → Nat → Nat} : Bd q 0 A := fun k hk => absurd hk (by omega)
/-- which f makes two forms LIKE -/
theorem like_mul {q : Nat} (hq : q = 2 ∨ q = 3) {a b : Nat → Nat} (ha : ∀ p, p < 9 → a p < q) (h : likeN q a b ≠ 0) : ∀ p, p < 9 → b p = likeN q a b * a p % q := by
  intro p hp
  unfold likeN at h ⊢
  split
  · rename_i h1
    rw [if_pos h1] at h
    exact absurd rfl h
  · rename_i h1
    rw [if_neg h1] at h
    split
    · rename_i h2
      rw [h2 p hp, Nat.one_mul, Nat.mod_eq_of_lt (ha p hp)]
    · rename_i h2
      rw [if_neg h2] at h
      split
      · rename_i h3
        rw [h3.2 p hp, h3.1]
      · rename_i h3
        rw [if_neg h3] at h
        exact absurd rfl h
theorem lk_ne {q : Nat} {A : Nat → Nat → Nat} {t i k : Nat} (h : lkB q A t i k = true) : likeN q (A (3 * i + t)) (A (3 * k + t)) ≠ 0 := by
  unfold lkB at h
  simpa using h
theorem lk_of {q : Nat} {A : Nat → Nat → Nat} {t i k : Nat} (h : likeN q (A (3 * i + t)) (A (3 * k + t)) ≠ 0) : lkB q A t i k = true := by
  unfold lkB
  simpa using h
theorem hz_tm {A : Nat → Nat → Nat} {i : Nat} {X : Nat → Nat} (h : hzB A i = true) (hX : in9 X) : tm A i X = 0 := by
  unfold hzB zB at h
  simp only [Bool.or_eq_true, decide_eq_true_eq] at h
  unfold tm
  rcases h with (h | h) | h
  · rw [h _ (hX 0 (by decide)), Nat.zero_mul, Nat.zero_mul]
  · rw [h _ (hX 1 (by decide)), Nat.mul_zero, Nat.zero_mul]
  · rw [h _ (hX 2 (by decide)), Nat.mul_zero]
theorem nxx {w : Nat} (hw : w < 3) : nx w < 3 ∧ nx (nx w) < 3 ∧ nx w ≠ w ∧ nx (nx w) ≠ w ∧ nx (nx w) ≠ nx w := ⟨nx_lt _, nx_lt _, (nx_ne hw).1, (nx_ne hw).2.1, (nx_ne hw).2.2⟩
theorem t_cases {w t : Nat} (hw : w < 3) (ht : t < 3) : t = w ∨ t = nx w ∨ t = nx (nx w) := by
  have h := nxx hw
  omega
/-- all numbers below n, by computing -/
def al (n : Nat) (p : Nat → Bool) : Bool := (List.range n).all p
theorem al_ok {n : Nat} {p : Nat → Bool} (h : al n p = true) {k : Nat} (hk : k < n) : p k = true := List.all_eq_true.mp h k (List.mem_range.mpr hk)
