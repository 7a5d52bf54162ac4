/-! LIKE is an equivalence; groups -/
def lkQ (q : Nat) (a b : Nat → Nat) : Prop := (∃ p, p < 9 ∧ a p ≠ 0) ∧ ∃ f, f < q ∧ f ≠ 0 ∧ ∀ p, p < 9 → b p = f * a p % q
theorem not_all {a : Nat → Nat} (h : ¬ ∀ p, p < 9 → a p = 0) : ∃ p, p < 9 ∧ a p ≠ 0 := by
  refine Classical.byContradiction (fun k => h (fun p hp => ?_))
  exact Classical.byContradiction (fun z => k ⟨p, hp, z⟩)
theorem like_nz {q : Nat} {a b : Nat → Nat} (h : likeN q a b ≠ 0) : (¬ ∀ p, p < 9 → a p = 0) ∧ ¬ ∀ p, p < 9 → b p = 0 := by
  unfold likeN at h
  constructor
  · intro k
    rw [if_pos (Or.inl k)] at h
    exact h rfl
  · intro k
    rw [if_pos (Or.inr k)] at h
    exact h rfl
theorem lkQ_of {q : Nat} (hq : q = 2 ∨ q = 3) {a b : Nat → Nat} (ha : ∀ p, p < 9 → a p < q) (h : likeN q a b ≠ 0) : lkQ q a b := ⟨not_all (like_nz h).1, _, likeN_lt_q hq a b, h, like_mul hq ha h⟩
def ni (q : Nat) : Bool := al q (fun f => al q (fun x => f == 0 || f * (f * x % q) % q == x))
theorem ni_ok {q : Nat} (hq : q = 2 ∨ q = 3) {f x : Nat} (hf : f < q) (hx : x < q) (h0 : f ≠ 0) : f * (f * x % q) % q = x := by
  have h : ni q = true := by rcases hq with rfl | rfl <;> decide +kernel
  have h := al_ok (al_ok h hf) hx
  simpa [h0] using h
theorem like_of {q : Nat} (hq : q = 2 ∨ q = 3) {a b : Nat → Nat} (ha : ∀ p, p < 9 → a p < q) (h : lkQ q a b) : likeN q a b ≠ 0 := by
  obtain ⟨⟨p0, hp0, hz⟩, f, hf, h0, hb⟩ := h
  have bz : ¬ ∀ p, p < 9 → b p = 0 := fun k => by
    have h1 := hb p0 hp0
    have h2 := ni_ok hq hf (ha p0 hp0) h0
    rw [← h1, k p0 hp0, Nat.mul_zero, Nat.zero_mod] at h2
    exact hz h2.symm
  unfold likeN
  rw [if_neg (fun k => k.elim (fun k => hz (k p0 hp0)) bz)]
  split
  · decide
  · rename_i h1
    rcases (show f = 1 ∨ f = 2 by omega) with rfl | rfl
    · exact absurd (fun p hp => by rw [hb p hp, Nat.one_mul, Nat.mod_eq_of_lt (ha p hp)]) h1
    · have hq3 : q = 3 := by omega
      subst hq3
      rw [if_pos ⟨rfl, hb⟩]
      decide
theorem lkQ_sym {q : Nat} (hq : q = 2 ∨ q = 3) {a b : Nat → Nat} (ha : ∀ p, p < 9 → a p < q) (h : lkQ q a b) : lkQ q b a := by
  have hb0 := (like_nz (like_of hq ha h)).2
  obtain ⟨hz, f, hf, h0, hb⟩ := h
  exact ⟨not_all hb0, f, hf, h0, fun p hp => by rw [hb p hp]; exact (ni_ok hq hf (ha p hp) h0).symm⟩
theorem lkQ_trans {q : Nat} (hq : q = 2 ∨ q = 3) {a b e : Nat → Nat} (h : lkQ q a b) (h2 : lkQ q b e) : lkQ q a e := by
  obtain ⟨hz, f, hf, h0, hb⟩ := h
  obtain ⟨-, g, hg, g0, he⟩ := h2
  refine ⟨hz, g * f % q, Nat.mod_lt _ (by omega), ?_, fun p hp => ?_⟩
  · rcases hq with rfl | rfl
    · have : g = 1 := by omega
      have : f = 1 := by omega
      subst_vars
      decide
    · rcases (show g = 1 ∨ g = 2 by omega) with rfl | rfl <;> rcases (show f = 1 ∨ f = 2 by omega) with rfl | rfl <;> decide
  · rw [he p hp, hb p hp, Nat.mod_mul_mod, Nat.mul_assoc, Nat.mul_mod_mod]
section
variable {q c t : Nat} {A : Nat → Nat → Nat}
theorem lkB_Q (hq : q = 2 ∨ q = 3) (hA : Bd q c A) (ht : t < 3) {i k : Nat} (hi : i < c) : lkB q A t i k = true ↔ lkQ q (A (3 * i + t)) (A (3 * k + t)) := ⟨fun h => lkQ_of hq (bd_at hA hi ht) (lk_ne h), fun h => lk_of (like_of hq (bd_at hA hi ht) h)⟩
theorem bs_z0 {f : Nat → Bool} {n : Nat} (h : bs f n = 0) : ∀ j, j < n → f j = false := fun j hj => by
  have h1 := bs_bit f n j
  rw [h, Nat.zero_testBit] at h1
  simpa [hj] using h1.symm
/-- the first of a group of two or more -/
def ldB (q : Nat) (A : Nat → Nat → Nat) (t c i : Nat) : Bool := decide (bs (lkB q A t i) i = 0 ∧ 2 ≤ fb_ct (lkB q A t i) c)
theorem gs_ldc : ∀ n, (gsS q A t c n).1 = fb_ct (ldB q A t c) n ∧ (gsS q A t c n).2.2 ≤ c
  | 0 => ⟨rfl, Nat.zero_le _⟩
  | n + 1 => by
    obtain ⟨i1, i2⟩ := gs_ldc n
    rw [gsS, fb_ct_succ]
    by_cases h : bs (lkB q A t n) n = 0 ∧ 2 ≤ fb_ct (lkB q A t n) c
    · rw [if_pos h, if_pos (show ldB q A t c n = true from decide_eq_true h), i1]
      refine ⟨rfl, ?_⟩
      dsimp only
      split
      · exact fb_ct_le _ _
      · exact i2
    · rw [if_neg h, if_neg (show ¬ ldB q A t c n = true from fun k => h (of_decide_eq_true k)), Nat.add_zero]
      exact ⟨i1, i2⟩
theorem ct_le1 {f : Nat → Bool} : ∀ {n : Nat}, (∀ i j, i < n → j < n → f i = true → f j = true → i = j) → fb_ct f n ≤ 1
  | 0, _ => Nat.zero_le _
  | n + 1, h => by
    rw [fb_ct_succ]
    by_cases k : f n = true
    · rw [if_pos k]
      have : fb_ct f n = 0 := fb_ct_zero.mpr (fun i hi => by
        refine Bool.eq_false_iff.mpr (fun z => ?_)
        have := h i n (by omega) (by omega) z k
        omega)
      omega
    · rw [if_neg k]
      exact ct_le1 (fun i j hi hj => h i j (by omega) (by omega))
theorem gs_half (hq : q = 2 ∨ q = 3) (hA : Bd q c A) (ht : t < 3) : 2 * (gsS q A t c c).1 ≤ c := by
  rw [(gs_ldc c).1]
  have e1 : 2 * fb_ct (ldB q A t c) c ≤ fb_sm (fun i => fb_sm (fun k => if (ldB q A t c i && lkB q A t i k) = true then 1 else 0) c) c := by
    rw [ct_sm, ← sm_scal]
    refine fb_sm_le (fun i hi => ?_)
    by_cases h : ldB q A t c i = true
    · rw [if_pos h]
      have h2 := (of_decide_eq_true h).2
      rw [ct_sm] at h2
      refine Nat.le_trans h2 (Nat.le_of_eq (fb_sm_cong (fun k _ => ?_)))
      rw [h, Bool.true_and]
    · rw [if_neg h]
      omega
  rw [sm_swap] at e1
  refine Nat.le_trans e1 (Nat.le_trans (fb_sm_bound (c := 1) (fun k hk => ?_)) (by omega))
  rw [← ct_sm (fun i => ldB q A t c i && lkB q A t i k)]
  refine ct_le1 (fun i j hi hj h1 h2 => ?_)
  rw [Bool.and_eq_true] at h1 h2
  have q1 := (lkB_Q hq hA ht hi).mp h1.2
  have q2 := (lkB_Q hq hA ht hj).mp h2.2
  have q12 : lkB q A t i j = true := (lkB_Q hq hA ht hi).mpr (lkQ_trans hq q1 (lkQ_sym hq (bd_at hA hj ht) q2))
  have q21 : lkB q A t j i = true := (lkB_Q hq hA ht hj).mpr (lkQ_trans hq q2 (lkQ_sym hq (bd_at hA hi ht) q1))
  rcases Nat.lt_trichotomy i j with e | e | e
  · have := bs_z0 (of_decide_eq_true h2.1).1 i e
    rw [q21] at this
    cases this
  · exact e
  · have := bs_z0 (of_decide_eq_true h1.1).1 j e
    rw [q12] at this
    cases this
end
/-! what the forms span: not more than unlike ones there are -/
def nl (q : Nat) : Bool := al q (fun f => al q (fun r => al q (fun s => al q (fun R => ((f * r % q) + (q - ((f * s % q) * R % q))) % q == f * ((r + (q - (s * R % q))) % q) % q))))
theorem nl_ok {q : Nat} (hq : q = 2 ∨ q = 3) {f r s R : Nat} (hf : f < q) (hr : r < q) (hs : s < q) (hR : R < q) : ((f * r % q) + (q - ((f * s % q) * R % q))) % q = f * ((r + (q - (s * R % q))) % q) % q := by
  have h : nl q = true := by rcases hq with rfl | rfl <;> decide +kernel
  have h := al_ok (al_ok (al_ok (al_ok h hf) hr) hs) hR
  simpa using h
/-- pivots are places, reduced forms have numbers -/
def PI (q : Nat) (B : zB4) : Prop := ∀ k, k < B.1 → B.2.2.2 k < 9 ∧ ∀ p, p < 9 → B.2.1 k p < q
section
variable {q : Nat} {B : zB4} {a b : Nat → Nat}
theorem PI_up (hq : q = 2 ∨ q = 3) (h : PI q B) : PI q (bkS q B a) := fun k hk => by
  have hk : k < B.1 + 1 := hk
  show setp B.2.2.2 B.1 _ k < 9 ∧ ∀ p, p < 9 → upA B.2.1 B.1 _ k p < q
  by_cases e : k = B.1
  · subst e
    rw [upA_eq]
    unfold setp
    rw [if_pos rfl]
    exact ⟨fp_lt _, fun p _ => fMul_lt hq _ _ p⟩
  · rw [upA_ne e]
    unfold setp
    rw [if_neg e]
    exact h k (by omega)
theorem rd_lin (hq : q = 2 ∨ q = 3) (h : PI q B) {f : Nat} (hf : f < q) (ha : ∀ p, p < 9 → a p < q) (hb : ∀ p, p < 9 → b p = f * a p % q) : ∀ k, k ≤ B.1 → (∀ p, p < 9 → (rdB q B b k).1 p = f * (rdB q B a k).1 p % q) ∧ ∀ p, p < 9 → (rdB q B a k).1 p < q
  | 0, _ => ⟨hb, ha⟩
  | k + 1, hk => by
    obtain ⟨i1, i2⟩ := rd_lin hq h hf ha hb k (by omega)
    obtain ⟨h1, h2⟩ := h k (by omega)
    refine ⟨fun p hp => ?_, fun p _ => fSub_lt hq _ _ p⟩
    show ((rdB q B b k).1 p + (q - ((rdB q B b k).1 (B.2.2.2 k) * B.2.1 k p % q))) % q = f * (((rdB q B a k).1 p + (q - ((rdB q B a k).1 (B.2.2.2 k) * B.2.1 k p % q))) % q) % q
    rw [i1 p hp, i1 _ h1]
    exact nl_ok hq hf (i2 p hp) (i2 _ h1) (h2 p hp)
/-- a is a sum of those taken, if there is room for more -/
def KN (q : Nat) (B : zB4) (a : Nat → Nat) : Prop := B.1 < 9 → zB (rest q B a) = true
theorem zB_iff {a : Nat → Nat} : zB a = true ↔ ∀ p, p < 9 → a p = 0 := decide_eq_true_iff
theorem KN_like (hq : q = 2 ∨ q = 3) (h : PI q B) {f : Nat} (hf : f < q) (ha : ∀ p, p < 9 → a p < q) (hb : ∀ p, p < 9 → b p = f * a p % q) (k : KN q B a) : KN q B b := fun h9 => by
  have k1 := zB_iff.mp (k h9)
  refine zB_iff.mpr (fun p hp => ?_)
  have e := (rd_lin hq h hf ha hb B.1 (Nat.le_refl _)).1 p hp
  have k2 : (rdB q B a B.1).1 p = 0 := k1 p hp
  show (rdB q B b B.1).1 p = 0
  rw [e, k2, Nat.mul_zero, Nat.zero_mod]
/-- the steps behind a new one are as before -/
theorem rd_old (q : Nat) (B : zB4) (a b : Nat → Nat) : ∀ k, k ≤ B.1 → rdB q (bkS q B b) a k = rdB q B a k
  | 0, _ => rfl
  | k + 1, hk => by
    have ih := rd_old q B a b k (by omega)
    have e1 : (bkS q B b).2.1 k = B.2.1 k := upA_ne (by omega)
    have e2 : (bkS q B b).2.2.1 k = B.2.2.1 k := upA_ne (by omega)
    have e3 : (bkS q B b).2.2.2 k = B.2.2.2 k := if_neg (by omega)
    rw [rdB, rdB, ih, e1, e2, e3]
theorem rest_up (q : Nat) (B : zB4) (a b : Nat → Nat) : rest q (bkS q B b) a = fSub q (rest q B a) (fMul q (rest q B a (fp (rest q B b))) (fMul q (rest q B b (fp (rest q B b))) (rest q B b))) := by
  show (rdB q (bkS q B b) a (B.1 + 1)).1 = _
  rw [rdB, rd_old q B a b B.1 (Nat.le_refl _)]
  have e1 : (bkS q B b).2.1 B.1 = fMul q (rest q B b (fp (rest q B b))) (rest q B b) := upA_eq _ _ _
  have e3 : (bkS q B b).2.2.2 B.1 = fp (rest q B b) := if_pos rfl
  rw [e1, e3]
  rfl
theorem KN_up (k : KN q B a) : KN q (bkS q B b) a := fun h9 => by
  have h9 : B.1 + 1 < 9 := h9
  have k1 := zB_iff.mp (k (by omega))
  refine zB_iff.mpr (fun p hp => ?_)
  rw [rest_up]
  show (rest q B a p + (q - (rest q B a (fp (rest q B b)) * fMul q (rest q B b (fp (rest q B b))) (rest q B b) p) % q)) % q = 0
  rw [k1 p hp, k1 _ (fp_lt _), Nat.zero_mul, Nat.zero_mod, Nat.sub_zero, Nat.zero_add, Nat.mod_self]
theorem fp_nz {a : Nat → Nat} (h : ¬ zB a = true) : a (fp a) ≠ 0 := by
  obtain ⟨p, hp, h1⟩ := not_all (fun k => h (zB_iff.mpr k))
  unfold fp
  by_cases e : fi (fun p => a p != 0) 9 < 9
  · rw [if_pos e]
    have := (fi_lt e).1
    simpa using this
  · have := fi_ge e p hp
    simp at this
    exact absurd this h1
theorem KN_self (hq : q = 2 ∨ q = 3) (hr : ∀ p, p < 9 → rest q B a p < q) (hb : bkB q B a = true) : KN q (bkS q B a) a := fun _ => by
  unfold bkB at hb
  simp only [Bool.and_eq_true, Bool.not_eq_true'] at hb
  have hz : ¬ zB (rest q B a) = true := by rw [hb.1]; decide
  refine zB_iff.mpr (fun p hp => ?_)
  rw [rest_up]
  show (rest q B a p + (q - (rest q B a (fp (rest q B a)) * (rest q B a (fp (rest q B a)) * rest q B a p % q)) % q)) % q = 0
  rw [ni_ok hq (hr _ (fp_lt _)) (hr p hp) (fp_nz hz)]
  have := hr p hp
  rw [show rest q B a p + (q - rest q B a p) = q by omega, Nat.mod_self]
end
section
variable {q c t : Nat} {A : Nat → Nat → Nat}
theorem sp_ct : ∀ n, (spS q A t n).1 = fb_ct (spF q A t) n
  | 0 => rfl
  | n + 1 => by
    rw [spS, fb_ct_succ, ← sp_ct n]
    by_cases h : bkB q (spS q A t n) (A (3 * n + t)) = true
    · rw [if_pos h, if_pos (show spF q A t n = true from h)]
      rfl
    · rw [if_neg h, if_neg (show ¬ spF q A t n = true from h), Nat.add_zero]
theorem sp_PI (hq : q = 2 ∨ q = 3) : ∀ n, PI q (spS q A t n)
  | 0 => fun k hk => absurd hk (Nat.not_lt_zero k)
  | n + 1 => by
    rw [spS]
    split
    · exact PI_up hq (sp_PI hq n)
    · exact sp_PI hq n
theorem sp_KN (hq : q = 2 ∨ q = 3) (hA : Bd q c A) (ht : t < 3) {j : Nat} (hj : j < c) : ∀ n, j < n → KN q (spS q A t n) (A (3 * j + t))
  | 0, h => absurd h (Nat.not_lt_zero j)
  | n + 1, h => by
    by_cases e : j = n
    · subst e
      rw [spS]
      split
      · rename_i hb
        exact KN_self hq (rd_lin hq (sp_PI hq j) (f := 0) (b := fun p => 0 * A (3 * j + t) p % q) (by omega) (bd_at hA hj ht) (fun _ _ => rfl) _ (Nat.le_refl _)).2 hb
      · rename_i hb
        intro h9
        unfold bkB at hb
        simpa [h9] using hb
    · have ih := sp_KN hq hA ht hj n (by omega)
      rw [spS]
      split
      · exact KN_up ih
      · exact ih
theorem sp_ul (hq : q = 2 ∨ q = 3) (hA : Bd q c A) (ht : t < 3) : (spS q A t c).1 ≤ fb_ct (ulB q A t) c := by
  rw [sp_ct]
  refine fb_ct_sub (fun i hi h => ?_)
  have h : bkB q (spS q A t i) (A (3 * i + t)) = true := h
  unfold bkB at h
  simp only [Bool.and_eq_true, Bool.not_eq_true', decide_eq_true_eq] at h
  obtain ⟨hz, h9⟩ := h
  unfold ulB
  rw [Bool.and_eq_true]
  have hPI := sp_PI (A := A) (t := t) hq i
  constructor
  · rw [Bool.not_eq_true']
    refine Bool.eq_false_iff.mpr (fun z => ?_)
    have z := zB_iff.mp z
    have l := (rd_lin hq hPI (f := 0) (a := fun _ => 0) (b := A (3 * i + t)) (by omega) (fun _ _ => by omega) (fun p hp => by rw [z p hp, Nat.mul_zero, Nat.zero_mod]) _ (Nat.le_refl _)).1
    have : zB (rest q (spS q A t i) (A (3 * i + t))) = true := zB_iff.mpr (fun p hp => by
      have := l p hp
      rw [Nat.zero_mul, Nat.zero_mod] at this
      exact this)
    rw [this] at hz
    cases hz
  · refine decide_eq_true (fun j hj => Bool.eq_false_iff.mpr (fun k => ?_))
    have hjc : j < c := by omega
    have q1 := lkQ_sym hq (bd_at hA hi ht) ((lkB_Q hq hA ht hi).mp k)
    obtain ⟨-, f, hf, h0, hb⟩ := q1
    have := KN_like hq hPI hf (bd_at hA hjc ht) hb (sp_KN hq hA ht hjc i hj) h9
    rw [this] at hz
    cases hz
end
/-! those that are kept are found again -/
section
variable {q c : Nat} {A : Nat → Nat → Nat}
theorem al_z {i k : Nat} (h : hzB A i = true ∨ hzB A k = true) : alB q A i A k = false := by
  have z : ∀ {a b : Nat → Nat}, (zB a = true ∨ zB b = true) → likeN q a b = 0 := by
    intro a b h
    unfold likeN
    rw [if_pos]
    exact h.elim (fun h => Or.inl (zB_iff.mp h)) (fun h => Or.inr (zB_iff.mp h))
  have e : lkP q A i A k 3 = 0 := by
    show 1 * likeN q (A (3 * i + 0)) (A (3 * k + 0)) * likeN q (A (3 * i + 1)) (A (3 * k + 1)) * likeN q (A (3 * i + 2)) (A (3 * k + 2)) = 0
    unfold hzB at h
    simp only [Bool.or_eq_true] at h
    rcases h with ((h | h) | h) | ((h | h) | h)
    · rw [z (a := A (3 * i + 0)) (Or.inl h), Nat.mul_zero, Nat.zero_mul, Nat.zero_mul]
    · rw [z (a := A (3 * i + 1)) (Or.inl h), Nat.mul_zero, Nat.zero_mul]
    · rw [z (a := A (3 * i + 2)) (Or.inl h), Nat.mul_zero]
    · rw [z (a := A (3 * i + 0)) (b := A (3 * k + 0)) (Or.inr h), Nat.mul_zero, Nat.zero_mul, Nat.zero_mul]
    · rw [z (a := A (3 * i + 1)) (b := A (3 * k + 1)) (Or.inr h), Nat.mul_zero, Nat.zero_mul]
    · rw [z (a := A (3 * i + 2)) (b := A (3 * k + 2)) (Or.inr h), Nat.mul_zero]
  unfold alB
  rw [e, Nat.zero_mod]
  rfl
theorem al_self (hq : q = 2 ∨ q = 3) {i : Nat} (h : ¬ hzB A i = true) : alB q A i A i = true := by
  have z : ∀ {a : Nat → Nat}, ¬ zB a = true → likeN q a a = 1 := by
    intro a h
    have h : ¬ ∀ p, p < 9 → a p = 0 := fun k => h (zB_iff.mpr k)
    unfold likeN
    rw [if_neg (fun k => k.elim h h), if_pos (fun _ _ => rfl)]
  have e : lkP q A i A i 3 = 1 := by
    show 1 * likeN q (A (3 * i + 0)) (A (3 * i + 0)) * likeN q (A (3 * i + 1)) (A (3 * i + 1)) * likeN q (A (3 * i + 2)) (A (3 * i + 2)) = 1
    unfold hzB at h
    simp only [Bool.or_eq_true, not_or] at h
    rw [z (a := A (3 * i + 0)) h.1.1, z (a := A (3 * i + 1)) h.1.2, z (a := A (3 * i + 2)) h.2]
  unfold alB
  rw [e]
  rcases hq with rfl | rfl <;> rfl
theorem tk_self (hq : q = 2 ∨ q = 3) : ∀ i, i ≤ c → ∀ k, k < c → tkB (fun i k => alB q A i A k) c i k = (decide (k < i) && !hzB A k)
  | 0, _, k, _ => rfl
  | i + 1, hi, k, hk => by
    have ih := tk_self hq i (by omega)
    rw [tkB, ih k hk]
    by_cases hz : hzB A i = true
    · have e : fi (fun j => !tkB (fun i k => alB q A i A k) c i j && alB q A i A j) c = c := fi_none (fun j hj => by
        rw [al_z (Or.inl hz), Bool.and_false]
        decide)
      rw [e]
      by_cases e2 : k = i
      · subst e2
        simp [hz, show ¬ k = c by omega]
      · simp [show ¬ k = c by omega, show (k < i) = (k < i + 1) by apply propext; omega]
    · have e : fi (fun j => !tkB (fun i k => alB q A i A k) c i j && alB q A i A j) c = i := fi_at (by omega) (by
        rw [ih i (by omega), al_self hq hz]
        simp) (fun j hj => by
        by_cases hz2 : hzB A j = true
        · rw [al_z (Or.inr hz2), Bool.and_false]
          decide
        · rw [ih j (by omega)]
          simp [hj, hz2])
      rw [e]
      by_cases e2 : k = i
      · subst e2
        simp [hz]
      · simp [e2, show (k < i) = (k < i + 1) by apply propext; omega]
theorem mt_self (hq : q = 2 ∨ q = 3) : mtN q A c A c = c - fb_ct (hzB A) c := by
  unfold mtN
  rw [fb_ct_cong (q := fun k => !hzB A k) (fun k hk => by rw [tk_self hq c (Nat.le_refl _) k hk]; simp [hk])]
  have := fb_ct_not (hzB A) c
  omega
end
