/-! congruent modulo q -/
def cg (q a b : Nat) : Prop := a % q = b % q
theorem cg_refl (q a : Nat) : cg q a a := rfl
theorem cg_symm {q a b : Nat} (h : cg q a b) : cg q b a := Eq.symm h
theorem cg_trans {q a b c : Nat} (h : cg q a b) (h2 : cg q b c) : cg q a c := Eq.trans h h2
theorem cg_add {q a b c d : Nat} (h : cg q a b) (h2 : cg q c d) : cg q (a + c) (b + d) := by
  unfold cg at *
  rw [Nat.add_mod, h, h2, ← Nat.add_mod]
theorem cg_mul {q a b c d : Nat} (h : cg q a b) (h2 : cg q c d) : cg q (a * c) (b * d) := by
  unfold cg at *
  rw [Nat.mul_mod, h, h2, ← Nat.mul_mod]
theorem cg_mod (q a : Nat) : cg q (a % q) a := Nat.mod_mod a q
theorem cg_can {q a b x : Nat} (hq : q = 2 ∨ q = 3) (h : cg q (a + x) (b + x)) : cg q a b := by
  unfold cg at *
  rcases hq with rfl | rfl <;> omega
theorem cg_sub {q a b : Nat} (hb : b < q) : cg q ((a + (q - b)) % q + b) a := by
  have h := cg_add (cg_mod q (a + (q - b))) (cg_refl q b)
  refine cg_trans h ?_
  unfold cg
  rw [show a + (q - b) + b = a + q by omega, Nat.add_mod_right]
/-- a sum of forms, each times a number -/
def sF (Q : Nat → Nat) (o : Nat → Nat → Nat) (n p : Nat) : Nat := fb_sm (fun m => Q m * o m p) n
theorem sF_cong {Q R : Nat → Nat} {o u : Nat → Nat → Nat} {n p : Nat} (h : ∀ m, m < n → Q m = R m) (h2 : ∀ m, m < n → o m p = u m p) : sF Q o n p = sF R u n p := fb_sm_cong (fun m hm => by rw [h m hm, h2 m hm])
theorem sF_add {q : Nat} (P M : Nat → Nat) (o : Nat → Nat → Nat) (f p : Nat) : ∀ n, cg q (sF (fAdd q P (fMul q f M)) o n p) (sF P o n p + f * sF M o n p)
  | 0 => cg_refl _ _
  | n + 1 => by
    have ih := sF_add (q := q) P M o f p n
    have h1 : cg q (fAdd q P (fMul q f M) n) (P n + f * M n) := cg_trans (cg_mod _ _) (cg_add (cg_refl _ _) (cg_mod _ _))
    have h2 := cg_add ih (cg_mul h1 (cg_refl q (o n p)))
    show cg q (sF (fAdd q P (fMul q f M)) o n p + fAdd q P (fMul q f M) n * o n p) (sF P o n p + P n * o n p + f * (sF M o n p + M n * o n p))
    refine cg_trans h2 ?_
    rw [Nat.add_mul, Nat.mul_add, Nat.mul_assoc]
    have e : sF P o n p + f * sF M o n p + (P n * o n p + f * (M n * o n p)) = sF P o n p + P n * o n p + (f * sF M o n p + f * (M n * o n p)) := by omega
    rw [e]
    exact cg_refl _ _
theorem sF_more {Q : Nat → Nat} {o : Nat → Nat → Nat} {n p : Nat} (h : Q n = 0) : sF Q o (n + 1) p = sF Q o n p := by
  show sF Q o n p + Q n * o n p = sF Q o n p
  rw [h, Nat.zero_mul, Nat.add_zero]
/-- each reduced form is the sum of those taken that its own form of numbers tells -/
def BI (q : Nat) (B : zB4) (o : Nat → Nat → Nat) : Prop := B.1 ≤ 9 ∧ ∀ k, k < B.1 → (∀ p, p < 9 → cg q (B.2.1 k p) (sF (B.2.2.1 k) o B.1 p)) ∧ (∀ m, B.1 ≤ m → m < 9 → B.2.2.1 k m = 0) ∧ (∀ p, p < 9 → B.2.1 k p < q) ∧ ∀ p, p < 9 → B.2.2.1 k p < q
theorem BI_0 (q : Nat) (o : Nat → Nat → Nat) : BI q b0 o := ⟨Nat.zero_le _, fun k hk => absurd hk (Nat.not_lt_zero k)⟩
section
variable {q : Nat} {B : zB4} {o : Nat → Nat → Nat} {a : Nat → Nat}
theorem rd_ok (hq : q = 2 ∨ q = 3) (h : BI q B o) (ha : ∀ p, p < 9 → a p < q) : ∀ k, k ≤ B.1 → (∀ p, p < 9 → cg q (a p) ((rdB q B a k).1 p + sF (rdB q B a k).2 o B.1 p)) ∧ (∀ m, B.1 ≤ m → m < 9 → (rdB q B a k).2 m = 0) ∧ (∀ p, p < 9 → (rdB q B a k).1 p < q) ∧ ∀ p, p < 9 → (rdB q B a k).2 p < q
  | 0, _ => ⟨fun p _ => by
      have e : sF (fun _ => 0) o B.1 p = 0 := by
        unfold sF
        rw [fb_sm_cong (g := fun _ => 0) (fun m _ => Nat.zero_mul _), fb_sm_const]
        rfl
      show cg q (a p) (a p + sF (fun _ => 0) o B.1 p)
      rw [e]
      exact cg_refl _ _, fun _ _ _ => rfl, ha, fun _ _ => by show 0 < q; omega⟩
  | k + 1, hk => by
    obtain ⟨i1, i2, i3, i4⟩ := rd_ok hq h ha k (by omega)
    obtain ⟨b1, b2, b3, b4⟩ := h.2 k (by omega)
    refine ⟨fun p hp => ?_, fun m hm hm9 => ?_, fun p _ => fSub_lt hq _ _ p, fun p _ => fAdd_lt hq _ _ p⟩
    · have h1 := i1 p hp
      have h2 := sF_add (q := q) (rdB q B a k).2 (B.2.2.1 k) o ((rdB q B a k).1 (B.2.2.2 k)) p B.1
      have h3 := b1 p hp
      have h4 : cg q (fSub q (rdB q B a k).1 (fMul q ((rdB q B a k).1 (B.2.2.2 k)) (B.2.1 k)) p + fMul q ((rdB q B a k).1 (B.2.2.2 k)) (B.2.1 k) p) ((rdB q B a k).1 p) := cg_sub (fMul_lt hq _ _ p)
      have h5 : cg q (fMul q ((rdB q B a k).1 (B.2.2.2 k)) (B.2.1 k) p) ((rdB q B a k).1 (B.2.2.2 k) * sF (B.2.2.1 k) o B.1 p) := cg_trans (cg_mod _ _) (cg_mul (cg_refl _ _) h3)
      show cg q (a p) (fSub q (rdB q B a k).1 (fMul q ((rdB q B a k).1 (B.2.2.2 k)) (B.2.1 k)) p + sF (fAdd q (rdB q B a k).2 (fMul q ((rdB q B a k).1 (B.2.2.2 k)) (B.2.2.1 k))) o B.1 p)
      have h6 := cg_add (cg_refl q (fSub q (rdB q B a k).1 (fMul q ((rdB q B a k).1 (B.2.2.2 k)) (B.2.1 k)) p)) h2
      refine cg_trans h1 (cg_symm (cg_trans h6 ?_))
      have h7 := cg_add (cg_add (cg_refl q (fSub q (rdB q B a k).1 (fMul q ((rdB q B a k).1 (B.2.2.2 k)) (B.2.1 k)) p)) (cg_symm h5)) (cg_refl q (sF (rdB q B a k).2 o B.1 p))
      have h8 := cg_add h4 (cg_refl q (sF (rdB q B a k).2 o B.1 p))
      rw [show fSub q (rdB q B a k).1 (fMul q ((rdB q B a k).1 (B.2.2.2 k)) (B.2.1 k)) p + (sF (rdB q B a k).2 o B.1 p + (rdB q B a k).1 (B.2.2.2 k) * sF (B.2.2.1 k) o B.1 p) = fSub q (rdB q B a k).1 (fMul q ((rdB q B a k).1 (B.2.2.2 k)) (B.2.1 k)) p + (rdB q B a k).1 (B.2.2.2 k) * sF (B.2.2.1 k) o B.1 p + sF (rdB q B a k).2 o B.1 p by omega]
      exact cg_trans h7 h8
    · show (((rdB q B a k).2 m + ((rdB q B a k).1 (B.2.2.2 k) * B.2.2.1 k m) % q) % q) = 0
      rw [i2 m hm hm9, b2 m hm hm9, Nat.mul_zero, Nat.zero_mod, Nat.zero_add, Nat.zero_mod]
theorem pa_ok (hq : q = 2 ∨ q = 3) (h : BI q B o) (ha : ∀ p, p < 9 → a p < q) (hz : zB (rest q B a) = true) : ∀ p, p < 9 → cg q (a p) (sF (parts q B a) o B.1 p) := by
  intro p hp
  have h1 := (rd_ok hq h ha B.1 (Nat.le_refl _)).1 p hp
  have hz : ∀ p, p < 9 → rest q B a p = 0 := of_decide_eq_true hz
  have h2 : (rdB q B a B.1).1 p = 0 := hz p hp
  rw [h2, Nat.zero_add] at h1
  exact h1
/-- one more taken -/
theorem BI_up (hq : q = 2 ∨ q = 3) (h : BI q B o) (ha : ∀ p, p < 9 → a p < q) (hb : bkB q B a = true) {u : Nat → Nat → Nat} (h1 : ∀ m, m < B.1 → u m = o m) (h2 : u B.1 = a) : BI q (bkS q B a) u := by
  have h9 : B.1 < 9 := by
    unfold bkB at hb
    simp only [Bool.and_eq_true, decide_eq_true_eq] at hb
    exact hb.2
  obtain ⟨r1, r2, r3, r4⟩ := rd_ok hq h ha B.1 (Nat.le_refl _)
  refine ⟨h9, fun k hk => ?_⟩
  have hk : k < B.1 + 1 := hk
  by_cases hkn : k = B.1
  · subst hkn
    show (∀ p, p < 9 → cg q (upA B.2.1 B.1 _ B.1 p) (sF (upA B.2.2.1 B.1 _ B.1) u (B.1 + 1) p)) ∧ (∀ m, B.1 + 1 ≤ m → m < 9 → upA B.2.2.1 B.1 _ B.1 m = 0) ∧ (∀ p, p < 9 → upA B.2.1 B.1 _ B.1 p < q) ∧ ∀ p, p < 9 → upA B.2.2.1 B.1 _ B.1 p < q
    rw [upA_eq, upA_eq]
    refine ⟨fun p hp => ?_, fun m hm hm9 => ?_, fun p _ => fMul_lt hq _ _ p, fun p _ => fMul_lt hq _ _ p⟩
    · have e0 : parts q B a B.1 = 0 := r2 B.1 (Nat.le_refl _) h9
      -- the sum that the numbers of the new one tell
      have k1 : ∀ (s n : Nat), n ≤ B.1 → cg q (sF (fMul q s (fSub q (un B.1) (parts q B a))) o n p + s * sF (parts q B a) o n p) 0 := by
        intro s n
        induction n with
        | zero => intro _; show cg q (0 + s * 0) 0; rw [Nat.mul_zero]; exact cg_refl _ _
        | succ n ih =>
          intro hn
          have ih := ih (by omega)
          have t1 : cg q (fMul q s (fSub q (un B.1) (parts q B a)) n + s * parts q B a n) 0 := by
            have g1 : cg q (fMul q s (fSub q (un B.1) (parts q B a)) n) (s * fSub q (un B.1) (parts q B a) n) := cg_mod _ _
            have g2 : cg q (fSub q (un B.1) (parts q B a) n + parts q B a n) (un B.1 n) := cg_sub (r4 n (by omega))
            have e1 : un B.1 n = 0 := if_neg (by omega)
            rw [e1] at g2
            refine cg_trans (cg_add g1 (cg_refl _ _)) ?_
            rw [← Nat.mul_add]
            have g3 := cg_mul (cg_refl q s) g2
            rw [Nat.mul_zero] at g3
            exact g3
          have t2 := cg_mul t1 (cg_refl q (o n p))
          rw [Nat.zero_mul, Nat.add_mul] at t2
          have t3 := cg_add ih t2
          show cg q (sF (fMul q s (fSub q (un B.1) (parts q B a))) o n p + fMul q s (fSub q (un B.1) (parts q B a)) n * o n p + s * (sF (parts q B a) o n p + parts q B a n * o n p)) 0
          rw [Nat.mul_add, ← Nat.mul_assoc s]
          rw [show sF (fMul q s (fSub q (un B.1) (parts q B a))) o n p + fMul q s (fSub q (un B.1) (parts q B a)) n * o n p + (s * sF (parts q B a) o n p + s * parts q B a n * o n p) = sF (fMul q s (fSub q (un B.1) (parts q B a))) o n p + s * sF (parts q B a) o n p + (fMul q s (fSub q (un B.1) (parts q B a)) n * o n p + s * parts q B a n * o n p) by omega]
          exact t3
      have k2 := k1 (rest q B a (fp (rest q B a))) B.1 (Nat.le_refl _)
      have k3 : cg q (fMul q (rest q B a (fp (rest q B a))) (fSub q (un B.1) (parts q B a)) B.1 * a p) (rest q B a (fp (rest q B a)) * a p) := by
        refine cg_mul ?_ (cg_refl _ _)
        refine cg_trans (cg_mod _ _) ?_
        have e1 : un B.1 B.1 = 1 := if_pos rfl
        have e2 : cg q (fSub q (un B.1) (parts q B a) B.1) 1 := by
          show cg q ((un B.1 B.1 + (q - parts q B a B.1)) % q) 1
          rw [e1, e0, Nat.sub_zero]
          refine cg_trans (cg_mod _ _) ?_
          unfold cg
          rw [Nat.add_mod_right]
        have e3 := cg_mul (cg_refl q (rest q B a (fp (rest q B a)))) e2
        rw [Nat.mul_one] at e3
        exact e3
      have k4 := r1 p hp
      have k4 : cg q (a p) (rest q B a p + sF (parts q B a) o B.1 p) := k4
      show cg q (fMul q (rest q B a (fp (rest q B a))) (rest q B a) p) (sF (fMul q (rest q B a (fp (rest q B a))) (fSub q (un B.1) (parts q B a))) u B.1 p + fMul q (rest q B a (fp (rest q B a))) (fSub q (un B.1) (parts q B a)) B.1 * u B.1 p)
      rw [sF_cong (R := fMul q (rest q B a (fp (rest q B a))) (fSub q (un B.1) (parts q B a))) (u := o) (fun _ _ => rfl) (fun m hm => by rw [h1 m hm]), h2]
      refine cg_can (x := rest q B a (fp (rest q B a)) * sF (parts q B a) o B.1 p) hq ?_
      have l1 : cg q (fMul q (rest q B a (fp (rest q B a))) (rest q B a) p + rest q B a (fp (rest q B a)) * sF (parts q B a) o B.1 p) (rest q B a (fp (rest q B a)) * a p) := by
        refine cg_trans (cg_add (cg_mod q _) (cg_refl _ _)) ?_
        rw [← Nat.mul_add]
        exact cg_mul (cg_refl _ _) (cg_symm k4)
      refine cg_trans l1 (cg_symm ?_)
      rw [show sF (fMul q (rest q B a (fp (rest q B a))) (fSub q (un B.1) (parts q B a))) o B.1 p + fMul q (rest q B a (fp (rest q B a))) (fSub q (un B.1) (parts q B a)) B.1 * a p + rest q B a (fp (rest q B a)) * sF (parts q B a) o B.1 p = sF (fMul q (rest q B a (fp (rest q B a))) (fSub q (un B.1) (parts q B a))) o B.1 p + rest q B a (fp (rest q B a)) * sF (parts q B a) o B.1 p + fMul q (rest q B a (fp (rest q B a))) (fSub q (un B.1) (parts q B a)) B.1 * a p by omega]
      have l2 := cg_add k2 k3
      rw [Nat.zero_add] at l2
      exact l2
    · show (rest q B a (fp (rest q B a)) * ((un B.1 m + (q - parts q B a m)) % q)) % q = 0
      have e1 : un B.1 m = 0 := if_neg (by omega)
      have e2 : parts q B a m = 0 := r2 m (by omega) hm9
      rw [e1, e2, Nat.sub_zero, Nat.zero_add, Nat.mod_self, Nat.mul_zero, Nat.zero_mod]
  · obtain ⟨b1, b2, b3, b4⟩ := h.2 k (by omega)
    show (∀ p, p < 9 → cg q (upA B.2.1 B.1 _ k p) (sF (upA B.2.2.1 B.1 _ k) u (B.1 + 1) p)) ∧ (∀ m, B.1 + 1 ≤ m → m < 9 → upA B.2.2.1 B.1 _ k m = 0) ∧ (∀ p, p < 9 → upA B.2.1 B.1 _ k p < q) ∧ ∀ p, p < 9 → upA B.2.2.1 B.1 _ k p < q
    rw [upA_ne hkn, upA_ne hkn]
    refine ⟨fun p hp => ?_, fun m hm hm9 => b2 m (by omega) hm9, b3, b4⟩
    rw [sF_more (b2 B.1 (Nat.le_refl _) h9), sF_cong (R := B.2.2.1 k) (u := o) (fun _ _ => rfl) (fun m hm => by rw [h1 m hm])]
    exact b1 p hp
end
/-! what is shed gives what there was -/
section
variable {q c w u j : Nat} {A : Nat → Nat → Nat}
/-- those taken ahead of j: the basis, and whose they are -/
theorem sa_ok (hq : q = 2 ∨ q = 3) (hA : Bd q c A) (hj : j < c) (hu : u < 3) : ∀ k, k ≤ j → BI q (saL q A w u j k).1 (fun m => scF q A w u j ((saL q A w u j k).2 m)) ∧ ∀ m, m < (saL q A w u j k).1.1 → lkB q A w j ((saL q A w u j k).2 m) = true
  | 0, _ => ⟨BI_0 q _, fun m hm => absurd hm (Nat.not_lt_zero m)⟩
  | k + 1, hk => by
    obtain ⟨i1, i2⟩ := sa_ok hq hA hj hu k (by omega)
    rw [saL]
    split
    · rename_i h
      have hs : setp (saL q A w u j k).2 (saL q A w u j k).1.1 k (saL q A w u j k).1.1 = k := if_pos rfl
      have hn : ∀ m, m < (saL q A w u j k).1.1 → setp (saL q A w u j k).2 (saL q A w u j k).1.1 k m = (saL q A w u j k).2 m := fun m hm => if_neg (by omega)
      refine ⟨BI_up hq i1 (fun p _ => fMul_lt hq _ _ p) h.2 (fun m hm => ?_) ?_, fun m hm => ?_⟩
      · show scF q A w u j (setp (saL q A w u j k).2 (saL q A w u j k).1.1 k m) = _
        rw [hn m hm]
      · show scF q A w u j (setp (saL q A w u j k).2 (saL q A w u j k).1.1 k (saL q A w u j k).1.1) = _
        rw [hs]
        rfl
      · have hm : m < (saL q A w u j k).1.1 + 1 := hm
        show lkB q A w j (setp (saL q A w u j k).2 (saL q A w u j k).1.1 k m) = true
        by_cases e : m = (saL q A w u j k).1.1
        · rw [e, hs]
          have h1 := h.1
          unfold scB at h1
          rw [Bool.and_eq_true] at h1
          exact h1.2
        · rw [hn m (by omega)]
          exact i2 m (by omega)
    · exact ⟨i1, i2⟩
variable {v : Nat} {T Q : Nat → Nat}
theorem sx_bd (hq : q = 2 ∨ q = 3) (hA : Bd q c A) : ∀ k, Bd q c (shX q A v j T Q k)
  | 0 => hA
  | k + 1 => bd_up (sx_bd hq hA k) (fun p _ => fAdd_lt hq _ _ p)
/-- only forms at v of those taken change -/
theorem sx_at {n : Nat} (hT : ∀ k, k < n → T k < j) (hv : v < 3) : ∀ k, k ≤ n → (∀ t, t < 3 → shX q A v j T Q k (3 * j + t) = A (3 * j + t)) ∧ ∀ i t, t < 3 → t ≠ v → shX q A v j T Q k (3 * i + t) = A (3 * i + t)
  | 0, _ => ⟨fun _ _ => rfl, fun _ _ _ _ => rfl⟩
  | k + 1, hk => by
    obtain ⟨i1, i2⟩ := sx_at hT hv k (by omega)
    have ht := hT k (by omega)
    refine ⟨fun t h3 => ?_, fun i t h3 htv => ?_⟩
    · rw [shX, upA_ot (by omega) hv h3]
      exact i1 t h3
    · rw [shX]
      by_cases e : i = T k
      · rw [e, upA_tt htv]
        exact i2 _ t h3 htv
      · rw [upA_ot e hv h3]
        exact i2 i t h3 htv
theorem sx_sum (hq : q = 2 ∨ q = 3) (hA : Bd q c A) {n : Nat} (hj : j < c) (hT : ∀ k, k < n → T k < j) (hv : v < 3) (X : Nat → Nat) : ∀ k, k ≤ n → cg q (gX (shX q A v j T Q k) c X) (gX A c X + fb_sm (fun m => Q m * (A (3 * T m + nx v) (X (nx v)) * A (3 * T m + nx (nx v)) (X (nx (nx v))))) k * A (3 * j + v) (X v))
  | 0, _ => by
    show cg q (gX A c X) (gX A c X + 0 * _)
    rw [Nat.zero_mul]
    exact cg_refl _ _
  | k + 1, hk => by
    obtain ⟨n1, n2, n3, n4, n5⟩ := nxx hv
    have ih := sx_sum hq hA hj hT hv X k (by omega)
    have ht := hT k (by omega)
    obtain ⟨s1, s2⟩ := sx_at (q := q) (A := A) (Q := Q) hT hv k (by omega)
    have hx := sm_ex (f := fun i => tm (shX q A v j T Q k) i X) (g := fun i => tm (shX q A v j T Q (k + 1)) i X) (i := T k) (n := c) (by omega) (fun i _ hi => by
      refine tm_cong (fun t h3 => ?_)
      rw [shX, upA_ot hi hv h3])
    have e1 : tm (shX q A v j T Q (k + 1)) (T k) X = fAdd q (shX q A v j T Q k (3 * T k + v)) (fMul q (Q k) (A (3 * j + v))) (X v) * A (3 * T k + nx v) (X (nx v)) * A (3 * T k + nx (nx v)) (X (nx (nx v))) := by
      rw [tm_w hv, shX, upA_eq, upA_tt n3, upA_tt n4, s2 _ _ n1 n3, s2 _ _ n2 n4, s1 _ hv]
    have e2 : tm (shX q A v j T Q k) (T k) X = shX q A v j T Q k (3 * T k + v) (X v) * A (3 * T k + nx v) (X (nx v)) * A (3 * T k + nx (nx v)) (X (nx (nx v))) := by
      rw [tm_w hv, s2 _ _ n1 n3, s2 _ _ n2 n4]
    have c1 : cg q (fAdd q (shX q A v j T Q k (3 * T k + v)) (fMul q (Q k) (A (3 * j + v))) (X v)) (shX q A v j T Q k (3 * T k + v) (X v) + Q k * A (3 * j + v) (X v)) := cg_trans (cg_mod _ _) (cg_add (cg_refl _ _) (cg_mod _ _))
    have c2 : cg q (tm (shX q A v j T Q (k + 1)) (T k) X) (tm (shX q A v j T Q k) (T k) X + Q k * (A (3 * T k + nx v) (X (nx v)) * A (3 * T k + nx (nx v)) (X (nx (nx v)))) * A (3 * j + v) (X v)) := by
      rw [e1, e2]
      refine cg_trans (cg_mul (cg_mul c1 (cg_refl _ _)) (cg_refl _ _)) ?_
      rw [Nat.add_mul, Nat.add_mul]
      refine cg_add (cg_refl _ _) ?_
      rw [show Q k * A (3 * j + v) (X v) * A (3 * T k + nx v) (X (nx v)) * A (3 * T k + nx (nx v)) (X (nx (nx v))) = Q k * (A (3 * T k + nx v) (X (nx v)) * A (3 * T k + nx (nx v)) (X (nx (nx v)))) * A (3 * j + v) (X v) by ac_rfl]
      exact cg_refl _ _
    show cg q (gX (shX q A v j T Q (k + 1)) c X) (gX A c X + (fb_sm (fun m => Q m * (A (3 * T m + nx v) (X (nx v)) * A (3 * T m + nx (nx v)) (X (nx (nx v))))) k + Q k * (A (3 * T k + nx v) (X (nx v)) * A (3 * T k + nx (nx v)) (X (nx (nx v))))) * A (3 * j + v) (X v))
    have hx2 : gX (shX q A v j T Q k) c X + tm (shX q A v j T Q (k + 1)) (T k) X = gX (shX q A v j T Q (k + 1)) c X + tm (shX q A v j T Q k) (T k) X := hx
    refine cg_can (x := tm (shX q A v j T Q k) (T k) X) hq ?_
    rw [← hx2]
    refine cg_trans (cg_add ih c2) ?_
    rw [Nat.add_mul]
    generalize fb_sm _ k * A (3 * j + v) (X v) = z1
    generalize Q k * _ * A (3 * j + v) (X v) = z2
    rw [show gX A c X + z1 + (tm (shX q A v j T Q k) (T k) X + z2) = gX A c X + (z1 + z2) + tm (shX q A v j T Q k) (T k) X by omega]
    exact cg_refl _ _
end
