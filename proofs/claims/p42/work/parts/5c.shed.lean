/-! sheds -/
theorem sm_fac {q W p : Nat} {Q a : Nat → Nat} {o : Nat → Nat → Nat} : ∀ {k : Nat}, (∀ m, m < k → cg q (a m) (W * o m p)) → cg q (fb_sm (fun m => Q m * a m) k) (W * sF Q o k p)
  | 0, _ => by show cg q 0 (W * 0); rw [Nat.mul_zero]; exact cg_refl _ _
  | k + 1, h => by
    have ih := sm_fac (Q := Q) (o := o) (p := p) (W := W) (k := k) (a := a) (fun m hm => h m (by omega))
    have h1 := cg_mul (cg_refl q (Q k)) (h k (by omega))
    show cg q (fb_sm (fun m => Q m * a m) k + Q k * a k) (W * (sF Q o k p + Q k * o k p))
    rw [Nat.mul_add]
    refine cg_add ih (cg_trans h1 ?_)
    rw [show Q k * (W * o k p) = W * (Q k * o k p) by ac_rfl]
    exact cg_refl _ _
theorem uN_cases {w b : Nat} (hw : w < 3) (hb : b = 1 ∨ b = 2) : uN w (3 - b) < 3 ∧ uN w b < 3 ∧ ((nx (uN w (3 - b)) = w ∧ nx (nx (uN w (3 - b))) = uN w b) ∨ (nx (uN w (3 - b)) = uN w b ∧ nx (nx (uN w (3 - b))) = w)) := by
  have h : ∀ w, w < 3 → ∀ b, b < 3 → b ≠ 0 → uN w (3 - b) < 3 ∧ uN w b < 3 ∧ ((nx (uN w (3 - b)) = w ∧ nx (nx (uN w (3 - b))) = uN w b) ∨ (nx (uN w (3 - b)) = uN w b ∧ nx (nx (uN w (3 - b))) = w)) := by decide
  exact h w hw b (by omega) (by omega)
section
variable {q c w b j : Nat} {A : Nat → Nat → Nat}
theorem sX_bd (hq : q = 2 ∨ q = 3) (hA : Bd q c A) : Bd q (c - 1) (sfX q A w b j) := bd_rm (sx_bd hq hA _)
theorem sX_eqG (hq : q = 2 ∨ q = 3) (hA : Bd q c A) (hw : w < 3) (hb : b = 1 ∨ b = 2) (hj : j < c) (hz : zB (rest q (saL q A w (uN w b) j j).1 (A (3 * j + uN w b))) = true) : eqG q A c (sfX q A w b j) (c - 1) := by
  intro X hX
  obtain ⟨hv, hu, hnx⟩ := uN_cases hw hb
  obtain ⟨s1, s2⟩ := sa_ok hq hA hj hu j (Nat.le_refl _)
  have hT : ∀ k, k < (saL q A w (uN w b) j j).1.1 → (saL q A w (uN w b) j j).2 k < j := fun k hk => saL_T q A w (uN w b) j j k hk
  have hp := pa_ok hq s1 (bd_at hA hj hu) hz (X (uN w b)) (hX _ hu)
  have hs := sx_sum (Q := parts q (saL q A w (uN w b) j j).1 (A (3 * j + uN w b))) hq hA hj hT hv X _ (Nat.le_refl _)
  have hr := gX_rm (A := shX q A (uN w (3 - b)) j (saL q A w (uN w b) j j).2 (parts q (saL q A w (uN w b) j j).1 (A (3 * j + uN w b))) (saL q A w (uN w b) j j).1.1) (X := X) hj
  have hat := (sx_at (q := q) (A := A) (Q := parts q (saL q A w (uN w b) j j).1 (A (3 * j + uN w b))) hT hv _ (Nat.le_refl _)).1
  rw [tm_cong (B := A) hat] at hr
  have hf : cg q (fb_sm (fun m => parts q (saL q A w (uN w b) j j).1 (A (3 * j + uN w b)) m * (A (3 * (saL q A w (uN w b) j j).2 m + nx (uN w (3 - b))) (X (nx (uN w (3 - b)))) * A (3 * (saL q A w (uN w b) j j).2 m + nx (nx (uN w (3 - b)))) (X (nx (nx (uN w (3 - b))))))) (saL q A w (uN w b) j j).1.1) (A (3 * j + w) (X w) * sF (parts q (saL q A w (uN w b) j j).1 (A (3 * j + uN w b))) (fun m => scF q A w (uN w b) j ((saL q A w (uN w b) j j).2 m)) (saL q A w (uN w b) j j).1.1 (X (uN w b))) := by
    refine sm_fac (fun m hm => ?_)
    have hl := lk_ne (s2 m hm)
    have hTm := hT m hm
    have e := like_mul hq (bd_at hA hj hw) hl (X w) (hX w hw)
    have c1 : cg q (A (3 * (saL q A w (uN w b) j j).2 m + w) (X w) * A (3 * (saL q A w (uN w b) j j).2 m + uN w b) (X (uN w b))) (A (3 * j + w) (X w) * scF q A w (uN w b) j ((saL q A w (uN w b) j j).2 m) (X (uN w b))) := by
      rw [e]
      refine cg_trans (cg_mul (cg_mod _ _) (cg_refl _ _)) ?_
      rw [show likeN q (A (3 * j + w)) (A (3 * (saL q A w (uN w b) j j).2 m + w)) * A (3 * j + w) (X w) * A (3 * (saL q A w (uN w b) j j).2 m + uN w b) (X (uN w b)) = A (3 * j + w) (X w) * (likeN q (A (3 * j + w)) (A (3 * (saL q A w (uN w b) j j).2 m + w)) * A (3 * (saL q A w (uN w b) j j).2 m + uN w b) (X (uN w b))) by ac_rfl]
      exact cg_mul (cg_refl _ _) (cg_symm (cg_mod _ _))
    rcases hnx with ⟨g1, g2⟩ | ⟨g1, g2⟩
    · rw [g2, g1]; exact c1
    · rw [g2, g1, Nat.mul_comm]; exact c1
  have hj2 : tm A j X = A (3 * j + w) (X w) * A (3 * j + uN w b) (X (uN w b)) * A (3 * j + uN w (3 - b)) (X (uN w (3 - b))) := by
    rw [tm_w hv]
    rcases hnx with ⟨g1, g2⟩ | ⟨g1, g2⟩
    · rw [g2, g1]
      ac_rfl
    · rw [g2, g1]
      ac_rfl
  have hsum := cg_trans hs (cg_add (cg_refl q (gX A c X)) (cg_mul (cg_trans hf (cg_mul (cg_refl q (A (3 * j + w) (X w))) (cg_symm hp))) (cg_refl q (A (3 * j + uN w (3 - b)) (X (uN w (3 - b)))))))
  rw [← hj2, ← hr] at hsum
  exact (cg_can hq hsum).symm
theorem sf_spec (hs : sf q A c < 240) : sf q A c / 80 < 3 ∧ (sf q A c / 40 % 2 + 1 = 1 ∨ sf q A c / 40 % 2 + 1 = 2) ∧ sf q A c % 40 < c ∧ zB (rest q (saL q A (sf q A c / 80) (uN (sf q A c / 80) (sf q A c / 40 % 2 + 1)) (sf q A c % 40) (sf q A c % 40)).1 (A (3 * (sf q A c % 40) + uN (sf q A c / 80) (sf q A c / 40 % 2 + 1)))) = true := by
  have h := (fi_lt (f := sfB q A c) hs).1
  rw [show fi (sfB q A c) 240 = sf q A c from rfl] at h
  unfold sfB at h
  simp only [Bool.and_eq_true, decide_eq_true_eq] at h
  exact ⟨by omega, by omega, h.1.1, h.2⟩
theorem sfA_ok (hq : q = 2 ∨ q = 3) (hA : Bd q c A) (hs : sf q A c < 240) : Bd q (c - 1) (sfA q A c) ∧ eqG q A c (sfA q A c) (c - 1) := by
  obtain ⟨h1, h2, h3, h4⟩ := sf_spec hs
  exact ⟨sX_bd hq hA, sX_eqG hq hA h1 h2 h3 h4⟩
theorem setp_3 {W : Nat → Nat} {t : Nat} (ht : t < 3) : setp W t (W t + 1) 0 + setp W t (W t + 1) 1 + setp W t (W t + 1) 2 = W 0 + W 1 + W 2 + 1 := by
  unfold setp
  rcases (show t = 0 ∨ t = 1 ∨ t = 2 by omega) with rfl | rfl | rfl
  · rw [if_pos rfl, if_neg (by decide), if_neg (by decide)]; omega
  · rw [if_neg (by decide), if_pos rfl, if_neg (by decide)]; omega
  · rw [if_neg (by decide), if_neg (by decide), if_pos rfl]; omega
theorem shAll_ok (hq : q = 2 ∨ q = 3) : ∀ (n c : Nat) (A : Nat → Nat → Nat) (W : Nat → Nat) (k : Nat), Bd q c A → Bd q (shAll q n (c, A, W, k)).1 (shAll q n (c, A, W, k)).2.1 ∧ eqG q A c (shAll q n (c, A, W, k)).2.1 (shAll q n (c, A, W, k)).1 ∧ (shAll q n (c, A, W, k)).1 + (shAll q n (c, A, W, k)).2.2.2 = c + k ∧ (shAll q n (c, A, W, k)).2.2.1 0 + (shAll q n (c, A, W, k)).2.2.1 1 + (shAll q n (c, A, W, k)).2.2.1 2 + k = W 0 + W 1 + W 2 + (shAll q n (c, A, W, k)).2.2.2 ∧ (c ≤ n → ¬ sf q (shAll q n (c, A, W, k)).2.1 (shAll q n (c, A, W, k)).1 < 240)
  | 0, c, A, W, k, h => ⟨h, eqG_refl _ _ _, rfl, rfl, fun hc hs => by
    have hs : sf q A c < 240 := hs
    have := (sf_spec hs).2.2.1
    omega⟩
  | n + 1, c, A, W, k, h => by
    unfold shAll
    split
    · rename_i hs
      have hc0 := (sf_spec hs).2.2.1
      obtain ⟨b1, b2⟩ := sfA_ok hq h hs
      obtain ⟨i1, i2, i3, i4, i5⟩ := shAll_ok hq n (c - 1) (sfA q A c) (setp W (sf q A c / 80) (W (sf q A c / 80) + 1)) (k + 1) b1
      have h3 := setp_3 (W := W) (sf_spec hs).1
      exact ⟨i1, eqG_trans b2 i2, by omega, by omega, fun hc => i5 (by omega)⟩
    · rename_i hs
      exact ⟨h, eqG_refl _ _ _, rfl, rfl, fun _ => hs⟩
theorem shAll_fix {W : Nat → Nat} {k : Nat} (h : ¬ sf q A c < 240) : ∀ n, shAll q n (c, A, W, k) = (c, A, W, k)
  | 0 => rfl
  | n + 1 => by rw [shAll, if_neg h]
end
