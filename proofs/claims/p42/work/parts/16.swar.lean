/-! the bits of a number counted lane by lane, as the JDK does -/
def vl (w : Nat) (c : Nat → Nat) (n : Nat) : Nat := fb_sm (fun j => c j * 2 ^ (w * j)) n
theorem vl_succ (w : Nat) (c : Nat → Nat) (n : Nat) : vl w c (n + 1) = vl w c n + c n * 2 ^ (w * n) := rfl
theorem vl_lt {w : Nat} {c : Nat → Nat} : ∀ {n : Nat}, (∀ j, j < n → c j < 2 ^ w) → vl w c n < 2 ^ (w * n)
  | 0, _ => by simp [vl, fb_sm]
  | n + 1, h => by
    have ih := vl_lt (n := n) (fun j hj => h j (by omega))
    have h1 : (c n + 1) * 2 ^ (w * n) ≤ 2 ^ w * 2 ^ (w * n) := Nat.mul_le_mul_right _ (h n (by omega))
    rw [Nat.add_mul, Nat.one_mul] at h1
    rw [vl_succ, Nat.mul_succ, Nat.pow_add, Nat.mul_comm (2 ^ (w * n))]
    omega
theorem vl_congr {w : Nat} {c c' : Nat → Nat} : ∀ {n : Nat}, (∀ j, j < n → c j = c' j) → vl w c n = vl w c' n
  | 0, _ => rfl
  | n + 1, h => by rw [vl_succ, vl_succ, vl_congr (fun j hj => h j (by omega)), h n (by omega)]
theorem and_split {a b x y k : Nat} (ha : a < 2 ^ k) (hb : b < 2 ^ k) : (a + x * 2 ^ k) &&& (b + y * 2 ^ k) = (a &&& b) + (x &&& y) * 2 ^ k := by
  have hab : a &&& b < 2 ^ k := Nat.and_lt_two_pow _ hb
  rw [Nat.add_comm a, Nat.add_comm b, Nat.add_comm (a &&& b), Nat.mul_comm x, Nat.mul_comm y, Nat.mul_comm (x &&& y)]
  apply Nat.eq_of_testBit_eq
  intro j
  rw [Nat.testBit_and, Nat.testBit_two_pow_mul_add _ ha, Nat.testBit_two_pow_mul_add _ hb, Nat.testBit_two_pow_mul_add _ hab]
  split
  · rw [Nat.testBit_and]
  · rw [Nat.testBit_and]
theorem vl_and {w : Nat} {c m : Nat → Nat} : ∀ {n : Nat}, (∀ j, j < n → c j < 2 ^ w) → (∀ j, j < n → m j < 2 ^ w) → vl w c n &&& vl w m n = vl w (fun j => c j &&& m j) n
  | 0, _, _ => by simp [vl, fb_sm]
  | n + 1, h, h2 => by
    rw [vl_succ, vl_succ, vl_succ, and_split (vl_lt (fun j hj => h j (by omega))) (vl_lt (fun j hj => h2 j (by omega))), vl_and (fun j hj => h j (by omega)) (fun j hj => h2 j (by omega))]
theorem vl_even (w : Nat) (c : Nat → Nat) : ∀ n, vl w c (2 * n) = vl (2 * w) (fun j => c (2 * j) + c (2 * j + 1) * 2 ^ w) n
  | 0 => rfl
  | n + 1 => by
    rw [Nat.mul_succ, vl_succ, vl_succ, vl_even w c n, vl_succ, Nat.add_mul, Nat.mul_assoc (c (2 * n + 1)), ← Nat.pow_add]
    have e1 : w * (2 * n) = 2 * w * n := by rw [← Nat.mul_assoc, Nat.mul_comm w 2]
    have e2 : w * (2 * n + 1) = w + 2 * w * n := by rw [Nat.mul_succ, e1, Nat.add_comm]
    rw [e1, e2, Nat.add_assoc]
theorem vl_shift (w : Nat) (c : Nat → Nat) : ∀ n, vl w c (n + 1) = c 0 + 2 ^ w * vl w (fun j => c (j + 1)) n
  | 0 => by simp [vl, fb_sm]
  | n + 1 => by
    have e : c (n + 1) * (2 ^ (w * n) * 2 ^ w) = 2 ^ w * (c (n + 1) * 2 ^ (w * n)) := by rw [← Nat.mul_assoc, Nat.mul_comm]
    rw [vl_succ, vl_shift w c n, vl_succ, Nat.mul_add (2 ^ w), Nat.mul_add w, Nat.mul_one, Nat.pow_add, Nat.add_assoc, e]
theorem vl_dv {w : Nat} {c : Nat → Nat} {n : Nat} (h : c 0 < 2 ^ w) (hn : c n = 0) : vl w c n / 2 ^ w = vl w (fun j => c (j + 1)) n := by
  have e : vl w c n = vl w c (n + 1) := by rw [vl_succ, hn, Nat.zero_mul, Nat.add_zero]
  rw [e, vl_shift, Nat.add_mul_div_left _ _ (Nat.two_pow_pos w), Nat.div_eq_of_lt h, Nat.zero_add]
theorem vl_add (w : Nat) (a b : Nat → Nat) (n : Nat) : vl w a n + vl w b n = vl w (fun j => a j + b j) n := by
  unfold vl
  rw [← fb_sm_add]
  congr 1
  funext j
  rw [Nat.add_mul]
theorem vl_sub {w : Nat} {a b e : Nat → Nat} {n : Nat} (h : ∀ j, j < n → a j = e j + b j) : vl w a n - vl w b n = vl w e n := by
  rw [vl_congr h, ← vl_add, Nat.add_sub_cancel]
theorem sw1 {b : Nat → Nat} (h : ∀ j, b j ≤ 1) (n : Nat) : vl 1 b (2 * n) - (vl 1 (fun j => b (j + 1)) (2 * n) &&& vl 2 (fun _ => 1) n) = vl 2 (fun j => b (2 * j) + b (2 * j + 1)) n := by
  rw [vl_even, vl_even, vl_and]
  · refine vl_sub (fun j _ => ?_)
    have h1 := h (2 * j)
    have h2 := h (2 * j + 1)
    have h3 := h (2 * j + 1 + 1)
    rcases (show b (2 * j + 1) = 0 ∨ b (2 * j + 1) = 1 by omega) with e | e <;> rcases (show b (2 * j + 1 + 1) = 0 ∨ b (2 * j + 1 + 1) = 1 by omega) with e2 | e2 <;> simp [e, e2]
  · intro j _
    have h2 := h (2 * j + 1)
    have h3 := h (2 * j + 1 + 1)
    show b (2 * j + 1) + b (2 * j + 1 + 1) * 2 < 4
    omega
  · intro j _
    decide
theorem and3 (n : Nat) : n &&& 3 = n % 4 := Nat.and_two_pow_sub_one_eq_mod n 2
theorem and15 (n : Nat) : n &&& 15 = n % 16 := Nat.and_two_pow_sub_one_eq_mod n 4
theorem and63 (n : Nat) : n &&& 63 = n % 64 := Nat.and_two_pow_sub_one_eq_mod n 6
theorem and127 (n : Nat) : n &&& 127 = n % 128 := Nat.and_two_pow_sub_one_eq_mod n 7
theorem sw2 {s : Nat → Nat} (h : ∀ j, s j ≤ 2) (n : Nat) : (vl 2 s (2 * n) &&& vl 4 (fun _ => 3) n) + (vl 2 (fun j => s (j + 1)) (2 * n) &&& vl 4 (fun _ => 3) n) = vl 4 (fun j => s (2 * j) + s (2 * j + 1)) n := by
  rw [vl_even, vl_even, vl_and, vl_and, vl_add]
  · refine vl_congr (fun j _ => ?_)
    show (s (2 * j) + s (2 * j + 1) * 4 &&& 3) + (s (2 * j + 1) + s (2 * j + 1 + 1) * 4 &&& 3) = _
    have h1 := h (2 * j)
    have h2 := h (2 * j + 1)
    rw [and3, and3]
    omega
  · intro j _
    have h1 := h (2 * j + 1)
    have h2 := h (2 * j + 1 + 1)
    show s (2 * j + 1) + s (2 * j + 1 + 1) * 4 < 16
    omega
  · intro j _
    decide
  · intro j _
    have h1 := h (2 * j)
    have h2 := h (2 * j + 1)
    show s (2 * j) + s (2 * j + 1) * 4 < 16
    omega
  · intro j _
    decide
theorem sw3 {s : Nat → Nat} (h : ∀ j, s j ≤ 4) (n : Nat) : (vl 4 s (2 * n) + vl 4 (fun j => s (j + 1)) (2 * n)) &&& vl 8 (fun _ => 15) n = vl 8 (fun j => s (2 * j) + s (2 * j + 1)) n := by
  rw [vl_add, vl_even, vl_and]
  · refine vl_congr (fun j _ => ?_)
    show (s (2 * j) + s (2 * j + 1) + (s (2 * j + 1) + s (2 * j + 1 + 1)) * 16 &&& 15) = _
    have h1 := h (2 * j)
    have h2 := h (2 * j + 1)
    rw [and15]
    omega
  · intro j _
    have h1 := h (2 * j)
    have h2 := h (2 * j + 1)
    have h3 := h (2 * j + 1 + 1)
    show s (2 * j) + s (2 * j + 1) + (s (2 * j + 1) + s (2 * j + 1 + 1)) * 16 < 256
    omega
  · intro j _
    decide
/-- bits as digits -/
def bd (f : Nat → Bool) (n : Nat) : Nat → Nat := fun j => if j < n ∧ f j = true then 1 else 0
theorem bd_le (f : Nat → Bool) (n j : Nat) : bd f n j ≤ 1 := by
  unfold bd
  split <;> omega
theorem bd_out (f : Nat → Bool) {n j : Nat} (h : n ≤ j) : bd f n j = 0 := if_neg (fun q => by omega)
theorem bs_vl (f : Nat → Bool) (n : Nat) : ∀ m, m ≤ n → bs f m = vl 1 (bd f n) m
  | 0, _ => rfl
  | m + 1, h => by
    rw [vl_succ, ← bs_vl f n m (by omega), bs, Nat.one_mul]
    unfold bd
    by_cases q : f m = true
    · rw [if_pos q, if_pos ⟨by omega, q⟩, Nat.one_mul]
    · rw [if_neg q, if_neg (fun z => q z.2), Nat.zero_mul]
theorem bs_ext (f : Nat → Bool) {n : Nat} : ∀ k, bs f n = vl 1 (bd f n) (n + k)
  | 0 => bs_vl f n n (Nat.le_refl n)
  | k + 1 => by
    rw [← Nat.add_assoc, vl_succ, ← bs_ext f k, bd_out f (by omega), Nat.zero_mul, Nat.add_zero]
theorem ct_bd (f : Nat → Bool) (n : Nat) : ∀ m, m ≤ n → fb_ct f m = fb_sm (bd f n) m
  | 0, _ => rfl
  | m + 1, h => by
    rw [fb_ct_succ, fb_sm_succ, ct_bd f n m (by omega)]
    unfold bd
    by_cases q : f m = true
    · rw [if_pos q, if_pos ⟨by omega, q⟩]
    · rw [if_neg q, if_neg (fun z => q z.2)]
theorem ct_bde (f : Nat → Bool) (n : Nat) : ∀ k, fb_ct f n = fb_sm (bd f n) (n + k)
  | 0 => ct_bd f n n (Nat.le_refl n)
  | k + 1 => by
    rw [← Nat.add_assoc, fb_sm_succ, ← ct_bde f n k, bd_out f (by omega), Nat.add_zero]
/-- lanes of eight bits, sixteen -/
theorem sw_lanes {b : Nat → Nat} (h : ∀ j, b j ≤ 1) (n : Nat) (h0 : ∀ j, 8 * n ≤ j → b j = 0) {x y z : Nat} (hx : x = vl 1 b (8 * n)) (hy : y = x - (x / 2 &&& vl 2 (fun _ => 1) (4 * n))) (hz : z = (y &&& vl 4 (fun _ => 3) (2 * n)) + (y / 4 &&& vl 4 (fun _ => 3) (2 * n))) :
    y ≤ x ∧ (z + z / 16) &&& vl 8 (fun _ => 15) n = vl 8 (fun j => b (8 * j) + b (8 * j + 1) + (b (8 * j + 2) + b (8 * j + 3)) + (b (8 * j + 4) + b (8 * j + 5) + (b (8 * j + 6) + b (8 * j + 7)))) n := by
  have a1 : x / 2 = vl 1 (fun j => b (j + 1)) (8 * n) := by
    rw [hx]
    exact vl_dv (w := 1) (by have := h 0; omega) (h0 _ (Nat.le_refl _))
  have a2 : y = vl 2 (fun j => b (2 * j) + b (2 * j + 1)) (4 * n) := by
    rw [hy, a1, hx, show 8 * n = 2 * (4 * n) by omega]
    exact sw1 h (4 * n)
  have a3 : y / 4 = vl 2 (fun j => b (2 * (j + 1)) + b (2 * (j + 1) + 1)) (4 * n) := by
    rw [a2]
    refine vl_dv (w := 2) (c := fun j => b (2 * j) + b (2 * j + 1)) ?_ ?_
    · have h1 := h (2 * 0)
      have h2 := h (2 * 0 + 1)
      show b (2 * 0) + b (2 * 0 + 1) < 4
      omega
    · show b (2 * (4 * n)) + b (2 * (4 * n) + 1) = 0
      rw [h0 _ (by omega), h0 _ (by omega)]
  have a4 : z = vl 4 (fun j => b (2 * (2 * j)) + b (2 * (2 * j) + 1) + (b (2 * (2 * j + 1)) + b (2 * (2 * j + 1) + 1))) (2 * n) := by
    rw [hz, a3, a2, show 4 * n = 2 * (2 * n) by omega]
    exact sw2 (s := fun j => b (2 * j) + b (2 * j + 1)) (fun j => by
      have h1 := h (2 * j)
      have h2 := h (2 * j + 1)
      show b (2 * j) + b (2 * j + 1) ≤ 2
      omega) (2 * n)
  have four : ∀ j, b (2 * (2 * j)) + b (2 * (2 * j) + 1) + (b (2 * (2 * j + 1)) + b (2 * (2 * j + 1) + 1)) ≤ 4 := fun j => by
    have h1 := h (2 * (2 * j))
    have h2 := h (2 * (2 * j) + 1)
    have h3 := h (2 * (2 * j + 1))
    have h4 := h (2 * (2 * j + 1) + 1)
    omega
  have a5 : z / 16 = vl 4 (fun j => b (2 * (2 * (j + 1))) + b (2 * (2 * (j + 1)) + 1) + (b (2 * (2 * (j + 1) + 1)) + b (2 * (2 * (j + 1) + 1) + 1))) (2 * n) := by
    rw [a4]
    refine vl_dv (w := 4) (c := fun j => b (2 * (2 * j)) + b (2 * (2 * j) + 1) + (b (2 * (2 * j + 1)) + b (2 * (2 * j + 1) + 1))) ?_ ?_
    · have := four 0
      show _ < 16
      omega
    · show b (2 * (2 * (2 * n))) + b (2 * (2 * (2 * n)) + 1) + (b (2 * (2 * (2 * n) + 1)) + b (2 * (2 * (2 * n) + 1) + 1)) = 0
      rw [h0 _ (by omega), h0 _ (by omega), h0 _ (by omega), h0 _ (by omega)]
  refine ⟨by omega, ?_⟩
  rw [a5, a4, sw3 (s := fun j => b (2 * (2 * j)) + b (2 * (2 * j) + 1) + (b (2 * (2 * j + 1)) + b (2 * (2 * j + 1) + 1))) four]
  refine vl_congr (fun j _ => ?_)
  show b (2 * (2 * (2 * j))) + b (2 * (2 * (2 * j)) + 1) + (b (2 * (2 * (2 * j) + 1)) + b (2 * (2 * (2 * j) + 1) + 1)) + (b (2 * (2 * (2 * j + 1))) + b (2 * (2 * (2 * j + 1)) + 1) + (b (2 * (2 * (2 * j + 1) + 1)) + b (2 * (2 * (2 * j + 1) + 1) + 1))) = _
  rw [show 2 * (2 * (2 * j)) = 8 * j by omega, show 2 * (2 * (2 * j) + 1) = 8 * j + 2 by omega, show 2 * (2 * (2 * j + 1)) = 8 * j + 4 by omega, show 2 * (2 * (2 * j + 1) + 1) = 8 * j + 6 by omega]
theorem vl_dk {w : Nat} {c : Nat → Nat} {n : Nat} (h : ∀ j, c j < 2 ^ w) (h0 : ∀ j, n ≤ j → c j = 0) : ∀ k, vl w c n / 2 ^ (w * k) = vl w (fun j => c (j + k)) n
  | 0 => by simp
  | k + 1 => by
    rw [Nat.mul_succ, Nat.pow_add, ← Nat.div_div_eq_div_mul, vl_dk h h0 k, vl_dv (c := fun j => c (j + k)) (h _) (h0 _ (by omega))]
    refine vl_congr (fun j _ => ?_)
    rw [show j + 1 + k = j + (k + 1) by omega]
theorem sw_f32 {s : Nat → Nat} {u v : Nat} (h : ∀ j, s j ≤ 8) (h0 : ∀ j, 4 ≤ j → s j = 0) (hu : u = vl 8 s 4) (hv : v = u + u / 256) : (v + v / 65536) % 64 = s 0 + s 1 + s 2 + s 3 := by
  have e1 : v = vl 8 (fun j => s j + s (j + 1)) 4 := by
    rw [hv, hu, show (256 : Nat) = 2 ^ (8 * 1) from rfl, vl_dk (fun j => by have := h j; omega) h0 1, vl_add]
  have e2 : v / 65536 = vl 8 (fun j => s (j + 2) + s (j + 2 + 1)) 4 := by
    rw [e1, show (65536 : Nat) = 2 ^ (8 * 2) from rfl, vl_dk (c := fun j => s j + s (j + 1)) (fun j => by have := h j; have := h (j + 1); show _ < 256; omega) (fun j hj => by show _ + _ = 0; rw [h0 _ hj, h0 _ (by omega)]) 2]
  rw [e2, e1, vl_add, vl_shift]
  have := h 0; have := h 1; have := h 2; have := h 3
  show (s 0 + s 1 + (s 2 + s 3) + 256 * _) % 64 = _
  omega
theorem sw_f64 {s : Nat → Nat} {u v r : Nat} (h : ∀ j, s j ≤ 8) (h0 : ∀ j, 8 ≤ j → s j = 0) (hu : u = vl 8 s 8) (hv : v = u + u / 256) (hr : r = v + v / 65536) : (r + r / 4294967296) % 128 = s 0 + s 1 + s 2 + s 3 + s 4 + s 5 + s 6 + s 7 := by
  have e1 : v = vl 8 (fun j => s j + s (j + 1)) 8 := by
    rw [hv, hu, show (256 : Nat) = 2 ^ (8 * 1) from rfl, vl_dk (fun j => by have := h j; omega) h0 1, vl_add]
  have e2 : r = vl 8 (fun j => s j + s (j + 1) + (s (j + 2) + s (j + 2 + 1))) 8 := by
    rw [hr, e1, show (65536 : Nat) = 2 ^ (8 * 2) from rfl, vl_dk (c := fun j => s j + s (j + 1)) (fun j => by have := h j; have := h (j + 1); show _ < 256; omega) (fun j hj => by show _ + _ = 0; rw [h0 _ hj, h0 _ (by omega)]) 2, vl_add]
  have e3 : r / 4294967296 = vl 8 (fun j => s (j + 4) + s (j + 4 + 1) + (s (j + 4 + 2) + s (j + 4 + 2 + 1))) 8 := by
    rw [e2, show (4294967296 : Nat) = 2 ^ (8 * 4) from rfl, vl_dk (c := fun j => s j + s (j + 1) + (s (j + 2) + s (j + 2 + 1))) (fun j => by have := h j; have := h (j + 1); have := h (j + 2); have := h (j + 2 + 1); show _ < 256; omega) (fun j hj => by show _ + _ + (_ + _) = 0; rw [h0 _ hj, h0 _ (by omega), h0 _ (by omega), h0 _ (by omega)]) 4]
  rw [e3, e2, vl_add, vl_shift]
  have := h 0; have := h 1; have := h 2; have := h 3; have := h 4; have := h 5; have := h 6; have := h 7
  show (s 0 + s 1 + (s 2 + s 3) + (s 4 + s 5 + (s 6 + s 7)) + 256 * _) % 128 = _
  omega
theorem sw_le {b : Nat → Nat} (h : ∀ j, b j ≤ 1) (j : Nat) : b (8 * j) + b (8 * j + 1) + (b (8 * j + 2) + b (8 * j + 3)) + (b (8 * j + 4) + b (8 * j + 5) + (b (8 * j + 6) + b (8 * j + 7))) ≤ 8 := by
  have h0 := h (8 * j); have h1 := h (8 * j + 1); have h2 := h (8 * j + 2); have h3 := h (8 * j + 3)
  have h4 := h (8 * j + 4); have h5 := h (8 * j + 5); have h6 := h (8 * j + 6); have h7 := h (8 * j + 7)
  omega
theorem sm_8 (b : Nat → Nat) : ∀ n, fb_sm b (8 * n) = fb_sm (fun j => b (8 * j) + b (8 * j + 1) + (b (8 * j + 2) + b (8 * j + 3)) + (b (8 * j + 4) + b (8 * j + 5) + (b (8 * j + 6) + b (8 * j + 7)))) n
  | 0 => rfl
  | n + 1 => by
    rw [show 8 * (n + 1) = 8 * n + 1 + 1 + 1 + 1 + 1 + 1 + 1 + 1 by omega, fb_sm_succ, fb_sm_succ, fb_sm_succ, fb_sm_succ, fb_sm_succ, fb_sm_succ, fb_sm_succ, fb_sm_succ, sm_8 b n, fb_sm_succ]
    omega
theorem sw_32 (f : Nat → Bool) {n x y z u v : Nat} (hn : n ≤ 32) (hx : x = bs f n) (hy : y = x - (x / 2 &&& 1431655765)) (hz : z = (y &&& 858993459) + (y / 4 &&& 858993459)) (hu : u = (z + z / 16) &&& 252645135) (hv : v = u + u / 256) : (v + v / 65536) &&& 63 = fb_ct f n := by
  have hb := bd_le f n
  have e := bs_ext f (n := n) (32 - n)
  rw [show n + (32 - n) = 8 * 4 by omega] at e
  have h := sw_lanes hb 4 (fun j hj => bd_out f (by omega)) (hx.trans e) (y := y) (z := z) (by rw [hy]; congr 2) (by rw [hz]; congr 2)
  have hc := ct_bde f n (32 - n)
  rw [show n + (32 - n) = 8 * 4 by omega, sm_8] at hc
  have hm : 252645135 = vl 8 (fun _ => 15) 4 := by decide
  rw [hm, h.2] at hu
  have g := sw_le hb
  rw [and63, hc]
  have k := sw_f32 g (fun j hj => by show _ + _ + (_ + _) + (_ + _ + (_ + _)) = 0; simp only [bd_out f (show n ≤ 8 * j by omega), bd_out f (show n ≤ 8 * j + 1 by omega), bd_out f (show n ≤ 8 * j + 2 by omega), bd_out f (show n ≤ 8 * j + 3 by omega), bd_out f (show n ≤ 8 * j + 4 by omega), bd_out f (show n ≤ 8 * j + 5 by omega), bd_out f (show n ≤ 8 * j + 6 by omega), bd_out f (show n ≤ 8 * j + 7 by omega)]) hu hv
  rw [k]
  simp only [fb_sm, Nat.zero_add]
theorem sw_64 (f : Nat → Bool) {n x y z u v r : Nat} (hn : n ≤ 64) (hx : x = bs f n) (hy : y = x - (x / 2 &&& 6148914691236517205)) (hz : z = (y &&& 3689348814741910323) + (y / 4 &&& 3689348814741910323)) (hu : u = (z + z / 16) &&& 1085102592571150095) (hv : v = u + u / 256) (hr : r = v + v / 65536) : (r + r / 4294967296) &&& 127 = fb_ct f n := by
  have hb := bd_le f n
  have e := bs_ext f (n := n) (64 - n)
  rw [show n + (64 - n) = 8 * 8 by omega] at e
  have h := sw_lanes hb 8 (fun j hj => bd_out f (by omega)) (hx.trans e) (y := y) (z := z) (by rw [hy]; congr 2) (by rw [hz]; congr 2)
  have hc := ct_bde f n (64 - n)
  rw [show n + (64 - n) = 8 * 8 by omega, sm_8] at hc
  have hm : 1085102592571150095 = vl 8 (fun _ => 15) 8 := by decide
  rw [hm, h.2] at hu
  have g := sw_le hb
  rw [and127, hc]
  have k := sw_f64 g (fun j hj => by show _ + _ + (_ + _) + (_ + _ + (_ + _)) = 0; simp only [bd_out f (show n ≤ 8 * j by omega), bd_out f (show n ≤ 8 * j + 1 by omega), bd_out f (show n ≤ 8 * j + 2 by omega), bd_out f (show n ≤ 8 * j + 3 by omega), bd_out f (show n ≤ 8 * j + 4 by omega), bd_out f (show n ≤ 8 * j + 5 by omega), bd_out f (show n ≤ 8 * j + 6 by omega), bd_out f (show n ≤ 8 * j + 7 by omega)]) hu hv hr
  rw [k]
  simp only [fb_sm, Nat.zero_add]

