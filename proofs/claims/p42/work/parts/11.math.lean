/-! numbers: bits and packed forms -/
theorem fa_and (a b : Nat) : nI a &&& nI b = nI (a &&& b) := by
  apply Int32.toBitVec_inj.1
  show BitVec.ofNat 32 a &&& BitVec.ofNat 32 b = BitVec.ofNat 32 (a &&& b)
  apply BitVec.eq_of_getLsbD_eq
  intro i hi
  simp [hi]
theorem fa_or (a b : Nat) : nI a ||| nI b = nI (a ||| b) := by
  apply Int32.toBitVec_inj.1
  show BitVec.ofNat 32 a ||| BitVec.ofNat 32 b = BitVec.ofNat 32 (a ||| b)
  apply BitVec.eq_of_getLsbD_eq
  intro i hi
  simp [hi]
theorem fb_xorI (a b : Nat) : nI a ^^^ nI b = nI (a ^^^ b) := by
  apply Int32.toBitVec_inj.1
  show BitVec.ofNat 32 a ^^^ BitVec.ofNat 32 b = BitVec.ofNat 32 (a ^^^ b)
  apply BitVec.eq_of_getLsbD_eq
  intro i hi
  simp [hi]
theorem mI_1 : mI 1 = nI 4294967295 := by decide
theorem z_smod : ∀ k, k < 32 → ((nI k &&& 31).toBitVec.smod 32).toNat = k := by decide
theorem z_sarN {n k : Nat} (h : n < 2 ^ 31) (hk : k < 32) : z_sar (nI n) (nI k) = nI (n / 2 ^ k) := pk_shrN h _ k (z_smod k hk)
theorem z_shlN {n k : Nat} (hk : k < 32) (h : n * 2 ^ k < 2 ^ 32) : z_shl (nI n) (nI k) = nI (n * 2 ^ k) := pk_shlN _ k (z_smod k hk) h
theorem nI_eq2 {a b : Nat} (ha : a < 2 ^ 32) (hb : b < 2 ^ 32) : nI a = nI b ↔ a = b := by
  constructor
  · intro h
    have h1 : (BitVec.ofNat 32 a).toNat = (BitVec.ofNat 32 b).toNat := congrArg (fun x : Int32 => x.toBitVec.toNat) h
    rw [BitVec.toNat_ofNat, BitVec.toNat_ofNat, Nat.mod_eq_of_lt (by omega), Nat.mod_eq_of_lt (by omega)] at h1
    exact h1
  · rintro rfl; rfl
/-- a number out of bits -/
def bs (f : Nat → Bool) : Nat → Nat
  | 0 => 0
  | n + 1 => bs f n + (if f n then 2 ^ n else 0)
theorem bs_lt (f : Nat → Bool) : ∀ n, bs f n < 2 ^ n
  | 0 => by simp [bs]
  | n + 1 => by
    have := bs_lt f n
    rw [bs, Nat.pow_succ]
    split <;> omega
theorem bs_bit (f : Nat → Bool) : ∀ n j, (bs f n).testBit j = (decide (j < n) && f j)
  | 0, j => by simp [bs]
  | n + 1, j => by
    have ih := bs_bit f n j
    have hl := bs_lt f n
    rw [bs]
    by_cases hf : f n = true
    · rw [if_pos hf, Nat.add_comm]
      rcases Nat.lt_trichotomy j n with h | h | h
      · rw [Nat.testBit_two_pow_add_gt h, ih]; simp [h, Nat.lt_succ_of_lt h]
      · subst h; rw [Nat.testBit_two_pow_add_eq, ih]; simp [hf]
      · have h2 : 2 ^ (n + 1) ≤ 2 ^ j := Nat.pow_le_pow_right (by decide) h
        rw [Nat.pow_succ] at h2
        rw [Nat.testBit_lt_two_pow (by omega)]
        have : ¬ j < n + 1 := by omega
        simp [this]
    · rw [if_neg hf, Nat.add_zero, ih]
      by_cases h : j = n
      · subst h; simp [hf]
      · have : (j < n + 1) = (j < n) := by apply propext; omega
        simp [this]
theorem bs_congr {f g : Nat → Bool} : ∀ {n : Nat}, (∀ j, j < n → f j = g j) → bs f n = bs g n
  | 0, _ => rfl
  | n + 1, h => by rw [bs, bs, bs_congr (fun j hj => h j (by omega)), h n (by omega)]
/-- a form, packed: bits 0 .. 8 the places with 1, bits 9 .. 17 those with 2 -/
def pN (a : Nat → Nat) : Nat := bs (fun j => if j < 9 then a j == 1 else a (j - 9) == 2) 18
def pk (a : Nat → Nat) : Int32 := nI (pN a)
theorem pN_lt (a : Nat → Nat) : pN a < 262144 := bs_lt _ 18
theorem pN_bit (a : Nat → Nat) (j : Nat) : (pN a).testBit j = (decide (j < 18) && if j < 9 then a j == 1 else a (j - 9) == 2) := bs_bit _ 18 j
theorem pN_low (a : Nat → Nat) {j : Nat} (h : j < 9) : (pN a).testBit j = (a j == 1) := by
  rw [pN_bit]; simp [h, show j < 18 by omega]
theorem pN_high (a : Nat → Nat) {j : Nat} (h : j < 9) : (pN a).testBit (j + 9) = (a j == 2) := by
  rw [pN_bit]; simp [show ¬ j + 9 < 9 by omega, show j + 9 < 18 by omega]
theorem pN_none (a : Nat → Nat) {j : Nat} (h : 18 ≤ j) : (pN a).testBit j = false := by
  rw [pN_bit]; simp [show ¬ j < 18 by omega]
theorem pN_ext {v : Nat} {a : Nat → Nat} (h1 : ∀ j, j < 9 → v.testBit j = (a j == 1)) (h2 : ∀ j, j < 9 → v.testBit (j + 9) = (a j == 2)) (h3 : ∀ j, 18 ≤ j → v.testBit j = false) : v = pN a := by
  apply Nat.eq_of_testBit_eq
  intro j
  rcases Nat.lt_or_ge j 9 with h | h
  · rw [h1 j h, pN_low a h]
  · rcases Nat.lt_or_ge j 18 with h' | h'
    · have e : j = j - 9 + 9 := by omega
      rw [e, h2 _ (by omega), pN_high a (by omega)]
    · rw [h3 j h', pN_none a h']
theorem pk_congr {a b : Nat → Nat} (h : ∀ p, p < 9 → a p = b p) : pk a = pk b := by
  unfold pk
  rw [pN_ext (v := pN a) (a := b) (fun j hj => by rw [pN_low a hj, h j hj]) (fun j hj => by rw [pN_high a hj, h j hj]) (fun j hj => pN_none a hj)]
theorem pk_inj {a b : Nat → Nat} (ha : ∀ p, p < 9 → a p < 3) (hb : ∀ p, p < 9 → b p < 3) : pk a = pk b ↔ ∀ p, p < 9 → a p = b p := by
  constructor
  · intro h p hp
    unfold pk at h
    have h := (nI_eq2 (by have := pN_lt a; omega) (by have := pN_lt b; omega)).mp h
    have e1 := pN_low a hp
    have e2 := pN_high a hp
    rw [h, pN_low b hp] at e1
    rw [h, pN_high b hp] at e2
    have q1 := ha p hp
    have q2 := hb p hp
    rcases (show a p = 0 ∨ a p = 1 ∨ a p = 2 by omega) with r | r | r <;> rcases (show b p = 0 ∨ b p = 1 ∨ b p = 2 by omega) with r2 | r2 | r2 <;> simp_all
  · exact pk_congr
theorem pk_zero : pk (fun _ => 0) = nI 0 := by decide
theorem pk_eq0 {a : Nat → Nat} (ha : ∀ p, p < 9 → a p < 3) : pk a = nI 0 ↔ ∀ p, p < 9 → a p = 0 := by
  rw [← pk_zero]
  exact pk_inj ha (fun _ _ => by decide)
theorem and_1 (n : Nat) : n &&& 1 = if n.testBit 0 then 1 else 0 := by
  rw [show (1 : Nat) = 2 ^ 1 - 1 from rfl, Nat.and_two_pow_sub_one_eq_mod]
  have : n % 2 = 0 ∨ n % 2 = 1 := by omega
  rcases this with h | h <;> simp [Nat.testBit_zero, h]
theorem fnum_pk {a : Nat → Nat} (ha : ∀ p, p < 9 → a p < 3) {k : Nat} (hk : k < 9) : fnum (pk a) (nI k) = nI (a k) := by
  unfold fnum pk
  have hl := pN_lt a
  rw [nI_add, z_sarN (by omega) (by omega), z_sarN (by omega) (by omega), fa_and, fa_and, and_1, and_1, Nat.testBit_div_two_pow, Nat.testBit_div_two_pow, Nat.zero_add, Nat.zero_add, pN_low a hk, pN_high a hk, pk_mul, nI_add]
  have := ha k hk
  rcases (show a k = 0 ∨ a k = 1 ∨ a k = 2 by omega) with r | r | r <;> rw [r] <;> rfl
theorem flo_pk (a : Nat → Nat) : flo (pk a) = nI (pN a % 512) := by
  unfold flo pk
  rw [fa_and, show (511 : Nat) = 2 ^ 9 - 1 from rfl, Nat.and_two_pow_sub_one_eq_mod]
theorem fhi_pk (a : Nat → Nat) : fhi (pk a) = nI (pN a / 512) := by
  unfold fhi pk
  have hl := pN_lt a
  rw [z_sarN (by omega) (by omega)]
theorem fnot_N (n : Nat) : fnot (nI n) = nI (n ^^^ 4294967295) := by
  unfold fnot
  rw [mI_1, fb_xorI]
theorem tb_ones {j : Nat} (h : j < 32) : (4294967295 : Nat).testBit j = true := by
  rw [show (4294967295 : Nat) = 2 ^ 32 - 1 from rfl, Nat.testBit_two_pow_sub_one]
  simp [h]
theorem tb_lo (a : Nat → Nat) (j : Nat) : (pN a % 512).testBit j = (decide (j < 9) && a j == 1) := by
  rw [show (512 : Nat) = 2 ^ 9 from rfl, Nat.testBit_mod_two_pow]
  by_cases h : j < 9
  · rw [pN_low a h]
  · simp [h]
theorem tb_hi (a : Nat → Nat) (j : Nat) : (pN a / 512).testBit j = (decide (j < 9) && a j == 2) := by
  rw [show (512 : Nat) = 2 ^ 9 from rfl, Nat.testBit_div_two_pow]
  by_cases h : j < 9
  · rw [pN_high a h]; simp [h]
  · rw [pN_none a (by omega)]; simp [h]
theorem sum3 {x y : Nat} (hx : x < 3) (hy : y < 3) : ((((x == 1) && !((y == 1) || (y == 2))) || ((y == 1) && !((x == 1) || (x == 2)))) || ((x == 2) && (y == 2))) = ((x + y) % 3 == 1) ∧ ((((x == 2) && !((y == 1) || (y == 2))) || ((y == 2) && !((x == 1) || (x == 2)))) || ((x == 1) && (y == 1))) = ((x + y) % 3 == 2) := by
  rcases (show x = 0 ∨ x = 1 ∨ x = 2 by omega) with r | r | r <;> rcases (show y = 0 ∨ y = 1 ∨ y = 2 by omega) with r2 | r2 | r2 <;> subst r <;> subst r2 <;> decide
theorem tb_shl9 (n j : Nat) : (n * 2 ^ 9).testBit j = (decide (9 ≤ j) && n.testBit (j - 9)) := Nat.testBit_mul_two_pow n j 9
theorem lt_of_bits {n m : Nat} (h : ∀ j, m ≤ j → n.testBit j = false) : n < 2 ^ m := Nat.lt_pow_two_of_testBit n h
/-- sums, modulo 2 or 3 -/
theorem fsum_pk {q : Nat} (hq : q = 2 ∨ q = 3) {a b : Nat → Nat} (ha : ∀ p, p < 9 → a p < q) (hb : ∀ p, p < 9 → b p < q) : fsum (pk a) (pk b) (nI q) = pk (fun p => (a p + b p) % q) := by
  unfold fsum
  rcases hq with rfl | rfl
  · rw [if_pos rfl]
    unfold pk
    rw [fb_xorI]
    congr 1
    refine pN_ext (fun j hj => ?_) (fun j hj => ?_) (fun j hj => ?_)
    · rw [Nat.testBit_xor, pN_low a hj, pN_low b hj]
      have := ha j hj
      have := hb j hj
      rcases (show a j = 0 ∨ a j = 1 by omega) with r | r <;> rcases (show b j = 0 ∨ b j = 1 by omega) with r2 | r2 <;> simp [r, r2]
    · rw [Nat.testBit_xor, pN_high a hj, pN_high b hj]
      have := ha j hj
      have := hb j hj
      rcases (show a j = 0 ∨ a j = 1 by omega) with r | r <;> rcases (show b j = 0 ∨ b j = 1 by omega) with r2 | r2 <;> simp [r, r2]
    · rw [Nat.testBit_xor, pN_none a hj, pN_none b hj]; rfl
  · rw [if_neg (by decide)]
    simp only [flo_pk, fhi_pk, fnot_N, fa_or, fa_and]
    rw [z_shlN (by decide) ?_, fa_or]
    · unfold pk
      congr 1
      have low : ∀ j, j < 9 → ((((pN a % 512 &&& ((pN b % 512 ||| pN b / 512) ^^^ 4294967295)) ||| (pN b % 512 &&& ((pN a % 512 ||| pN a / 512) ^^^ 4294967295))) ||| (pN a / 512 &&& pN b / 512))).testBit j = ((a j + b j) % 3 == 1) := by
        intro j hj
        simp only [Nat.testBit_or, Nat.testBit_and, Nat.testBit_xor, tb_lo, tb_hi, tb_ones (show j < 32 by omega), hj, decide_true, Bool.true_and, Bool.xor_true]
        exact (sum3 (ha j hj) (hb j hj)).1
      have high : ∀ j, j < 9 → ((((pN a / 512 &&& ((pN b % 512 ||| pN b / 512) ^^^ 4294967295)) ||| (pN b / 512 &&& ((pN a % 512 ||| pN a / 512) ^^^ 4294967295))) ||| (pN a % 512 &&& pN b % 512))).testBit j = ((a j + b j) % 3 == 2) := by
        intro j hj
        simp only [Nat.testBit_or, Nat.testBit_and, Nat.testBit_xor, tb_lo, tb_hi, tb_ones (show j < 32 by omega), hj, decide_true, Bool.true_and, Bool.xor_true]
        exact (sum3 (ha j hj) (hb j hj)).2
      refine pN_ext (fun j hj => ?_) (fun j hj => ?_) (fun j hj => ?_)
      · rw [Nat.testBit_or, low j hj, tb_shl9]; simp [show ¬ 9 ≤ j by omega]
      · rw [Nat.testBit_or, tb_shl9, Nat.add_sub_cancel, high j hj]
        simp [Nat.testBit_or, Nat.testBit_and, tb_lo, tb_hi, show ¬ j + 9 < 9 by omega]
      · rw [Nat.testBit_or, tb_shl9]
        simp [Nat.testBit_or, Nat.testBit_and, tb_lo, tb_hi, show ¬ j < 9 by omega, show ¬ j - 9 < 9 by omega]
    · have : ((((pN a / 512 &&& ((pN b % 512 ||| pN b / 512) ^^^ 4294967295)) ||| (pN b / 512 &&& ((pN a % 512 ||| pN a / 512) ^^^ 4294967295))) ||| (pN a % 512 &&& pN b % 512))) < 2 ^ 9 := lt_of_bits (fun j hj => by simp [Nat.testBit_or, Nat.testBit_and, tb_lo, tb_hi, show ¬ j < 9 by omega])
      omega
theorem ftimes_pk {q f : Nat} (hq : q = 2 ∨ q = 3) (hf : f < q) {a : Nat → Nat} (ha : ∀ p, p < 9 → a p < q) : ftimes (nI f) (pk a) = pk (fun p => f * a p % q) := by
  unfold ftimes
  have h3 : f = 0 ∨ f = 1 ∨ f = 2 := by omega
  rcases h3 with rfl | rfl | rfl
  · rw [if_neg (by decide), if_neg (by decide), ← pk_zero]
    exact pk_congr (fun p _ => by simp)
  · rw [if_neg (by decide), if_pos rfl]
    refine pk_congr (fun p hp => ?_)
    rw [Nat.one_mul, Nat.mod_eq_of_lt (ha p hp)]
  · have hq3 : q = 3 := by omega
    subst hq3
    rw [if_pos rfl, flo_pk, fhi_pk, z_shlN (by decide) (by have := Nat.mod_lt (pN a) (show 512 > 0 by decide); omega), fa_or]
    unfold pk
    congr 1
    refine pN_ext (fun j hj => ?_) (fun j hj => ?_) (fun j hj => ?_)
    · rw [Nat.testBit_or, tb_shl9, tb_hi]
      have := ha j hj
      rcases (show a j = 0 ∨ a j = 1 ∨ a j = 2 by omega) with r | r | r <;> simp [r, hj, show ¬ 9 ≤ j by omega]
    · rw [Nat.testBit_or, tb_shl9, Nat.add_sub_cancel, tb_hi, tb_lo]
      have := ha j hj
      rcases (show a j = 0 ∨ a j = 1 ∨ a j = 2 by omega) with r | r | r <;> simp [r, hj, show ¬ j + 9 < 9 by omega]
    · rw [Nat.testBit_or, tb_shl9, tb_hi, tb_lo]
      simp [show ¬ j < 9 by omega, show ¬ j - 9 < 9 by omega]
theorem fless_pk {q : Nat} (hq : q = 2 ∨ q = 3) {a b : Nat → Nat} (ha : ∀ p, p < 9 → a p < q) (hb : ∀ p, p < 9 → b p < q) : fless (pk a) (pk b) (nI q) = pk (fun p => (a p + (q - b p)) % q) := by
  unfold fless
  rw [pk_sub (by omega), ftimes_pk hq (by omega) hb, fsum_pk hq ha (fun p _ => Nat.mod_lt _ (by omega))]
  refine pk_congr (fun p hp => ?_)
  have := ha p hp
  have := hb p hp
  rcases hq with rfl | rfl
  · rcases (show b p = 0 ∨ b p = 1 by omega) with r | r <;> rw [r] <;> omega
  · rcases (show b p = 0 ∨ b p = 1 ∨ b p = 2 by omega) with r | r | r <;> rw [r] <;> omega
theorem fmod_N {q n : Nat} (hq : q = 2 ∨ q = 3) (hn : n < 2 ^ 31) : fmod (nI n) (nI q) = nI (n % q) := by
  unfold fmod
  rcases hq with rfl | rfl
  · rw [if_neg (by decide), fa_and]
    congr 1
    rw [show (1 : Nat) = 2 ^ 1 - 1 from rfl, Nat.and_two_pow_sub_one_eq_mod]
  · rw [if_pos rfl]
    unfold fmodJ z_rem
    rw [pk_rem hn (by decide) (by decide), if_neg]
    rintro ⟨h, -⟩
    rw [fb_xorI] at h
    have h2 : n ^^^ 3 < 2 ^ 31 := Nat.xor_lt_two_pow hn (by decide)
    exact nI_nlt (Nat.zero_le _) h2 h
/-- LIKE: by which f the second is f times the first; 0: by none -/
def likeN (q : Nat) (a b : Nat → Nat) : Nat :=
  if (∀ p : Nat, p < 9 → a p = 0) ∨ (∀ p : Nat, p < 9 → b p = 0) then 0 else if ∀ p : Nat, p < 9 → b p = a p then 1 else if q = 3 ∧ ∀ p : Nat, p < 9 → b p = 2 * a p % 3 then 2 else 0
theorem flike_pk {q : Nat} (hq : q = 2 ∨ q = 3) {a b : Nat → Nat} (ha : ∀ p, p < 9 → a p < q) (hb : ∀ p, p < 9 → b p < q) : flike (pk a) (pk b) (nI q) = nI (likeN q a b) := by
  have ha3 : ∀ p, p < 9 → a p < 3 := fun p hp => by have := ha p hp; omega
  have hb3 : ∀ p, p < 9 → b p < 3 := fun p hp => by have := hb p hp; omega
  unfold flike likeN
  simp only [pk_eq0 ha3, pk_eq0 hb3, pk_inj ha3 hb3]
  by_cases h1 : (∀ p, p < 9 → a p = 0) ∨ (∀ p, p < 9 → b p = 0)
  · rw [if_pos h1, if_pos h1]
  · rw [if_neg h1, if_neg h1]
    by_cases h2 : ∀ p, p < 9 → a p = b p
    · rw [if_pos h2, if_pos (fun p hp => (h2 p hp).symm)]
    · have h2' : ¬ ∀ p : Nat, p < 9 → b p = a p := fun h => h2 (fun p hp => (h p hp).symm)
      rw [if_neg h2, if_neg h2']
      rcases hq with rfl | rfl
      · have n1 : ¬ (nI 2 = nI 3 ∧ ftimes (nI 2) (pk a) = pk b) := fun h => absurd h.1 (by decide)
        have n2 : ¬ ((2 : Nat) = 3 ∧ ∀ p : Nat, p < 9 → b p = 2 * a p % 3) := fun h => absurd h.1 (by decide)
        rw [if_neg n1, if_neg n2]
      · have e := ftimes_pk (q := 3) (f := 2) (Or.inr rfl) (by decide) ha
        have e2 : pk (fun p => 2 * a p % 3) = pk b ↔ ∀ p, p < 9 → 2 * a p % 3 = b p := pk_inj (fun p _ => Nat.mod_lt _ (by decide)) hb3
        rw [e]
        by_cases h3 : ∀ p, p < 9 → 2 * a p % 3 = b p
        · have y2 : (3 : Nat) = 3 ∧ ∀ p : Nat, p < 9 → b p = 2 * a p % 3 := ⟨rfl, fun p hp => (h3 p hp).symm⟩
          rw [if_pos ⟨rfl, e2.mpr h3⟩, if_pos y2]
        · have n1 : ¬ (nI 3 = nI 3 ∧ pk (fun p => 2 * a p % 3) = pk b) := fun h => h3 (e2.mp h.2)
          have n2 : ¬ ((3 : Nat) = 3 ∧ ∀ p : Nat, p < 9 → b p = 2 * a p % 3) := fun h => h3 (fun p hp => (h.2 p hp).symm)
          rw [if_neg n1, if_neg n2]
theorem likeN_lt (q : Nat) (a b : Nat → Nat) : likeN q a b < 3 := by
  unfold likeN
  split
  · decide
  · split
    · decide
    · split <;> decide
theorem likeN_lt_q {q : Nat} (hq : q = 2 ∨ q = 3) (a b : Nat → Nat) : likeN q a b < q := by
  unfold likeN
  rcases hq with rfl | rfl
  · split
    · decide
    · split
      · decide
      · split
        · rename_i h; exact absurd h.1 (by decide)
        · decide
  · exact likeN_lt 3 a b
/-- a place set -/
def setp (a : Nat → Nat) (k n : Nat) : Nat → Nat := fun p => if p = k then n else a p
theorem fwith_pk {a : Nat → Nat} (ha : ∀ p, p < 9 → a p < 3) {k n : Nat} (hk : k < 9) (hn : n < 3) : fwith (pk a) (nI k) (nI n) = pk (setp a k n) := by
  have hl := pN_lt a
  have p1 : 1 * 2 ^ k < 2 ^ 9 := by rw [Nat.one_mul]; exact Nat.pow_lt_pow_right (by decide) hk
  have p2 : 1 * 2 ^ (k + 9) < 2 ^ 18 := by rw [Nat.one_mul]; exact Nat.pow_lt_pow_right (by decide) (by omega)
  have e1 : z_shl (nI 1) (nI k) = nI (2 ^ k) := by rw [z_shlN (by omega) (by omega), Nat.one_mul]
  have e2 : z_shl (nI 1) (nI (k + 9)) = nI (2 ^ (k + 9)) := by rw [z_shlN (by omega) (by omega), Nat.one_mul]
  have hclr : fclr (pk a) (nI k) = nI (pN a &&& ((2 ^ k ||| 2 ^ (k + 9)) ^^^ 4294967295)) := by
    unfold fclr pk
    rw [nI_add, e1, e2, fa_or, mI_1, fb_xorI, fa_and]
  have clr : ∀ j, (pN a &&& ((2 ^ k ||| 2 ^ (k + 9)) ^^^ 4294967295)).testBit j = ((pN a).testBit j && !(decide (k = j) || decide (k + 9 = j))) := by
    intro j
    rw [Nat.testBit_and, Nat.testBit_xor, Nat.testBit_or, Nat.testBit_two_pow, Nat.testBit_two_pow]
    by_cases h : j < 18
    · rw [tb_ones (by omega), Bool.xor_true]
    · rw [pN_none a (by omega)]; rfl
  unfold fwith
  rw [hclr, nI_add, e1, e2, fa_or, fa_or]
  rcases (show n = 0 ∨ n = 1 ∨ n = 2 by omega) with rfl | rfl | rfl
  · rw [if_neg (by decide), if_neg (by decide)]
    unfold pk
    congr 1
    refine pN_ext (fun j hj => ?_) (fun j hj => ?_) (fun j hj => ?_)
    · rw [clr, pN_low a hj]
      by_cases h : k = j
      · subst h; simp [setp]
      · simp [setp, h, fun q => h (Eq.symm q), show ¬ k + 9 = j by omega, show ¬ j = k from fun q => h q.symm]
    · rw [clr, pN_high a hj]
      by_cases h : k = j
      · subst h; simp [setp]
      · simp [setp, h, show ¬ k = j + 9 by omega, show ¬ j = k from fun q => h q.symm]
    · rw [clr, pN_none a hj]; rfl
  · rw [if_pos rfl]
    unfold pk
    congr 1
    refine pN_ext (fun j hj => ?_) (fun j hj => ?_) (fun j hj => ?_)
    · rw [Nat.testBit_or, Nat.testBit_two_pow, clr, pN_low a hj]
      by_cases h : k = j
      · subst h; simp [setp]
      · simp [setp, h, show ¬ k + 9 = j by omega, show ¬ j = k from fun q => h q.symm]
    · rw [Nat.testBit_or, Nat.testBit_two_pow, clr, pN_high a hj]
      by_cases h : k = j
      · subst h; simp [setp, show ¬ k = k + 9 by omega]
      · simp [setp, h, show ¬ k = j + 9 by omega, show ¬ j = k from fun q => h q.symm]
    · rw [Nat.testBit_or, Nat.testBit_two_pow, clr, pN_none a hj]
      simp [show ¬ k = j by omega]
  · rw [if_neg (by decide), if_pos rfl]
    unfold pk
    congr 1
    refine pN_ext (fun j hj => ?_) (fun j hj => ?_) (fun j hj => ?_)
    · rw [Nat.testBit_or, Nat.testBit_two_pow, clr, pN_low a hj]
      by_cases h : k = j
      · subst h; simp [setp]
      · simp [setp, h, show ¬ k + 9 = j by omega, show ¬ j = k from fun q => h q.symm]
    · rw [Nat.testBit_or, Nat.testBit_two_pow, clr, pN_high a hj]
      by_cases h : k = j
      · subst h; simp [setp]
      · simp [setp, h, show ¬ k = j + 9 by omega, show ¬ j = k from fun q => h q.symm]
    · rw [Nat.testBit_or, Nat.testBit_two_pow, clr, pN_none a hj]
      simp [show ¬ k + 9 = j by omega]

