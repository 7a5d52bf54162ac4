/-! the JDK's counts of bits -/
theorem z_umod : ∀ k, k < 32 → (((nI k).toUInt32 &&& Int32.toUInt32 31).toBitVec % 32).toNat = k := by decide
theorem z_shrN {n k : Nat} (h : n < 2 ^ 32) (hk : k < 32) : z_shr (nI n) (nI k) = nI (n / 2 ^ k) := pk_ushrN h _ k (z_umod k hk)
theorem z_lshrN {n k : Nat} (h : n < 2 ^ 64) (hk : k < 64) : z_lshr (lN n) (nI k) = lN (n / 2 ^ k) := wb_shr h hk
def bc1 (x : Int32) : Int32 := x - (z_shr x (nI 1) &&& nI 1431655765)
def bc2 (x : Int32) : Int32 := (x &&& nI 858993459) + (z_shr x (nI 2) &&& nI 858993459)
def bc3 (x : Int32) : Int32 := (x + z_shr x (nI 4)) &&& nI 252645135
def bc4 (x : Int32) : Int32 := x + z_shr x (nI 8)
def bc5 (x : Int32) : Int32 := x + z_shr x (nI 16)
def bcF (x : Int32) : Int32 := bc5 (bc4 (bc3 (bc2 (bc1 x)))) &&& nI 63
def sp_J6_bitCount_0f7a4 : zSp := fun av w K => match av with
  | [.int x] => K (some (.int (bcF x))) w
  | _ => False
def rm_J6_bitCount_0f7a4 : Room := { frames := 0, cells := 0, slots := 0, locals := 0 }
def M_J6_bitCount_0f7a4 : zM := (k_J6_bitCount_0f7a4, [], [], ([(265, 1431655765), (266, 858993459), (267, 252645135)], [], []), [], [], 1, false, (false, 0, fun _ => 0), (0, 0, []))
theorem O_J6_bitCount_0f7a4 (l : Launch) : z_OK l RJ6 cJ6_bitCount_0f7a4 (headSpec (.code yJ6_bitCount_0f7a4 cJ6_bitCount_0f7a4 1 (some .int) :: zTT) rm_J6_bitCount_0f7a4).room M_J6_bitCount_0f7a4 := ⟨ok_J6_bitCount_0f7a4, fun _ h => absurd h List.not_mem_nil, fun _ h => absurd h List.not_mem_nil, List.forall_mem_cons.mpr ⟨wt_869, List.forall_mem_cons.mpr ⟨wt_870, List.forall_mem_cons.mpr ⟨wt_871, fun _ h => absurd h List.not_mem_nil⟩⟩⟩, fun _ h => absurd h List.not_mem_nil, fun _ h => absurd h List.not_mem_nil, fun _ h => absurd h List.not_mem_nil, rfl, rfl, fun _ h => absurd h List.not_mem_nil⟩
theorem c_J6_bitCount_0f7a4 (l : Launch) : z_CS l yJ6_bitCount_0f7a4 cJ6_bitCount_0f7a4 1 (some .int) rm_J6_bitCount_0f7a4 sp_J6_bitCount_0f7a4 := by
  refine z_methF (by decide +kernel) (Or.inr (Or.inl ⟨rfl, rfl⟩)) (fun h => by cases h) rfl (O_J6_bitCount_0f7a4 l) ?_
  intro av w K h
  match av, h with
  | [.int x], h => exact ⟨Nat.le_of_ble_eq_true rfl, fun Jm hs => hs 400 0 _ _ _ _ _ ⟨trivial, h⟩⟩
def bd1 (x : Int64) : Int64 := x - (z_lshr x (nI 1) &&& lN 6148914691236517205)
def bd2 (x : Int64) : Int64 := (x &&& lN 3689348814741910323) + (z_lshr x (nI 2) &&& lN 3689348814741910323)
def bd3 (x : Int64) : Int64 := (x + z_lshr x (nI 4)) &&& lN 1085102592571150095
def bd4 (x : Int64) : Int64 := x + z_lshr x (nI 8)
def bd5 (x : Int64) : Int64 := x + z_lshr x (nI 16)
def bd6 (x : Int64) : Int64 := x + z_lshr x (nI 32)
def bcL (x : Int64) : Int32 := (bd6 (bd5 (bd4 (bd3 (bd2 (bd1 x)))))).toInt32 &&& nI 127
def sp_J13_bitCount_95d88 : zSp := fun av w K => match av with
  | [.long x] => K (some (.int (bcL x))) w
  | _ => False
def rm_J13_bitCount_95d88 : Room := { frames := 0, cells := 0, slots := 0, locals := 0 }
def M_J13_bitCount_95d88 : zM := (k_J13_bitCount_95d88, [], [], ([], [(314, lN 6148914691236517205), (316, lN 3689348814741910323), (318, lN 1085102592571150095)], []), [], [], 1, false, (false, 0, fun _ => 0), (0, 0, []))
theorem O_J13_bitCount_95d88 (l : Launch) : z_OK l RJ13 cJ13_bitCount_95d88 (headSpec (.code yJ13_bitCount_95d88 cJ13_bitCount_95d88 2 (some .int) :: zTT) rm_J13_bitCount_95d88).room M_J13_bitCount_95d88 := ⟨ok_J13_bitCount_95d88, fun _ h => absurd h List.not_mem_nil, fun _ h => absurd h List.not_mem_nil, fun _ h => absurd h List.not_mem_nil, List.forall_mem_cons.mpr ⟨wt_756, List.forall_mem_cons.mpr ⟨wt_757, List.forall_mem_cons.mpr ⟨wt_758, fun _ h => absurd h List.not_mem_nil⟩⟩⟩, fun _ h => absurd h List.not_mem_nil, fun _ h => absurd h List.not_mem_nil, rfl, rfl, fun _ h => absurd h List.not_mem_nil⟩
theorem c_J13_bitCount_95d88 (l : Launch) : z_CS l yJ13_bitCount_95d88 cJ13_bitCount_95d88 2 (some .int) rm_J13_bitCount_95d88 sp_J13_bitCount_95d88 := by
  refine z_methF (by decide +kernel) (Or.inr (Or.inl ⟨rfl, rfl⟩)) (fun h => by cases h) rfl (O_J13_bitCount_95d88 l) ?_
  intro av w K h
  match av, h with
  | [.long x], h => exact ⟨Nat.le_of_ble_eq_true rfl, fun Jm hs => hs 400 0 _ _ _ _ _ ⟨trivial, h⟩⟩
theorem and_leL (a b : Nat) : a &&& b ≤ a := Nat.and_le_left
theorem bcF_N (f : Nat → Bool) {n : Nat} (hn : n ≤ 20) : bcF (nI (bs f n)) = nI (fb_ct f n) := by
  have hl : bs f n < 2 ^ 20 := Nat.lt_of_lt_of_le (bs_lt f n) (Nat.pow_le_pow_right (by decide) hn)
  generalize hx : bs f n = x at *
  have l1 := and_leL (x / 2) 1431655765
  have e1 : bc1 (nI x) = nI (x - (x / 2 &&& 1431655765)) := by
    unfold bc1
    rw [z_shrN (by omega) (by decide), fa_and, show 2 ^ 1 = 2 from rfl, pk_sub (by omega)]
  generalize hy : x - (x / 2 &&& 1431655765) = y at *
  have l2 := and_leL y 858993459
  have l3 := and_leL (y / 4) 858993459
  have e2 : bc2 (nI y) = nI ((y &&& 858993459) + (y / 4 &&& 858993459)) := by
    unfold bc2
    rw [z_shrN (by omega) (by decide), fa_and, fa_and, show 2 ^ 2 = 4 from rfl, nI_add]
  generalize hz : (y &&& 858993459) + (y / 4 &&& 858993459) = z at *
  have l4 := and_leL (z + z / 16) 252645135
  have e3 : bc3 (nI z) = nI ((z + z / 16) &&& 252645135) := by
    unfold bc3
    rw [z_shrN (by omega) (by decide), show 2 ^ 4 = 16 from rfl, nI_add, fa_and]
  generalize hu : (z + z / 16) &&& 252645135 = u at *
  have e4 : bc4 (nI u) = nI (u + u / 256) := by
    unfold bc4
    rw [z_shrN (by omega) (by decide), show 2 ^ 8 = 256 from rfl, nI_add]
  generalize hv : u + u / 256 = v at *
  have e5 : bc5 (nI v) = nI (v + v / 65536) := by
    unfold bc5
    rw [z_shrN (by omega) (by decide), show 2 ^ 16 = 65536 from rfl, nI_add]
  unfold bcF
  rw [e1, e2, e3, e4, e5, fa_and, sw_32 f (by omega) hx.symm hy.symm hz.symm hu.symm hv.symm]
theorem bcL_N (f : Nat → Bool) {n : Nat} (hn : n ≤ 60) : bcL (lN (bs f n)) = nI (fb_ct f n) := by
  have hl : bs f n < 2 ^ 60 := Nat.lt_of_lt_of_le (bs_lt f n) (Nat.pow_le_pow_right (by decide) hn)
  generalize hx : bs f n = x at *
  have l1 := and_leL (x / 2) 6148914691236517205
  have e1 : bd1 (lN x) = lN (x - (x / 2 &&& 6148914691236517205)) := by
    unfold bd1
    rw [z_lshrN (by omega) (by decide), fb_andL, show 2 ^ 1 = 2 from rfl, lN_sub (by omega)]
  generalize hy : x - (x / 2 &&& 6148914691236517205) = y at *
  have l2 := and_leL y 3689348814741910323
  have l3 := and_leL (y / 4) 3689348814741910323
  have e2 : bd2 (lN y) = lN ((y &&& 3689348814741910323) + (y / 4 &&& 3689348814741910323)) := by
    unfold bd2
    rw [z_lshrN (by omega) (by decide), fb_andL, fb_andL, show 2 ^ 2 = 4 from rfl, lN_add]
  generalize hz : (y &&& 3689348814741910323) + (y / 4 &&& 3689348814741910323) = z at *
  have l4 := and_leL (z + z / 16) 1085102592571150095
  have e3 : bd3 (lN z) = lN ((z + z / 16) &&& 1085102592571150095) := by
    unfold bd3
    rw [z_lshrN (by omega) (by decide), show 2 ^ 4 = 16 from rfl, lN_add, fb_andL]
  generalize hu : (z + z / 16) &&& 1085102592571150095 = u at *
  have e4 : bd4 (lN u) = lN (u + u / 256) := by
    unfold bd4
    rw [z_lshrN (by omega) (by decide), show 2 ^ 8 = 256 from rfl, lN_add]
  generalize hv : u + u / 256 = v at *
  have e5 : bd5 (lN v) = lN (v + v / 65536) := by
    unfold bd5
    rw [z_lshrN (by omega) (by decide), show 2 ^ 16 = 65536 from rfl, lN_add]
  generalize hr : v + v / 65536 = r at *
  have e6 : bd6 (lN r) = lN (r + r / 4294967296) := by
    unfold bd6
    rw [z_lshrN (by omega) (by decide), show 2 ^ 32 = 4294967296 from rfl, lN_add]
  unfold bcL
  rw [e1, e2, e3, e4, e5, e6, lN_i, fa_and, sw_64 f (by omega) hx.symm hy.symm hz.symm hu.symm hv.symm hr.symm]
/-- how many numbers of a form aren't 0 -/
def nzc (a : Nat → Nat) : Nat := fb_ct (fun p => a p != 0) 9
theorem bc_pk {a : Nat → Nat} (ha : ∀ p, p < 9 → a p < 3) : bcF (pk a) = nI (nzc a) := by
  unfold pk pN
  rw [bcF_N _ (by decide)]
  congr 1
  rw [show (18 : Nat) = 9 + 9 from rfl, fb_ct_split]
  have e1 : fb_ct (fun j => if j < 9 then a j == 1 else a (j - 9) == 2) 9 = fb_ct (fun p => a p == 1) 9 := fb_ct_cong (fun k hk => by simp [hk])
  have e2 : fb_ct (fun k => (fun j => if j < 9 then a j == 1 else a (j - 9) == 2) (9 + k)) 9 = fb_ct (fun p => a p == 2) 9 := fb_ct_cong (fun k hk => by simp [show ¬ 9 + k < 9 by omega, show 9 + k - 9 = k by omega])
  rw [e1, e2, ← fb_ct_or (fun k hk h => by
    have h1 := h.1
    have h2 := h.2
    simp only [beq_iff_eq] at h1 h2
    omega)]
  exact fb_ct_cong (fun k hk => by
    have := ha k hk
    rcases (show a k = 0 ∨ a k = 1 ∨ a k = 2 by omega) with r | r | r <;> simp [r])
theorem bs_or1 {f : Nat → Bool} {n k : Nat} (h : k < n) : bs (fun j => f j || j == k) n = bs f n ||| 2 ^ k := by
  apply Nat.eq_of_testBit_eq
  intro j
  rw [fb_bit_set, bs_bit, bs_bit]
  by_cases q : j = k
  · subst q; simp [h]
  · have e : (j == k) = false := by simpa using q
    rw [e]
    simp [q]
theorem bs_orf (f g : Nat → Bool) (n : Nat) : bs f n ||| bs g n = bs (fun j => f j || g j) n := by
  apply Nat.eq_of_testBit_eq
  intro j
  rw [Nat.testBit_or, bs_bit, bs_bit, bs_bit]
  by_cases q : j < n <;> simp [q]
theorem bit_N {k : Nat} (h : k < 64) : bitF (nI k) = lN (2 ^ k) := by
  have := wb_shl 1 h
  rw [Nat.one_mul] at this
  exact this
theorem bs_t {f : Nat → Bool} {n : Nat} (h : f n = true) : bs f (n + 1) = bs f n ||| 2 ^ n := by
  have hl := bs_lt f n
  rw [bs, if_pos h]
  have := Nat.two_pow_add_eq_or_of_lt hl 1
  rw [Nat.mul_one] at this
  rw [Nat.add_comm, this, Nat.or_comm]
theorem bs_f {f : Nat → Bool} {n : Nat} (h : ¬ f n = true) : bs f (n + 1) = bs f n := by
  rw [bs, if_neg h, Nat.add_zero]
/-- the places that a form has, as bits -/
theorem fplaces_pk {a : Nat → Nat} (ha : ∀ p, p < 9 → a p < 3) : fplaces (pk a) = nI (bs (fun p => a p != 0) 9) := by
  unfold fplaces pk
  have hl := pN_lt a
  rw [z_sarN (by omega) (by decide), fa_or, fa_and]
  congr 1
  apply Nat.eq_of_testBit_eq
  intro j
  rw [bs_bit, Nat.testBit_and, Nat.testBit_or, show (511 : Nat) = 2 ^ 9 - 1 from rfl, Nat.testBit_two_pow_sub_one, show pN a / 2 ^ 9 = pN a / 512 from rfl, tb_hi]
  by_cases h : j < 9
  · rw [pN_low a h]
    have := ha j h
    rcases (show a j = 0 ∨ a j = 1 ∨ a j = 2 by omega) with r | r | r <;> simp [r, h]
  · simp [h]

