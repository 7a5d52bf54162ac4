/-! the constants at the entry -/
theorem vkS_cong {N : Nat} {len : List Nat} {byt : List (List Int32)} {k1 v1 k2 v2 : Nat → Nat} {A : Nat → Prop} {U : State} {H : Heap} (h : vk_S N len byt k1 v1 A U H) (hk : ∀ i, i < N → k2 i = k1 i) (hv : ∀ i, i < N → v2 i = v1 i) : vk_S N len byt k2 v2 A U H :=
  ⟨fun i hi => by rw [hk i hi, hv i hi]; exact h.1 i hi, fun i j hi hj e => h.2 i j hi hj (by rw [← hk i hi, ← hk j hj]; exact e)⟩
abbrev tO : Term := .static "java/lang/Integer" "DigitOnes" "[B"
abbrev tSt (i : Nat) : Term := .string RL (([116, 127, 132] : List Nat).getD i 0)
theorem ones_in : ∀ j, j < 100 → Cond.eq (.elem tO (.int (Int32.ofNat j))) (.int (dOnes j)) ∈ flatC (Jvm.Cond.and given_1 narrow_1) := by decide +kernel
/-- the constants, out of what the Statement gives of the start -/
theorem con_of {s : State} {a0 : Nat} (hts : ∀ w ∈ lw_tbl, w.before #[Value.ref a0] s = true) (hgv : (Jvm.Cond.and given_1 narrow_1).before #[Value.ref a0] s = true) : ∃ b : Nat → Nat, b 0 = a0 ∧ zCon b (fun q : Nat => s.heap.size ≤ q) s s.heap := by
  have hgs := flat_of_before _ hgv
  have hA : ∀ a : Nat, a < s.heap.size → ¬ (fun q : Nat => s.heap.size ≤ q) a := fun a ha => Nat.not_le.mpr ha
  obtain ⟨aK, aV, hS, hE⟩ := vk_Sof (args := #[Value.ref a0]) (s := s) (N := 3) (tm := tSt) (len := [1, 1, 2]) (byt := [[42], [49], [44, 49]]) (A := fun q : Nat => s.heap.size ≤ q)
    (fun i hi => by match i, hi with
      | 0, _ => decide
      | 1, _ => decide
      | 2, _ => decide)
    (fun i hi => hgs _ (by revert i; decide +kernel)) (fun i hi => hgs _ (by revert i; decide +kernel)) (fun i hi => hgs _ (by revert i; decide +kernel)) (fun i hi => hgs _ (by revert i; decide +kernel))
    (fun i hi j hj => hgs _ (by revert j; revert i; decide +kernel))
    (fun i j hi hj hne => by match i, j, hi, hj, hne with
      | 0, 1, _, _, _ => exact Or.inl (hgs _ (by decide +kernel))
      | 0, 2, _, _, _ => exact Or.inl (hgs _ (by decide +kernel))
      | 1, 2, _, _, _ => exact Or.inl (hgs _ (by decide +kernel))
      | 1, 0, _, _, _ => exact Or.inr (hgs _ (by decide +kernel))
      | 2, 0, _, _, _ => exact Or.inr (hgs _ (by decide +kernel))
      | 2, 1, _, _, _ => exact Or.inr (hgs _ (by decide +kernel))
      | 0, 0, _, _, h => exact absurd rfl h
      | 1, 1, _, _, h => exact absurd rfl h
      | 2, 2, _, _, h => exact absurd rfl h) hA
  obtain ⟨t7, ht7, hT7⟩ := va_Tof (args := #[Value.ref a0]) (s := s) (tm := tO) (ty := .byte) (N := 100) (f := fun j => .int (dOnes j)) (A := fun q : Nat => s.heap.size ≤ q) (by decide) (hgs (.arrayOf tO .byte) (by decide +kernel)) (va_eqt (hgs (.eq (.length tO) (.int (Int32.ofNat 100))) (by decide +kernel))) (fun j hj => va_eqt (hgs _ (ones_in j hj))) hA
  have hZ7 := va_Zref (hts (.laysStatic "java/lang/Integer" "DigitOnes" "[B") (by decide +kernel)) (hts (.initialized "java/lang/Integer") (by decide +kernel)) ht7 hA
  have hZc := va_Zof (v := .int 1) (hts (.laysStatic "java/lang/String" "COMPACT_STRINGS" "Z") (by decide +kernel)) (hts (.initialized "java/lang/String") (by decide +kernel)) (va_eqt (hgs (.eq (.static "java/lang/String" "COMPACT_STRINGS" "Z") (.int 1)) (by decide +kernel))) hA
  have hZs := va_Zqof (hts (.laysStatic "jdk/internal/util/Preconditions" "SIOOBE_FORMATTER" "Ljava/util/function/BiFunction;") (by decide +kernel)) (hts (.initialized "jdk/internal/util/Preconditions") (by decide +kernel)) (hgs (.isRef (.static "jdk/internal/util/Preconditions" "SIOOBE_FORMATTER" "Ljava/util/function/BiFunction;")) (by decide +kernel)) hA
  have hcs : va_Nw (.castable "[B" "java/lang/Cloneable") s := va_Nw.of (by decide) (hts (.castable "[B" "java/lang/Cloneable") (by decide +kernel))
  have mk : ∀ t8 : Nat, ∃ b : Nat → Nat, b 0 = a0 ∧ b 7 = t7 ∧ b 8 = t8 ∧ (∀ i, i < 3 → b (2 * i + 1) = aK i) ∧ ∀ i, i < 3 → b (2 * i + 2) = aV i := fun t8 => ⟨fun k => match k with
    | 0 => a0
    | 1 => aK 0
    | 2 => aV 0
    | 3 => aK 1
    | 4 => aV 1
    | 5 => aK 2
    | 6 => aV 2
    | 7 => t7
    | _ => t8, rfl, rfl, rfl, fun i hi => by match i, hi with
      | 0, _ => rfl
      | 1, _ => rfl
      | 2, _ => rfl, fun i hi => by match i, hi with
      | 0, _ => rfl
      | 1, _ => rfl
      | 2, _ => rfl⟩
  have fin : ∀ b : Nat → Nat, b 0 = a0 → b 7 = t7 → (∀ i, i < 3 → b (2 * i + 1) = aK i) → (∀ i, i < 3 → b (2 * i + 2) = aV i) → (va_Z "jdk/internal/util/Preconditions" "SIOOBE_FORMATTER" "Ljava/util/function/BiFunction;" .null (fun q : Nat => s.heap.size ≤ q) s s.heap ∨ va_Z "jdk/internal/util/Preconditions" "SIOOBE_FORMATTER" "Ljava/util/function/BiFunction;" (.ref (b 8)) (fun q : Nat => s.heap.size ≤ q) s s.heap) → zCon b (fun q : Nat => s.heap.size ≤ q) s s.heap := fun b h0 h7 hk hv h8 =>
    ⟨vkS_cong hS hk hv, ⟨vk_R.of (hts (.stringRef RL 116 "*") (by decide +kernel)) (by rw [show b 1 = aK 0 from hk 0 (by decide)]; exact hE 0 (by decide)), vk_R.of (hts (.stringRef RL 127 "1") (by decide +kernel)) (by rw [show b 3 = aK 1 from hk 1 (by decide)]; exact hE 1 (by decide)), vk_R.of (hts (.stringRef RL 132 ",1") (by decide +kernel)) (by rw [show b 5 = aK 2 from hk 2 (by decide)]; exact hE 2 (by decide))⟩, hZc, ⟨by rw [h7]; exact hZ7, by rw [h7]; exact hT7⟩, h8, hcs⟩
  rcases hZs with h | ⟨t, h⟩
  · obtain ⟨b, h0, h7, h8, hk, hv⟩ := mk 0
    exact ⟨b, h0, fin b h0 h7 hk hv (Or.inl h)⟩
  · obtain ⟨b, h0, h7, h8, hk, hv⟩ := mk t
    exact ⟨b, h0, fin b h0 h7 hk hv (Or.inr (by rw [h8]; exact h))⟩

