/-! a line less, a line more -/
def woR (a : Nat → Nat) (C l : Nat) : Nat → Nat := fun p => if p < l * C then a p else if p + C < 9 then a (p + C) else 0
def woT (a : Nat → Nat) (C l m : Nat) : Nat → Nat := fun p => if p < m then woR a C l p else a p
theorem woR_lt {a : Nat → Nat} {q : Nat} (hq : 0 < q) (ha : ∀ p, p < 9 → a p < q) (C l : Nat) : ∀ p, p < 9 → woR a C l p < q := fun p hp => by
  unfold woR
  split
  · exact ha p hp
  · split
    · exact ha _ (by assumption)
    · exact hq
theorem woT_lt {a : Nat → Nat} {q : Nat} (hq : 0 < q) (ha : ∀ p, p < 9 → a p < q) (C l m : Nat) : ∀ p, p < 9 → woT a C l m p < q := fun p hp => by
  unfold woT
  split
  · exact woR_lt hq ha C l p hp
  · exact ha p hp
def sp_X10_withoutRow : zSp := fun av w K => match av with
  | [.int x, .int u, .int v] => ∃ (a : Nat → Nat) (C l : Nat), x = pk a ∧ (∀ p, p < 9 → a p < 3) ∧ u = nI C ∧ 1 ≤ C ∧ C ≤ 3 ∧ v = nI l ∧ l < 3 ∧ K (some (.int (pk (woR a C l)))) w
  | _ => False
def rm_X10_withoutRow : Room := { frames := 1, cells := 0, slots := 0, locals := 25 }
def M_X10_withoutRow : zM := (k_X10_withoutRow, f_X10, [(38, 0, 0, 2, 0, 0, sp_X2_numberAt), (43, 0, 0, 3, 0, 0, sp_X2_with)], ([], [], []), [], [(7, [true, true, true, true, true, false])], 1, false, (false, 0, fun _ => 0), (0, 0, []))
theorem ca_X10_withoutRow_0 (l : Launch) : z_cok l RX10 (headSpec (.code yX10_withoutRow cX10_withoutRow 6 (some .int) :: zTT) rm_X10_withoutRow).room (false, 0, fun _ => 0) (38, 0, 0, 2, 0, 0, sp_X2_numberAt) := z_ca0 (c_X2_numberAt l) mb_X2_numberAt wt_663 wt_390 (by decide)
theorem ca_X10_withoutRow_1 (l : Launch) : z_cok l RX10 (headSpec (.code yX10_withoutRow cX10_withoutRow 6 (some .int) :: zTT) rm_X10_withoutRow).room (false, 0, fun _ => 0) (43, 0, 0, 3, 0, 0, sp_X2_with) := z_ca0 (c_X2_with l) mb_X2_with wt_664 wt_297 (by decide)
theorem O_X10_withoutRow (l : Launch) : z_OK l RX10 cX10_withoutRow (headSpec (.code yX10_withoutRow cX10_withoutRow 6 (some .int) :: zTT) rm_X10_withoutRow).room M_X10_withoutRow := ⟨ok_X10_withoutRow, fo_X10, List.forall_mem_cons.mpr ⟨ca_X10_withoutRow_0 l, List.forall_mem_cons.mpr ⟨ca_X10_withoutRow_1 l, fun _ h => absurd h List.not_mem_nil⟩⟩, fun _ h => absurd h List.not_mem_nil, fun _ h => absurd h List.not_mem_nil, fun _ h => absurd h List.not_mem_nil, fun _ h => absurd h List.not_mem_nil, rfl, rfl, fun _ h => absurd h List.not_mem_nil⟩
theorem c_X10_withoutRow (l : Launch) : z_CS l yX10_withoutRow cX10_withoutRow 6 (some .int) rm_X10_withoutRow sp_X10_withoutRow := by
  refine z_meth (by decide) (Or.inr (Or.inl ⟨rfl, rfl⟩)) (fun h => by cases h) rfl (O_X10_withoutRow l) ?_
  intro av w K h
  match av, h with
  | [.int x, .int u, .int v], h =>
    obtain ⟨a, C, l, rfl, ha, rfl, hC1, hC, rfl, hl, h⟩ := h
    have hlC : l * C ≤ 2 * 3 := Nat.mul_le_mul (by omega) hC
    refine ⟨Nat.le_of_ble_eq_true rfl, fun Jm hs => ?_⟩
    have loop := up_ind (P := fun m => l * C ≤ m → Jm 7 [some (.int (pk a)), some (.int (nI C)), some (.int (nI l)), some (.int (pk (woT a C l m))), some (.int (nI m)), none] [] w 0 0) 9 (fun m hm ih hle => by
      refine hs 400 7 _ _ _ _ _ ?_
      conv => whnf
      repeat ((first | refine ⟨zG_of _, ?_⟩ | refine ⟨trivial, ?_⟩ | refine ⟨rfl, ?_⟩ | refine ⟨fun hc => absurd hc (by decide), fun _ => ?_⟩ | refine ⟨fun _ => ?_, fun hc => absurd (by decide) hc⟩ | refine ⟨fun _ => ?_, fun hc => absurd hc (by decide)⟩ | refine ⟨fun hc => absurd (by decide) hc, fun _ => ?_⟩); conv => whnf)
      try dsimp only
      rw [ltN (by omega) (by omega)]
      refine ⟨fun hc => ?_, fun hc => ?_⟩
      · have e : pk (woT a C l m) = pk (woR a C l) := pk_congr (fun p hp => by
          unfold woT
          rw [if_pos (by omega)])
        rw [e]
        exact ⟨trivial, h⟩
      · have ihn := ih hc (by omega)
        have e : ∀ v, v < 3 → v = woR a C l m → fwith (pk (woT a C l m)) (nI m) (nI v) = pk (woT a C l (m + 1)) := fun v hv hv2 => by
          rw [fwith_pk (woT_lt (by decide) ha C l m) hc hv]
          refine pk_congr (fun p hp => ?_)
          unfold setp woT
          by_cases e1 : p = m
          · rw [if_pos e1, if_pos (by omega), e1, hv2]
          · rw [if_neg e1]
            by_cases e2 : p < m
            · have e3 : p < m + 1 := by omega
              rw [if_pos e2, if_pos e3]
            · have e3 : ¬ p < m + 1 := by omega
              rw [if_neg e2, if_neg e3]
        conv => whnf
        repeat ((first | refine ⟨zG_of _, ?_⟩ | refine ⟨trivial, ?_⟩ | refine ⟨rfl, ?_⟩ | refine ⟨fun hc => absurd hc (by decide), fun _ => ?_⟩ | refine ⟨fun _ => ?_, fun hc => absurd (by decide) hc⟩ | refine ⟨fun _ => ?_, fun hc => absurd hc (by decide)⟩ | refine ⟨fun hc => absurd (by decide) hc, fun _ => ?_⟩); conv => whnf)
        try dsimp only
        rw [nI_add, ltN (by omega) (by omega)]
        refine ⟨fun hq => ?_, fun hq => ?_⟩
        · have e2 := e 0 (by decide) (by unfold woR; rw [if_neg (by omega), if_neg hq])
          rw [← e2] at ihn
          conv => whnf
          repeat ((first | refine ⟨zG_of _, ?_⟩ | refine ⟨trivial, ?_⟩ | refine ⟨rfl, ?_⟩ | refine ⟨fun hc => absurd hc (by decide), fun _ => ?_⟩ | refine ⟨fun _ => ?_, fun hc => absurd (by decide) hc⟩ | refine ⟨fun _ => ?_, fun hc => absurd hc (by decide)⟩ | refine ⟨fun hc => absurd (by decide) hc, fun _ => ?_⟩); conv => whnf)
          try dsimp only
          rw [nI_add]
          exact ihn
        · have e2 := e (a (m + C)) (ha _ hq) (by unfold woR; rw [if_neg (by omega), if_pos hq])
          rw [← e2, ← fnum_pk ha hq] at ihn
          conv => whnf
          repeat ((first | refine ⟨zG_of _, ?_⟩ | refine ⟨trivial, ?_⟩ | refine ⟨rfl, ?_⟩ | refine ⟨fun hc => absurd hc (by decide), fun _ => ?_⟩ | refine ⟨fun _ => ?_, fun hc => absurd (by decide) hc⟩ | refine ⟨fun _ => ?_, fun hc => absurd hc (by decide)⟩ | refine ⟨fun hc => absurd (by decide) hc, fun _ => ?_⟩); conv => whnf)
          try dsimp only
          rw [nI_add (a := m) (b := 1)]
          exact ihn)
    have l0 := loop (l * C) (by omega) (Nat.le_refl _)
    have e : pk (woT a C l (l * C)) = pk a := pk_congr (fun p hp => by
      unfold woT woR
      by_cases e : p < l * C
      · rw [if_pos e, if_pos e]
      · rw [if_neg e])
    simp only [e, ← pk_mul] at l0
    exact hs 400 0 _ _ _ _ _ l0
def woC (a : Nat → Nat) (R C l : Nat) : Nat → Nat := fun p => if p < R * (C - 1) then a (p / (C - 1) * C + (if p % (C - 1) < l then p % (C - 1) else p % (C - 1) + 1)) else 0
def wcT (a : Nat → Nat) (R C l m : Nat) : Nat → Nat := fun p => if p < m then woC a R C l p else 0
theorem wc_at {a : Nat → Nat} {R C l r c : Nat} (hC1 : 2 ≤ C) (hC : C ≤ 3) (hr : r < R) (hc : c < C) (hl : l < C) (h : c ≠ l) : woC a R C l (r * (C - 1) + (if c ≤ l then c else c - 1)) = a (r * C + c) := by
  unfold woC
  have e1 : (if c ≤ l then c else c - 1) < C - 1 := by split <;> omega
  generalize hg : (if c ≤ l then c else c - 1) = g at *
  have e2 : (r * (C - 1) + g) / (C - 1) = r := by
    rw [Nat.mul_comm, Nat.mul_add_div (by omega), Nat.div_eq_of_lt e1, Nat.add_zero]
  have e3 : (r * (C - 1) + g) % (C - 1) = g := by
    rw [Nat.mul_comm, Nat.mul_add_mod, Nat.mod_eq_of_lt e1]
  have e4 : r * (C - 1) + g < R * (C - 1) := by
    have : (r + 1) * (C - 1) ≤ R * (C - 1) := Nat.mul_le_mul_right _ hr
    rw [Nat.add_mul, Nat.one_mul] at this
    omega
  have e5 : (if g < l then g else g + 1) = c := by
    by_cases h1 : c < l
    · have g1 : g = c := by rw [← hg, if_pos (by omega)]
      rw [g1, if_pos h1]
    · have g1 : g = c - 1 := by rw [← hg, if_neg (by omega)]
      rw [g1, if_neg (by omega)]
      omega
  rw [if_pos e4, e2, e3, e5]
theorem woC_lt {a : Nat → Nat} {q R C l : Nat} (hq : 0 < q) (ha : ∀ p, p < 9 → a p < q) (hR : R ≤ 3) (hC1 : 2 ≤ C) (hC : C ≤ 3) : ∀ p, p < 9 → woC a R C l p < q := fun p hp => by
  unfold woC
  split
  · rename_i h
    refine ha _ ?_
    have e1 : p % (C - 1) < C - 1 := Nat.mod_lt _ (by omega)
    have e2 : p / (C - 1) < R := (Nat.div_lt_iff_lt_mul (by omega)).mpr h
    have e3 : (if p % (C - 1) < l then p % (C - 1) else p % (C - 1) + 1) < C := by split <;> omega
    exact idx9 hR hC e2 e3
  · exact hq
def sp_X10_withoutColumn : zSp := fun av w K => match av with
  | [.int x, .int s, .int u, .int v] => ∃ (a : Nat → Nat) (R C l : Nat), x = pk a ∧ (∀ p, p < 9 → a p < 3) ∧ s = nI R ∧ R ≤ 3 ∧ u = nI C ∧ 2 ≤ C ∧ C ≤ 3 ∧ v = nI l ∧ l < C ∧ K (some (.int (pk (woC a R C l)))) w
  | _ => False
def rm_X10_withoutColumn : Room := { frames := 1, cells := 0, slots := 0, locals := 25 }
def M_X10_withoutColumn : zM := (k_X10_withoutColumn, f_X10, [(38, 0, 0, 2, 0, 0, sp_X2_numberAt), (43, 0, 0, 3, 0, 0, sp_X2_with)], ([], [], []), [], [(9, [true, true, true, true, true, true, true, false]), (18, [true, true, true, true, true, true, true, true])], 1, false, (false, 0, fun _ => 0), (0, 0, []))
theorem ca_X10_withoutColumn_0 (l : Launch) : z_cok l RX10 (headSpec (.code yX10_withoutColumn cX10_withoutColumn 8 (some .int) :: zTT) rm_X10_withoutColumn).room (false, 0, fun _ => 0) (38, 0, 0, 2, 0, 0, sp_X2_numberAt) := z_ca0 (c_X2_numberAt l) mb_X2_numberAt wt_663 wt_390 (by decide)
theorem ca_X10_withoutColumn_1 (l : Launch) : z_cok l RX10 (headSpec (.code yX10_withoutColumn cX10_withoutColumn 8 (some .int) :: zTT) rm_X10_withoutColumn).room (false, 0, fun _ => 0) (43, 0, 0, 3, 0, 0, sp_X2_with) := z_ca0 (c_X2_with l) mb_X2_with wt_664 wt_297 (by decide)
theorem O_X10_withoutColumn (l : Launch) : z_OK l RX10 cX10_withoutColumn (headSpec (.code yX10_withoutColumn cX10_withoutColumn 8 (some .int) :: zTT) rm_X10_withoutColumn).room M_X10_withoutColumn := ⟨ok_X10_withoutColumn, fo_X10, List.forall_mem_cons.mpr ⟨ca_X10_withoutColumn_0 l, List.forall_mem_cons.mpr ⟨ca_X10_withoutColumn_1 l, fun _ h => absurd h List.not_mem_nil⟩⟩, fun _ h => absurd h List.not_mem_nil, fun _ h => absurd h List.not_mem_nil, fun _ h => absurd h List.not_mem_nil, fun _ h => absurd h List.not_mem_nil, rfl, rfl, fun _ h => absurd h List.not_mem_nil⟩
theorem c_X10_withoutColumn (l : Launch) : z_CS l yX10_withoutColumn cX10_withoutColumn 8 (some .int) rm_X10_withoutColumn sp_X10_withoutColumn := by
  refine z_meth (by decide) (Or.inr (Or.inl ⟨rfl, rfl⟩)) (fun h => by cases h) rfl (O_X10_withoutColumn l) ?_
  intro av w K h
  match av, h with
  | [.int x, .int s, .int u, .int v], h =>
    obtain ⟨a, R, C, l, rfl, ha, rfl, hR, rfl, hC1, hC, rfl, hl, h⟩ := h
    have wlt : ∀ m, ∀ p, p < 9 → wcT a R C l m p < 3 := fun m p hp => by
      unfold wcT
      split
      · exact woC_lt (by decide) ha hR hC1 hC p hp
      · decide
    refine ⟨Nat.le_of_ble_eq_true rfl, fun Jm hs => ?_⟩
    have loop := up_ind (P := fun i => Jm 9 [some (.int (pk a)), some (.int (nI R)), some (.int (nI C)), some (.int (nI l)), some (.int (pk (wcT a R C l (i * (C - 1))))), some (.int (nI (i * (C - 1)))), some (.int (nI i)), none] [] w 0 0) R (fun i hi ih => by
      refine hs 400 9 _ _ _ _ _ ?_
      conv => whnf
      repeat ((first | refine ⟨zG_of _, ?_⟩ | refine ⟨trivial, ?_⟩ | refine ⟨rfl, ?_⟩ | refine ⟨fun hc => absurd hc (by decide), fun _ => ?_⟩ | refine ⟨fun _ => ?_, fun hc => absurd (by decide) hc⟩ | refine ⟨fun _ => ?_, fun hc => absurd hc (by decide)⟩ | refine ⟨fun hc => absurd (by decide) hc, fun _ => ?_⟩); conv => whnf)
      try dsimp only
      rw [ltN (by omega) (by omega)]
      refine ⟨fun hc => ?_, fun hc => ?_⟩
      · obtain rfl : i = R := by omega
        have e : pk (wcT a i C l (i * (C - 1))) = pk (woC a i C l) := pk_congr (fun p hp => by
          unfold wcT
          by_cases e : p < i * (C - 1)
          · rw [if_pos e]
          · rw [if_neg e]
            unfold woC
            rw [if_neg e])
        rw [e]
        exact ⟨trivial, h⟩
      · have ihn := ih hc
        have inner := up_ind (P := fun c => Jm 18 [some (.int (pk a)), some (.int (nI R)), some (.int (nI C)), some (.int (nI l)), some (.int (pk (wcT a R C l (i * (C - 1) + (if c ≤ l then c else c - 1))))), some (.int (nI (i * (C - 1) + (if c ≤ l then c else c - 1)))), some (.int (nI i)), some (.int (nI c))] [] w 0 0) C (fun c hcC ihc => by
          refine hs 400 18 _ _ _ _ _ ?_
          conv => whnf
          repeat ((first | refine ⟨zG_of _, ?_⟩ | refine ⟨trivial, ?_⟩ | refine ⟨rfl, ?_⟩ | refine ⟨fun hc => absurd hc (by decide), fun _ => ?_⟩ | refine ⟨fun _ => ?_, fun hc => absurd (by decide) hc⟩ | refine ⟨fun _ => ?_, fun hc => absurd hc (by decide)⟩ | refine ⟨fun hc => absurd (by decide) hc, fun _ => ?_⟩); conv => whnf)
          try dsimp only
          rw [ltN (by omega) (by omega)]
          refine ⟨fun hc2 => ?_, fun hc2 => ?_⟩
          · obtain rfl : c = C := by omega
            rw [Nat.add_mul, Nat.one_mul] at ihn
            rw [if_neg (by omega)]
            conv => whnf
            repeat ((first | refine ⟨zG_of _, ?_⟩ | refine ⟨trivial, ?_⟩ | refine ⟨rfl, ?_⟩ | refine ⟨fun hc => absurd hc (by decide), fun _ => ?_⟩ | refine ⟨fun _ => ?_, fun hc => absurd (by decide) hc⟩ | refine ⟨fun _ => ?_, fun hc => absurd hc (by decide)⟩ | refine ⟨fun hc => absurd (by decide) hc, fun _ => ?_⟩); conv => whnf)
            try dsimp only
            rw [nI_add]
            exact ihn
          · have ihcn := ihc hc2
            conv => whnf
            repeat ((first | refine ⟨zG_of _, ?_⟩ | refine ⟨trivial, ?_⟩ | refine ⟨rfl, ?_⟩ | refine ⟨fun hc => absurd hc (by decide), fun _ => ?_⟩ | refine ⟨fun _ => ?_, fun hc => absurd (by decide) hc⟩ | refine ⟨fun _ => ?_, fun hc => absurd hc (by decide)⟩ | refine ⟨fun hc => absurd (by decide) hc, fun _ => ?_⟩); conv => whnf)
            try dsimp only
            rw [nI_eq (by omega) (by omega)]
            refine ⟨fun hq => ?_, fun hq => ?_⟩
            · have hcl : c = l := hq
              rw [if_neg (by omega), show c + 1 - 1 = c by omega] at ihcn
              rw [if_pos (by omega)]
              conv => whnf
              repeat ((first | refine ⟨zG_of _, ?_⟩ | refine ⟨trivial, ?_⟩ | refine ⟨rfl, ?_⟩ | refine ⟨fun hc => absurd hc (by decide), fun _ => ?_⟩ | refine ⟨fun _ => ?_, fun hc => absurd (by decide) hc⟩ | refine ⟨fun _ => ?_, fun hc => absurd hc (by decide)⟩ | refine ⟨fun hc => absurd (by decide) hc, fun _ => ?_⟩); conv => whnf)
              try dsimp only
              rw [nI_add]
              exact ihcn
            · have hcl : c ≠ l := hq
              have wa := wc_at (a := a) hC1 hC hc hc2 hl hcl
              have i1 := idx9 hR hC hc hc2
              have i2 : i * (C - 1) + (if c ≤ l then c else c - 1) < 9 := idx9 (C := C - 1) hR (by omega) hc (by split <;> omega)
              have e0 : (if c + 1 ≤ l then c + 1 else c + 1 - 1) = (if c ≤ l then c else c - 1) + 1 := by
                split <;> split <;> omega
              rw [e0, ← Nat.add_assoc] at ihcn
              generalize hm : i * (C - 1) + (if c ≤ l then c else c - 1) = m at *
              have e : fwith (pk (wcT a R C l m)) (nI m) (fnum (pk a) (nI i * nI C + nI c)) = pk (wcT a R C l (m + 1)) := by
                rw [pk_mul, nI_add, fnum_pk ha i1, fwith_pk (wlt m) i2 (ha _ i1)]
                refine pk_congr (fun p hp => ?_)
                unfold setp wcT
                by_cases e1 : p = m
                · rw [if_pos e1, if_pos (by omega), e1, wa]
                · rw [if_neg e1]
                  by_cases e2 : p < m
                  · have e3 : p < m + 1 := by omega
                    rw [if_pos e2, if_pos e3]
                  · have e3 : ¬ p < m + 1 := by omega
                    rw [if_neg e2, if_neg e3]
              rw [← e] at ihcn
              conv => whnf
              repeat ((first | refine ⟨zG_of _, ?_⟩ | refine ⟨trivial, ?_⟩ | refine ⟨rfl, ?_⟩ | refine ⟨fun hc => absurd hc (by decide), fun _ => ?_⟩ | refine ⟨fun _ => ?_, fun hc => absurd (by decide) hc⟩ | refine ⟨fun _ => ?_, fun hc => absurd hc (by decide)⟩ | refine ⟨fun hc => absurd (by decide) hc, fun _ => ?_⟩); conv => whnf)
              try dsimp only
              rw [nI_add (a := m) (b := 1), nI_add (a := c) (b := 1)]
              exact ihcn)
        conv => whnf
        repeat ((first | refine ⟨zG_of _, ?_⟩ | refine ⟨trivial, ?_⟩ | refine ⟨rfl, ?_⟩ | refine ⟨fun hc => absurd hc (by decide), fun _ => ?_⟩ | refine ⟨fun _ => ?_, fun hc => absurd (by decide) hc⟩ | refine ⟨fun _ => ?_, fun hc => absurd hc (by decide)⟩ | refine ⟨fun hc => absurd (by decide) hc, fun _ => ?_⟩); conv => whnf)
        try dsimp only
        have l0 := inner 0 (Nat.zero_le _)
        simp only [if_pos (Nat.zero_le l), Nat.add_zero] at l0
        exact l0)
    have l0 := loop 0 (Nat.zero_le _)
    have e : pk (wcT a R C l 0) = nI 0 := by
      rw [← pk_zero]
      exact pk_congr (fun p hp => by
        unfold wcT
        rw [if_neg (by omega)])
    simp only [Nat.zero_mul, e] at l0
    exact hs 400 0 _ _ _ _ _ l0

