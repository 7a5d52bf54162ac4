/-! the reference: what is taken, eighteen numbers each -/
def w18 (a s : Nat → Nat) : Nat → Nat := fun p => if p < 9 then a p else s (p - 9)
theorem w18_lo {a s : Nat → Nat} {p : Nat} (h : p < 9) : w18 a s p = a p := if_pos h
theorem w18_hi (a s : Nat → Nat) (p : Nat) : w18 a s (9 + p) = s p := by
  unfold w18
  rw [if_neg (by omega), show 9 + p - 9 = p by omega]
def R18 (wi : Nat → Nat → Int32) (f : Nat) (g : Nat → Nat) : Prop := ∀ p, p < 18 → wi 54 (f + p) = nI (g p)
theorem r18_ra {wi : Nat → Nat → Int32} {f : Nat} {a s : Nat → Nat} (h : R18 wi f (w18 a s)) : RA wi 54 f a := fun p hp => by rw [h p (by omega), w18_lo hp]
theorem w18_lt {q : Nat} {a s : Nat → Nat} (ha : ∀ p, p < 9 → a p < q) (hs : ∀ p, p < 9 → s p < q) : ∀ p, p < 18 → w18 a s p < q := fun p hp => by
  unfold w18
  split
  · exact ha p (by assumption)
  · exact hs _ (by omega)
theorem r18_congr {wi : Nat → Nat → Int32} {f : Nat} {g g' : Nat → Nat} (h : R18 wi f g) (e : ∀ p, p < 18 → g p = g' p) : R18 wi f g' := fun p hp => by rw [← e p hp]; exact h p hp
theorem r18_put {wi : Nat → Nat → Int32} {f p v : Nat} {g : Nat → Nat} (h : R18 wi f g) : R18 (z_up wi 54 (f + p) (nI v)) f (setp g p v) := fun s hs => by
  unfold setp
  by_cases e : s = p
  · rw [e, z_up_eq, if_pos rfl]
  · rw [z_up_nei (by omega), if_neg e]
    exact h s hs
def BT (wi : Nat → Nat → Int32) (q : Nat) (B : zB4) : Prop := wi 45 24 = nI B.1 ∧ B.1 ≤ 9 ∧ ∀ k, k < B.1 → R18 wi (18 * k) (w18 (B.2.1 k) (B.2.2.1 k)) ∧ (∀ p, p < 9 → B.2.1 k p < q) ∧ (∀ p, p < 9 → B.2.2.1 k p < q) ∧ ldN (B.2.1 k) = B.2.2.2 k ∧ B.2.2.2 k < 9
theorem bt_stay {wi wi' : Nat → Nat → Int32} {q : Nat} {B : zB4} (h : BT wi q B) (h1 : wi' 45 24 = wi 45 24) (h2 : ∀ j, j < 18 * B.1 → wi' 54 j = wi 54 j) : BT wi' q B := ⟨by rw [h1]; exact h.1, h.2.1, fun k hk => ⟨fun p hp => by rw [h2 _ (by omega)]; exact (h.2.2 k hk).1 p hp, (h.2.2 k hk).2⟩⟩
/-- what becomes of the second half of a row that is made less -/
def sdB (q : Nat) (B : zB4) (a s : Nat → Nat) : Nat → (Nat → Nat)
  | 0 => s
  | k + 1 => fSub q (sdB q B a s k) (fMul q ((rdB q B a k).1 (B.2.2.2 k)) (B.2.2.1 k))
theorem sd_lt {q : Nat} (hq : q = 2 ∨ q = 3) (B : zB4) {a s : Nat → Nat} (hs : ∀ p, p < 9 → s p < q) : ∀ k, ∀ p, p < 9 → sdB q B a s k p < q
  | 0 => hs
  | _ + 1 => fun p _ => fSub_lt hq _ _ p
theorem sub_sub {q x P m : Nat} (hq : q = 2 ∨ q = 3) (hx : x < q) (hP : P < q) (hm : m < q) : ((x + (q - P)) % q + (q - m)) % q = (x + (q - (P + m) % q)) % q := by
  have h2 : ∀ x, x < 2 → ∀ P, P < 2 → ∀ m, m < 2 → ((x + (2 - P)) % 2 + (2 - m)) % 2 = (x + (2 - (P + m) % 2)) % 2 := by decide
  have h3 : ∀ x, x < 3 → ∀ P, P < 3 → ∀ m, m < 3 → ((x + (3 - P)) % 3 + (3 - m)) % 3 = (x + (3 - (P + m) % 3)) % 3 := by decide
  rcases hq with rfl | rfl
  · exact h2 x hx P hP m hm
  · exact h3 x hx P hP m hm
theorem sd_pt {q : Nat} (hq : q = 2 ∨ q = 3) (B : zB4) {a s : Nat → Nat} (ha : ∀ p, p < 9 → a p < q) (hs : ∀ p, p < 9 → s p < q) : ∀ k, ∀ p, p < 9 → sdB q B a s k p = fSub q s (rdB q B a k).2 p
  | 0 => fun p hp => by
    show s p = (s p + (q - 0)) % q
    rw [Nat.sub_zero, Nat.add_mod_right, Nat.mod_eq_of_lt (hs p hp)]
  | k + 1 => fun p hp => by
    have ih := sd_pt hq B ha hs k p hp
    show (sdB q B a s k p + (q - (rdB q B a k).1 (B.2.2.2 k) * B.2.2.1 k p % q)) % q = (s p + (q - ((rdB q B a k).2 p + (rdB q B a k).1 (B.2.2.2 k) * B.2.2.1 k p % q) % q)) % q
    rw [ih]
    exact sub_sub hq (hs p hp) ((rdB_lt hq B ha k).2 p hp) (Nat.mod_lt _ (by omega))
def sp_X12_takenLead : zSp := fun av w K => match av with
  | [.ref o, .int x] => o = 45 ∧ zH w.1 ∧ ∃ x' a, RA w.2.1 54 (18 * x') a ∧ (∀ p, p < 9 → a p < 3) ∧ ¬ zB a = true ∧ x = nI x' ∧ x' ≤ 9 ∧ K (some (.int (nI (ldN a)))) w
  | _ => False
def rm_X12_takenLead : Room := { frames := 0, cells := 0, slots := 0, locals := 0 }
def M_X12_takenLead : zM := (k_X12_takenLead, f_X12, [], ([], [], []), [], [(2, [true, true, true])], 1, false, (false, 0, fun _ => 0), (0, 0))
theorem O_X12_takenLead (l : Launch) : z_OK l RX12 cX12_takenLead (headSpec (.code yX12_takenLead cX12_takenLead 3 (some .int) :: zTT) rm_X12_takenLead).room M_X12_takenLead := ⟨ok_X12_takenLead, fo_X12, fun _ h => absurd h List.not_mem_nil, fun _ h => absurd h List.not_mem_nil, fun _ h => absurd h List.not_mem_nil, fun _ h => absurd h List.not_mem_nil, fun _ h => absurd h List.not_mem_nil, rfl, rfl⟩
theorem c_X12_takenLead (l : Launch) : z_CS l yX12_takenLead cX12_takenLead 3 (some .int) rm_X12_takenLead sp_X12_takenLead := by
  refine z_meth (by decide) (Or.inr (Or.inl ⟨rfl, rfl⟩)) (fun h => by cases h) rfl (O_X12_takenLead l) ?_
  intro av w K h
  match av, h with
  | [.ref o, .int x], h =>
    obtain ⟨rfl, ⟨r, hG⟩, x', a, hR, ha, hz0, rfl, hx, h⟩ := h
    obtain ⟨G, wi, wl⟩ := w
    subst hG
    try dsimp only at h hR
    refine ⟨Nat.le_of_ble_eq_true rfl, fun Jm hs => ?_⟩
    have loop := up_ind (P := fun p => (∀ k, k < p → a k = 0) → Jm 2 [some (.ref 45), some (.int (nI x')), some (.int (nI p))] [] (GC ++ (GM ++ r), wi, wl) 0 0) 9 (fun p hp ih hz => by
      have hc : p < 9 := by
        rcases Nat.lt_or_ge p 9 with g | g
        · exact g
        · exact absurd (zB_iff.mpr (fun k hk => hz k (by omega))) hz0
      have ih := ih hc
      have a3 := ha p hc
      refine hs 400 2 _ _ _ _ _ ?_
      conv => whnf
      repeat ((first | refine ⟨zH_of _, ?_⟩ | refine ⟨trivial, ?_⟩ | refine ⟨rfl, ?_⟩ | refine ⟨fun hc => absurd hc (by decide), fun _ => ?_⟩ | refine ⟨fun _ => ?_, fun hc => absurd (by decide) hc⟩ | refine ⟨fun _ => ?_, fun hc => absurd hc (by decide)⟩ | refine ⟨fun hc => absurd (by decide) hc, fun _ => ?_⟩); conv => whnf)
      try dsimp only
      rw [pk_mul, nI_add]
      refine ⟨vp_in_nI (show 18 * x' + p < 180 by omega) (by decide), ?_⟩
      conv => whnf
      repeat ((first | refine ⟨zH_of _, ?_⟩ | refine ⟨trivial, ?_⟩ | refine ⟨rfl, ?_⟩ | refine ⟨fun hc => absurd hc (by decide), fun _ => ?_⟩ | refine ⟨fun _ => ?_, fun hc => absurd (by decide) hc⟩ | refine ⟨fun _ => ?_, fun hc => absurd hc (by decide)⟩ | refine ⟨fun hc => absurd (by decide) hc, fun _ => ?_⟩); conv => whnf)
      try dsimp only
      rw [nI_clamp (by omega), hR p hc, eq0N (by omega)]
      refine ⟨fun hq => ?_, fun hq => ?_⟩
      · rw [ld_at hc hq hz] at h
        conv => whnf
        repeat ((first | refine ⟨zH_of _, ?_⟩ | refine ⟨trivial, ?_⟩ | refine ⟨rfl, ?_⟩ | refine ⟨fun hc => absurd hc (by decide), fun _ => ?_⟩ | refine ⟨fun _ => ?_, fun hc => absurd (by decide) hc⟩ | refine ⟨fun _ => ?_, fun hc => absurd hc (by decide)⟩ | refine ⟨fun hc => absurd (by decide) hc, fun _ => ?_⟩); conv => whnf)
        try dsimp only
        exact h
      · conv => whnf
        repeat ((first | refine ⟨zH_of _, ?_⟩ | refine ⟨trivial, ?_⟩ | refine ⟨rfl, ?_⟩ | refine ⟨fun hc => absurd hc (by decide), fun _ => ?_⟩ | refine ⟨fun _ => ?_, fun hc => absurd (by decide) hc⟩ | refine ⟨fun _ => ?_, fun hc => absurd hc (by decide)⟩ | refine ⟨fun hc => absurd (by decide) hc, fun _ => ?_⟩); conv => whnf)
        try dsimp only
        rw [nI_add]
        refine ih (fun k hk => ?_)
        rcases Nat.lt_or_ge k p with g | g
        · exact hz k g
        · rw [show k = p by omega]
          exact hq)
    exact hs 400 0 _ _ _ _ _ (loop 0 (Nat.zero_le _) (fun k hk => absurd hk (Nat.not_lt_zero k)))
theorem ld_nz {a : Nat → Nat} (h : ldN a < 9) : ¬ zB a = true := fun z => ld_z.mpr z h
def sp_X12_isSum : zSp := fun av w K => match av with
  | [.ref o] => o = 45 ∧ zH w.1 ∧ ∃ q B a s, w.2.1 45 1 = nI q ∧ (q = 2 ∨ q = 3) ∧ BT w.2.1 q B ∧ R18 w.2.1 (18 * B.1) (w18 a s) ∧ (∀ p, p < 9 → a p < q) ∧ (∀ p, p < 9 → s p < q) ∧ ∀ wi' : Nat → Nat → Int32, (∀ y, y ≠ 54 → wi' y = w.2.1 y) → BT wi' q B → R18 wi' (18 * B.1) (w18 (rest q B a) (sdB q B a s B.1)) → K (some (.int (bI (zB (rest q B a) = true)))) (w.1, wi', w.2.2)
  | _ => False
def rm_X12_isSum : Room := { frames := 1, cells := 0, slots := 0, locals := 22 }
def M_X12_isSum : zM := (k_X12_isSum, f_X12, [(254, 4, 10, 2, 0, 0, sp_X12_takenLead), (223, 4, 10, 2, 0, 0, sp_X12_mod), (209, 0, 0, 2, 0, 0, sp_X12_isZero)], ([], [], []), [], [(10, [true, true, true, false, false]), (34, [true, true, true, true, true])], 2, false, (false, 0, fun _ => 0), (0, 0))
theorem ca_X12_isSum_0 (l : Launch) : z_cok l RX12 (headSpec (.code yX12_isSum cX12_isSum 5 (some .boolean) :: zTT) rm_X12_isSum).room (254, 4, 10, 2, 0, 0, sp_X12_takenLead) := z_ca4 (c_X12_takenLead l) mb_X12_takenLead ⟨_, rfl, rfl⟩ wt_1479 wt_1481 wt_67 (by decide)
theorem ca_X12_isSum_1 (l : Launch) : z_cok l RX12 (headSpec (.code yX12_isSum cX12_isSum 5 (some .boolean) :: zTT) rm_X12_isSum).room (223, 4, 10, 2, 0, 0, sp_X12_mod) := z_ca4 (c_X12_mod l) mb_X12_mod ⟨_, rfl, rfl⟩ wt_1431 wt_1433 wt_57 (by decide)
theorem ca_X12_isSum_2 (l : Launch) : z_cok l RX12 (headSpec (.code yX12_isSum cX12_isSum 5 (some .boolean) :: zTT) rm_X12_isSum).room (209, 0, 0, 2, 0, 0, sp_X12_isZero) := z_ca0 (c_X12_isZero l) mb_X12_isZero wt_1412 wt_1413 (by decide)
theorem O_X12_isSum (l : Launch) : z_OK l RX12 cX12_isSum (headSpec (.code yX12_isSum cX12_isSum 5 (some .boolean) :: zTT) rm_X12_isSum).room M_X12_isSum := ⟨ok_X12_isSum, fo_X12, List.forall_mem_cons.mpr ⟨ca_X12_isSum_0 l, List.forall_mem_cons.mpr ⟨ca_X12_isSum_1 l, List.forall_mem_cons.mpr ⟨ca_X12_isSum_2 l, fun _ h => absurd h List.not_mem_nil⟩⟩⟩, fun _ h => absurd h List.not_mem_nil, fun _ h => absurd h List.not_mem_nil, fun _ h => absurd h List.not_mem_nil, fun _ h => absurd h List.not_mem_nil, rfl, rfl⟩
theorem c_X12_isSum (l : Launch) : z_CS l yX12_isSum cX12_isSum 5 (some .boolean) rm_X12_isSum sp_X12_isSum := by
  refine z_meth (by decide) (Or.inr (Or.inr (Or.inl ⟨rfl, rfl⟩))) (fun h => by cases h) rfl (O_X12_isSum l) ?_
  intro av w K h
  match av, h with
  | [.ref o], h =>
    obtain ⟨rfl, ⟨r, hG⟩, q, B, a, s, hQ, q23, hB, hX, ha, hs0, h⟩ := h
    obtain ⟨G, wi, wl⟩ := w
    subst hG
    try dsimp only at h hB hX hQ
    have lt := fun k => (rdB_lt q23 B ha k).1
    have ls := sd_lt q23 B (a := a) hs0
    have rds : ∀ k p, p < 18 → w18 (rdB q B a (k + 1)).1 (sdB q B a s (k + 1)) p = (w18 (rdB q B a k).1 (sdB q B a s k) p + (q - (rdB q B a k).1 (B.2.2.2 k) * w18 (B.2.1 k) (B.2.2.1 k) p % q)) % q := fun k p _ => by
      unfold w18
      split <;> rfl
    have rdn : (rdB q B a B.1).1 = rest q B a := rfl
    have rd0 : (rdB q B a 0).1 = a := rfl
    have sd0 : sdB q B a s 0 = s := rfl
    generalize rest q B a = X at *
    obtain ⟨R, hRR⟩ : ∃ R : Nat → Nat → Nat, R = fun k => (rdB q B a k).1 := ⟨_, rfl⟩
    have hR : ∀ k, (rdB q B a k).1 = R k := fun k => by rw [hRR]
    simp only [hR] at lt rd0 rds rdn
    clear hR hRR
    generalize sdB q B a s = S at *
    obtain ⟨m, hm⟩ : ∃ m, m = B.1 := ⟨_, rfl⟩
    rw [← hm] at hX h
    have m9 : m ≤ 9 := by rw [hm]; exact hB.2.1
    refine ⟨Nat.le_of_ble_eq_true rfl, fun Jm hs => ?_⟩
    have rows := up_ind (P := fun x => ∀ wi' : Nat → Nat → Int32, (∀ y, y ≠ 54 → wi' y = wi y) → BT wi' q B → R18 wi' (18 * m) (w18 (R x) (S x)) → Jm 10 [some (.ref 45), some (.int (nI (18 * m))), some (.int (nI x)), none, none] [] (GC ++ (GM ++ r), wi', wl) 0 0) m (fun x hx ih => by
      intro wi' hF b2 hX
      refine hs 400 10 _ _ _ _ _ ?_
      conv => whnf
      repeat ((first | refine ⟨zH_of _, ?_⟩ | refine ⟨trivial, ?_⟩ | refine ⟨rfl, ?_⟩ | refine ⟨fun hc => absurd hc (by decide), fun _ => ?_⟩ | refine ⟨fun _ => ?_, fun hc => absurd (by decide) hc⟩ | refine ⟨fun _ => ?_, fun hc => absurd hc (by decide)⟩ | refine ⟨fun hc => absurd (by decide) hc, fun _ => ?_⟩); conv => whnf)
      try dsimp only
      rw [b2.1, ← hm, ltN (by omega) (by omega)]
      refine ⟨fun hc => ?_, fun hc => ?_⟩
      · obtain hxm : x = m := by omega
        have lx := lt m
        rw [hxm] at hX
        have h := h wi' hF b2
        rw [hm, rdn, ← hm] at hX
        rw [hm, rdn] at lx
        conv => whnf
        repeat ((first | refine ⟨zH_of _, ?_⟩ | refine ⟨trivial, ?_⟩ | refine ⟨rfl, ?_⟩ | refine ⟨fun hc => absurd hc (by decide), fun _ => ?_⟩ | refine ⟨fun _ => ?_, fun hc => absurd (by decide) hc⟩ | refine ⟨fun _ => ?_, fun hc => absurd hc (by decide)⟩ | refine ⟨fun hc => absurd (by decide) hc, fun _ => ?_⟩); conv => whnf)
        try dsimp only
        refine ⟨by simp, zH_of _, 18 * m, X, r18_ra hX, lt3_of q23 lx, rfl, ?_, ?_⟩
        · show 18 * m + 9 ≤ 180
          omega
        conv => whnf
        repeat ((first | refine ⟨zH_of _, ?_⟩ | refine ⟨trivial, ?_⟩ | refine ⟨rfl, ?_⟩ | refine ⟨fun hc => absurd hc (by decide), fun _ => ?_⟩ | refine ⟨fun _ => ?_, fun hc => absurd (by decide) hc⟩ | refine ⟨fun _ => ?_, fun hc => absurd hc (by decide)⟩ | refine ⟨fun hc => absurd (by decide) hc, fun _ => ?_⟩); conv => whnf)
        try dsimp only
        exact ⟨bI_or, h hX⟩
      · have ih := ih hc
        have bx := b2.2.2 x (by omega)
        have lx := lt x
        have lw := w18_lt lx (ls x)
        have lr := w18_lt bx.2.1 bx.2.2.1
        have rdx := rds x
        have cl := lx _ bx.2.2.2.2
        have inner := up_ind (P := fun k => ∀ wi2 : Nat → Nat → Int32, (∀ y, y ≠ 54 → wi2 y = wi y) → BT wi2 q B → R18 wi2 (18 * m) (mixA k (fun _ => w18 (R x) (S x)) (fun _ => w18 (R (x + 1)) (S (x + 1))) 0) → Jm 34 [some (.ref 45), some (.int (nI (18 * m))), some (.int (nI x)), some (.int (nI (R x (B.2.2.2 x)))), some (.int (nI k))] [] (GC ++ (GM ++ r), wi2, wl) 0 0) 18 (fun k hk ihk => by
          intro wi2 hF2 b3 hX2
          refine hs 400 34 _ _ _ _ _ ?_
          conv => whnf
          repeat ((first | refine ⟨zH_of _, ?_⟩ | refine ⟨trivial, ?_⟩ | refine ⟨rfl, ?_⟩ | refine ⟨fun hc => absurd hc (by decide), fun _ => ?_⟩ | refine ⟨fun _ => ?_, fun hc => absurd (by decide) hc⟩ | refine ⟨fun _ => ?_, fun hc => absurd hc (by decide)⟩ | refine ⟨fun hc => absurd (by decide) hc, fun _ => ?_⟩); conv => whnf)
          try dsimp only
          rw [ltN (by omega) (by omega)]
          refine ⟨fun hc2 => ?_, fun hc2 => ?_⟩
          · obtain rfl : k = 18 := by omega
            conv => whnf
            repeat ((first | refine ⟨zH_of _, ?_⟩ | refine ⟨trivial, ?_⟩ | refine ⟨rfl, ?_⟩ | refine ⟨fun hc => absurd hc (by decide), fun _ => ?_⟩ | refine ⟨fun _ => ?_, fun hc => absurd (by decide) hc⟩ | refine ⟨fun _ => ?_, fun hc => absurd hc (by decide)⟩ | refine ⟨fun hc => absurd (by decide) hc, fun _ => ?_⟩); conv => whnf)
            try dsimp only
            rw [nI_add]
            exact ih wi2 hF2 b3 (r18_congr hX2 (fun p hp => if_pos hp))
          · have ihk := ihk hc2
            have b4 := (b3.2.2 x (by omega)).1
            have cx := lw k hc2
            have cy := lr k hc2
            have rk : wi2 54 (18 * m + k) = nI (w18 (R x) (S x) k) := by
              rw [hX2 k hc2]
              unfold mixA
              rw [if_neg (Nat.lt_irrefl k)]
            have mm : R x (B.2.2.2 x) * w18 (B.2.1 x) (B.2.2.1 x) k ≤ 2 * 2 := Nat.mul_le_mul (by omega) (by omega)
            conv => whnf
            repeat ((first | refine ⟨zH_of _, ?_⟩ | refine ⟨trivial, ?_⟩ | refine ⟨rfl, ?_⟩ | refine ⟨fun hc => absurd hc (by decide), fun _ => ?_⟩ | refine ⟨fun _ => ?_, fun hc => absurd (by decide) hc⟩ | refine ⟨fun _ => ?_, fun hc => absurd hc (by decide)⟩ | refine ⟨fun hc => absurd (by decide) hc, fun _ => ?_⟩); conv => whnf)
            try dsimp only
            rw [nI_add]
            refine ⟨vp_in_nI (show 18 * m + k < 180 by omega) (by decide), ?_⟩
            conv => whnf
            repeat ((first | refine ⟨zH_of _, ?_⟩ | refine ⟨trivial, ?_⟩ | refine ⟨rfl, ?_⟩ | refine ⟨fun hc => absurd hc (by decide), fun _ => ?_⟩ | refine ⟨fun _ => ?_, fun hc => absurd (by decide) hc⟩ | refine ⟨fun _ => ?_, fun hc => absurd hc (by decide)⟩ | refine ⟨fun hc => absurd (by decide) hc, fun _ => ?_⟩); conv => whnf)
            try dsimp only
            rw [pk_mul, nI_add]
            refine ⟨vp_in_nI (show 18 * x + k < 180 by omega) (by decide), ?_⟩
            rw [nI_clamp (n := 18 * m + k) (by omega), nI_clamp (n := 18 * x + k) (by omega), rk, b4 k hc2]
            conv => whnf
            repeat ((first | refine ⟨zH_of _, ?_⟩ | refine ⟨trivial, ?_⟩ | refine ⟨rfl, ?_⟩ | refine ⟨fun hc => absurd hc (by decide), fun _ => ?_⟩ | refine ⟨fun _ => ?_, fun hc => absurd (by decide) hc⟩ | refine ⟨fun _ => ?_, fun hc => absurd hc (by decide)⟩ | refine ⟨fun hc => absurd (by decide) hc, fun _ => ?_⟩); conv => whnf)
            try dsimp only
            refine ⟨q, by rw [hF2 45 (by decide)]; exact hQ, q23, ?_⟩
            rw [pk_mul, mod_sub q23 (by omega) (by omega), ← rdx k hc2]
            conv => whnf
            repeat ((first | refine ⟨zH_of _, ?_⟩ | refine ⟨trivial, ?_⟩ | refine ⟨rfl, ?_⟩ | refine ⟨fun hc => absurd hc (by decide), fun _ => ?_⟩ | refine ⟨fun _ => ?_, fun hc => absurd (by decide) hc⟩ | refine ⟨fun _ => ?_, fun hc => absurd hc (by decide)⟩ | refine ⟨fun hc => absurd (by decide) hc, fun _ => ?_⟩); conv => whnf)
            try dsimp only
            refine ⟨vp_in_nI (show 18 * m + k < 180 by omega) (by decide), ?_⟩
            rw [nI_clamp (n := 18 * m + k) (by omega)]
            conv => whnf
            repeat ((first | refine ⟨zH_of _, ?_⟩ | refine ⟨trivial, ?_⟩ | refine ⟨rfl, ?_⟩ | refine ⟨fun hc => absurd hc (by decide), fun _ => ?_⟩ | refine ⟨fun _ => ?_, fun hc => absurd (by decide) hc⟩ | refine ⟨fun _ => ?_, fun hc => absurd hc (by decide)⟩ | refine ⟨fun hc => absurd (by decide) hc, fun _ => ?_⟩); conv => whnf)
            try dsimp only
            rw [nI_add]
            refine ihk _ (fun y hy => by rw [z_up_ne hy, hF2 y hy]) (bt_stay b3 (by rw [z_up_ne (by decide)]) (fun j hj => z_up_nei (by omega))) ?_
            have mx := mix_s k (fun _ => w18 (R x) (S x)) (fun _ => w18 (R (x + 1)) (S (x + 1))) 0
            rw [← mx]
            exact r18_put hX2)
        conv => whnf
        repeat ((first | refine ⟨zH_of _, ?_⟩ | refine ⟨trivial, ?_⟩ | refine ⟨rfl, ?_⟩ | refine ⟨fun hc => absurd hc (by decide), fun _ => ?_⟩ | refine ⟨fun _ => ?_, fun hc => absurd (by decide) hc⟩ | refine ⟨fun _ => ?_, fun hc => absurd hc (by decide)⟩ | refine ⟨fun hc => absurd (by decide) hc, fun _ => ?_⟩); conv => whnf)
        try dsimp only
        refine ⟨x, B.2.1 x, r18_ra bx.1, lt3_of q23 bx.2.1, ld_nz (by rw [bx.2.2.2.1]; exact bx.2.2.2.2), rfl, by omega, ?_⟩
        rw [bx.2.2.2.1]
        conv => whnf
        repeat ((first | refine ⟨zH_of _, ?_⟩ | refine ⟨trivial, ?_⟩ | refine ⟨rfl, ?_⟩ | refine ⟨fun hc => absurd hc (by decide), fun _ => ?_⟩ | refine ⟨fun _ => ?_, fun hc => absurd (by decide) hc⟩ | refine ⟨fun _ => ?_, fun hc => absurd hc (by decide)⟩ | refine ⟨fun hc => absurd (by decide) hc, fun _ => ?_⟩); conv => whnf)
        try dsimp only
        rw [nI_add]
        refine ⟨vp_in_nI (show 18 * m + B.2.2.2 x < 180 by have := bx.2.2.2.2; omega) (by decide), ?_⟩
        rw [nI_clamp (n := 18 * m + B.2.2.2 x) (by have := bx.2.2.2.2; omega), r18_ra hX _ bx.2.2.2.2]
        conv => whnf
        repeat ((first | refine ⟨zH_of _, ?_⟩ | refine ⟨trivial, ?_⟩ | refine ⟨rfl, ?_⟩ | refine ⟨fun hc => absurd hc (by decide), fun _ => ?_⟩ | refine ⟨fun _ => ?_, fun hc => absurd (by decide) hc⟩ | refine ⟨fun _ => ?_, fun hc => absurd hc (by decide)⟩ | refine ⟨fun hc => absurd (by decide) hc, fun _ => ?_⟩); conv => whnf)
        try dsimp only
        refine inner 0 (Nat.zero_le _) wi' hF b2 ?_
        rw [mix_0]
        exact hX)
    refine hs 400 0 _ _ _ _ _ ?_
    conv => whnf
    repeat ((first | refine ⟨zH_of _, ?_⟩ | refine ⟨trivial, ?_⟩ | refine ⟨rfl, ?_⟩ | refine ⟨fun hc => absurd hc (by decide), fun _ => ?_⟩ | refine ⟨fun _ => ?_, fun hc => absurd (by decide) hc⟩ | refine ⟨fun _ => ?_, fun hc => absurd hc (by decide)⟩ | refine ⟨fun hc => absurd (by decide) hc, fun _ => ?_⟩); conv => whnf)
    try dsimp only
    rw [hB.1, pk_mul, ← hm]
    refine rows 0 (Nat.zero_le _) wi (fun _ _ => rfl) hB ?_
    rw [rd0, sd0]
    exact hX
def sp_X12_laysBehind : zSp := fun av w K => match av with
  | [.ref o, .int i, .int t, .int f] => o = 45 ∧ zH w.1 ∧ ∃ d q c A i' t' f' n, MS w.2.1 d q c A ∧ i = nI i' ∧ i' < c ∧ t = nI t' ∧ t' < 3 ∧ f = nI f' ∧ f' < q ∧ w.2.1 45 24 = nI n ∧ n ≤ 9 ∧ ∀ wi' : Nat → Nat → Int32, (∀ y, y ≠ 54 → wi' y = w.2.1 y) → (∀ j, j < 18 * n → wi' 54 j = w.2.1 54 j) → R18 wi' (18 * n) (w18 (fMul q f' (A (3 * i' + t'))) (fun _ => 0)) → K none (w.1, wi', w.2.2)
  | _ => False
def rm_X12_laysBehind : Room := { frames := 1, cells := 0, slots := 0, locals := 22 }
def M_X12_laysBehind : zM := (k_X12_laysBehind, f_X12, [(107, 0, 0, 3, 0, 0, sp_X12_at)], ([], [], []), [], [(12, [true, true, true, true, true, true])], 0, false, (false, 0, fun _ => 0), (0, 0))
theorem ca_X12_laysBehind_0 (l : Launch) : z_cok l RX12 (headSpec (.code yX12_laysBehind cX12_laysBehind 6 none :: zTT) rm_X12_laysBehind).room (107, 0, 0, 3, 0, 0, sp_X12_at) := z_ca0 (c_X12_at l) mb_X12_at wt_1136 wt_1137 (by decide)
theorem O_X12_laysBehind (l : Launch) : z_OK l RX12 cX12_laysBehind (headSpec (.code yX12_laysBehind cX12_laysBehind 6 none :: zTT) rm_X12_laysBehind).room M_X12_laysBehind := ⟨ok_X12_laysBehind, fo_X12, List.forall_mem_cons.mpr ⟨ca_X12_laysBehind_0 l, fun _ h => absurd h List.not_mem_nil⟩, fun _ h => absurd h List.not_mem_nil, fun _ h => absurd h List.not_mem_nil, fun _ h => absurd h List.not_mem_nil, fun _ h => absurd h List.not_mem_nil, rfl, rfl⟩
theorem c_X12_laysBehind (l : Launch) : z_CS l yX12_laysBehind cX12_laysBehind 6 none rm_X12_laysBehind sp_X12_laysBehind := by
  refine z_meth (by decide) (Or.inl ⟨rfl, rfl⟩) (fun h => by cases h) rfl (O_X12_laysBehind l) ?_
  intro av w K h
  match av, h with
  | [.ref o, .int i, .int t, .int f], h =>
    obtain ⟨rfl, ⟨r, hG⟩, d, q, c, A, i', t', f', n, hS, rfl, hi, rfl, ht, rfl, hf, hn, hn9, h⟩ := h
    obtain ⟨G, wi, wl⟩ := w
    subst hG
    try dsimp only at h hS hn
    have h40 := ms_40 hS
    have q23 := ms_q23 hS
    refine ⟨Nat.le_of_ble_eq_true rfl, fun Jm hs => ?_⟩
    have loop := up_ind (P := fun k => ∀ wi' : Nat → Nat → Int32, (∀ y, y ≠ 54 → wi' y = wi y) → (∀ j, j < 18 * n → wi' 54 j = wi 54 j) → (∀ p, p < k → wi' 54 (18 * n + p) = nI (fMul q f' (A (3 * i' + t')) p) ∧ wi' 54 (18 * n + 9 + p) = nI 0) → Jm 12 [some (.ref 45), some (.int (nI i')), some (.int (nI t')), some (.int (nI f')), some (.int (nI (18 * n))), some (.int (nI k))] [] (GC ++ (GM ++ r), wi', wl) 0 0) 9 (fun k hk ih => by
      intro wi' hF hK hX
      refine hs 400 12 _ _ _ _ _ ?_
      conv => whnf
      repeat ((first | refine ⟨zH_of _, ?_⟩ | refine ⟨trivial, ?_⟩ | refine ⟨rfl, ?_⟩ | refine ⟨fun hc => absurd hc (by decide), fun _ => ?_⟩ | refine ⟨fun _ => ?_, fun hc => absurd (by decide) hc⟩ | refine ⟨fun _ => ?_, fun hc => absurd hc (by decide)⟩ | refine ⟨fun hc => absurd (by decide) hc, fun _ => ?_⟩); conv => whnf)
      try dsimp only
      rw [ltN (by omega) (by omega)]
      refine ⟨fun hc => ?_, fun hc => ?_⟩
      · obtain rfl : k = 9 := by omega
        refine h wi' hF hK (fun p hp => ?_)
        unfold w18
        split
        · exact (hX p (by assumption)).1
        · have x := (hX (p - 9) (by omega)).2
          rw [show 18 * n + 9 + (p - 9) = 18 * n + p by omega] at x
          exact x
      · have ih := ih hc
        have S2 : MS wi' d q c A := ms_fr hS (hF 46 (by decide)) (by rw [hF 45 (by decide)]) (by rw [hF 45 (by decide)]) (hF 47 (by decide))
        have x1 := ms_A hS (3 * i' + t') (by omega) k hc
        have mm : A (3 * i' + t') k * f' ≤ 2 * 2 := Nat.mul_le_mul (by omega) (by omega)
        conv => whnf
        repeat ((first | refine ⟨zH_of _, ?_⟩ | refine ⟨trivial, ?_⟩ | refine ⟨rfl, ?_⟩ | refine ⟨fun hc => absurd hc (by decide), fun _ => ?_⟩ | refine ⟨fun _ => ?_, fun hc => absurd (by decide) hc⟩ | refine ⟨fun _ => ?_, fun hc => absurd hc (by decide)⟩ | refine ⟨fun hc => absurd (by decide) hc, fun _ => ?_⟩); conv => whnf)
        try dsimp only
        rw [nI_add, at_N]
        refine ⟨vp_in_nI (show 27 * i' + 9 * t' + k < 1080 by omega) (by decide), ?_⟩
        conv => whnf
        repeat ((first | refine ⟨zH_of _, ?_⟩ | refine ⟨trivial, ?_⟩ | refine ⟨rfl, ?_⟩ | refine ⟨fun hc => absurd hc (by decide), fun _ => ?_⟩ | refine ⟨fun _ => ?_, fun hc => absurd (by decide) hc⟩ | refine ⟨fun _ => ?_, fun hc => absurd hc (by decide)⟩ | refine ⟨fun hc => absurd (by decide) hc, fun _ => ?_⟩); conv => whnf)
        try dsimp only
        rw [ms_q S2]
        refine ⟨q_n0 q23, ?_⟩
        conv => whnf
        repeat ((first | refine ⟨zH_of _, ?_⟩ | refine ⟨trivial, ?_⟩ | refine ⟨rfl, ?_⟩ | refine ⟨fun hc => absurd hc (by decide), fun _ => ?_⟩ | refine ⟨fun _ => ?_, fun hc => absurd (by decide) hc⟩ | refine ⟨fun _ => ?_, fun hc => absurd hc (by decide)⟩ | refine ⟨fun hc => absurd (by decide) hc, fun _ => ?_⟩); conv => whnf)
        try dsimp only
        refine ⟨vp_in_nI (show 18 * n + k < 180 by omega) (by decide), ?_⟩
        rw [nI_clamp (n := 27 * i' + 9 * t' + k) (by omega), nI_clamp (n := 18 * n + k) (by omega), ms_at S2 hi ht hc, pk_mul, z_remN (by omega) (by omega) (by omega)]
        conv => whnf
        repeat ((first | refine ⟨zH_of _, ?_⟩ | refine ⟨trivial, ?_⟩ | refine ⟨rfl, ?_⟩ | refine ⟨fun hc => absurd hc (by decide), fun _ => ?_⟩ | refine ⟨fun _ => ?_, fun hc => absurd (by decide) hc⟩ | refine ⟨fun _ => ?_, fun hc => absurd hc (by decide)⟩ | refine ⟨fun hc => absurd (by decide) hc, fun _ => ?_⟩); conv => whnf)
        try dsimp only
        rw [nI_add, nI_add]
        refine ⟨vp_in_nI (show 18 * n + 9 + k < 180 by omega) (by decide), ?_⟩
        rw [nI_clamp (n := 18 * n + 9 + k) (by omega)]
        conv => whnf
        repeat ((first | refine ⟨zH_of _, ?_⟩ | refine ⟨trivial, ?_⟩ | refine ⟨rfl, ?_⟩ | refine ⟨fun hc => absurd hc (by decide), fun _ => ?_⟩ | refine ⟨fun _ => ?_, fun hc => absurd (by decide) hc⟩ | refine ⟨fun _ => ?_, fun hc => absurd hc (by decide)⟩ | refine ⟨fun hc => absurd (by decide) hc, fun _ => ?_⟩); conv => whnf)
        try dsimp only
        rw [nI_add]
        refine ih _ (fun y hy => by rw [z_up_ne hy, z_up_ne hy, hF y hy]) (fun j hj => by rw [z_up_nei (by omega), z_up_nei (by omega), hK j hj]) (fun p hp => ?_)
        by_cases e : p = k
        · rw [e]
          refine ⟨?_, z_up_eq⟩
          rw [z_up_nei (by omega), z_up_eq]
          unfold fMul
          rw [Nat.mul_comm]
        · rw [z_up_nei (by omega), z_up_nei (by omega), z_up_nei (by omega), z_up_nei (by omega)]
          exact hX p (by omega))
    refine hs 400 0 _ _ _ _ _ ?_
    conv => whnf
    repeat ((first | refine ⟨zH_of _, ?_⟩ | refine ⟨trivial, ?_⟩ | refine ⟨rfl, ?_⟩ | refine ⟨fun hc => absurd hc (by decide), fun _ => ?_⟩ | refine ⟨fun _ => ?_, fun hc => absurd (by decide) hc⟩ | refine ⟨fun _ => ?_, fun hc => absurd hc (by decide)⟩ | refine ⟨fun hc => absurd (by decide) hc, fun _ => ?_⟩); conv => whnf)
    try dsimp only
    rw [hn, pk_mul]
    exact loop 0 (Nat.zero_le _) wi (fun _ _ => rfl) (fun _ _ => rfl) (fun p hp => absurd hp (Nat.not_lt_zero p))
def sp_X12_takes : zSp := fun av w K => match av with
  | [.ref o, .int i] => o = 45 ∧ zH w.1 ∧ ∃ q B X S i', w.2.1 45 1 = nI q ∧ (q = 2 ∨ q = 3) ∧ BT w.2.1 q B ∧ B.1 < 9 ∧ R18 w.2.1 (18 * B.1) (w18 X S) ∧ (∀ p, p < 9 → X p < q) ∧ (∀ p, p < 9 → S p < q) ∧ ¬ zB X = true ∧ i = nI i' ∧ ∀ wi' : Nat → Nat → Int32, (∀ y, y ≠ 45 → y ≠ 54 → y ≠ 55 → wi' y = w.2.1 y) → (∀ j, j ≠ 24 → wi' 45 j = w.2.1 45 j) → (∀ k, wi' 55 k = if k = B.1 then nI i' else w.2.1 55 k) → BT wi' q (B.1 + 1, upA B.2.1 B.1 (fMul q (X (ldN X)) X), upA B.2.2.1 B.1 (fMul q (X (ldN X)) S), setp B.2.2.2 B.1 (ldN X)) → K none (w.1, wi', w.2.2)
  | _ => False
def rm_X12_takes : Room := { frames := 1, cells := 0, slots := 0, locals := 22 }
def M_X12_takes : zM := (k_X12_takes, f_X12, [(254, 4, 10, 2, 0, 0, sp_X12_takenLead)], ([], [], []), [], [(27, [true, true, true, true, true])], 0, false, (false, 0, fun _ => 0), (0, 0))
theorem ca_X12_takes_0 (l : Launch) : z_cok l RX12 (headSpec (.code yX12_takes cX12_takes 5 none :: zTT) rm_X12_takes).room (254, 4, 10, 2, 0, 0, sp_X12_takenLead) := z_ca4 (c_X12_takenLead l) mb_X12_takenLead ⟨_, rfl, rfl⟩ wt_1479 wt_1481 wt_67 (by decide)
theorem O_X12_takes (l : Launch) : z_OK l RX12 cX12_takes (headSpec (.code yX12_takes cX12_takes 5 none :: zTT) rm_X12_takes).room M_X12_takes := ⟨ok_X12_takes, fo_X12, List.forall_mem_cons.mpr ⟨ca_X12_takes_0 l, fun _ h => absurd h List.not_mem_nil⟩, fun _ h => absurd h List.not_mem_nil, fun _ h => absurd h List.not_mem_nil, fun _ h => absurd h List.not_mem_nil, fun _ h => absurd h List.not_mem_nil, rfl, rfl⟩
theorem c_X12_takes (l : Launch) : z_CS l yX12_takes cX12_takes 5 none rm_X12_takes sp_X12_takes := by
  refine z_meth (by decide) (Or.inl ⟨rfl, rfl⟩) (fun h => by cases h) rfl (O_X12_takes l) ?_
  intro av w K h
  match av, h with
  | [.ref o, .int i], h =>
    obtain ⟨rfl, ⟨r, hG⟩, q, B, X, S, i', hQ, q23, hB, hB9, hX, lx, ls, hz, rfl, h⟩ := h
    obtain ⟨G, wi, wl⟩ := w
    subst hG
    try dsimp only at h hB hX hQ
    have l := ld_n hz
    have c1 := lx _ l.2.1
    have lm := ld_mul q23 lx c1 l.2.2.1 hz
    have lw := w18_lt lx ls
    obtain ⟨m, hm⟩ : ∃ m, m = B.1 := ⟨_, rfl⟩
    rw [← hm] at hX hB9
    refine ⟨Nat.le_of_ble_eq_true rfl, fun Jm hs => ?_⟩
    have loop := up_ind (P := fun k => ∀ wi2 : Nat → Nat → Int32, (∀ y, y ≠ 54 → wi2 y = wi y) → BT wi2 q B → R18 wi2 (18 * m) (mixA k (fun _ => w18 X S) (fun _ => w18 (fMul q (X (ldN X)) X) (fMul q (X (ldN X)) S)) 0) → Jm 27 [some (.ref 45), some (.int (nI i')), some (.int (nI (18 * m))), some (.int (nI (X (ldN X)))), some (.int (nI k))] [] (GC ++ (GM ++ r), wi2, wl) 0 0) 18 (fun k hk ih => by
      intro wi2 hF2 b2 hX2
      refine hs 400 27 _ _ _ _ _ ?_
      conv => whnf
      repeat ((first | refine ⟨zH_of _, ?_⟩ | refine ⟨trivial, ?_⟩ | refine ⟨rfl, ?_⟩ | refine ⟨fun hc => absurd hc (by decide), fun _ => ?_⟩ | refine ⟨fun _ => ?_, fun hc => absurd (by decide) hc⟩ | refine ⟨fun _ => ?_, fun hc => absurd hc (by decide)⟩ | refine ⟨fun hc => absurd (by decide) hc, fun _ => ?_⟩); conv => whnf)
      try dsimp only
      rw [ltN (by omega) (by omega)]
      refine ⟨fun hc => ?_, fun hc => ?_⟩
      · obtain rfl : k = 18 := by omega
        have hX3 : R18 wi2 (18 * m) (w18 (fMul q (X (ldN X)) X) (fMul q (X (ldN X)) S)) := r18_congr hX2 (fun p hp => if_pos hp)
        conv => whnf
        repeat ((first | refine ⟨zH_of _, ?_⟩ | refine ⟨trivial, ?_⟩ | refine ⟨rfl, ?_⟩ | refine ⟨fun hc => absurd hc (by decide), fun _ => ?_⟩ | refine ⟨fun _ => ?_, fun hc => absurd (by decide) hc⟩ | refine ⟨fun _ => ?_, fun hc => absurd hc (by decide)⟩ | refine ⟨fun hc => absurd (by decide) hc, fun _ => ?_⟩); conv => whnf)
        try dsimp only
        rw [b2.1]
        refine ⟨vp_in_nI (show B.1 < 9 by omega) (by decide), ?_⟩
        rw [nI_clamp (n := B.1) (by omega)]
        conv => whnf
        repeat ((first | refine ⟨zH_of _, ?_⟩ | refine ⟨trivial, ?_⟩ | refine ⟨rfl, ?_⟩ | refine ⟨fun hc => absurd hc (by decide), fun _ => ?_⟩ | refine ⟨fun _ => ?_, fun hc => absurd (by decide) hc⟩ | refine ⟨fun _ => ?_, fun hc => absurd hc (by decide)⟩ | refine ⟨fun hc => absurd (by decide) hc, fun _ => ?_⟩); conv => whnf)
        try dsimp only
        rw [z_up_ne (show (45 : Nat) ≠ 55 by decide), b2.1, nI_add]
        refine h _ (fun y g1 g2 g3 => by rw [z_up_ne g1, z_up_ne g3, hF2 y g2]) (fun j hj => by rw [z_up_nei hj, z_up_ne (by decide), hF2 45 (by decide)]) (fun k => ?_) ⟨z_up_eq, show B.1 + 1 ≤ 9 by omega, fun k hk => ?_⟩
        · rw [z_up_ne (by decide)]
          by_cases e : k = B.1
          · rw [e, z_up_eq, if_pos rfl]
          · rw [z_up_nei e, if_neg e, hF2 55 (by decide)]
        · have hk : k < B.1 + 1 := hk
          dsimp only
          by_cases e : k = B.1
          · rw [e, upA_at, upA_at, setp_at]
            refine ⟨fun p hp => ?_, fun p _ => fMul_lt q23 _ _ p, fun p _ => fMul_lt q23 _ _ p, lm, l.2.1⟩
            rw [z_up_ne (by decide), z_up_ne (by decide), ← hm]
            exact hX3 p hp
          · rw [upA_ne e, upA_ne e, setp_ne e]
            refine ⟨fun p hp => ?_, (b2.2.2 k (by omega)).2⟩
            rw [z_up_ne (by decide), z_up_ne (by decide)]
            exact (b2.2.2 k (by omega)).1 p hp
      · have ih := ih hc
        have cx := lw k hc
        have rk : wi2 54 (18 * m + k) = nI (w18 X S k) := by
          rw [hX2 k hc]
          unfold mixA
          rw [if_neg (Nat.lt_irrefl k)]
        have mm : w18 X S k * X (ldN X) ≤ 2 * 2 := Nat.mul_le_mul (by omega) (by omega)
        have wm : w18 (fMul q (X (ldN X)) X) (fMul q (X (ldN X)) S) k = w18 X S k * X (ldN X) % q := by
          unfold w18 fMul
          split <;> rw [Nat.mul_comm]
        conv => whnf
        repeat ((first | refine ⟨zH_of _, ?_⟩ | refine ⟨trivial, ?_⟩ | refine ⟨rfl, ?_⟩ | refine ⟨fun hc => absurd hc (by decide), fun _ => ?_⟩ | refine ⟨fun _ => ?_, fun hc => absurd (by decide) hc⟩ | refine ⟨fun _ => ?_, fun hc => absurd hc (by decide)⟩ | refine ⟨fun hc => absurd (by decide) hc, fun _ => ?_⟩); conv => whnf)
        try dsimp only
        rw [nI_add]
        refine ⟨vp_in_nI (show 18 * m + k < 180 by omega) (by decide), ?_⟩
        conv => whnf
        repeat ((first | refine ⟨zH_of _, ?_⟩ | refine ⟨trivial, ?_⟩ | refine ⟨rfl, ?_⟩ | refine ⟨fun hc => absurd hc (by decide), fun _ => ?_⟩ | refine ⟨fun _ => ?_, fun hc => absurd (by decide) hc⟩ | refine ⟨fun _ => ?_, fun hc => absurd hc (by decide)⟩ | refine ⟨fun hc => absurd (by decide) hc, fun _ => ?_⟩); conv => whnf)
        try dsimp only
        rw [hF2 45 (by decide), hQ]
        refine ⟨q_n0 q23, ?_⟩
        conv => whnf
        repeat ((first | refine ⟨zH_of _, ?_⟩ | refine ⟨trivial, ?_⟩ | refine ⟨rfl, ?_⟩ | refine ⟨fun hc => absurd hc (by decide), fun _ => ?_⟩ | refine ⟨fun _ => ?_, fun hc => absurd (by decide) hc⟩ | refine ⟨fun _ => ?_, fun hc => absurd hc (by decide)⟩ | refine ⟨fun hc => absurd (by decide) hc, fun _ => ?_⟩); conv => whnf)
        try dsimp only
        refine ⟨vp_in_nI (show 18 * m + k < 180 by omega) (by decide), ?_⟩
        rw [nI_clamp (n := 18 * m + k) (by omega), rk, pk_mul, z_remN (by omega) (by omega) (by omega)]
        conv => whnf
        repeat ((first | refine ⟨zH_of _, ?_⟩ | refine ⟨trivial, ?_⟩ | refine ⟨rfl, ?_⟩ | refine ⟨fun hc => absurd hc (by decide), fun _ => ?_⟩ | refine ⟨fun _ => ?_, fun hc => absurd (by decide) hc⟩ | refine ⟨fun _ => ?_, fun hc => absurd hc (by decide)⟩ | refine ⟨fun hc => absurd (by decide) hc, fun _ => ?_⟩); conv => whnf)
        try dsimp only
        rw [nI_add]
        refine ih _ (fun y hy => by rw [z_up_ne hy, hF2 y hy]) (bt_stay b2 (by rw [z_up_ne (by decide)]) (fun j hj => z_up_nei (by omega))) ?_
        have mx := mix_s k (fun _ => w18 X S) (fun _ => w18 (fMul q (X (ldN X)) X) (fMul q (X (ldN X)) S)) 0
        rw [← mx, wm]
        exact r18_put hX2)
    refine hs 400 0 _ _ _ _ _ ?_
    conv => whnf
    repeat ((first | refine ⟨zH_of _, ?_⟩ | refine ⟨trivial, ?_⟩ | refine ⟨rfl, ?_⟩ | refine ⟨fun hc => absurd hc (by decide), fun _ => ?_⟩ | refine ⟨fun _ => ?_, fun hc => absurd (by decide) hc⟩ | refine ⟨fun _ => ?_, fun hc => absurd hc (by decide)⟩ | refine ⟨fun hc => absurd (by decide) hc, fun _ => ?_⟩); conv => whnf)
    try dsimp only
    rw [hB.1, pk_mul, ← hm]
    conv => whnf
    repeat ((first | refine ⟨zH_of _, ?_⟩ | refine ⟨trivial, ?_⟩ | refine ⟨rfl, ?_⟩ | refine ⟨fun hc => absurd hc (by decide), fun _ => ?_⟩ | refine ⟨fun _ => ?_, fun hc => absurd (by decide) hc⟩ | refine ⟨fun _ => ?_, fun hc => absurd hc (by decide)⟩ | refine ⟨fun hc => absurd (by decide) hc, fun _ => ?_⟩); conv => whnf)
    try dsimp only
    refine ⟨m, X, r18_ra hX, lt3_of q23 lx, hz, rfl, by omega, ?_⟩
    conv => whnf
    repeat ((first | refine ⟨zH_of _, ?_⟩ | refine ⟨trivial, ?_⟩ | refine ⟨rfl, ?_⟩ | refine ⟨fun hc => absurd hc (by decide), fun _ => ?_⟩ | refine ⟨fun _ => ?_, fun hc => absurd (by decide) hc⟩ | refine ⟨fun _ => ?_, fun hc => absurd hc (by decide)⟩ | refine ⟨fun hc => absurd (by decide) hc, fun _ => ?_⟩); conv => whnf)
    try dsimp only
    rw [nI_add]
    refine ⟨vp_in_nI (show 18 * m + ldN X < 180 by have := l.2.1; omega) (by decide), ?_⟩
    rw [nI_clamp (n := 18 * m + ldN X) (by have := l.2.1; omega), r18_ra hX _ l.2.1]
    conv => whnf
    repeat ((first | refine ⟨zH_of _, ?_⟩ | refine ⟨trivial, ?_⟩ | refine ⟨rfl, ?_⟩ | refine ⟨fun hc => absurd hc (by decide), fun _ => ?_⟩ | refine ⟨fun _ => ?_, fun hc => absurd (by decide) hc⟩ | refine ⟨fun _ => ?_, fun hc => absurd hc (by decide)⟩ | refine ⟨fun hc => absurd (by decide) hc, fun _ => ?_⟩); conv => whnf)
    try dsimp only
    refine loop 0 (Nat.zero_le _) wi (fun _ _ => rfl) hB ?_
    rw [mix_0]
    exact hX

