/-! schemes turned round, mirrored -/
def prT (F A : Nat → Nat → Nat) (i : Nat) : Nat → Nat → Nat := fun k => if k < 3 * i then F k else A k
theorem prT_0 (F A : Nat → Nat → Nat) : prT F A 0 = A := by
  funext k
  unfold prT
  rw [if_neg (by omega)]
theorem prT_up3 (F A : Nat → Nat → Nat) (i : Nat) : upA (upA (upA (prT F A i) (3 * i + 0) (F (3 * i + 0))) (3 * i + 1) (F (3 * i + 1))) (3 * i + 2) (F (3 * i + 2)) = prT F A (i + 1) := by
  funext k
  unfold upA prT
  by_cases e2 : k = 3 * i + 2
  · subst e2
    rw [if_pos rfl, if_pos (by omega)]
  · rw [if_neg e2]
    by_cases e1 : k = 3 * i + 1
    · subst e1
      rw [if_pos rfl, if_pos (by omega)]
    · rw [if_neg e1]
      by_cases e0 : k = 3 * i + 0
      · subst e0
        rw [if_pos rfl, if_pos (by omega)]
      · rw [if_neg e0]
        by_cases e : k < 3 * i
        · have e' : k < 3 * (i + 1) := by omega
          rw [if_pos e, if_pos e']
        · have e' : ¬ k < 3 * (i + 1) := by omega
          rw [if_neg e, if_neg e']
theorem prT_up2 (F A : Nat → Nat → Nat) (i s t : Nat) (hs : s < 3) (ht : t < 3) (hF : ∀ u, u < 3 → u ≠ s → u ≠ t → F (3 * i + u) = A (3 * i + u)) : upA (upA (prT F A i) (3 * i + s) (F (3 * i + s))) (3 * i + t) (F (3 * i + t)) = prT F A (i + 1) := by
  funext k
  unfold upA prT
  by_cases e2 : k = 3 * i + t
  · subst e2
    rw [if_pos rfl, if_pos (by omega)]
  · rw [if_neg e2]
    by_cases e1 : k = 3 * i + s
    · subst e1
      rw [if_pos rfl, if_pos (by omega)]
    · rw [if_neg e1]
      by_cases e : k < 3 * i
      · have e' : k < 3 * (i + 1) := by omega
        rw [if_pos e, if_pos e']
      · rw [if_neg e]
        by_cases e' : k < 3 * (i + 1)
        · rw [if_pos e']
          have := hF (k - 3 * i) (by omega) (by omega) (by omega)
          rw [show 3 * i + (k - 3 * i) = k by omega] at this
          exact this.symm
        · rw [if_neg e']
theorem prT_ge {F A : Nat → Nat → Nat} {i k : Nat} (h : 3 * i ≤ k) : prT F A i k = A k := if_neg (by omega)
theorem prT_end {F A : Nat → Nat → Nat} {c k : Nat} (h : k < 3 * c) : prT F A c k = F k := if_pos h
def rlA (A : Nat → Nat → Nat) : Nat → Nat → Nat := fun k => A (3 * (k / 3) + nx (k % 3))
theorem rl_at (A : Nat → Nat → Nat) (i : Nat) {t : Nat} (h : t < 3) : rlA A (3 * i + t) = A (3 * i + nx t) := by
  unfold rlA
  rw [show (3 * i + t) / 3 = i by omega, show (3 * i + t) % 3 = t by omega]
def nxD (d : Nat → Nat) : Nat → Nat := fun t => d (nx t)
def sp_X10_roll : zSp := fun av w K => match av with
  | [.ref o] => (o = 6 ∨ o = 12) ∧ zG w.1 ∧ ∃ d q c A, CS w.2.1 o d q c A ∧ ∀ wi' : Nat → Nat → Int32, Fr o (o + 2) w.2.1 wi' → CS wi' o (nxD d) q c (rlA A) → K none (w.1, wi', w.2.2)
  | _ => False
def rm_X10_roll : Room := { frames := 2, cells := 0, slots := 0, locals := 45 }
def M_X10_roll : zM := (k_X10_roll, f_X10, [(15, 4, 5, 3, 0, 0, sp_X6_formAt), (19, 4, 5, 4, 0, 0, sp_X6_setForm)], ([], [], []), [], [(2, [true, true, false])], 0, false, (false, 0, fun _ => 0), (0, 0, []))
theorem ca_X10_roll_0 (l : Launch) : z_cok l RX10 (headSpec (.code yX10_roll cX10_roll 3 none :: zTT) rm_X10_roll).room (false, 0, fun _ => 0) (15, 4, 5, 3, 0, 0, sp_X6_formAt) := z_ca4 (c_X6_formAt l) mb_X6_formAt ⟨_, rfl, rfl⟩ wt_658 wt_408 wt_409 (by decide)
theorem ca_X10_roll_1 (l : Launch) : z_cok l RX10 (headSpec (.code yX10_roll cX10_roll 3 none :: zTT) rm_X10_roll).room (false, 0, fun _ => 0) (19, 4, 5, 4, 0, 0, sp_X6_setForm) := z_ca4 (c_X6_setForm l) mb_X6_setForm ⟨_, rfl, rfl⟩ wt_665 wt_289 wt_290 (by decide)
theorem O_X10_roll (l : Launch) : z_OK l RX10 cX10_roll (headSpec (.code yX10_roll cX10_roll 3 none :: zTT) rm_X10_roll).room M_X10_roll := ⟨ok_X10_roll, fo_X10, List.forall_mem_cons.mpr ⟨ca_X10_roll_0 l, List.forall_mem_cons.mpr ⟨ca_X10_roll_1 l, fun _ h => absurd h List.not_mem_nil⟩⟩, fun _ h => absurd h List.not_mem_nil, fun _ h => absurd h List.not_mem_nil, fun _ h => absurd h List.not_mem_nil, fun _ h => absurd h List.not_mem_nil, rfl, rfl, fun _ h => absurd h List.not_mem_nil⟩
theorem c_X10_roll (l : Launch) : z_CS l yX10_roll cX10_roll 3 none rm_X10_roll sp_X10_roll := by
  refine z_meth (by decide) (Or.inl ⟨rfl, rfl⟩) (fun h => by cases h) rfl (O_X10_roll l) ?_
  intro av w K h
  match av, h with
  | [.ref o], h =>
    obtain ⟨ho, ⟨r, hG⟩, d, q, c, A, hS, h⟩ := h
    obtain ⟨G, wi, wl⟩ := w
    subst hG
    try dsimp only at h hS
    have h40 := cs_40 hS
    rcases ho with rfl | rfl
    · refine ⟨Nat.le_of_ble_eq_true rfl, fun Jm hs => ?_⟩
      have loop := up_ind (P := fun i => ∀ wi' : Nat → Nat → Int32, Fr 6 8 wi wi' → CS wi' 6 d q c (prT (rlA A) A i) → Jm 2 [some (.ref 6), some (.int (nI i)), none] [] (GC ++ r, wi', wl) 0 0) c (fun i hi ih => by
        intro wi' hF hS'
        refine hs 400 2 _ _ _ _ _ ?_
        conv => whnf
        repeat ((first | refine ⟨zG_of _, ?_⟩ | refine ⟨trivial, ?_⟩ | refine ⟨rfl, ?_⟩ | refine ⟨fun hc => absurd hc (by decide), fun _ => ?_⟩ | refine ⟨fun _ => ?_, fun hc => absurd (by decide) hc⟩ | refine ⟨fun _ => ?_, fun hc => absurd hc (by decide)⟩ | refine ⟨fun hc => absurd (by decide) hc, fun _ => ?_⟩); conv => whnf)
        try dsimp only
        rw [cs_c hS', ltN (by omega) (by omega)]
        refine ⟨fun hc => ?_, fun hc => ?_⟩
        · obtain rfl : i = c := by omega
          conv => whnf
          repeat ((first | refine ⟨zG_of _, ?_⟩ | refine ⟨trivial, ?_⟩ | refine ⟨rfl, ?_⟩ | refine ⟨fun hc => absurd hc (by decide), fun _ => ?_⟩ | refine ⟨fun _ => ?_, fun hc => absurd (by decide) hc⟩ | refine ⟨fun _ => ?_, fun hc => absurd hc (by decide)⟩ | refine ⟨fun hc => absurd (by decide) hc, fun _ => ?_⟩); conv => whnf)
          try dsimp only
          have hE : CS wi' 6 d q i (rlA A) := cs_congr hS' (fun k hk p _ => by rw [prT_end hk])
          refine h _ (Fr_trans hF (fun x h1 h2 => by rw [z_up_ne h1, z_up_ne h1, z_up_ne h1])) ⟨?_, fun k hk => ?_, cs_q23 hE, fun t ht => cs_d hE _ (nx_lt t), cs_40 hE, cs_A hE⟩
          · have g1 := cs_1 hE
            have g2 := cs_2 hE
            have g3 := cs_3 hE
            have g4 := cs_q hE
            have g5 := cs_c hE
            simp [z_up, g1, g2, g3, g4, g5, nxD, nx]
          · rw [z_up_ne (by decide), z_up_ne (by decide), z_up_ne (by decide)]
            exact cs_f hE k hk
        · have ihn := ih hc
          have v0 : fmF wi' 6 (nI i) (nI 0) = pk (A (3 * i + 0)) := by rw [fm_S hS' hc (by decide), prT_ge (by omega)]
          conv => whnf
          repeat ((first | refine ⟨zG_of _, ?_⟩ | refine ⟨trivial, ?_⟩ | refine ⟨rfl, ?_⟩ | refine ⟨fun hc => absurd hc (by decide), fun _ => ?_⟩ | refine ⟨fun _ => ?_, fun hc => absurd (by decide) hc⟩ | refine ⟨fun _ => ?_, fun hc => absurd hc (by decide)⟩ | refine ⟨fun hc => absurd (by decide) hc, fun _ => ?_⟩); conv => whnf)
          try dsimp only
          refine ⟨by first | exact Or.inl rfl | exact Or.inr rfl, zG_of _, i, 0, rfl, by omega, rfl, by decide, fun wi1 e1 => ?_⟩
          have k1 := cs_set hS' hc (by decide) (a := A (3 * i + 1)) (by rw [show A (3 * i + 1) = prT (rlA A) A i (3 * i + 1) from (prT_ge (by omega)).symm]; exact fm_S hS' hc (t := 1) (by decide)) (cs_A hS _ (by omega)) e1
          conv => whnf
          repeat ((first | refine ⟨zG_of _, ?_⟩ | refine ⟨trivial, ?_⟩ | refine ⟨rfl, ?_⟩ | refine ⟨fun hc => absurd hc (by decide), fun _ => ?_⟩ | refine ⟨fun _ => ?_, fun hc => absurd (by decide) hc⟩ | refine ⟨fun _ => ?_, fun hc => absurd hc (by decide)⟩ | refine ⟨fun hc => absurd (by decide) hc, fun _ => ?_⟩); conv => whnf)
          try dsimp only
          refine ⟨by first | exact Or.inl rfl | exact Or.inr rfl, zG_of _, i, 1, rfl, by omega, rfl, by decide, fun wi2 e2 => ?_⟩
          have k2 := cs_set k1.1 hc (by decide) (a := A (3 * i + 2)) (by
            have v := fm_S k1.1 hc (t := 2) (by decide)
            unfold upA at v
            rw [if_neg (by omega), prT_ge (by omega)] at v
            exact v) (cs_A hS _ (by omega)) e2
          conv => whnf
          repeat ((first | refine ⟨zG_of _, ?_⟩ | refine ⟨trivial, ?_⟩ | refine ⟨rfl, ?_⟩ | refine ⟨fun hc => absurd hc (by decide), fun _ => ?_⟩ | refine ⟨fun _ => ?_, fun hc => absurd (by decide) hc⟩ | refine ⟨fun _ => ?_, fun hc => absurd hc (by decide)⟩ | refine ⟨fun hc => absurd (by decide) hc, fun _ => ?_⟩); conv => whnf)
          try dsimp only
          refine ⟨by first | exact Or.inl rfl | exact Or.inr rfl, zG_of _, i, 2, rfl, by omega, rfl, by decide, fun wi3 e3 => ?_⟩
          have k3 := cs_set k2.1 hc (by decide) v0 (cs_A hS _ (by omega)) e3
          have e : upA (upA (upA (prT (rlA A) A i) (3 * i + 0) (A (3 * i + 1))) (3 * i + 1) (A (3 * i + 2))) (3 * i + 2) (A (3 * i + 0)) = prT (rlA A) A (i + 1) := by
            rw [← prT_up3, rl_at A i (t := 0) (by decide), rl_at A i (t := 1) (by decide), rl_at A i (t := 2) (by decide)]
            rfl
          rw [e] at k3
          conv => whnf
          repeat ((first | refine ⟨zG_of _, ?_⟩ | refine ⟨trivial, ?_⟩ | refine ⟨rfl, ?_⟩ | refine ⟨fun hc => absurd hc (by decide), fun _ => ?_⟩ | refine ⟨fun _ => ?_, fun hc => absurd (by decide) hc⟩ | refine ⟨fun _ => ?_, fun hc => absurd hc (by decide)⟩ | refine ⟨fun hc => absurd (by decide) hc, fun _ => ?_⟩); conv => whnf)
          try dsimp only
          rw [nI_add]
          exact ihn wi3 (Fr_trans (Fr_trans (Fr_trans hF k1.2) k2.2) k3.2) k3.1)
      refine hs 400 0 _ _ _ _ _ (loop 0 (Nat.zero_le _) wi (Fr_refl _ _ _) ?_)
      rw [prT_0]
      exact hS
    · refine ⟨Nat.le_of_ble_eq_true rfl, fun Jm hs => ?_⟩
      have loop := up_ind (P := fun i => ∀ wi' : Nat → Nat → Int32, Fr 12 14 wi wi' → CS wi' 12 d q c (prT (rlA A) A i) → Jm 2 [some (.ref 12), some (.int (nI i)), none] [] (GC ++ r, wi', wl) 0 0) c (fun i hi ih => by
        intro wi' hF hS'
        refine hs 400 2 _ _ _ _ _ ?_
        conv => whnf
        repeat ((first | refine ⟨zG_of _, ?_⟩ | refine ⟨trivial, ?_⟩ | refine ⟨rfl, ?_⟩ | refine ⟨fun hc => absurd hc (by decide), fun _ => ?_⟩ | refine ⟨fun _ => ?_, fun hc => absurd (by decide) hc⟩ | refine ⟨fun _ => ?_, fun hc => absurd hc (by decide)⟩ | refine ⟨fun hc => absurd (by decide) hc, fun _ => ?_⟩); conv => whnf)
        try dsimp only
        rw [cs_c hS', ltN (by omega) (by omega)]
        refine ⟨fun hc => ?_, fun hc => ?_⟩
        · obtain rfl : i = c := by omega
          conv => whnf
          repeat ((first | refine ⟨zG_of _, ?_⟩ | refine ⟨trivial, ?_⟩ | refine ⟨rfl, ?_⟩ | refine ⟨fun hc => absurd hc (by decide), fun _ => ?_⟩ | refine ⟨fun _ => ?_, fun hc => absurd (by decide) hc⟩ | refine ⟨fun _ => ?_, fun hc => absurd hc (by decide)⟩ | refine ⟨fun hc => absurd (by decide) hc, fun _ => ?_⟩); conv => whnf)
          try dsimp only
          have hE : CS wi' 12 d q i (rlA A) := cs_congr hS' (fun k hk p _ => by rw [prT_end hk])
          refine h _ (Fr_trans hF (fun x h1 h2 => by rw [z_up_ne h1, z_up_ne h1, z_up_ne h1])) ⟨?_, fun k hk => ?_, cs_q23 hE, fun t ht => cs_d hE _ (nx_lt t), cs_40 hE, cs_A hE⟩
          · have g1 := cs_1 hE
            have g2 := cs_2 hE
            have g3 := cs_3 hE
            have g4 := cs_q hE
            have g5 := cs_c hE
            simp [z_up, g1, g2, g3, g4, g5, nxD, nx]
          · rw [z_up_ne (by decide), z_up_ne (by decide), z_up_ne (by decide)]
            exact cs_f hE k hk
        · have ihn := ih hc
          have v0 : fmF wi' 12 (nI i) (nI 0) = pk (A (3 * i + 0)) := by rw [fm_S hS' hc (by decide), prT_ge (by omega)]
          conv => whnf
          repeat ((first | refine ⟨zG_of _, ?_⟩ | refine ⟨trivial, ?_⟩ | refine ⟨rfl, ?_⟩ | refine ⟨fun hc => absurd hc (by decide), fun _ => ?_⟩ | refine ⟨fun _ => ?_, fun hc => absurd (by decide) hc⟩ | refine ⟨fun _ => ?_, fun hc => absurd hc (by decide)⟩ | refine ⟨fun hc => absurd (by decide) hc, fun _ => ?_⟩); conv => whnf)
          try dsimp only
          refine ⟨by first | exact Or.inl rfl | exact Or.inr rfl, zG_of _, i, 0, rfl, by omega, rfl, by decide, fun wi1 e1 => ?_⟩
          have k1 := cs_set hS' hc (by decide) (a := A (3 * i + 1)) (by rw [show A (3 * i + 1) = prT (rlA A) A i (3 * i + 1) from (prT_ge (by omega)).symm]; exact fm_S hS' hc (t := 1) (by decide)) (cs_A hS _ (by omega)) e1
          conv => whnf
          repeat ((first | refine ⟨zG_of _, ?_⟩ | refine ⟨trivial, ?_⟩ | refine ⟨rfl, ?_⟩ | refine ⟨fun hc => absurd hc (by decide), fun _ => ?_⟩ | refine ⟨fun _ => ?_, fun hc => absurd (by decide) hc⟩ | refine ⟨fun _ => ?_, fun hc => absurd hc (by decide)⟩ | refine ⟨fun hc => absurd (by decide) hc, fun _ => ?_⟩); conv => whnf)
          try dsimp only
          refine ⟨by first | exact Or.inl rfl | exact Or.inr rfl, zG_of _, i, 1, rfl, by omega, rfl, by decide, fun wi2 e2 => ?_⟩
          have k2 := cs_set k1.1 hc (by decide) (a := A (3 * i + 2)) (by
            have v := fm_S k1.1 hc (t := 2) (by decide)
            unfold upA at v
            rw [if_neg (by omega), prT_ge (by omega)] at v
            exact v) (cs_A hS _ (by omega)) e2
          conv => whnf
          repeat ((first | refine ⟨zG_of _, ?_⟩ | refine ⟨trivial, ?_⟩ | refine ⟨rfl, ?_⟩ | refine ⟨fun hc => absurd hc (by decide), fun _ => ?_⟩ | refine ⟨fun _ => ?_, fun hc => absurd (by decide) hc⟩ | refine ⟨fun _ => ?_, fun hc => absurd hc (by decide)⟩ | refine ⟨fun hc => absurd (by decide) hc, fun _ => ?_⟩); conv => whnf)
          try dsimp only
          refine ⟨by first | exact Or.inl rfl | exact Or.inr rfl, zG_of _, i, 2, rfl, by omega, rfl, by decide, fun wi3 e3 => ?_⟩
          have k3 := cs_set k2.1 hc (by decide) v0 (cs_A hS _ (by omega)) e3
          have e : upA (upA (upA (prT (rlA A) A i) (3 * i + 0) (A (3 * i + 1))) (3 * i + 1) (A (3 * i + 2))) (3 * i + 2) (A (3 * i + 0)) = prT (rlA A) A (i + 1) := by
            rw [← prT_up3, rl_at A i (t := 0) (by decide), rl_at A i (t := 1) (by decide), rl_at A i (t := 2) (by decide)]
            rfl
          rw [e] at k3
          conv => whnf
          repeat ((first | refine ⟨zG_of _, ?_⟩ | refine ⟨trivial, ?_⟩ | refine ⟨rfl, ?_⟩ | refine ⟨fun hc => absurd hc (by decide), fun _ => ?_⟩ | refine ⟨fun _ => ?_, fun hc => absurd (by decide) hc⟩ | refine ⟨fun _ => ?_, fun hc => absurd hc (by decide)⟩ | refine ⟨fun hc => absurd (by decide) hc, fun _ => ?_⟩); conv => whnf)
          try dsimp only
          rw [nI_add]
          exact ihn wi3 (Fr_trans (Fr_trans (Fr_trans hF k1.2) k2.2) k3.2) k3.1)
      refine hs 400 0 _ _ _ _ _ (loop 0 (Nat.zero_le _) wi (Fr_refl _ _ _) ?_)
      rw [prT_0]
      exact hS
/-- a form's rows as columns -/
def trC (a : Nat → Nat) (R C r : Nat) (y : Nat → Nat) : Nat → Nat → Nat
  | 0 => y
  | c + 1 => setp (trC a R C r y c) (c * R + r) (a (r * C + c))
def trR (a : Nat → Nat) (R C : Nat) : Nat → Nat → Nat
  | 0 => fun _ => 0
  | r + 1 => trC a R C r (trR a R C r) C
def trF (a : Nat → Nat) (R C : Nat) : Nat → Nat := trR a R C R
theorem setp_lt {a : Nat → Nat} {q k n : Nat} (ha : ∀ p, p < 9 → a p < q) (hn : n < q) : ∀ p, p < 9 → setp a k n p < q := fun p hp => by
  unfold setp
  split
  · exact hn
  · exact ha p hp
theorem trC_lt {a y : Nat → Nat} {R C r q : Nat} (ha : ∀ p, p < 9 → a p < q) (hy : ∀ p, p < 9 → y p < q) (hi : ∀ c, c < C → r * C + c < 9) : ∀ c, c ≤ C → ∀ p, p < 9 → trC a R C r y c p < q
  | 0, _ => hy
  | c + 1, h => setp_lt (trC_lt ha hy hi c (by omega)) (ha _ (hi c (by omega)))
theorem trR_lt {a : Nat → Nat} {R C q : Nat} (hq : 0 < q) (ha : ∀ p, p < 9 → a p < q) (hi : ∀ r c, r < R → c < C → r * C + c < 9) : ∀ r, r ≤ R → ∀ p, p < 9 → trR a R C r p < q
  | 0, _ => fun _ _ => hq
  | r + 1, h => trC_lt ha (trR_lt hq ha hi r (by omega)) (fun c hc => hi r c (by omega) hc) C (Nat.le_refl C)
theorem idx9 {R C r c : Nat} (hR : R ≤ 3) (hC : C ≤ 3) (hr : r < R) (hc : c < C) : r * C + c < 9 := by
  have : r * C ≤ 2 * C := Nat.mul_le_mul_right _ (by omega)
  omega
theorem trF_lt {a : Nat → Nat} {R C q : Nat} (hq : 0 < q) (ha : ∀ p, p < 9 → a p < q) (hR : R ≤ 3) (hC : C ≤ 3) : ∀ p, p < 9 → trF a R C p < q := trR_lt hq ha (fun _ _ hr hc => idx9 hR hC hr hc) R (Nat.le_refl R)
def sp_X10_transposed : zSp := fun av w K => match av with
  | [.int x, .int u, .int v] => ∃ (a : Nat → Nat) (R C : Nat), x = pk a ∧ (∀ p, p < 9 → a p < 3) ∧ u = nI R ∧ R ≤ 3 ∧ v = nI C ∧ C ≤ 3 ∧ K (some (.int (pk (trF a R C)))) w
  | _ => False
def rm_X10_transposed : Room := { frames := 1, cells := 0, slots := 0, locals := 25 }
def M_X10_transposed : zM := (k_X10_transposed, f_X10, [(38, 0, 0, 2, 0, 0, sp_X2_numberAt), (43, 0, 0, 3, 0, 0, sp_X2_with)], ([], [], []), [], [(5, [true, true, true, true, true, false]), (14, [true, true, true, true, true, true])], 1, false, (false, 0, fun _ => 0), (0, 0, []))
theorem ca_X10_transposed_0 (l : Launch) : z_cok l RX10 (headSpec (.code yX10_transposed cX10_transposed 6 (some .int) :: zTT) rm_X10_transposed).room (false, 0, fun _ => 0) (38, 0, 0, 2, 0, 0, sp_X2_numberAt) := z_ca0 (c_X2_numberAt l) mb_X2_numberAt wt_663 wt_390 (by decide)
theorem ca_X10_transposed_1 (l : Launch) : z_cok l RX10 (headSpec (.code yX10_transposed cX10_transposed 6 (some .int) :: zTT) rm_X10_transposed).room (false, 0, fun _ => 0) (43, 0, 0, 3, 0, 0, sp_X2_with) := z_ca0 (c_X2_with l) mb_X2_with wt_664 wt_297 (by decide)
theorem O_X10_transposed (l : Launch) : z_OK l RX10 cX10_transposed (headSpec (.code yX10_transposed cX10_transposed 6 (some .int) :: zTT) rm_X10_transposed).room M_X10_transposed := ⟨ok_X10_transposed, fo_X10, List.forall_mem_cons.mpr ⟨ca_X10_transposed_0 l, List.forall_mem_cons.mpr ⟨ca_X10_transposed_1 l, fun _ h => absurd h List.not_mem_nil⟩⟩, fun _ h => absurd h List.not_mem_nil, fun _ h => absurd h List.not_mem_nil, fun _ h => absurd h List.not_mem_nil, fun _ h => absurd h List.not_mem_nil, rfl, rfl, fun _ h => absurd h List.not_mem_nil⟩
theorem c_X10_transposed (l : Launch) : z_CS l yX10_transposed cX10_transposed 6 (some .int) rm_X10_transposed sp_X10_transposed := by
  refine z_meth (by decide) (Or.inr (Or.inl ⟨rfl, rfl⟩)) (fun h => by cases h) rfl (O_X10_transposed l) ?_
  intro av w K h
  match av, h with
  | [.int x, .int u, .int v], h =>
    obtain ⟨a, R, C, rfl, ha, rfl, hR, rfl, hC, h⟩ := h
    have hR3 := trR_lt (q := 3) (by decide) ha (fun _ _ hr hc => idx9 hR hC hr hc)
    refine ⟨Nat.le_of_ble_eq_true rfl, fun Jm hs => ?_⟩
    have loop := up_ind (P := fun i => Jm 5 [some (.int (pk a)), some (.int (nI R)), some (.int (nI C)), some (.int (pk (trR a R C i))), some (.int (nI i)), none] [] w 0 0) R (fun i hi ih => by
      refine hs 400 5 _ _ _ _ _ ?_
      conv => whnf
      repeat ((first | refine ⟨zG_of _, ?_⟩ | refine ⟨trivial, ?_⟩ | refine ⟨rfl, ?_⟩ | refine ⟨fun hc => absurd hc (by decide), fun _ => ?_⟩ | refine ⟨fun _ => ?_, fun hc => absurd (by decide) hc⟩ | refine ⟨fun _ => ?_, fun hc => absurd hc (by decide)⟩ | refine ⟨fun hc => absurd (by decide) hc, fun _ => ?_⟩); conv => whnf)
      try dsimp only
      rw [ltN (by omega) (by omega)]
      refine ⟨fun hc => ?_, fun hc => ?_⟩
      · obtain rfl : i = R := by omega
        exact ⟨trivial, h⟩
      · have ihn := ih hc
        have inner := up_ind (P := fun j => Jm 14 [some (.int (pk a)), some (.int (nI R)), some (.int (nI C)), some (.int (pk (trC a R C i (trR a R C i) j))), some (.int (nI i)), some (.int (nI j))] [] w 0 0) C (fun j hj ihj => by
          refine hs 400 14 _ _ _ _ _ ?_
          conv => whnf
          repeat ((first | refine ⟨zG_of _, ?_⟩ | refine ⟨trivial, ?_⟩ | refine ⟨rfl, ?_⟩ | refine ⟨fun hc => absurd hc (by decide), fun _ => ?_⟩ | refine ⟨fun _ => ?_, fun hc => absurd (by decide) hc⟩ | refine ⟨fun _ => ?_, fun hc => absurd hc (by decide)⟩ | refine ⟨fun hc => absurd (by decide) hc, fun _ => ?_⟩); conv => whnf)
          try dsimp only
          rw [ltN (by omega) (by omega)]
          refine ⟨fun hc2 => ?_, fun hc2 => ?_⟩
          · obtain rfl : j = C := by omega
            conv => whnf
            repeat ((first | refine ⟨zG_of _, ?_⟩ | refine ⟨trivial, ?_⟩ | refine ⟨rfl, ?_⟩ | refine ⟨fun hc => absurd hc (by decide), fun _ => ?_⟩ | refine ⟨fun _ => ?_, fun hc => absurd (by decide) hc⟩ | refine ⟨fun _ => ?_, fun hc => absurd hc (by decide)⟩ | refine ⟨fun hc => absurd (by decide) hc, fun _ => ?_⟩); conv => whnf)
            try dsimp only
            rw [nI_add]
            exact ihn
          · have ihjn := ihj hc2
            have i1 := idx9 hR hC hc hc2
            have i2 := idx9 hC hR hc2 hc
            have e : fwith (pk (trC a R C i (trR a R C i) j)) (nI j * nI R + nI i) (fnum (pk a) (nI i * nI C + nI j)) = pk (trC a R C i (trR a R C i) (j + 1)) := by
              rw [pk_mul, nI_add, pk_mul, nI_add, fnum_pk ha i1, fwith_pk (trC_lt ha (hR3 i (by omega)) (fun c hc => idx9 hR hC (by omega) hc) j (by omega)) i2 (ha _ i1)]
              rfl
            rw [← e] at ihjn
            conv => whnf
            repeat ((first | refine ⟨zG_of _, ?_⟩ | refine ⟨trivial, ?_⟩ | refine ⟨rfl, ?_⟩ | refine ⟨fun hc => absurd hc (by decide), fun _ => ?_⟩ | refine ⟨fun _ => ?_, fun hc => absurd (by decide) hc⟩ | refine ⟨fun _ => ?_, fun hc => absurd hc (by decide)⟩ | refine ⟨fun hc => absurd (by decide) hc, fun _ => ?_⟩); conv => whnf)
            try dsimp only
            rw [nI_add (a := j) (b := 1)]
            exact ihjn)
        conv => whnf
        repeat ((first | refine ⟨zG_of _, ?_⟩ | refine ⟨trivial, ?_⟩ | refine ⟨rfl, ?_⟩ | refine ⟨fun hc => absurd hc (by decide), fun _ => ?_⟩ | refine ⟨fun _ => ?_, fun hc => absurd (by decide) hc⟩ | refine ⟨fun _ => ?_, fun hc => absurd hc (by decide)⟩ | refine ⟨fun hc => absurd (by decide) hc, fun _ => ?_⟩); conv => whnf)
        try dsimp only
        exact inner 0 (Nat.zero_le _))
    have l0 := loop 0 (Nat.zero_le _)
    simp only [show pk (trR a R C 0) = nI 0 from pk_zero] at l0
    exact hs 400 0 _ _ _ _ _ l0

