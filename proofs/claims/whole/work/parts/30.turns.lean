/-! lines exchanged -/
def exA (a : Nat → Nat) (u v : Nat) : Nat → Nat := setp (setp a u (a v)) v (a u)
theorem exA_lt {a : Nat → Nat} {q u v : Nat} (ha : ∀ p, p < 9 → a p < q) (hu : u < 9) (hv : v < 9) : ∀ p, p < 9 → exA a u v p < q := setp_lt (setp_lt ha (ha v hv)) (ha u hu)
def sp_X10_exchanged : zSp := fun av w K => match av with
  | [.int x, .int u, .int v] => ∃ (a : Nat → Nat) (fr to : Nat), x = pk a ∧ (∀ p, p < 9 → a p < 3) ∧ u = nI fr ∧ fr < 9 ∧ v = nI to ∧ to < 9 ∧ K (some (.int (pk (exA a fr to)))) w
  | _ => False
def rm_X10_exchanged : Room := { frames := 1, cells := 0, slots := 0, locals := 25 }
def M_X10_exchanged : zM := (k_X10_exchanged, f_X10, [(38, 0, 0, 2, 0, 0, sp_X2_numberAt), (43, 0, 0, 3, 0, 0, sp_X2_with)], ([], [], []), [], [], 1, false, (false, 0, fun _ => 0), (0, 0))
theorem ca_X10_exchanged_0 (l : Launch) : z_cok l RX10 (headSpec (.code yX10_exchanged cX10_exchanged 5 (some .int) :: zTT) rm_X10_exchanged).room (38, 0, 0, 2, 0, 0, sp_X2_numberAt) := z_ca0 (c_X2_numberAt l) mb_X2_numberAt wt_818 wt_468 (by decide)
theorem ca_X10_exchanged_1 (l : Launch) : z_cok l RX10 (headSpec (.code yX10_exchanged cX10_exchanged 5 (some .int) :: zTT) rm_X10_exchanged).room (43, 0, 0, 3, 0, 0, sp_X2_with) := z_ca0 (c_X2_with l) mb_X2_with wt_819 wt_358 (by decide)
theorem O_X10_exchanged (l : Launch) : z_OK l RX10 cX10_exchanged (headSpec (.code yX10_exchanged cX10_exchanged 5 (some .int) :: zTT) rm_X10_exchanged).room M_X10_exchanged := ⟨ok_X10_exchanged, fo_X10, List.forall_mem_cons.mpr ⟨ca_X10_exchanged_0 l, List.forall_mem_cons.mpr ⟨ca_X10_exchanged_1 l, fun _ h => absurd h List.not_mem_nil⟩⟩, fun _ h => absurd h List.not_mem_nil, fun _ h => absurd h List.not_mem_nil, fun _ h => absurd h List.not_mem_nil, fun _ h => absurd h List.not_mem_nil, rfl, rfl⟩
theorem c_X10_exchanged (l : Launch) : z_CS l yX10_exchanged cX10_exchanged 5 (some .int) rm_X10_exchanged sp_X10_exchanged := by
  refine z_meth (by decide) (Or.inr (Or.inl ⟨rfl, rfl⟩)) (fun h => by cases h) rfl (O_X10_exchanged l) ?_
  intro av w K h
  match av, h with
  | [.int x, .int u, .int v], h =>
    obtain ⟨a, fr, to, rfl, ha, rfl, hfr, rfl, hto, h⟩ := h
    refine ⟨Nat.le_of_ble_eq_true rfl, fun Jm hs => hs 400 0 _ _ _ _ _ ?_⟩
    have a1 := ha fr hfr
    have a2 := ha to hto
    have e : fwith (fwith (pk a) (nI fr) (fnum (pk a) (nI to))) (nI to) (fnum (pk a) (nI fr)) = pk (exA a fr to) := by
      rw [fnum_pk ha hto, fnum_pk ha hfr, fwith_pk ha hfr a2, fwith_pk (setp_lt ha a2) hto a1]
      rfl
    rw [← e] at h
    conv => whnf
    repeat ((first | refine ⟨zG_of _, ?_⟩ | refine ⟨trivial, ?_⟩ | refine ⟨rfl, ?_⟩ | refine ⟨fun hc => absurd hc (by decide), fun _ => ?_⟩ | refine ⟨fun _ => ?_, fun hc => absurd (by decide) hc⟩ | refine ⟨fun _ => ?_, fun hc => absurd hc (by decide)⟩ | refine ⟨fun hc => absurd (by decide) hc, fun _ => ?_⟩); conv => whnf)
    try dsimp only
    exact h
def swR (a : Nat → Nat) (n fr to : Nat) : Nat → Nat → Nat
  | 0 => a
  | c + 1 => exA (swR a n fr to c) (fr * n + c) (to * n + c)
def swC (a : Nat → Nat) (n fr to : Nat) : Nat → Nat → Nat
  | 0 => a
  | r + 1 => exA (swC a n fr to r) (r * n + fr) (r * n + to)
theorem swR_lt {a : Nat → Nat} {q n fr to C : Nat} (ha : ∀ p, p < 9 → a p < q) (h1 : ∀ c, c < C → fr * n + c < 9) (h2 : ∀ c, c < C → to * n + c < 9) : ∀ c, c ≤ C → ∀ p, p < 9 → swR a n fr to c p < q
  | 0, _ => ha
  | c + 1, h => exA_lt (swR_lt ha h1 h2 c (by omega)) (h1 c (by omega)) (h2 c (by omega))
theorem swC_lt {a : Nat → Nat} {q n fr to C : Nat} (ha : ∀ p, p < 9 → a p < q) (h1 : ∀ c, c < C → c * n + fr < 9) (h2 : ∀ c, c < C → c * n + to < 9) : ∀ c, c ≤ C → ∀ p, p < 9 → swC a n fr to c p < q
  | 0, _ => ha
  | c + 1, h => exA_lt (swC_lt ha h1 h2 c (by omega)) (h1 c (by omega)) (h2 c (by omega))
def swA (d : Nat → Nat) (A : Nat → Nat → Nat) (s fr to : Nat) : Nat → Nat → Nat := fun k => if k % 3 = s then swR (A k) (d (nx s)) fr to (d (nx s)) else if k % 3 = pv s then swC (A k) (d s) fr to (d (pv s)) else A k
def sp_X10_swap : zSp := fun av w K => match av with
  | [.ref o, .int s, .int u, .int v] => o = 6 ∧ zG w.1 ∧ ∃ d q c A s' fr to, CS w.2.1 6 d q c A ∧ s = nI s' ∧ s' < 3 ∧ u = nI fr ∧ fr < d s' ∧ v = nI to ∧ to < d s' ∧ ∀ wi' : Nat → Nat → Int32, Fr 6 8 w.2.1 wi' → CS wi' 6 d q c (swA d A s' fr to) → K none (w.1, wi', w.2.2)
  | _ => False
def rm_X10_swap : Room := { frames := 2, cells := 0, slots := 0, locals := 49 }
def M_X10_swap : zM := (k_X10_swap, f_X10, [(46, 2, 0, 1, 0, 0, sp_X11_ahead), (50, 4, 5, 2, 0, 0, sp_X6_columns), (53, 4, 5, 2, 0, 0, sp_X6_rows), (15, 4, 5, 3, 0, 0, sp_X6_formAt), (66, 0, 0, 3, 0, 0, sp_X10_exchanged), (19, 4, 5, 4, 0, 0, sp_X6_setForm)], ([], [], []), [], [(32, [true, true, true, true, true, true, true, true, true, false, false, false]), (53, [true, true, true, true, true, true, true, true, true, true, true, false]), (109, [true, true, true, true, true, true, true, true, true, true, true, true])], 0, false, (false, 0, fun _ => 0), (0, 0))
theorem ca_X10_swap_0 (l : Launch) : z_cok l RX10 (headSpec (.code yX10_swap cX10_swap 12 none :: zTT) rm_X10_swap).room (46, 2, 0, 1, 0, 0, sp_X11_ahead) := z_ca2 (host := "FewProducts") (c_X11_ahead l) mb_X11_ahead (by decide +kernel) wt_811 (by decide)
theorem ca_X10_swap_1 (l : Launch) : z_cok l RX10 (headSpec (.code yX10_swap cX10_swap 12 none :: zTT) rm_X10_swap).room (50, 4, 5, 2, 0, 0, sp_X6_columns) := z_ca4 (c_X6_columns l) mb_X6_columns ⟨_, rfl, rfl⟩ wt_814 wt_460 wt_461 (by decide)
theorem ca_X10_swap_2 (l : Launch) : z_cok l RX10 (headSpec (.code yX10_swap cX10_swap 12 none :: zTT) rm_X10_swap).room (53, 4, 5, 2, 0, 0, sp_X6_rows) := z_ca4 (c_X6_rows l) mb_X6_rows ⟨_, rfl, rfl⟩ wt_821 wt_456 wt_457 (by decide)
theorem ca_X10_swap_3 (l : Launch) : z_cok l RX10 (headSpec (.code yX10_swap cX10_swap 12 none :: zTT) rm_X10_swap).room (15, 4, 5, 3, 0, 0, sp_X6_formAt) := z_ca4 (c_X6_formAt l) mb_X6_formAt ⟨_, rfl, rfl⟩ wt_813 wt_500 wt_501 (by decide)
theorem ca_X10_swap_4 (l : Launch) : z_cok l RX10 (headSpec (.code yX10_swap cX10_swap 12 none :: zTT) rm_X10_swap).room (66, 0, 0, 3, 0, 0, sp_X10_exchanged) := z_ca0 (c_X10_exchanged l) mb_X10_exchanged wt_891 wt_892 (by decide)
theorem ca_X10_swap_5 (l : Launch) : z_cok l RX10 (headSpec (.code yX10_swap cX10_swap 12 none :: zTT) rm_X10_swap).room (19, 4, 5, 4, 0, 0, sp_X6_setForm) := z_ca4 (c_X6_setForm l) mb_X6_setForm ⟨_, rfl, rfl⟩ wt_820 wt_350 wt_351 (by decide)
theorem O_X10_swap (l : Launch) : z_OK l RX10 cX10_swap (headSpec (.code yX10_swap cX10_swap 12 none :: zTT) rm_X10_swap).room M_X10_swap := ⟨ok_X10_swap, fo_X10, List.forall_mem_cons.mpr ⟨ca_X10_swap_0 l, List.forall_mem_cons.mpr ⟨ca_X10_swap_1 l, List.forall_mem_cons.mpr ⟨ca_X10_swap_2 l, List.forall_mem_cons.mpr ⟨ca_X10_swap_3 l, List.forall_mem_cons.mpr ⟨ca_X10_swap_4 l, List.forall_mem_cons.mpr ⟨ca_X10_swap_5 l, fun _ h => absurd h List.not_mem_nil⟩⟩⟩⟩⟩⟩, fun _ h => absurd h List.not_mem_nil, fun _ h => absurd h List.not_mem_nil, fun _ h => absurd h List.not_mem_nil, fun _ h => absurd h List.not_mem_nil, rfl, rfl⟩
theorem c_X10_swap (l : Launch) : z_CS l yX10_swap cX10_swap 12 none rm_X10_swap sp_X10_swap := by
  refine z_meth (by decide) (Or.inl ⟨rfl, rfl⟩) (fun h => by cases h) rfl (O_X10_swap l) ?_
  intro av w K h
  match av, h with
  | [.ref o, .int s, .int u, .int v], h =>
    obtain ⟨rfl, ⟨r, hG⟩, d, q, c, A, s', fr, to, hS, rfl, hs', rfl, hfr, rfl, hto, h⟩ := h
    obtain ⟨G, wi, wl⟩ := w
    subst hG
    try dsimp only at h hS
    have h40 := cs_40 hS
    have q23 := cs_q23 hS
    have hd := cs_d hS
    have ds := hd s' hs'
    have dn := hd _ (nx_lt s')
    have dp := hd _ (pv_lt s')
    have b1 := ahd_pv hs'
    have np := nx_pv hs'
    have d1x : ∀ c, c < d (nx s') → fr * d (nx s') + c < 9 := fun c hc => idx9 ds.2 dn.2 hfr hc
    have d2x : ∀ c, c < d (nx s') → to * d (nx s') + c < 9 := fun c hc => idx9 ds.2 dn.2 hto hc
    have d3x : ∀ m, m < d (pv s') → m * d s' + fr < 9 := fun m hm => idx9 dp.2 ds.2 hm hfr
    have d4x : ∀ m, m < d (pv s') → m * d s' + to < 9 := fun m hm => idx9 dp.2 ds.2 hm hto
    refine ⟨Nat.le_of_ble_eq_true rfl, fun Jm hs => ?_⟩
    generalize hF0 : swA d A s' fr to = F at h
    have Fs : ∀ i, F (3 * i + s') = swR (A (3 * i + s')) (d (nx s')) fr to (d (nx s')) := fun i => by
      rw [← hF0]
      unfold swA
      rw [if_pos (by omega)]
    have Fp : ∀ i, F (3 * i + pv s') = swC (A (3 * i + pv s')) (d s') fr to (d (pv s')) := fun i => by
      have := pv_lt s'
      rw [← hF0]
      unfold swA
      rw [if_neg (by have := np.2; omega), if_pos (by omega)]
    have F0 : ∀ i u, u < 3 → u ≠ s' → u ≠ pv s' → F (3 * i + u) = A (3 * i + u) := fun i u h1 h2 h3 => by
      rw [← hF0]
      unfold swA
      rw [if_neg (by omega), if_neg (by omega)]
    have loop := up_ind (P := fun i => ∀ wi' : Nat → Nat → Int32, Fr 6 8 wi wi' → CS wi' 6 d q c (prT F A i) → Jm 32 [some (.ref 6), some (.int (nI s')), some (.int (nI fr)), some (.int (nI to)), some (.int (nI (pv s'))), some (.int (nI (d (nx s')))), some (.int (nI (d s'))), some (.int (nI (d (pv s')))), some (.int (nI i)), none, none, none] [] (GC ++ r, wi', wl) 0 0) c (fun i hi ih => by
      intro wi' hF hS'
      refine hs 400 32 _ _ _ _ _ ?_
      conv => whnf
      repeat ((first | refine ⟨zG_of _, ?_⟩ | refine ⟨trivial, ?_⟩ | refine ⟨rfl, ?_⟩ | refine ⟨fun hc => absurd hc (by decide), fun _ => ?_⟩ | refine ⟨fun _ => ?_, fun hc => absurd (by decide) hc⟩ | refine ⟨fun _ => ?_, fun hc => absurd hc (by decide)⟩ | refine ⟨fun hc => absurd (by decide) hc, fun _ => ?_⟩); conv => whnf)
      try dsimp only
      rw [cs_c hS', ltN (by omega) (by omega)]
      refine ⟨fun hc => ?_, fun hc => ?_⟩
      · obtain rfl : i = c := by omega
        exact h wi' hF (cs_congr hS' (fun k hk p _ => by rw [prT_end hk]))
      · have ihn := ih hc
        have v0 : atF (wi' 8) 120 (nI 3 * nI i + nI s') = pk (A (3 * i + s')) := by
          have := fm_S hS' hc hs'
          rw [prT_ge (by omega)] at this
          exact this
        have a0 := cs_A hS (3 * i + s') (by omega)
        have a1 := cs_A hS (3 * i + pv s') (by have := pv_lt s'; omega)
        have inner := up_ind (P := fun j => Jm 53 [some (.ref 6), some (.int (nI s')), some (.int (nI fr)), some (.int (nI to)), some (.int (nI (pv s'))), some (.int (nI (d (nx s')))), some (.int (nI (d s'))), some (.int (nI (d (pv s')))), some (.int (nI i)), some (.int (pk (swR (A (3 * i + s')) (d (nx s')) fr to j))), some (.int (nI j)), none] [] (GC ++ r, wi', wl) 0 0) (d (nx s')) (fun j hj ihj => by
          refine hs 400 53 _ _ _ _ _ ?_
          conv => whnf
          repeat ((first | refine ⟨zG_of _, ?_⟩ | refine ⟨trivial, ?_⟩ | refine ⟨rfl, ?_⟩ | refine ⟨fun hc => absurd hc (by decide), fun _ => ?_⟩ | refine ⟨fun _ => ?_, fun hc => absurd (by decide) hc⟩ | refine ⟨fun _ => ?_, fun hc => absurd hc (by decide)⟩ | refine ⟨fun hc => absurd (by decide) hc, fun _ => ?_⟩); conv => whnf)
          try dsimp only
          rw [ltN (by omega) (by omega)]
          refine ⟨fun hc2 => ?_, fun hc2 => ?_⟩
          · obtain hjn : j = d (nx s') := by omega
            conv => whnf
            repeat ((first | refine ⟨zG_of _, ?_⟩ | refine ⟨trivial, ?_⟩ | refine ⟨rfl, ?_⟩ | refine ⟨fun hc => absurd hc (by decide), fun _ => ?_⟩ | refine ⟨fun _ => ?_, fun hc => absurd (by decide) hc⟩ | refine ⟨fun _ => ?_, fun hc => absurd hc (by decide)⟩ | refine ⟨fun hc => absurd (by decide) hc, fun _ => ?_⟩); conv => whnf)
            try dsimp only
            refine ⟨Or.inl rfl, zG_of _, i, s', rfl, by omega, rfl, hs', fun wi1 e1 => ?_⟩
            have k1 := cs_set hS' hc hs' rfl (swR_lt a0 d1x d2x _ (by omega)) e1
            rw [hjn, ← Fs] at k1
            have v1 : atF (wi1 8) 120 (nI 3 * nI i + nI (pv s')) = pk (A (3 * i + pv s')) := by
              have := fm_S k1.1 hc (pv_lt s')
              unfold upA at this
              rw [if_neg (by have := np.2; omega), prT_ge (by omega)] at this
              exact this
            have inner2 := up_ind (P := fun m => Jm 109 [some (.ref 6), some (.int (nI s')), some (.int (nI fr)), some (.int (nI to)), some (.int (nI (pv s'))), some (.int (nI (d (nx s')))), some (.int (nI (d s'))), some (.int (nI (d (pv s')))), some (.int (nI i)), some (.int (pk (swR (A (3 * i + s')) (d (nx s')) fr to j))), some (.int (pk (swC (A (3 * i + pv s')) (d s') fr to m))), some (.int (nI m))] [] (GC ++ r, wi1, wl) 0 0) (d (pv s')) (fun m hm ihm => by
              refine hs 400 109 _ _ _ _ _ ?_
              conv => whnf
              repeat ((first | refine ⟨zG_of _, ?_⟩ | refine ⟨trivial, ?_⟩ | refine ⟨rfl, ?_⟩ | refine ⟨fun hc => absurd hc (by decide), fun _ => ?_⟩ | refine ⟨fun _ => ?_, fun hc => absurd (by decide) hc⟩ | refine ⟨fun _ => ?_, fun hc => absurd hc (by decide)⟩ | refine ⟨fun hc => absurd (by decide) hc, fun _ => ?_⟩); conv => whnf)
              try dsimp only
              rw [ltN (by omega) (by omega)]
              refine ⟨fun hc3 => ?_, fun hc3 => ?_⟩
              · obtain hmn : m = d (pv s') := by omega
                conv => whnf
                repeat ((first | refine ⟨zG_of _, ?_⟩ | refine ⟨trivial, ?_⟩ | refine ⟨rfl, ?_⟩ | refine ⟨fun hc => absurd hc (by decide), fun _ => ?_⟩ | refine ⟨fun _ => ?_, fun hc => absurd (by decide) hc⟩ | refine ⟨fun _ => ?_, fun hc => absurd hc (by decide)⟩ | refine ⟨fun hc => absurd (by decide) hc, fun _ => ?_⟩); conv => whnf)
                try dsimp only
                refine ⟨Or.inl rfl, zG_of _, i, pv s', rfl, by omega, rfl, pv_lt _, fun wi2 e2 => ?_⟩
                have k2 := cs_set k1.1 hc (pv_lt s') rfl (swC_lt a1 d3x d4x _ (by omega)) e2
                rw [hmn, ← Fp, prT_up2 F A i s' (pv s') hs' (pv_lt _) (F0 i)] at k2
                conv => whnf
                repeat ((first | refine ⟨zG_of _, ?_⟩ | refine ⟨trivial, ?_⟩ | refine ⟨rfl, ?_⟩ | refine ⟨fun hc => absurd hc (by decide), fun _ => ?_⟩ | refine ⟨fun _ => ?_, fun hc => absurd (by decide) hc⟩ | refine ⟨fun _ => ?_, fun hc => absurd hc (by decide)⟩ | refine ⟨fun hc => absurd (by decide) hc, fun _ => ?_⟩); conv => whnf)
                try dsimp only
                rw [nI_add]
                exact ihn wi2 (Fr_trans (Fr_trans hF k1.2) k2.2) k2.1
              · have ihmn := ihm hc3
                conv => whnf
                repeat ((first | refine ⟨zG_of _, ?_⟩ | refine ⟨trivial, ?_⟩ | refine ⟨rfl, ?_⟩ | refine ⟨fun hc => absurd hc (by decide), fun _ => ?_⟩ | refine ⟨fun _ => ?_, fun hc => absurd (by decide) hc⟩ | refine ⟨fun _ => ?_, fun hc => absurd hc (by decide)⟩ | refine ⟨fun hc => absurd (by decide) hc, fun _ => ?_⟩); conv => whnf)
                try dsimp only
                refine ⟨swC (A (3 * i + pv s')) (d s') fr to m, m * d s' + fr, m * d s' + to, rfl, lt3_of q23 (swC_lt a1 d3x d4x _ (by omega)), by rw [pk_mul, nI_add], idx9 dp.2 ds.2 hc3 hfr, by rw [pk_mul, nI_add], idx9 dp.2 ds.2 hc3 hto, ?_⟩
                conv => whnf
                repeat ((first | refine ⟨zG_of _, ?_⟩ | refine ⟨trivial, ?_⟩ | refine ⟨rfl, ?_⟩ | refine ⟨fun hc => absurd hc (by decide), fun _ => ?_⟩ | refine ⟨fun _ => ?_, fun hc => absurd (by decide) hc⟩ | refine ⟨fun _ => ?_, fun hc => absurd hc (by decide)⟩ | refine ⟨fun hc => absurd (by decide) hc, fun _ => ?_⟩); conv => whnf)
                try dsimp only
                rw [nI_add]
                exact ihmn)
            conv => whnf
            repeat ((first | refine ⟨zG_of _, ?_⟩ | refine ⟨trivial, ?_⟩ | refine ⟨rfl, ?_⟩ | refine ⟨fun hc => absurd hc (by decide), fun _ => ?_⟩ | refine ⟨fun _ => ?_, fun hc => absurd (by decide) hc⟩ | refine ⟨fun _ => ?_, fun hc => absurd hc (by decide)⟩ | refine ⟨fun hc => absurd (by decide) hc, fun _ => ?_⟩); conv => whnf)
            try dsimp only
            rw [v1]
            exact inner2 0 (Nat.zero_le _)
          · have ihjn := ihj hc2
            conv => whnf
            repeat ((first | refine ⟨zG_of _, ?_⟩ | refine ⟨trivial, ?_⟩ | refine ⟨rfl, ?_⟩ | refine ⟨fun hc => absurd hc (by decide), fun _ => ?_⟩ | refine ⟨fun _ => ?_, fun hc => absurd (by decide) hc⟩ | refine ⟨fun _ => ?_, fun hc => absurd hc (by decide)⟩ | refine ⟨fun hc => absurd (by decide) hc, fun _ => ?_⟩); conv => whnf)
            try dsimp only
            refine ⟨swR (A (3 * i + s')) (d (nx s')) fr to j, fr * d (nx s') + j, to * d (nx s') + j, rfl, lt3_of q23 (swR_lt a0 d1x d2x _ (by omega)), by rw [pk_mul, nI_add], idx9 ds.2 dn.2 hfr hc2, by rw [pk_mul, nI_add], idx9 ds.2 dn.2 hto hc2, ?_⟩
            conv => whnf
            repeat ((first | refine ⟨zG_of _, ?_⟩ | refine ⟨trivial, ?_⟩ | refine ⟨rfl, ?_⟩ | refine ⟨fun hc => absurd hc (by decide), fun _ => ?_⟩ | refine ⟨fun _ => ?_, fun hc => absurd (by decide) hc⟩ | refine ⟨fun _ => ?_, fun hc => absurd hc (by decide)⟩ | refine ⟨fun hc => absurd (by decide) hc, fun _ => ?_⟩); conv => whnf)
            try dsimp only
            rw [nI_add]
            exact ihjn)
        conv => whnf
        repeat ((first | refine ⟨zG_of _, ?_⟩ | refine ⟨trivial, ?_⟩ | refine ⟨rfl, ?_⟩ | refine ⟨fun hc => absurd hc (by decide), fun _ => ?_⟩ | refine ⟨fun _ => ?_, fun hc => absurd (by decide) hc⟩ | refine ⟨fun _ => ?_, fun hc => absurd hc (by decide)⟩ | refine ⟨fun hc => absurd (by decide) hc, fun _ => ?_⟩); conv => whnf)
        try dsimp only
        rw [v0]
        exact inner 0 (Nat.zero_le _))
    have e1 : rowsF wi 6 (behF (nI s')) = nI (d (nx s')) := col_S hS hs'
    have e2 : rowsF wi 6 (behF (nI (pv s'))) = nI (d s') := by
      rw [beh_nx (pv_lt s'), np.1]
      exact rows_S hS hs'
    have e3 : rowsF wi 6 (nI (pv s')) = nI (d (pv s')) := rows_S hS (pv_lt s')
    refine hs 400 0 _ _ _ _ _ ?_
    conv => whnf
    repeat ((first | refine ⟨zG_of _, ?_⟩ | refine ⟨trivial, ?_⟩ | refine ⟨rfl, ?_⟩ | refine ⟨fun hc => absurd hc (by decide), fun _ => ?_⟩ | refine ⟨fun _ => ?_, fun hc => absurd (by decide) hc⟩ | refine ⟨fun _ => ?_, fun hc => absurd hc (by decide)⟩ | refine ⟨fun hc => absurd (by decide) hc, fun _ => ?_⟩); conv => whnf)
    try dsimp only
    rw [b1, e1, e2, e3]
    refine loop 0 (Nat.zero_le _) wi (Fr_refl _ _ _) ?_
    rw [prT_0]
    exact hS

