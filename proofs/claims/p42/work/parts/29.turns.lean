/-! mirrored; lines added to others, exchanged -/
def mrA (d : Nat → Nat) (A : Nat → Nat → Nat) : Nat → Nat → Nat := fun k => trF (A (3 * (k / 3) + (2 - k % 3))) (d (2 - k % 3)) (d (nx (2 - k % 3)))
theorem mr_at (d : Nat → Nat) (A : Nat → Nat → Nat) (i : Nat) {t : Nat} (h : t < 3) : mrA d A (3 * i + t) = trF (A (3 * i + (2 - t))) (d (2 - t)) (d (nx (2 - t))) := by
  unfold mrA
  rw [show (3 * i + t) / 3 = i by omega, show (3 * i + t) % 3 = t by omega]
def mrD (d : Nat → Nat) : Nat → Nat := fun t => if t = 1 then d 2 else if t = 2 then d 1 else d t
def sp_X10_mirror : zSp := fun av w K => match av with
  | [.ref o] => (o = 6 ∨ o = 12) ∧ zG w.1 ∧ ∃ d q c A, CS w.2.1 o d q c A ∧ ∀ wi' : Nat → Nat → Int32, Fr o (o + 2) w.2.1 wi' → CS wi' o (mrD d) q c (mrA d A) → K none (w.1, wi', w.2.2)
  | _ => False
def rm_X10_mirror : Room := { frames := 2, cells := 0, slots := 0, locals := 50 }
def M_X10_mirror : zM := (k_X10_mirror, f_X10, [(15, 4, 5, 3, 0, 0, sp_X6_formAt), (32, 0, 0, 3, 0, 0, sp_X10_transposed), (19, 4, 5, 4, 0, 0, sp_X6_setForm)], ([], [], []), [], [(2, [true, true, false, false, false])], 0, false, (false, 0, fun _ => 0), (0, 0, []))
theorem ca_X10_mirror_0 (l : Launch) : z_cok l RX10 (headSpec (.code yX10_mirror cX10_mirror 5 none :: zTT) rm_X10_mirror).room (false, 0, fun _ => 0) (15, 4, 5, 3, 0, 0, sp_X6_formAt) := z_ca4 (c_X6_formAt l) mb_X6_formAt ⟨_, rfl, rfl⟩ wt_658 wt_408 wt_409 (by decide)
theorem ca_X10_mirror_1 (l : Launch) : z_cok l RX10 (headSpec (.code yX10_mirror cX10_mirror 5 none :: zTT) rm_X10_mirror).room (false, 0, fun _ => 0) (32, 0, 0, 3, 0, 0, sp_X10_transposed) := z_ca0 (c_X10_transposed l) mb_X10_transposed wt_714 wt_715 (by decide)
theorem ca_X10_mirror_2 (l : Launch) : z_cok l RX10 (headSpec (.code yX10_mirror cX10_mirror 5 none :: zTT) rm_X10_mirror).room (false, 0, fun _ => 0) (19, 4, 5, 4, 0, 0, sp_X6_setForm) := z_ca4 (c_X6_setForm l) mb_X6_setForm ⟨_, rfl, rfl⟩ wt_665 wt_289 wt_290 (by decide)
theorem O_X10_mirror (l : Launch) : z_OK l RX10 cX10_mirror (headSpec (.code yX10_mirror cX10_mirror 5 none :: zTT) rm_X10_mirror).room M_X10_mirror := ⟨ok_X10_mirror, fo_X10, List.forall_mem_cons.mpr ⟨ca_X10_mirror_0 l, List.forall_mem_cons.mpr ⟨ca_X10_mirror_1 l, List.forall_mem_cons.mpr ⟨ca_X10_mirror_2 l, fun _ h => absurd h List.not_mem_nil⟩⟩⟩, fun _ h => absurd h List.not_mem_nil, fun _ h => absurd h List.not_mem_nil, fun _ h => absurd h List.not_mem_nil, fun _ h => absurd h List.not_mem_nil, rfl, rfl, fun _ h => absurd h List.not_mem_nil⟩
theorem c_X10_mirror (l : Launch) : z_CS l yX10_mirror cX10_mirror 5 none rm_X10_mirror sp_X10_mirror := by
  refine z_meth (by decide) (Or.inl ⟨rfl, rfl⟩) (fun h => by cases h) rfl (O_X10_mirror l) ?_
  intro av w K h
  match av, h with
  | [.ref o], h =>
    obtain ⟨ho, ⟨r, hG⟩, d, q, c, A, hS, h⟩ := h
    obtain ⟨G, wi, wl⟩ := w
    subst hG
    try dsimp only at h hS
    have h40 := cs_40 hS
    have hd := cs_d hS
    have d0 := (hd 0 (by decide)).2
    have d1 := (hd 1 (by decide)).2
    have d2 := (hd 2 (by decide)).2
    have hq0 : 0 < q := by have := cs_q23 hS; omega
    rcases ho with rfl | rfl
    · refine ⟨Nat.le_of_ble_eq_true rfl, fun Jm hs => ?_⟩
      have loop := up_ind (P := fun i => ∀ wi' : Nat → Nat → Int32, Fr 6 8 wi wi' → CS wi' 6 d q c (prT (mrA d A) A i) → Jm 2 [some (.ref 6), some (.int (nI i)), none, none, none] [] (GC ++ r, wi', wl) 0 0) c (fun i hi ih => by
        intro wi' hF hS'
        refine hs 400 2 _ _ _ _ _ ?_
        conv => whnf
        repeat ((first | refine ⟨zG_of _, ?_⟩ | refine ⟨trivial, ?_⟩ | refine ⟨rfl, ?_⟩ | refine ⟨fun hc => absurd hc (by decide), fun _ => ?_⟩ | refine ⟨fun _ => ?_, fun hc => absurd (by decide) hc⟩ | refine ⟨fun _ => ?_, fun hc => absurd hc (by decide)⟩ | refine ⟨fun hc => absurd (by decide) hc, fun _ => ?_⟩); conv => whnf)
        try dsimp only
        rw [cs_c hS', ltN (by omega) (by omega)]
        refine ⟨fun hc => ?_, fun hc => ?_⟩
        · obtain rfl : i = c := by omega
          conv => whnf
          repeat ((first | refine ⟨zG_of _, ?_⟩ | refine ⟨trivial, ?_⟩ | refine ⟨rfl, ?_⟩ | refine ⟨fun hc => absurd hc (by decide), fun _ => ?_⟩ | refine ⟨fun _ => ?_, fun hc => absurd (by decide) hc⟩ | refine ⟨fun _ => ?_, fun hc => absurd hc (by decide)⟩ | refine ⟨fun hc => absurd (by decide) hc, fun _ => ?_⟩); conv => whnf)
          try dsimp only
          have hE : CS wi' 6 d q i (mrA d A) := cs_congr hS' (fun k hk p _ => by rw [prT_end hk])
          refine h _ (Fr_trans hF (fun x h1 h2 => by rw [z_up_ne h1, z_up_ne h1])) ⟨?_, fun k hk => ?_, cs_q23 hE, fun t ht => ?_, cs_40 hE, cs_A hE⟩
          · have g1 := cs_1 hE
            have g2 := cs_2 hE
            have g3 := cs_3 hE
            have g4 := cs_q hE
            have g5 := cs_c hE
            simp [z_up, g1, g2, g3, g4, g5, mrD]
          · rw [z_up_ne (by decide), z_up_ne (by decide)]
            exact cs_f hE k hk
          · rcases lt3 ht with rfl | rfl | rfl
            · exact hd 0 (by decide)
            · exact hd 2 (by decide)
            · exact hd 1 (by decide)
        · have ihn := ih hc
          have v0 : fmF wi' 6 (nI i) (nI 0) = pk (A (3 * i + 0)) := by rw [fm_S hS' hc (by decide), prT_ge (by omega)]
          have v1 : fmF wi' 6 (nI i) (nI 1) = pk (A (3 * i + 1)) := by rw [fm_S hS' hc (by decide), prT_ge (by omega)]
          have v2 : fmF wi' 6 (nI i) (nI 2) = pk (A (3 * i + 2)) := by rw [fm_S hS' hc (by decide), prT_ge (by omega)]
          conv => whnf
          repeat ((first | refine ⟨zG_of _, ?_⟩ | refine ⟨trivial, ?_⟩ | refine ⟨rfl, ?_⟩ | refine ⟨fun hc => absurd hc (by decide), fun _ => ?_⟩ | refine ⟨fun _ => ?_, fun hc => absurd (by decide) hc⟩ | refine ⟨fun _ => ?_, fun hc => absurd hc (by decide)⟩ | refine ⟨fun hc => absurd (by decide) hc, fun _ => ?_⟩); conv => whnf)
          try dsimp only
          refine ⟨A (3 * i + 2), d 2, d 0, v2, cs_A3 hS _ (by omega), cs_3 hS', d2, cs_1 hS', d0, ?_⟩
          conv => whnf
          repeat ((first | refine ⟨zG_of _, ?_⟩ | refine ⟨trivial, ?_⟩ | refine ⟨rfl, ?_⟩ | refine ⟨fun hc => absurd hc (by decide), fun _ => ?_⟩ | refine ⟨fun _ => ?_, fun hc => absurd (by decide) hc⟩ | refine ⟨fun _ => ?_, fun hc => absurd hc (by decide)⟩ | refine ⟨fun hc => absurd (by decide) hc, fun _ => ?_⟩); conv => whnf)
          try dsimp only
          refine ⟨A (3 * i + 1), d 1, d 2, v1, cs_A3 hS _ (by omega), cs_2 hS', d1, cs_3 hS', d2, ?_⟩
          conv => whnf
          repeat ((first | refine ⟨zG_of _, ?_⟩ | refine ⟨trivial, ?_⟩ | refine ⟨rfl, ?_⟩ | refine ⟨fun hc => absurd hc (by decide), fun _ => ?_⟩ | refine ⟨fun _ => ?_, fun hc => absurd (by decide) hc⟩ | refine ⟨fun _ => ?_, fun hc => absurd hc (by decide)⟩ | refine ⟨fun hc => absurd (by decide) hc, fun _ => ?_⟩); conv => whnf)
          try dsimp only
          refine ⟨A (3 * i + 0), d 0, d 1, v0, cs_A3 hS _ (by omega), cs_1 hS', d0, cs_2 hS', d1, ?_⟩
          conv => whnf
          repeat ((first | refine ⟨zG_of _, ?_⟩ | refine ⟨trivial, ?_⟩ | refine ⟨rfl, ?_⟩ | refine ⟨fun hc => absurd hc (by decide), fun _ => ?_⟩ | refine ⟨fun _ => ?_, fun hc => absurd (by decide) hc⟩ | refine ⟨fun _ => ?_, fun hc => absurd hc (by decide)⟩ | refine ⟨fun hc => absurd (by decide) hc, fun _ => ?_⟩); conv => whnf)
          try dsimp only
          refine ⟨by first | exact Or.inl rfl | exact Or.inr rfl, zG_of _, i, 0, rfl, by omega, rfl, by decide, fun wi1 e1 => ?_⟩
          have k1 := cs_set hS' hc (by decide) rfl (trF_lt hq0 (cs_A hS (3 * i + 2) (by omega)) d2 d0) e1
          conv => whnf
          repeat ((first | refine ⟨zG_of _, ?_⟩ | refine ⟨trivial, ?_⟩ | refine ⟨rfl, ?_⟩ | refine ⟨fun hc => absurd hc (by decide), fun _ => ?_⟩ | refine ⟨fun _ => ?_, fun hc => absurd (by decide) hc⟩ | refine ⟨fun _ => ?_, fun hc => absurd hc (by decide)⟩ | refine ⟨fun hc => absurd (by decide) hc, fun _ => ?_⟩); conv => whnf)
          try dsimp only
          refine ⟨by first | exact Or.inl rfl | exact Or.inr rfl, zG_of _, i, 1, rfl, by omega, rfl, by decide, fun wi2 e2 => ?_⟩
          have k2 := cs_set k1.1 hc (by decide) rfl (trF_lt hq0 (cs_A hS (3 * i + 1) (by omega)) d1 d2) e2
          conv => whnf
          repeat ((first | refine ⟨zG_of _, ?_⟩ | refine ⟨trivial, ?_⟩ | refine ⟨rfl, ?_⟩ | refine ⟨fun hc => absurd hc (by decide), fun _ => ?_⟩ | refine ⟨fun _ => ?_, fun hc => absurd (by decide) hc⟩ | refine ⟨fun _ => ?_, fun hc => absurd hc (by decide)⟩ | refine ⟨fun hc => absurd (by decide) hc, fun _ => ?_⟩); conv => whnf)
          try dsimp only
          refine ⟨by first | exact Or.inl rfl | exact Or.inr rfl, zG_of _, i, 2, rfl, by omega, rfl, by decide, fun wi3 e3 => ?_⟩
          have k3 := cs_set k2.1 hc (by decide) rfl (trF_lt hq0 (cs_A hS (3 * i + 0) (by omega)) d0 d1) e3
          have e : upA (upA (upA (prT (mrA d A) A i) (3 * i + 0) (trF (A (3 * i + 2)) (d 2) (d 0))) (3 * i + 1) (trF (A (3 * i + 1)) (d 1) (d 2))) (3 * i + 2) (trF (A (3 * i + 0)) (d 0) (d 1)) = prT (mrA d A) A (i + 1) := by
            rw [← prT_up3, mr_at d A i (t := 0) (by decide), mr_at d A i (t := 1) (by decide), mr_at d A i (t := 2) (by decide)]
            rfl
          rw [e] at k3
          conv => whnf
          repeat ((first | refine ⟨zG_of _, ?_⟩ | refine ⟨trivial, ?_⟩ | refine ⟨rfl, ?_⟩ | refine ⟨fun hc => absurd hc (by decide), fun _ => ?_⟩ | refine ⟨fun _ => ?_, fun hc => absurd (by decide) hc⟩ | refine ⟨fun _ => ?_, fun hc => absurd hc (by decide)⟩ | refine ⟨fun hc => absurd (by decide) hc, fun _ => ?_⟩); conv => whnf)
          try dsimp only
          rw [nI_add]
          exact ihn wi3 (Fr_trans (Fr_trans (Fr_trans hF k1.2) k2.2) k3.2) k3.1)
      refine hs 400 0 _ _ _ _ _ (loop 0 (Nat.zero_le _) wi (Fr_refl _ _ _) ?_)
      rw [prT_0]
      exact hS
    · refine ⟨Nat.le_of_ble_eq_true rfl, fun Jm hs => ?_⟩
      have loop := up_ind (P := fun i => ∀ wi' : Nat → Nat → Int32, Fr 12 14 wi wi' → CS wi' 12 d q c (prT (mrA d A) A i) → Jm 2 [some (.ref 12), some (.int (nI i)), none, none, none] [] (GC ++ r, wi', wl) 0 0) c (fun i hi ih => by
        intro wi' hF hS'
        refine hs 400 2 _ _ _ _ _ ?_
        conv => whnf
        repeat ((first | refine ⟨zG_of _, ?_⟩ | refine ⟨trivial, ?_⟩ | refine ⟨rfl, ?_⟩ | refine ⟨fun hc => absurd hc (by decide), fun _ => ?_⟩ | refine ⟨fun _ => ?_, fun hc => absurd (by decide) hc⟩ | refine ⟨fun _ => ?_, fun hc => absurd hc (by decide)⟩ | refine ⟨fun hc => absurd (by decide) hc, fun _ => ?_⟩); conv => whnf)
        try dsimp only
        rw [cs_c hS', ltN (by omega) (by omega)]
        refine ⟨fun hc => ?_, fun hc => ?_⟩
        · obtain rfl : i = c := by omega
          conv => whnf
          repeat ((first | refine ⟨zG_of _, ?_⟩ | refine ⟨trivial, ?_⟩ | refine ⟨rfl, ?_⟩ | refine ⟨fun hc => absurd hc (by decide), fun _ => ?_⟩ | refine ⟨fun _ => ?_, fun hc => absurd (by decide) hc⟩ | refine ⟨fun _ => ?_, fun hc => absurd hc (by decide)⟩ | refine ⟨fun hc => absurd (by decide) hc, fun _ => ?_⟩); conv => whnf)
          try dsimp only
          have hE : CS wi' 12 d q i (mrA d A) := cs_congr hS' (fun k hk p _ => by rw [prT_end hk])
          refine h _ (Fr_trans hF (fun x h1 h2 => by rw [z_up_ne h1, z_up_ne h1])) ⟨?_, fun k hk => ?_, cs_q23 hE, fun t ht => ?_, cs_40 hE, cs_A hE⟩
          · have g1 := cs_1 hE
            have g2 := cs_2 hE
            have g3 := cs_3 hE
            have g4 := cs_q hE
            have g5 := cs_c hE
            simp [z_up, g1, g2, g3, g4, g5, mrD]
          · rw [z_up_ne (by decide), z_up_ne (by decide)]
            exact cs_f hE k hk
          · rcases lt3 ht with rfl | rfl | rfl
            · exact hd 0 (by decide)
            · exact hd 2 (by decide)
            · exact hd 1 (by decide)
        · have ihn := ih hc
          have v0 : fmF wi' 12 (nI i) (nI 0) = pk (A (3 * i + 0)) := by rw [fm_S hS' hc (by decide), prT_ge (by omega)]
          have v1 : fmF wi' 12 (nI i) (nI 1) = pk (A (3 * i + 1)) := by rw [fm_S hS' hc (by decide), prT_ge (by omega)]
          have v2 : fmF wi' 12 (nI i) (nI 2) = pk (A (3 * i + 2)) := by rw [fm_S hS' hc (by decide), prT_ge (by omega)]
          conv => whnf
          repeat ((first | refine ⟨zG_of _, ?_⟩ | refine ⟨trivial, ?_⟩ | refine ⟨rfl, ?_⟩ | refine ⟨fun hc => absurd hc (by decide), fun _ => ?_⟩ | refine ⟨fun _ => ?_, fun hc => absurd (by decide) hc⟩ | refine ⟨fun _ => ?_, fun hc => absurd hc (by decide)⟩ | refine ⟨fun hc => absurd (by decide) hc, fun _ => ?_⟩); conv => whnf)
          try dsimp only
          refine ⟨A (3 * i + 2), d 2, d 0, v2, cs_A3 hS _ (by omega), cs_3 hS', d2, cs_1 hS', d0, ?_⟩
          conv => whnf
          repeat ((first | refine ⟨zG_of _, ?_⟩ | refine ⟨trivial, ?_⟩ | refine ⟨rfl, ?_⟩ | refine ⟨fun hc => absurd hc (by decide), fun _ => ?_⟩ | refine ⟨fun _ => ?_, fun hc => absurd (by decide) hc⟩ | refine ⟨fun _ => ?_, fun hc => absurd hc (by decide)⟩ | refine ⟨fun hc => absurd (by decide) hc, fun _ => ?_⟩); conv => whnf)
          try dsimp only
          refine ⟨A (3 * i + 1), d 1, d 2, v1, cs_A3 hS _ (by omega), cs_2 hS', d1, cs_3 hS', d2, ?_⟩
          conv => whnf
          repeat ((first | refine ⟨zG_of _, ?_⟩ | refine ⟨trivial, ?_⟩ | refine ⟨rfl, ?_⟩ | refine ⟨fun hc => absurd hc (by decide), fun _ => ?_⟩ | refine ⟨fun _ => ?_, fun hc => absurd (by decide) hc⟩ | refine ⟨fun _ => ?_, fun hc => absurd hc (by decide)⟩ | refine ⟨fun hc => absurd (by decide) hc, fun _ => ?_⟩); conv => whnf)
          try dsimp only
          refine ⟨A (3 * i + 0), d 0, d 1, v0, cs_A3 hS _ (by omega), cs_1 hS', d0, cs_2 hS', d1, ?_⟩
          conv => whnf
          repeat ((first | refine ⟨zG_of _, ?_⟩ | refine ⟨trivial, ?_⟩ | refine ⟨rfl, ?_⟩ | refine ⟨fun hc => absurd hc (by decide), fun _ => ?_⟩ | refine ⟨fun _ => ?_, fun hc => absurd (by decide) hc⟩ | refine ⟨fun _ => ?_, fun hc => absurd hc (by decide)⟩ | refine ⟨fun hc => absurd (by decide) hc, fun _ => ?_⟩); conv => whnf)
          try dsimp only
          refine ⟨by first | exact Or.inl rfl | exact Or.inr rfl, zG_of _, i, 0, rfl, by omega, rfl, by decide, fun wi1 e1 => ?_⟩
          have k1 := cs_set hS' hc (by decide) rfl (trF_lt hq0 (cs_A hS (3 * i + 2) (by omega)) d2 d0) e1
          conv => whnf
          repeat ((first | refine ⟨zG_of _, ?_⟩ | refine ⟨trivial, ?_⟩ | refine ⟨rfl, ?_⟩ | refine ⟨fun hc => absurd hc (by decide), fun _ => ?_⟩ | refine ⟨fun _ => ?_, fun hc => absurd (by decide) hc⟩ | refine ⟨fun _ => ?_, fun hc => absurd hc (by decide)⟩ | refine ⟨fun hc => absurd (by decide) hc, fun _ => ?_⟩); conv => whnf)
          try dsimp only
          refine ⟨by first | exact Or.inl rfl | exact Or.inr rfl, zG_of _, i, 1, rfl, by omega, rfl, by decide, fun wi2 e2 => ?_⟩
          have k2 := cs_set k1.1 hc (by decide) rfl (trF_lt hq0 (cs_A hS (3 * i + 1) (by omega)) d1 d2) e2
          conv => whnf
          repeat ((first | refine ⟨zG_of _, ?_⟩ | refine ⟨trivial, ?_⟩ | refine ⟨rfl, ?_⟩ | refine ⟨fun hc => absurd hc (by decide), fun _ => ?_⟩ | refine ⟨fun _ => ?_, fun hc => absurd (by decide) hc⟩ | refine ⟨fun _ => ?_, fun hc => absurd hc (by decide)⟩ | refine ⟨fun hc => absurd (by decide) hc, fun _ => ?_⟩); conv => whnf)
          try dsimp only
          refine ⟨by first | exact Or.inl rfl | exact Or.inr rfl, zG_of _, i, 2, rfl, by omega, rfl, by decide, fun wi3 e3 => ?_⟩
          have k3 := cs_set k2.1 hc (by decide) rfl (trF_lt hq0 (cs_A hS (3 * i + 0) (by omega)) d0 d1) e3
          have e : upA (upA (upA (prT (mrA d A) A i) (3 * i + 0) (trF (A (3 * i + 2)) (d 2) (d 0))) (3 * i + 1) (trF (A (3 * i + 1)) (d 1) (d 2))) (3 * i + 2) (trF (A (3 * i + 0)) (d 0) (d 1)) = prT (mrA d A) A (i + 1) := by
            rw [← prT_up3, mr_at d A i (t := 0) (by decide), mr_at d A i (t := 1) (by decide), mr_at d A i (t := 2) (by decide)]
            rfl
          rw [e] at k3
          conv => whnf
          repeat ((first | refine ⟨zG_of _, ?_⟩ | refine ⟨trivial, ?_⟩ | refine ⟨rfl, ?_⟩ | refine ⟨fun hc => absurd hc (by decide), fun _ => ?_⟩ | refine ⟨fun _ => ?_, fun hc => absurd (by decide) hc⟩ | refine ⟨fun _ => ?_, fun hc => absurd hc (by decide)⟩ | refine ⟨fun hc => absurd (by decide) hc, fun _ => ?_⟩); conv => whnf)
          try dsimp only
          rw [nI_add]
          exact ihn wi3 (Fr_trans (Fr_trans (Fr_trans hF k1.2) k2.2) k3.2) k3.1)
      refine hs 400 0 _ _ _ _ _ (loop 0 (Nat.zero_le _) wi (Fr_refl _ _ _) ?_)
      rw [prT_0]
      exact hS
def atA (q : Nat) (a : Nat → Nat) (fr to f : Nat) : Nat → Nat := setp a to ((a to + f * a fr) % q)
def sp_X10_addTimes : zSp := fun av w K => match av with
  | [.int x, .int u, .int v, .int g, .int y] => ∃ (a : Nat → Nat) (fr to f q : Nat), x = pk a ∧ (∀ p, p < 9 → a p < 3) ∧ u = nI fr ∧ fr < 9 ∧ v = nI to ∧ to < 9 ∧ g = nI f ∧ f < 3 ∧ y = nI q ∧ (q = 2 ∨ q = 3) ∧ K (some (.int (pk (atA q a fr to f)))) w
  | _ => False
def rm_X10_addTimes : Room := { frames := 2, cells := 0, slots := 0, locals := 43 }
def M_X10_addTimes : zM := (k_X10_addTimes, f_X10, [(38, 0, 0, 2, 0, 0, sp_X2_numberAt), (63, 0, 0, 2, 0, 0, sp_X2_mod), (43, 0, 0, 3, 0, 0, sp_X2_with)], ([], [], []), [], [], 1, false, (false, 0, fun _ => 0), (0, 0, []))
theorem ca_X10_addTimes_0 (l : Launch) : z_cok l RX10 (headSpec (.code yX10_addTimes cX10_addTimes 6 (some .int) :: zTT) rm_X10_addTimes).room (false, 0, fun _ => 0) (38, 0, 0, 2, 0, 0, sp_X2_numberAt) := z_ca0 (c_X2_numberAt l) mb_X2_numberAt wt_663 wt_390 (by decide)
theorem ca_X10_addTimes_1 (l : Launch) : z_cok l RX10 (headSpec (.code yX10_addTimes cX10_addTimes 6 (some .int) :: zTT) rm_X10_addTimes).room (false, 0, fun _ => 0) (63, 0, 0, 2, 0, 0, sp_X2_mod) := z_ca0 (c_X2_mod l) mb_X2_mod wt_736 wt_444 (by decide)
theorem ca_X10_addTimes_2 (l : Launch) : z_cok l RX10 (headSpec (.code yX10_addTimes cX10_addTimes 6 (some .int) :: zTT) rm_X10_addTimes).room (false, 0, fun _ => 0) (43, 0, 0, 3, 0, 0, sp_X2_with) := z_ca0 (c_X2_with l) mb_X2_with wt_664 wt_297 (by decide)
theorem O_X10_addTimes (l : Launch) : z_OK l RX10 cX10_addTimes (headSpec (.code yX10_addTimes cX10_addTimes 6 (some .int) :: zTT) rm_X10_addTimes).room M_X10_addTimes := ⟨ok_X10_addTimes, fo_X10, List.forall_mem_cons.mpr ⟨ca_X10_addTimes_0 l, List.forall_mem_cons.mpr ⟨ca_X10_addTimes_1 l, List.forall_mem_cons.mpr ⟨ca_X10_addTimes_2 l, fun _ h => absurd h List.not_mem_nil⟩⟩⟩, fun _ h => absurd h List.not_mem_nil, fun _ h => absurd h List.not_mem_nil, fun _ h => absurd h List.not_mem_nil, fun _ h => absurd h List.not_mem_nil, rfl, rfl, fun _ h => absurd h List.not_mem_nil⟩
theorem c_X10_addTimes (l : Launch) : z_CS l yX10_addTimes cX10_addTimes 6 (some .int) rm_X10_addTimes sp_X10_addTimes := by
  refine z_meth (by decide) (Or.inr (Or.inl ⟨rfl, rfl⟩)) (fun h => by cases h) rfl (O_X10_addTimes l) ?_
  intro av w K h
  match av, h with
  | [.int x, .int u, .int v, .int g, .int y], h =>
    obtain ⟨a, fr, to, f, q, rfl, ha, rfl, hfr, rfl, hto, rfl, hf, rfl, hq, h⟩ := h
    refine ⟨Nat.le_of_ble_eq_true rfl, fun Jm hs => hs 400 0 _ _ _ _ _ ?_⟩
    have a1 := ha fr hfr
    have a2 := ha to hto
    have l1 : f * a fr ≤ 2 * 2 := Nat.mul_le_mul (by omega) (by omega)
    have l2 : (a to + f * a fr) % q < 3 := Nat.lt_of_lt_of_le (Nat.mod_lt _ (by omega)) (by omega)
    have e : fwith (pk a) (nI to) (fmod (fnum (pk a) (nI to) + nI f * fnum (pk a) (nI fr)) (nI q)) = pk (atA q a fr to f) := by
      rw [fnum_pk ha hto, fnum_pk ha hfr, pk_mul, nI_add, fmod_N hq (by omega), fwith_pk ha hto l2]
      rfl
    rw [← e] at h
    conv => whnf
    repeat ((first | refine ⟨zG_of _, ?_⟩ | refine ⟨trivial, ?_⟩ | refine ⟨rfl, ?_⟩ | refine ⟨fun hc => absurd hc (by decide), fun _ => ?_⟩ | refine ⟨fun _ => ?_, fun hc => absurd (by decide) hc⟩ | refine ⟨fun _ => ?_, fun hc => absurd hc (by decide)⟩ | refine ⟨fun hc => absurd (by decide) hc, fun _ => ?_⟩); conv => whnf)
    try dsimp only
    exact h
def shR (q : Nat) (a : Nat → Nat) (n fr to f : Nat) : Nat → Nat → Nat
  | 0 => a
  | c + 1 => atA q (shR q a n fr to f c) (fr * n + c) (to * n + c) f
def shC (q : Nat) (a : Nat → Nat) (n fr to f : Nat) : Nat → Nat → Nat
  | 0 => a
  | r + 1 => atA q (shC q a n fr to f r) (r * n + to) (r * n + fr) (q - f)
def pv (t : Nat) : Nat := (t + 2) % 3
theorem pv_lt (t : Nat) : pv t < 3 := mod3_lt _
theorem ahd_pv {t : Nat} (h : t < 3) : ahdF (nI t) = nI (pv t) := ahd_N h
theorem nx_pv {t : Nat} (h : t < 3) : nx (pv t) = t ∧ pv t ≠ t := by
  rcases lt3 h with rfl | rfl | rfl <;> decide
def shA (d : Nat → Nat) (q : Nat) (A : Nat → Nat → Nat) (s fr to f : Nat) : Nat → Nat → Nat := fun k => if k % 3 = s then shR q (A k) (d (nx s)) fr to f (d (nx s)) else if k % 3 = pv s then shC q (A k) (d s) fr to f (d (pv s)) else A k
theorem atA_lt {q : Nat} (hq : q = 2 ∨ q = 3) {a : Nat → Nat} (ha : ∀ p, p < 9 → a p < q) (fr to f : Nat) : ∀ p, p < 9 → atA q a fr to f p < q := setp_lt ha (Nat.mod_lt _ (by omega))
theorem shR_lt {q : Nat} (hq : q = 2 ∨ q = 3) {a : Nat → Nat} (ha : ∀ p, p < 9 → a p < q) (n fr to f : Nat) : ∀ c, ∀ p, p < 9 → shR q a n fr to f c p < q
  | 0 => ha
  | c + 1 => atA_lt hq (shR_lt hq ha n fr to f c) _ _ _
theorem shC_lt {q : Nat} (hq : q = 2 ∨ q = 3) {a : Nat → Nat} (ha : ∀ p, p < 9 → a p < q) (n fr to f : Nat) : ∀ c, ∀ p, p < 9 → shC q a n fr to f c p < q
  | 0 => ha
  | c + 1 => atA_lt hq (shC_lt hq ha n fr to f c) _ _ _
theorem lt3_of {q : Nat} (hq : q = 2 ∨ q = 3) {a : Nat → Nat} (ha : ∀ p, p < 9 → a p < q) : ∀ p, p < 9 → a p < 3 := fun p hp => by
  have := ha p hp
  omega
def sp_X10_shear : zSp := fun av w K => match av with
  | [.ref o, .int s, .int u, .int v, .int g] => o = 6 ∧ zG w.1 ∧ ∃ d q c A s' fr to f, CS w.2.1 6 d q c A ∧ s = nI s' ∧ s' < 3 ∧ u = nI fr ∧ fr < d s' ∧ v = nI to ∧ to < d s' ∧ g = nI f ∧ 1 ≤ f ∧ f < q ∧ ∀ wi' : Nat → Nat → Int32, Fr 6 8 w.2.1 wi' → CS wi' 6 d q c (shA d q A s' fr to f) → K none (w.1, wi', w.2.2)
  | _ => False
def rm_X10_shear : Room := { frames := 3, cells := 0, slots := 0, locals := 68 }
def M_X10_shear : zM := (k_X10_shear, f_X10, [(46, 2, 0, 1, 0, 0, sp_X11_ahead), (50, 4, 5, 2, 0, 0, sp_X6_columns), (53, 4, 5, 2, 0, 0, sp_X6_rows), (15, 4, 5, 3, 0, 0, sp_X6_formAt), (59, 0, 0, 5, 0, 0, sp_X10_addTimes), (19, 4, 5, 4, 0, 0, sp_X6_setForm)], ([], [], []), [], [(32, [true, true, true, true, true, true, true, true, true, true, false, false, false]), (53, [true, true, true, true, true, true, true, true, true, true, true, true, false]), (115, [true, true, true, true, true, true, true, true, true, true, true, true, true])], 0, false, (false, 0, fun _ => 0), (0, 0, []))
theorem ca_X10_shear_0 (l : Launch) : z_cok l RX10 (headSpec (.code yX10_shear cX10_shear 13 none :: zTT) rm_X10_shear).room (false, 0, fun _ => 0) (46, 2, 0, 1, 0, 0, sp_X11_ahead) := z_ca2 (host := "FewProducts") (c_X11_ahead l) mb_X11_ahead (by decide +kernel) wt_656 (by decide)
theorem ca_X10_shear_1 (l : Launch) : z_cok l RX10 (headSpec (.code yX10_shear cX10_shear 13 none :: zTT) rm_X10_shear).room (false, 0, fun _ => 0) (50, 4, 5, 2, 0, 0, sp_X6_columns) := z_ca4 (c_X6_columns l) mb_X6_columns ⟨_, rfl, rfl⟩ wt_659 wt_382 wt_383 (by decide)
theorem ca_X10_shear_2 (l : Launch) : z_cok l RX10 (headSpec (.code yX10_shear cX10_shear 13 none :: zTT) rm_X10_shear).room (false, 0, fun _ => 0) (53, 4, 5, 2, 0, 0, sp_X6_rows) := z_ca4 (c_X6_rows l) mb_X6_rows ⟨_, rfl, rfl⟩ wt_666 wt_378 wt_379 (by decide)
theorem ca_X10_shear_3 (l : Launch) : z_cok l RX10 (headSpec (.code yX10_shear cX10_shear 13 none :: zTT) rm_X10_shear).room (false, 0, fun _ => 0) (15, 4, 5, 3, 0, 0, sp_X6_formAt) := z_ca4 (c_X6_formAt l) mb_X6_formAt ⟨_, rfl, rfl⟩ wt_658 wt_408 wt_409 (by decide)
theorem ca_X10_shear_4 (l : Launch) : z_cok l RX10 (headSpec (.code yX10_shear cX10_shear 13 none :: zTT) rm_X10_shear).room (false, 0, fun _ => 0) (59, 0, 0, 5, 0, 0, sp_X10_addTimes) := z_ca0 (c_X10_addTimes l) mb_X10_addTimes wt_733 wt_734 (by decide)
theorem ca_X10_shear_5 (l : Launch) : z_cok l RX10 (headSpec (.code yX10_shear cX10_shear 13 none :: zTT) rm_X10_shear).room (false, 0, fun _ => 0) (19, 4, 5, 4, 0, 0, sp_X6_setForm) := z_ca4 (c_X6_setForm l) mb_X6_setForm ⟨_, rfl, rfl⟩ wt_665 wt_289 wt_290 (by decide)
theorem O_X10_shear (l : Launch) : z_OK l RX10 cX10_shear (headSpec (.code yX10_shear cX10_shear 13 none :: zTT) rm_X10_shear).room M_X10_shear := ⟨ok_X10_shear, fo_X10, List.forall_mem_cons.mpr ⟨ca_X10_shear_0 l, List.forall_mem_cons.mpr ⟨ca_X10_shear_1 l, List.forall_mem_cons.mpr ⟨ca_X10_shear_2 l, List.forall_mem_cons.mpr ⟨ca_X10_shear_3 l, List.forall_mem_cons.mpr ⟨ca_X10_shear_4 l, List.forall_mem_cons.mpr ⟨ca_X10_shear_5 l, fun _ h => absurd h List.not_mem_nil⟩⟩⟩⟩⟩⟩, fun _ h => absurd h List.not_mem_nil, fun _ h => absurd h List.not_mem_nil, fun _ h => absurd h List.not_mem_nil, fun _ h => absurd h List.not_mem_nil, rfl, rfl, fun _ h => absurd h List.not_mem_nil⟩
theorem c_X10_shear (l : Launch) : z_CS l yX10_shear cX10_shear 13 none rm_X10_shear sp_X10_shear := by
  refine z_meth (by decide) (Or.inl ⟨rfl, rfl⟩) (fun h => by cases h) rfl (O_X10_shear l) ?_
  intro av w K h
  match av, h with
  | [.ref o, .int s, .int u, .int v, .int g], h =>
    obtain ⟨rfl, ⟨r, hG⟩, d, q, c, A, s', fr, to, f, hS, rfl, hs', rfl, hfr, rfl, hto, rfl, hf1, hf2, h⟩ := h
    obtain ⟨G, wi, wl⟩ := w
    subst hG
    try dsimp only at h hS
    have h40 := cs_40 hS
    have q23 := cs_q23 hS
    have hd := cs_d hS
    have ds := hd s' hs'
    have dn := hd _ (nx_lt s')
    have dp := hd _ (pv_lt s')
    have b1 := ahd_pv hs'
    have np := nx_pv hs'
    refine ⟨Nat.le_of_ble_eq_true rfl, fun Jm hs => ?_⟩
    generalize hF0 : shA d q A s' fr to f = F at h
    have Fs : ∀ i, F (3 * i + s') = shR q (A (3 * i + s')) (d (nx s')) fr to f (d (nx s')) := fun i => by
      rw [← hF0]
      unfold shA
      rw [if_pos (by omega)]
    have Fp : ∀ i, F (3 * i + pv s') = shC q (A (3 * i + pv s')) (d s') fr to f (d (pv s')) := fun i => by
      have := pv_lt s'
      rw [← hF0]
      unfold shA
      rw [if_neg (by have := np.2; omega), if_pos (by omega)]
    have F0 : ∀ i u, u < 3 → u ≠ s' → u ≠ pv s' → F (3 * i + u) = A (3 * i + u) := fun i u h1 h2 h3 => by
      rw [← hF0]
      unfold shA
      rw [if_neg (by omega), if_neg (by omega)]
    have loop := up_ind (P := fun i => ∀ wi' : Nat → Nat → Int32, Fr 6 8 wi wi' → CS wi' 6 d q c (prT F A i) → Jm 32 [some (.ref 6), some (.int (nI s')), some (.int (nI fr)), some (.int (nI to)), some (.int (nI f)), some (.int (nI (pv s'))), some (.int (nI (d (nx s')))), some (.int (nI (d s'))), some (.int (nI (d (pv s')))), some (.int (nI i)), none, none, none] [] (GC ++ r, wi', wl) 0 0) c (fun i hi ih => by
      intro wi' hF hS'
      refine hs 400 32 _ _ _ _ _ ?_
      conv => whnf
      repeat ((first | refine ⟨zG_of _, ?_⟩ | refine ⟨trivial, ?_⟩ | refine ⟨rfl, ?_⟩ | refine ⟨fun hc => absurd hc (by decide), fun _ => ?_⟩ | refine ⟨fun _ => ?_, fun hc => absurd (by decide) hc⟩ | refine ⟨fun _ => ?_, fun hc => absurd hc (by decide)⟩ | refine ⟨fun hc => absurd (by decide) hc, fun _ => ?_⟩); conv => whnf)
      try dsimp only
      rw [cs_c hS', ltN (by omega) (by omega)]
      refine ⟨fun hc => ?_, fun hc => ?_⟩
      · obtain rfl : i = c := by omega
        exact h wi' hF (cs_congr hS' (fun k hk p _ => by rw [prT_end hk]))
      · have ihn := ih hc
        have v0 : atF (wi' 8) 120 (nI 3 * nI i + nI s') = pk (A (3 * i + s')) := by
          have := fm_S hS' hc hs'
          rw [prT_ge (by omega)] at this
          exact this
        have a0 := cs_A hS (3 * i + s') (by omega)
        have a1 := cs_A hS (3 * i + pv s') (by have := pv_lt s'; omega)
        have inner := up_ind (P := fun j => Jm 53 [some (.ref 6), some (.int (nI s')), some (.int (nI fr)), some (.int (nI to)), some (.int (nI f)), some (.int (nI (pv s'))), some (.int (nI (d (nx s')))), some (.int (nI (d s'))), some (.int (nI (d (pv s')))), some (.int (nI i)), some (.int (pk (shR q (A (3 * i + s')) (d (nx s')) fr to f j))), some (.int (nI j)), none] [] (GC ++ r, wi', wl) 0 0) (d (nx s')) (fun j hj ihj => by
          refine hs 400 53 _ _ _ _ _ ?_
          conv => whnf
          repeat ((first | refine ⟨zG_of _, ?_⟩ | refine ⟨trivial, ?_⟩ | refine ⟨rfl, ?_⟩ | refine ⟨fun hc => absurd hc (by decide), fun _ => ?_⟩ | refine ⟨fun _ => ?_, fun hc => absurd (by decide) hc⟩ | refine ⟨fun _ => ?_, fun hc => absurd hc (by decide)⟩ | refine ⟨fun hc => absurd (by decide) hc, fun _ => ?_⟩); conv => whnf)
          try dsimp only
          rw [ltN (by omega) (by omega)]
          refine ⟨fun hc2 => ?_, fun hc2 => ?_⟩
          · obtain hjn : j = d (nx s') := by omega
            conv => whnf
            repeat ((first | refine ⟨zG_of _, ?_⟩ | refine ⟨trivial, ?_⟩ | refine ⟨rfl, ?_⟩ | refine ⟨fun hc => absurd hc (by decide), fun _ => ?_⟩ | refine ⟨fun _ => ?_, fun hc => absurd (by decide) hc⟩ | refine ⟨fun _ => ?_, fun hc => absurd hc (by decide)⟩ | refine ⟨fun hc => absurd (by decide) hc, fun _ => ?_⟩); conv => whnf)
            try dsimp only
            refine ⟨Or.inl rfl, zG_of _, i, s', rfl, by omega, rfl, hs', fun wi1 e1 => ?_⟩
            have k1 := cs_set hS' hc hs' rfl (shR_lt q23 a0 _ _ _ _ _) e1
            rw [hjn, ← Fs] at k1
            have v1 : atF (wi1 8) 120 (nI 3 * nI i + nI (pv s')) = pk (A (3 * i + pv s')) := by
              have := fm_S k1.1 hc (pv_lt s')
              unfold upA at this
              rw [if_neg (by have := np.2; omega), prT_ge (by omega)] at this
              exact this
            have inner2 := up_ind (P := fun m => Jm 115 [some (.ref 6), some (.int (nI s')), some (.int (nI fr)), some (.int (nI to)), some (.int (nI f)), some (.int (nI (pv s'))), some (.int (nI (d (nx s')))), some (.int (nI (d s'))), some (.int (nI (d (pv s')))), some (.int (nI i)), some (.int (pk (shR q (A (3 * i + s')) (d (nx s')) fr to f j))), some (.int (pk (shC q (A (3 * i + pv s')) (d s') fr to f m))), some (.int (nI m))] [] (GC ++ r, wi1, wl) 0 0) (d (pv s')) (fun m hm ihm => by
              refine hs 400 115 _ _ _ _ _ ?_
              conv => whnf
              repeat ((first | refine ⟨zG_of _, ?_⟩ | refine ⟨trivial, ?_⟩ | refine ⟨rfl, ?_⟩ | refine ⟨fun hc => absurd hc (by decide), fun _ => ?_⟩ | refine ⟨fun _ => ?_, fun hc => absurd (by decide) hc⟩ | refine ⟨fun _ => ?_, fun hc => absurd hc (by decide)⟩ | refine ⟨fun hc => absurd (by decide) hc, fun _ => ?_⟩); conv => whnf)
              try dsimp only
              rw [ltN (by omega) (by omega)]
              refine ⟨fun hc3 => ?_, fun hc3 => ?_⟩
              · obtain hmn : m = d (pv s') := by omega
                conv => whnf
                repeat ((first | refine ⟨zG_of _, ?_⟩ | refine ⟨trivial, ?_⟩ | refine ⟨rfl, ?_⟩ | refine ⟨fun hc => absurd hc (by decide), fun _ => ?_⟩ | refine ⟨fun _ => ?_, fun hc => absurd (by decide) hc⟩ | refine ⟨fun _ => ?_, fun hc => absurd hc (by decide)⟩ | refine ⟨fun hc => absurd (by decide) hc, fun _ => ?_⟩); conv => whnf)
                try dsimp only
                refine ⟨Or.inl rfl, zG_of _, i, pv s', rfl, by omega, rfl, pv_lt _, fun wi2 e2 => ?_⟩
                have k2 := cs_set k1.1 hc (pv_lt s') rfl (shC_lt q23 a1 _ _ _ _ _) e2
                rw [hmn, ← Fp, prT_up2 F A i s' (pv s') hs' (pv_lt _) (F0 i)] at k2
                conv => whnf
                repeat ((first | refine ⟨zG_of _, ?_⟩ | refine ⟨trivial, ?_⟩ | refine ⟨rfl, ?_⟩ | refine ⟨fun hc => absurd hc (by decide), fun _ => ?_⟩ | refine ⟨fun _ => ?_, fun hc => absurd (by decide) hc⟩ | refine ⟨fun _ => ?_, fun hc => absurd hc (by decide)⟩ | refine ⟨fun hc => absurd (by decide) hc, fun _ => ?_⟩); conv => whnf)
                try dsimp only
                rw [nI_add]
                exact ihn wi2 (Fr_trans (Fr_trans hF k1.2) k2.2) k2.1
              · have ihmn := ihm hc3
                conv => whnf
                repeat ((first | refine ⟨zG_of _, ?_⟩ | refine ⟨trivial, ?_⟩ | refine ⟨rfl, ?_⟩ | refine ⟨fun hc => absurd hc (by decide), fun _ => ?_⟩ | refine ⟨fun _ => ?_, fun hc => absurd (by decide) hc⟩ | refine ⟨fun _ => ?_, fun hc => absurd hc (by decide)⟩ | refine ⟨fun hc => absurd (by decide) hc, fun _ => ?_⟩); conv => whnf)
                try dsimp only
                refine ⟨shC q (A (3 * i + pv s')) (d s') fr to f m, m * d s' + to, m * d s' + fr, q - f, q, rfl, lt3_of q23 (shC_lt q23 a1 _ _ _ _ _), by rw [pk_mul, nI_add], idx9 dp.2 ds.2 hc3 hto, by rw [pk_mul, nI_add], idx9 dp.2 ds.2 hc3 hfr, by rw [cs_q k1.1, pk_sub (by omega)], by omega, cs_q k1.1, q23, ?_⟩
                conv => whnf
                repeat ((first | refine ⟨zG_of _, ?_⟩ | refine ⟨trivial, ?_⟩ | refine ⟨rfl, ?_⟩ | refine ⟨fun hc => absurd hc (by decide), fun _ => ?_⟩ | refine ⟨fun _ => ?_, fun hc => absurd (by decide) hc⟩ | refine ⟨fun _ => ?_, fun hc => absurd hc (by decide)⟩ | refine ⟨fun hc => absurd (by decide) hc, fun _ => ?_⟩); conv => whnf)
                try dsimp only
                rw [nI_add]
                exact ihmn)
            conv => whnf
            repeat ((first | refine ⟨zG_of _, ?_⟩ | refine ⟨trivial, ?_⟩ | refine ⟨rfl, ?_⟩ | refine ⟨fun hc => absurd hc (by decide), fun _ => ?_⟩ | refine ⟨fun _ => ?_, fun hc => absurd (by decide) hc⟩ | refine ⟨fun _ => ?_, fun hc => absurd hc (by decide)⟩ | refine ⟨fun hc => absurd (by decide) hc, fun _ => ?_⟩); conv => whnf)
            try dsimp only
            rw [v1]
            exact inner2 0 (Nat.zero_le _)
          · have ihjn := ihj hc2
            conv => whnf
            repeat ((first | refine ⟨zG_of _, ?_⟩ | refine ⟨trivial, ?_⟩ | refine ⟨rfl, ?_⟩ | refine ⟨fun hc => absurd hc (by decide), fun _ => ?_⟩ | refine ⟨fun _ => ?_, fun hc => absurd (by decide) hc⟩ | refine ⟨fun _ => ?_, fun hc => absurd hc (by decide)⟩ | refine ⟨fun hc => absurd (by decide) hc, fun _ => ?_⟩); conv => whnf)
            try dsimp only
            refine ⟨shR q (A (3 * i + s')) (d (nx s')) fr to f j, fr * d (nx s') + j, to * d (nx s') + j, f, q, rfl, lt3_of q23 (shR_lt q23 a0 _ _ _ _ _), by rw [pk_mul, nI_add], idx9 ds.2 dn.2 hfr hc2, by rw [pk_mul, nI_add], idx9 ds.2 dn.2 hto hc2, rfl, by omega, cs_q hS', q23, ?_⟩
            conv => whnf
            repeat ((first | refine ⟨zG_of _, ?_⟩ | refine ⟨trivial, ?_⟩ | refine ⟨rfl, ?_⟩ | refine ⟨fun hc => absurd hc (by decide), fun _ => ?_⟩ | refine ⟨fun _ => ?_, fun hc => absurd (by decide) hc⟩ | refine ⟨fun _ => ?_, fun hc => absurd hc (by decide)⟩ | refine ⟨fun hc => absurd (by decide) hc, fun _ => ?_⟩); conv => whnf)
            try dsimp only
            rw [nI_add]
            exact ihjn)
        conv => whnf
        repeat ((first | refine ⟨zG_of _, ?_⟩ | refine ⟨trivial, ?_⟩ | refine ⟨rfl, ?_⟩ | refine ⟨fun hc => absurd hc (by decide), fun _ => ?_⟩ | refine ⟨fun _ => ?_, fun hc => absurd (by decide) hc⟩ | refine ⟨fun _ => ?_, fun hc => absurd hc (by decide)⟩ | refine ⟨fun hc => absurd (by decide) hc, fun _ => ?_⟩); conv => whnf)
        try dsimp only
        rw [v0]
        exact inner 0 (Nat.zero_le _))
    have e1 : rowsF wi 6 (behF (nI s')) = nI (d (nx s')) := col_S hS hs'
    have e2 : rowsF wi 6 (behF (nI (pv s'))) = nI (d s') := by
      rw [beh_nx (pv_lt s'), np.1]
      exact rows_S hS hs'
    have e3 : rowsF wi 6 (nI (pv s')) = nI (d (pv s')) := rows_S hS (pv_lt s')
    refine hs 400 0 _ _ _ _ _ ?_
    conv => whnf
    repeat ((first | refine ⟨zG_of _, ?_⟩ | refine ⟨trivial, ?_⟩ | refine ⟨rfl, ?_⟩ | refine ⟨fun hc => absurd hc (by decide), fun _ => ?_⟩ | refine ⟨fun _ => ?_, fun hc => absurd (by decide) hc⟩ | refine ⟨fun _ => ?_, fun hc => absurd hc (by decide)⟩ | refine ⟨fun hc => absurd (by decide) hc, fun _ => ?_⟩); conv => whnf)
    try dsimp only
    rw [b1, e1, e2, e3]
    refine loop 0 (Nat.zero_le _) wi (Fr_refl _ _ _) ?_
    rw [prT_0]
    exact hS

