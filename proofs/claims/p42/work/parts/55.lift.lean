/-! columns reduced, taken -/
abbrev zLs : Type := (Nat → Bool) × (Nat → zV) × Nat
def rdV (S : zLs) : Nat → Nat → zV → Bool × Nat × zV
  | 0, e, v => (false, e, v)
  | m + 1, e, v => if v e = true then (if S.1 e = true then rdV S m (e + 1) (vxor v (S.2.1 e)) else (true, e, v)) else rdV S m (e + 1) v
def LSt (wi : Nat → Nat → Int32) (wl : Nat → Nat → Int64) (E : Nat) (S : zLs) : Prop := wi 38 4 = nI E ∧ E ≤ 729 ∧ wi 38 5 = nI S.2.2 ∧ (∀ e, e < 729 → wi 41 e = nI (if S.1 e = true then 1 else 0)) ∧ ∀ p, p < 729 → S.1 p = true → LV wl 39 (12 * p) (S.2.1 p) ∧ (∀ e, e < p → S.2.1 p e = false) ∧ S.2.1 p p = true
/-- what is known of the pivots -/
def PS (S : zLs) : Prop := ∀ p, p < 729 → S.1 p = true → (∀ e, e < p → S.2.1 p e = false) ∧ S.2.1 p p = true
theorem ls_ps {wi : Nat → Nat → Int32} {wl : Nat → Nat → Int64} {E : Nat} {S : zLs} (h : LSt wi wl E S) : PS S := fun p hp hs => (h.2.2.2.2 p hp hs).2
theorem rdV_spec {S : zLs} (hS : PS S) : ∀ (m e : Nat) (v : zV), e + m ≤ 729 → (∀ k, k < e → v k = false) → (rdV S m e v).1 = true → e ≤ (rdV S m e v).2.1 ∧ (rdV S m e v).2.1 < e + m ∧ S.1 (rdV S m e v).2.1 = false ∧ (rdV S m e v).2.2 (rdV S m e v).2.1 = true ∧ ∀ k, k < (rdV S m e v).2.1 → (rdV S m e v).2.2 k = false
  | 0, _, _, _, _, h => absurd h Bool.false_ne_true
  | m + 1, e, v, hm, hv, h => by
    rw [rdV] at h ⊢
    by_cases h1 : v e = true
    · rw [if_pos h1] at h ⊢
      by_cases h2 : S.1 e = true
      · rw [if_pos h2] at h ⊢
        have k := hS e (by omega) h2
        have ih := rdV_spec hS m (e + 1) (vxor v (S.2.1 e)) (by omega) (fun j hj => by
          show (v j ^^ S.2.1 e j) = false
          rcases Nat.lt_or_ge j e with g | g
          · rw [hv j g, k.1 j g]; rfl
          · rw [show j = e by omega, h1, k.2]; rfl) h
        exact ⟨by omega, by omega, ih.2.2⟩
      · rw [if_neg h2]
        exact ⟨Nat.le_refl _, by show e < _; omega, by simpa using h2, h1, hv⟩
    · rw [if_neg h1] at h ⊢
      have ih := rdV_spec hS m (e + 1) v (by omega) (fun j hj => by
        rcases Nat.lt_or_ge j e with g | g
        · exact hv j g
        · rw [show j = e by omega]
          simpa using h1) h
      exact ⟨by omega, by omega, ih.2.2⟩
theorem ls_wl {wi : Nat → Nat → Int32} {wl wl' : Nat → Nat → Int64} {E : Nat} {S : zLs} (h : LSt wi wl E S) (hF : LF wl wl') : LSt wi wl' E S := ⟨h.1, h.2.1, h.2.2.1, h.2.2.2.1, fun p hp hs => ⟨fun k hk => by rw [hF 39 (by decide)]; exact (h.2.2.2.2 p hp hs).1 k hk, (h.2.2.2.2 p hp hs).2⟩⟩
def sp_X5_reduce : zSp := fun av w K => match av with
  | [.ref o] => o = 38 ∧ zG w.1 ∧ ∃ E S v, LSt w.2.1 w.2.2 E S ∧ LV w.2.2 42 0 v ∧ ∀ wl' : Nat → Nat → Int64, LF w.2.2 wl' → LV wl' 42 0 (rdV S E 0 v).2.2 → K (some (.int (if (rdV S E 0 v).1 = true then nI (rdV S E 0 v).2.1 else mI 1))) (w.1, w.2.1, wl')
  | _ => False
def rm_X5_reduce : Room := { frames := 2, cells := 0, slots := 0, locals := 42 }
def M_X5_reduce : zM := (k_X5_reduce, f_X5, [(103, 4, 4, 2, 0, 0, sp_X5_hasBit), (90, 4, 2, 2, 0, 0, sp_X3_at), (107, 4, 4, 2, 0, 0, sp_X5_lessPivot)], ([], [], []), [], [(2, [true, true]), (36, [true, true])], 1, false, (false, 0, fun _ => 0), (0, 0, []))
theorem ca_X5_reduce_0 (l : Launch) : z_cok l RX5 (headSpec (.code yX5_reduce cX5_reduce 2 (some .int) :: zTT) rm_X5_reduce).room (false, 0, fun _ => 0) (103, 4, 4, 2, 0, 0, sp_X5_hasBit) := z_ca4 (c_X5_hasBit l) mb_X5_hasBit ⟨_, rfl, rfl⟩ wt_841 wt_843 wt_21 (by decide)
theorem ca_X5_reduce_1 (l : Launch) : z_cok l RX5 (headSpec (.code yX5_reduce cX5_reduce 2 (some .int) :: zTT) rm_X5_reduce).room (false, 0, fun _ => 0) (90, 4, 2, 2, 0, 0, sp_X3_at) := z_ca4 (c_X3_at l) mb_X3_at ⟨_, rfl, rfl⟩ wt_827 wt_366 wt_367 (by decide)
theorem ca_X5_reduce_2 (l : Launch) : z_cok l RX5 (headSpec (.code yX5_reduce cX5_reduce 2 (some .int) :: zTT) rm_X5_reduce).room (false, 0, fun _ => 0) (107, 4, 4, 2, 0, 0, sp_X5_lessPivot) := z_ca4 (c_X5_lessPivot l) mb_X5_lessPivot ⟨_, rfl, rfl⟩ wt_845 wt_847 wt_22 (by decide)
theorem O_X5_reduce (l : Launch) : z_OK l RX5 cX5_reduce (headSpec (.code yX5_reduce cX5_reduce 2 (some .int) :: zTT) rm_X5_reduce).room M_X5_reduce := ⟨ok_X5_reduce, fo_X5, List.forall_mem_cons.mpr ⟨ca_X5_reduce_0 l, List.forall_mem_cons.mpr ⟨ca_X5_reduce_1 l, List.forall_mem_cons.mpr ⟨ca_X5_reduce_2 l, fun _ h => absurd h List.not_mem_nil⟩⟩⟩, fun _ h => absurd h List.not_mem_nil, fun _ h => absurd h List.not_mem_nil, fun _ h => absurd h List.not_mem_nil, fun _ h => absurd h List.not_mem_nil, rfl, rfl, fun _ h => absurd h List.not_mem_nil⟩
theorem c_X5_reduce (l : Launch) : z_CS l yX5_reduce cX5_reduce 2 (some .int) rm_X5_reduce sp_X5_reduce := by
  refine z_meth (by decide) (Or.inr (Or.inl ⟨rfl, rfl⟩)) (fun h => by cases h) rfl (O_X5_reduce l) ?_
  intro av w K h
  match av, h with
  | [.ref o], h =>
    obtain ⟨rfl, ⟨r, hG⟩, E, S, v, hL, hV, h⟩ := h
    obtain ⟨G, wi, wl⟩ := w
    subst hG
    try dsimp only at h hL hV
    have hE := hL.2.1
    refine ⟨Nat.le_of_ble_eq_true rfl, fun Jm hs => ?_⟩
    generalize hR : rdV S E 0 v = R at h
    have loop := up_ind (P := fun e => ∀ (wl' : Nat → Nat → Int64) (v' : zV), LF wl wl' → LV wl' 42 0 v' → rdV S (E - e) e v' = R → Jm 2 [some (.ref 38), some (.int (nI e))] [] (GC ++ r, wi, wl') 0 0) E (fun e he ih => by
      intro wl' v' hF hV' hR'
      refine hs 400 2 _ _ _ _ _ ?_
      conv => whnf
      repeat ((first | refine ⟨zG_of _, ?_⟩ | refine ⟨trivial, ?_⟩ | refine ⟨rfl, ?_⟩ | refine ⟨fun hc => absurd hc (by decide), fun _ => ?_⟩ | refine ⟨fun _ => ?_, fun hc => absurd (by decide) hc⟩ | refine ⟨fun _ => ?_, fun hc => absurd hc (by decide)⟩ | refine ⟨fun hc => absurd (by decide) hc, fun _ => ?_⟩); conv => whnf)
      try dsimp only
      rw [hL.1, ltN (by omega) (by omega)]
      refine ⟨fun hc => ?_, fun hc => ?_⟩
      · obtain hen : e = E := by omega
        rw [hen, Nat.sub_self] at hR'
        have eR : (false, E, v') = R := hR'
        subst eR
        exact ⟨trivial, h wl' hF hV'⟩
      · have ihn := ih hc
        rw [show E - e = E - (e + 1) + 1 by omega, rdV] at hR'
        conv => whnf
        repeat ((first | refine ⟨zG_of _, ?_⟩ | refine ⟨trivial, ?_⟩ | refine ⟨rfl, ?_⟩ | refine ⟨fun hc => absurd hc (by decide), fun _ => ?_⟩ | refine ⟨fun _ => ?_, fun hc => absurd (by decide) hc⟩ | refine ⟨fun _ => ?_, fun hc => absurd hc (by decide)⟩ | refine ⟨fun hc => absurd (by decide) hc, fun _ => ?_⟩); conv => whnf)
        try dsimp only
        refine ⟨e, v', hV', rfl, by omega, ?_⟩
        conv => whnf
        repeat ((first | refine ⟨zG_of _, ?_⟩ | refine ⟨trivial, ?_⟩ | refine ⟨rfl, ?_⟩ | refine ⟨fun hc => absurd hc (by decide), fun _ => ?_⟩ | refine ⟨fun _ => ?_, fun hc => absurd (by decide) hc⟩ | refine ⟨fun _ => ?_, fun hc => absurd hc (by decide)⟩ | refine ⟨fun hc => absurd (by decide) hc, fun _ => ?_⟩); conv => whnf)
        try dsimp only
        rw [bI_0]
        refine ⟨fun hb => ?_, fun hb => ?_⟩
        · rw [if_neg hb] at hR'
          conv => whnf
          repeat ((first | refine ⟨zG_of _, ?_⟩ | refine ⟨trivial, ?_⟩ | refine ⟨rfl, ?_⟩ | refine ⟨fun hc => absurd hc (by decide), fun _ => ?_⟩ | refine ⟨fun _ => ?_, fun hc => absurd (by decide) hc⟩ | refine ⟨fun _ => ?_, fun hc => absurd hc (by decide)⟩ | refine ⟨fun hc => absurd (by decide) hc, fun _ => ?_⟩); conv => whnf)
          try dsimp only
          refine hs 400 36 _ _ _ _ _ ?_
          conv => whnf
          repeat ((first | refine ⟨zG_of _, ?_⟩ | refine ⟨trivial, ?_⟩ | refine ⟨rfl, ?_⟩ | refine ⟨fun hc => absurd hc (by decide), fun _ => ?_⟩ | refine ⟨fun _ => ?_, fun hc => absurd (by decide) hc⟩ | refine ⟨fun _ => ?_, fun hc => absurd hc (by decide)⟩ | refine ⟨fun hc => absurd (by decide) hc, fun _ => ?_⟩); conv => whnf)
          try dsimp only
          rw [nI_add]
          exact ihn wl' v' hF hV' hR'
        · have hb := Classical.not_not.mp hb
          rw [if_pos hb] at hR'
          have ep : atF (wi 41) 729 (nI e) = nI (if S.1 e = true then 1 else 0) := by
            rw [atF_in (by omega) (by decide)]
            exact hL.2.2.2.1 e (by omega)
          conv => whnf
          repeat ((first | refine ⟨zG_of _, ?_⟩ | refine ⟨trivial, ?_⟩ | refine ⟨rfl, ?_⟩ | refine ⟨fun hc => absurd hc (by decide), fun _ => ?_⟩ | refine ⟨fun _ => ?_, fun hc => absurd (by decide) hc⟩ | refine ⟨fun _ => ?_, fun hc => absurd hc (by decide)⟩ | refine ⟨fun hc => absurd (by decide) hc, fun _ => ?_⟩); conv => whnf)
          try dsimp only
          rw [ep]
          by_cases hp : S.1 e = true
          · rw [if_pos hp] at hR' ⊢
            have k := hL.2.2.2.2 e (by omega) hp
            refine ⟨fun _ => ?_, fun z => absurd z (by decide)⟩
            conv => whnf
            repeat ((first | refine ⟨zG_of _, ?_⟩ | refine ⟨trivial, ?_⟩ | refine ⟨rfl, ?_⟩ | refine ⟨fun hc => absurd hc (by decide), fun _ => ?_⟩ | refine ⟨fun _ => ?_, fun hc => absurd (by decide) hc⟩ | refine ⟨fun _ => ?_, fun hc => absurd hc (by decide)⟩ | refine ⟨fun hc => absurd (by decide) hc, fun _ => ?_⟩); conv => whnf)
            try dsimp only
            refine ⟨e, v', S.2.1 e, hV', rfl, by omega, fun j hj => by rw [hF 39 (by decide)]; exact k.1 j hj, k.2.1, fun wl1 hF1 hV1 => ?_⟩
            conv => whnf
            repeat ((first | refine ⟨zG_of _, ?_⟩ | refine ⟨trivial, ?_⟩ | refine ⟨rfl, ?_⟩ | refine ⟨fun hc => absurd hc (by decide), fun _ => ?_⟩ | refine ⟨fun _ => ?_, fun hc => absurd (by decide) hc⟩ | refine ⟨fun _ => ?_, fun hc => absurd hc (by decide)⟩ | refine ⟨fun hc => absurd (by decide) hc, fun _ => ?_⟩); conv => whnf)
            try dsimp only
            refine hs 400 36 _ _ _ _ _ ?_
            conv => whnf
            repeat ((first | refine ⟨zG_of _, ?_⟩ | refine ⟨trivial, ?_⟩ | refine ⟨rfl, ?_⟩ | refine ⟨fun hc => absurd hc (by decide), fun _ => ?_⟩ | refine ⟨fun _ => ?_, fun hc => absurd (by decide) hc⟩ | refine ⟨fun _ => ?_, fun hc => absurd hc (by decide)⟩ | refine ⟨fun hc => absurd (by decide) hc, fun _ => ?_⟩); conv => whnf)
            try dsimp only
            rw [nI_add]
            exact ihn wl1 _ (fun y hy => by rw [hF1 y hy, hF y hy]) hV1 hR'
          · rw [if_neg hp] at hR' ⊢
            subst hR'
            refine ⟨fun z => absurd rfl z, fun _ => ⟨trivial, h wl' hF hV'⟩⟩)
    exact hs 400 0 _ _ _ _ _ (loop 0 (Nat.zero_le _) wl v (fun _ _ => rfl) hV hR)
def tkV (E : Nat) (S : zLs) (v : zV) : zLs := if (rdV S E 0 v).1 = true then (vset S.1 (rdV S E 0 v).2.1, fun p => if p = (rdV S E 0 v).2.1 then (rdV S E 0 v).2.2 else S.2.1 p, S.2.2 + 1) else S
def LH (wl wl' : Nat → Nat → Int64) : Prop := ∀ y, y ≠ 39 → y ≠ 42 → wl' y = wl y
def LG (wi wi' : Nat → Nat → Int32) : Prop := ∀ y, y ≠ 38 → y ≠ 41 → wi' y = wi y
def sp_X5_takeColumn : zSp := fun av w K => match av with
  | [.ref o] => o = 38 ∧ zG w.1 ∧ ∃ E S v, LSt w.2.1 w.2.2 E S ∧ LV w.2.2 42 0 v ∧ ∀ (wi' : Nat → Nat → Int32) (wl' : Nat → Nat → Int64), LG w.2.1 wi' → LH w.2.2 wl' → LSt wi' wl' E (tkV E S v) → K none (w.1, wi', wl')
  | _ => False
def rm_X5_takeColumn : Room := { frames := 3, cells := 0, slots := 0, locals := 63 }
def M_X5_takeColumn : zM := (k_X5_takeColumn, f_X5, [(54, 4, 4, 1, 0, 0, sp_X5_reduce), (64, 4, 2, 3, 0, 0, sp_X3_put)], ([], [], []), [], [(30, [true, true, true, false]), (67, [true, true, true, false])], 0, false, (false, 0, fun _ => 0), (0, 0, []))
theorem ca_X5_takeColumn_0 (l : Launch) : z_cok l RX5 (headSpec (.code yX5_takeColumn cX5_takeColumn 4 none :: zTT) rm_X5_takeColumn).room (false, 0, fun _ => 0) (54, 4, 4, 1, 0, 0, sp_X5_reduce) := z_ca4 (c_X5_reduce l) mb_X5_reduce ⟨_, rfl, rfl⟩ wt_837 wt_839 wt_20 (by decide)
theorem ca_X5_takeColumn_1 (l : Launch) : z_cok l RX5 (headSpec (.code yX5_takeColumn cX5_takeColumn 4 none :: zTT) rm_X5_takeColumn).room (false, 0, fun _ => 0) (64, 4, 2, 3, 0, 0, sp_X3_put) := z_ca4 (c_X3_put l) mb_X3_put ⟨_, rfl, rfl⟩ wt_814 wt_293 wt_294 (by decide)
theorem O_X5_takeColumn (l : Launch) : z_OK l RX5 cX5_takeColumn (headSpec (.code yX5_takeColumn cX5_takeColumn 4 none :: zTT) rm_X5_takeColumn).room M_X5_takeColumn := ⟨ok_X5_takeColumn, fo_X5, List.forall_mem_cons.mpr ⟨ca_X5_takeColumn_0 l, List.forall_mem_cons.mpr ⟨ca_X5_takeColumn_1 l, fun _ h => absurd h List.not_mem_nil⟩⟩, fun _ h => absurd h List.not_mem_nil, fun _ h => absurd h List.not_mem_nil, fun _ h => absurd h List.not_mem_nil, fun _ h => absurd h List.not_mem_nil, rfl, rfl, fun _ h => absurd h List.not_mem_nil⟩
theorem c_X5_takeColumn (l : Launch) : z_CS l yX5_takeColumn cX5_takeColumn 4 none rm_X5_takeColumn sp_X5_takeColumn := by
  refine z_meth (by decide) (Or.inl ⟨rfl, rfl⟩) (fun h => by cases h) rfl (O_X5_takeColumn l) ?_
  intro av w K h
  match av, h with
  | [.ref o], h =>
    obtain ⟨rfl, ⟨r, hG⟩, E, S, v, hL, hV, h⟩ := h
    obtain ⟨G, wi, wl⟩ := w
    subst hG
    try dsimp only at h hL hV
    have hE := hL.2.1
    have sp := rdV_spec (ls_ps hL) E 0 v (by omega) (fun k hk => absurd hk (Nat.not_lt_zero k))
    unfold tkV at h
    generalize hR : rdV S E 0 v = R at h sp
    refine ⟨Nat.le_of_ble_eq_true rfl, fun Jm hs => ?_⟩
    refine hs 400 0 _ _ _ _ _ ?_
    conv => whnf
    repeat ((first | refine ⟨zG_of _, ?_⟩ | refine ⟨trivial, ?_⟩ | refine ⟨rfl, ?_⟩ | refine ⟨fun hc => absurd hc (by decide), fun _ => ?_⟩ | refine ⟨fun _ => ?_, fun hc => absurd (by decide) hc⟩ | refine ⟨fun _ => ?_, fun hc => absurd hc (by decide)⟩ | refine ⟨fun hc => absurd (by decide) hc, fun _ => ?_⟩); conv => whnf)
    try dsimp only
    refine ⟨E, S, v, hL, hV, ?_⟩
    rw [hR]
    intro wl1 hF1 hV1
    have hL1 := ls_wl hL hF1
    by_cases hr : R.1 = true
    · rw [if_pos hr] at h ⊢
      have sp := sp hr
      have pE : R.2.1 < 729 := by omega
      conv => whnf
      repeat ((first | refine ⟨zG_of _, ?_⟩ | refine ⟨trivial, ?_⟩ | refine ⟨rfl, ?_⟩ | refine ⟨fun hc => absurd hc (by decide), fun _ => ?_⟩ | refine ⟨fun _ => ?_, fun hc => absurd (by decide) hc⟩ | refine ⟨fun _ => ?_, fun hc => absurd hc (by decide)⟩ | refine ⟨fun hc => absurd (by decide) hc, fun _ => ?_⟩); conv => whnf)
      try dsimp only
      refine ⟨fun z => absurd z (nI_nlt (Nat.zero_le _) (by omega)), fun _ => ?_⟩
      conv => whnf
      repeat ((first | refine ⟨zG_of _, ?_⟩ | refine ⟨trivial, ?_⟩ | refine ⟨rfl, ?_⟩ | refine ⟨fun hc => absurd hc (by decide), fun _ => ?_⟩ | refine ⟨fun _ => ?_, fun hc => absurd (by decide) hc⟩ | refine ⟨fun _ => ?_, fun hc => absurd hc (by decide)⟩ | refine ⟨fun hc => absurd (by decide) hc, fun _ => ?_⟩); conv => whnf)
      try dsimp only
      have ep : putF wi 41 729 (nI R.2.1) (nI 1) = z_up wi 41 R.2.1 (nI 1) := putF_in pE (by decide)
      rw [ep, z_up_ne (show (38 : Nat) ≠ 41 by decide), hL.2.2.1, nI_add]
      have loop := up_ind (P := fun k => ∀ wl' : Nat → Nat → Int64, LH wl wl' → LV wl' 42 0 R.2.2 → (∀ j, j < k → wl' 39 (12 * R.2.1 + j) = lN (wd R.2.2 j)) → (∀ p, p ≠ R.2.1 → ∀ j, j < 12 → wl' 39 (12 * p + j) = wl1 39 (12 * p + j)) → Jm 30 [some (.ref 38), some (.int (nI R.2.1)), some (.int (nI k)), none] [] (GC ++ r, z_up (z_up wi 41 R.2.1 (nI 1)) 38 5 (nI (S.2.2 + 1)), wl') 0 0) 12 (fun k hk ih => by
        intro wl' hF hV' hW hO
        refine hs 400 30 _ _ _ _ _ ?_
        conv => whnf
        repeat ((first | refine ⟨zG_of _, ?_⟩ | refine ⟨trivial, ?_⟩ | refine ⟨rfl, ?_⟩ | refine ⟨fun hc => absurd hc (by decide), fun _ => ?_⟩ | refine ⟨fun _ => ?_, fun hc => absurd (by decide) hc⟩ | refine ⟨fun _ => ?_, fun hc => absurd hc (by decide)⟩ | refine ⟨fun hc => absurd (by decide) hc, fun _ => ?_⟩); conv => whnf)
        try dsimp only
        rw [ltN (by omega) (by omega)]
        refine ⟨fun hc => ?_, fun hc => ?_⟩
        · refine h _ wl' (fun y g1 g2 => by rw [z_up_ne g1, z_up_ne g2]) hF ⟨?_, hE, ?_, fun e he => ?_, fun p hp hs2 => ?_⟩
          · rw [z_up_nei (by decide), z_up_ne (by decide)]
            exact hL.1
          · rw [z_up_eq]
          · rw [z_up_ne (by decide)]
            show _ = nI (if (S.1 e || e == R.2.1) = true then 1 else 0)
            by_cases q : e = R.2.1
            · subst q
              rw [z_up_eq, beq_self_eq_true, Bool.or_true, if_pos rfl]
            · rw [z_up_nei q, beq_eq_false_iff_ne.mpr q, Bool.or_false]
              exact hL.2.2.2.1 e he
          · dsimp only at hs2 ⊢
            by_cases q : p = R.2.1
            · rw [if_pos q, q]
              exact ⟨fun j hj => hW j (by omega), sp.2.2.2.2, sp.2.2.2.1⟩
            · rw [if_neg q]
              have hs3 : S.1 p = true := by
                have : (S.1 p || p == R.2.1) = true := hs2
                rw [beq_eq_false_iff_ne.mpr q, Bool.or_false] at this
                exact this
              have kp := hL1.2.2.2.2 p hp hs3
              exact ⟨fun j hj => (hO p q j hj).trans (kp.1 j hj), kp.2⟩
        · have ihn := ih hc
          conv => whnf
          repeat ((first | refine ⟨zG_of _, ?_⟩ | refine ⟨trivial, ?_⟩ | refine ⟨rfl, ?_⟩ | refine ⟨fun hc => absurd hc (by decide), fun _ => ?_⟩ | refine ⟨fun _ => ?_, fun hc => absurd (by decide) hc⟩ | refine ⟨fun _ => ?_, fun hc => absurd hc (by decide)⟩ | refine ⟨fun hc => absurd (by decide) hc, fun _ => ?_⟩); conv => whnf)
          try dsimp only
          rw [pk_mul, nI_add, ltN (by omega) (by omega)]
          refine ⟨fun z => absurd (show R.2.1 * 12 + k < 8748 by omega) z, fun _ => ?_⟩
          conv => whnf
          repeat ((first | refine ⟨zG_of _, ?_⟩ | refine ⟨trivial, ?_⟩ | refine ⟨rfl, ?_⟩ | refine ⟨fun hc => absurd hc (by decide), fun _ => ?_⟩ | refine ⟨fun _ => ?_, fun hc => absurd (by decide) hc⟩ | refine ⟨fun _ => ?_, fun hc => absurd hc (by decide)⟩ | refine ⟨fun hc => absurd (by decide) hc, fun _ => ?_⟩); conv => whnf)
          try dsimp only
          refine ⟨vp_in_nI hc (by decide), ?_⟩
          conv => whnf
          repeat ((first | refine ⟨zG_of _, ?_⟩ | refine ⟨trivial, ?_⟩ | refine ⟨rfl, ?_⟩ | refine ⟨fun hc => absurd hc (by decide), fun _ => ?_⟩ | refine ⟨fun _ => ?_, fun hc => absurd (by decide) hc⟩ | refine ⟨fun _ => ?_, fun hc => absurd hc (by decide)⟩ | refine ⟨fun hc => absurd (by decide) hc, fun _ => ?_⟩); conv => whnf)
          try dsimp only
          refine ⟨vp_in_nI (show R.2.1 * 12 + k < 8748 by omega) (by decide), ?_⟩
          have ev : wl' 42 k = lN (wd R.2.2 k) := by
            have := hV' k hc
            rw [Nat.zero_add] at this
            exact this
          rw [nI_clamp (by omega), nI_clamp (by omega), ev]
          conv => whnf
          repeat ((first | refine ⟨zG_of _, ?_⟩ | refine ⟨trivial, ?_⟩ | refine ⟨rfl, ?_⟩ | refine ⟨fun hc => absurd hc (by decide), fun _ => ?_⟩ | refine ⟨fun _ => ?_, fun hc => absurd (by decide) hc⟩ | refine ⟨fun _ => ?_, fun hc => absurd hc (by decide)⟩ | refine ⟨fun hc => absurd (by decide) hc, fun _ => ?_⟩); conv => whnf)
          try dsimp only
          refine hs 400 67 _ _ _ _ _ ?_
          conv => whnf
          repeat ((first | refine ⟨zG_of _, ?_⟩ | refine ⟨trivial, ?_⟩ | refine ⟨rfl, ?_⟩ | refine ⟨fun hc => absurd hc (by decide), fun _ => ?_⟩ | refine ⟨fun _ => ?_, fun hc => absurd (by decide) hc⟩ | refine ⟨fun _ => ?_, fun hc => absurd hc (by decide)⟩ | refine ⟨fun hc => absurd (by decide) hc, fun _ => ?_⟩); conv => whnf)
          try dsimp only
          rw [nI_add]
          refine ihn _ (fun y g1 g2 => by rw [z_up_ne g1, hF y g1 g2]) (fun j hj => by rw [z_up_ne (by decide)]; exact hV' j hj) (fun j hj => ?_) (fun p hp j hj => ?_)
          · by_cases e : j = k
            · subst e
              rw [show 12 * R.2.1 + j = R.2.1 * 12 + j by omega, z_up_eq]
            · rw [z_up_nei (by omega)]
              exact hW j (by omega)
          · rw [z_up_nei (by omega)]
            exact hO p hp j hj)
      exact loop 0 (Nat.zero_le _) wl1 (fun y _ g2 => hF1 y g2) hV1 (fun j hj => absurd hj (Nat.not_lt_zero j)) (fun _ _ _ _ => rfl)
    · rw [if_neg hr] at h ⊢
      conv => whnf
      repeat ((first | refine ⟨zG_of _, ?_⟩ | refine ⟨trivial, ?_⟩ | refine ⟨rfl, ?_⟩ | refine ⟨fun hc => absurd hc (by decide), fun _ => ?_⟩ | refine ⟨fun _ => ?_, fun hc => absurd (by decide) hc⟩ | refine ⟨fun _ => ?_, fun hc => absurd hc (by decide)⟩ | refine ⟨fun hc => absurd (by decide) hc, fun _ => ?_⟩); conv => whnf)
      try dsimp only
      exact h wi wl1 (fun _ _ _ => rfl) (fun y _ g2 => hF1 y g2) hL1

