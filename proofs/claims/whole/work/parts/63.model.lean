/-! the reference: what is wrong, what is given; the answers that are told -/
theorem mt_told {wi wi' : Nat → Nat → Int32} {wl wl' : Nat → Nat → Int64} {d : Nat → Nat} {q c : Nat} {A : Nat → Nat → Nat} {kp : zK} {tx : Nat × (Nat → Nat)} {tl : Nat × (Nat → Int64)} {n : Nat} {xs : Nat → Int64} (h : MT wi wl (d, q, c, A, kp, tx, tl)) (hI : ∀ i, i = 1 ∨ i = 2 ∨ i = 4 ∨ i = 8 → wi' 45 i = wi 45 i) (hF : ∀ y, y = 46 ∨ y = 47 ∨ y = 48 ∨ y = 49 ∨ y = 50 → wi' y = wi y) (hT : TM wi' wl' n xs) : MT wi' wl' (d, q, c, A, kp, tx, (n, xs)) :=
  ⟨ms_fr (mt_S h) (hF 46 (by omega)) (hI 1 (by omega)) (hI 2 (by omega)) (hF 47 (by omega)), km_fr (mt_K h) (hI 4 (by omega)) (hF 48 (by omega)) (hF 49 (by omega)), xm_fr (mt_X h) (hI 8 (by omega)) (hF 50 (by omega)), hT⟩
/-- only the row and fields that are not of the state change -/
def TF (wi : Nat → Nat → Int32) (wl : Nat → Nat → Int64) (wi' : Nat → Nat → Int32) (wl' : Nat → Nat → Int64) : Prop := (∀ y, y ≠ 45 → wi' y = wi y) ∧ (∀ y, y ≠ 51 → wl' y = wl y) ∧ ∀ i, i ≤ 8 → wi' 45 i = wi 45 i
theorem tf_refl {wi : Nat → Nat → Int32} {wl : Nat → Nat → Int64} : TF wi wl wi wl := ⟨fun _ _ => rfl, fun _ _ => rfl, fun _ _ => rfl⟩
theorem tf_trans {wi wi' wi2 : Nat → Nat → Int32} {wl wl' wl2 : Nat → Nat → Int64} (h : TF wi wl wi' wl') (h2 : TF wi' wl' wi2 wl2) : TF wi wl wi2 wl2 := ⟨fun y hy => (h2.1 y hy).trans (h.1 y hy), fun y hy => (h2.2.1 y hy).trans (h.2.1 y hy), fun i hi => (h2.2.2 i hi).trans (h.2.2 i hi)⟩
theorem tf_fld {wi : Nat → Nat → Int32} {wl : Nat → Nat → Int64} {i : Nat} {v : Int32} (hi : 8 < i) : TF wi wl (z_up wi 45 i v) wl := ⟨fun _ hy => z_up_ne hy, fun _ _ => rfl, fun j hj => z_up_nei (by omega)⟩
theorem tf_tell {wi wi' : Nat → Nat → Int32} {wl wl' : Nat → Nat → Int64} (h1 : ∀ y, y ≠ 45 → wi' y = wi y) (h2 : ∀ i, i ≠ 10 → wi' 45 i = wi 45 i) (h3 : ∀ y, y ≠ 51 → wl' y = wl y) : TF wi wl wi' wl' := ⟨h1, h3, fun i hi => h2 i (by omega)⟩
theorem tf_fr {wi wi' : Nat → Nat → Int32} {wl wl' : Nat → Nat → Int64} (h : TF wi wl wi' wl') : FrM wi wl wi' wl' := fun y hy => ⟨h.1 y (by omega), h.2.1 y (by omega)⟩
theorem tf_ms {wi wi' : Nat → Nat → Int32} {wl wl' : Nat → Nat → Int64} {d : Nat → Nat} {q c : Nat} {A : Nat → Nat → Nat} (h : TF wi wl wi' wl') (hS : MS wi d q c A) : MS wi' d q c A := ms_fr hS (h.1 46 (by decide)) (h.2.2 1 (by decide)) (h.2.2 2 (by decide)) (h.1 47 (by decide))
theorem tf_mt {wi wi' : Nat → Nat → Int32} {wl wl' : Nat → Nat → Int64} {d : Nat → Nat} {q c : Nat} {A : Nat → Nat → Nat} {kp : zK} {tx : Nat × (Nat → Nat)} {tl : Nat × (Nat → Int64)} {n : Nat} {xs : Nat → Int64} (h : TF wi wl wi' wl') (hC : MT wi wl (d, q, c, A, kp, tx, tl)) (hT : TM wi' wl' n xs) : MT wi' wl' (d, q, c, A, kp, tx, (n, xs)) := mt_told hC (fun i hi => h.2.2 i (by omega)) (fun y hy => h.1 y (by omega)) hT
theorem tm_0 {wi : Nat → Nat → Int32} {wl : Nat → Nat → Int64} {xs : Nat → Int64} : TM (z_up wi 45 10 (nI 0)) wl 0 xs := ⟨z_up_eq, by decide, fun k hk => absurd hk (Nat.not_lt_zero k)⟩
theorem tm_f {wi : Nat → Nat → Int32} {wl : Nat → Nat → Int64} {n : Nat} {xs : Nat → Int64} {i : Nat} {v : Int32} (h : TM wi wl n xs) (hi : i ≠ 10) : TM (z_up wi 45 i v) wl n xs := ⟨by rw [z_up_nei (fun z => hi z.symm)]; exact h.1, h.2⟩
def fvI (f : Nat → Bool) (m : Nat) : Int32 := if fi f m < m then nI (fi f m) else mI 1
theorem fvI_more {f : Nat → Bool} {a b : Nat} (h : a ≤ b) (h0 : ∀ k, a ≤ k → k < b → f k = false) : fvI f b = fvI f a := by
  have k := fi_more h h0
  unfold fvI
  by_cases e : fi f a < a
  · rw [if_pos e, if_pos (k.1.mpr e), k.2 e]
  · rw [if_neg e, if_neg (fun z => e (k.1.mp z))]
def LkM (wi wi' : Nat → Nat → Int32) (n : Nat) (v : Int32) : Prop := (∀ y, y ≠ 45 → wi' y = wi y) ∧ (∀ i, i ≠ 17 → i ≠ 18 → wi' 45 i = wi 45 i) ∧ wi' 45 17 = nI n ∧ wi' 45 18 = v
def sp_X12_looks : zSp := fun av w K => match av with
  | [.ref o] => o = 45 ∧ zH w.1 ∧ ∃ d q c A, MS w.2.1 d q c A ∧ ∀ wi', LkM w.2.1 wi' (fb_ct (ckB d q A c) 729) (fvI (ckB d q A c) 729) → K none (w.1, wi', w.2.2)
  | _ => False
def rm_X12_looks : Room := { frames := 2, cells := 0, slots := 0, locals := 47 }
def M_X12_looks : zM := (k_X12_looks, f_X12, [(96, 4, 10, 2, 0, 0, sp_X12_placesOf), (183, 4, 10, 4, 0, 0, sp_X12_wholeGiven), (186, 4, 10, 4, 0, 0, sp_X12_needed)], ([], [], []), [], [(12, [true, true, false, false]), (23, [true, true, true, false]), (34, [true, true, true, true])], 0, false, (false, 0, fun _ => 0), (0, 0))
theorem ca_X12_looks_0 (l : Launch) : z_cok l RX12 (headSpec (.code yX12_looks cX12_looks 4 none :: zTT) rm_X12_looks).room (96, 4, 10, 2, 0, 0, sp_X12_placesOf) := z_ca4 (c_X12_placesOf l) mb_X12_placesOf ⟨_, rfl, rfl⟩ wt_1349 wt_1351 wt_45 (by decide)
theorem ca_X12_looks_1 (l : Launch) : z_cok l RX12 (headSpec (.code yX12_looks cX12_looks 4 none :: zTT) rm_X12_looks).room (183, 4, 10, 4, 0, 0, sp_X12_wholeGiven) := z_ca4 (c_X12_wholeGiven l) mb_X12_wholeGiven ⟨_, rfl, rfl⟩ wt_1361 wt_1363 wt_47 (by decide)
theorem ca_X12_looks_2 (l : Launch) : z_cok l RX12 (headSpec (.code yX12_looks cX12_looks 4 none :: zTT) rm_X12_looks).room (186, 4, 10, 4, 0, 0, sp_X12_needed) := z_ca4 (c_X12_needed l) mb_X12_needed ⟨_, rfl, rfl⟩ wt_1365 wt_1367 wt_48 (by decide)
theorem O_X12_looks (l : Launch) : z_OK l RX12 cX12_looks (headSpec (.code yX12_looks cX12_looks 4 none :: zTT) rm_X12_looks).room M_X12_looks := ⟨ok_X12_looks, fo_X12, List.forall_mem_cons.mpr ⟨ca_X12_looks_0 l, List.forall_mem_cons.mpr ⟨ca_X12_looks_1 l, List.forall_mem_cons.mpr ⟨ca_X12_looks_2 l, fun _ h => absurd h List.not_mem_nil⟩⟩⟩, fun _ h => absurd h List.not_mem_nil, fun _ h => absurd h List.not_mem_nil, fun _ h => absurd h List.not_mem_nil, fun _ h => absurd h List.not_mem_nil, rfl, rfl⟩
theorem c_X12_looks (l : Launch) : z_CS l yX12_looks cX12_looks 4 none rm_X12_looks sp_X12_looks := by
  refine z_meth (by decide) (Or.inl ⟨rfl, rfl⟩) (fun h => by cases h) rfl (O_X12_looks l) ?_
  intro av w K h
  match av, h with
  | [.ref o], h =>
    obtain ⟨rfl, ⟨r, hG⟩, d, q, c, A, hS, h⟩ := h
    obtain ⟨G, wi, wl⟩ := w
    subst hG
    try dsimp only at h hS
    have h40 := ms_40 hS
    have q23 := ms_q23 hS
    have p0 := pl_le (ms_hd hS) (t := 0) (by decide)
    have p1 := pl_le (ms_hd hS) (t := 1) (by decide)
    have p2 := pl_le (ms_hd hS) (t := 2) (by decide)
    generalize hf : ckB d q A c = f at h
    have fle : ∀ m, fb_ct f m ≤ m := fb_ct_le f
    have fr : ∀ {wi' n v}, LkM wi wi' n v → MS wi' d q c A := fun {wi' n v} k => ms_fr hS (k.1 46 (by decide)) (k.2.1 1 (by decide) (by decide)) (k.2.1 2 (by decide) (by decide)) (k.1 47 (by decide))
    refine ⟨Nat.le_of_ble_eq_true rfl, fun Jm hs => ?_⟩
    have loop := up_ind (P := fun x => ∀ wi', LkM wi wi' (fb_ct f (x * 81)) (fvI f (x * 81)) → Jm 12 [some (.ref 45), some (.int (nI x)), none, none] [] (GC ++ (GM ++ r), wi', wl) 0 0) (pl d 0) (fun x hx ihx => by
      intro wi' hL
      have hS' := fr hL
      refine hs 400 12 _ _ _ _ _ ?_
      conv => whnf
      repeat ((first | refine ⟨zH_of _, ?_⟩ | refine ⟨trivial, ?_⟩ | refine ⟨rfl, ?_⟩ | refine ⟨fun hc => absurd hc (by decide), fun _ => ?_⟩ | refine ⟨fun _ => ?_, fun hc => absurd (by decide) hc⟩ | refine ⟨fun _ => ?_, fun hc => absurd hc (by decide)⟩ | refine ⟨fun hc => absurd (by decide) hc, fun _ => ?_⟩); conv => whnf)
      try dsimp only
      refine ⟨0, rfl, by decide, ?_⟩
      rw [mpl hS' (by decide)]
      conv => whnf
      repeat ((first | refine ⟨zH_of _, ?_⟩ | refine ⟨trivial, ?_⟩ | refine ⟨rfl, ?_⟩ | refine ⟨fun hc => absurd hc (by decide), fun _ => ?_⟩ | refine ⟨fun _ => ?_, fun hc => absurd (by decide) hc⟩ | refine ⟨fun _ => ?_, fun hc => absurd hc (by decide)⟩ | refine ⟨fun hc => absurd (by decide) hc, fun _ => ?_⟩); conv => whnf)
      try dsimp only
      rw [ltN (by omega) (by omega)]
      refine ⟨fun hc => ?_, fun hc => ?_⟩
      · have z0 : ∀ k, x * 81 ≤ k → k < 729 → f k = false := fun k h1 h2 => by
          rw [← hf]
          exact ck_far (Or.inl (by omega))
        rw [fvI_more (show x * 81 ≤ 729 by omega) z0, ct_more (show x * 81 ≤ 729 by omega) z0] at h
        exact h wi' hL
      · have ihxn := ihx hc
        have loopy := up_ind (P := fun y => ∀ wi', LkM wi wi' (fb_ct f (x * 81 + y * 9)) (fvI f (x * 81 + y * 9)) → Jm 23 [some (.ref 45), some (.int (nI x)), some (.int (nI y)), none] [] (GC ++ (GM ++ r), wi', wl) 0 0) (pl d 1) (fun y hy ihy => by
          intro wi' hL
          have hS' := fr hL
          refine hs 400 23 _ _ _ _ _ ?_
          conv => whnf
          repeat ((first | refine ⟨zH_of _, ?_⟩ | refine ⟨trivial, ?_⟩ | refine ⟨rfl, ?_⟩ | refine ⟨fun hc => absurd hc (by decide), fun _ => ?_⟩ | refine ⟨fun _ => ?_, fun hc => absurd (by decide) hc⟩ | refine ⟨fun _ => ?_, fun hc => absurd hc (by decide)⟩ | refine ⟨fun hc => absurd (by decide) hc, fun _ => ?_⟩); conv => whnf)
          try dsimp only
          refine ⟨1, rfl, by decide, ?_⟩
          rw [mpl hS' (by decide)]
          conv => whnf
          repeat ((first | refine ⟨zH_of _, ?_⟩ | refine ⟨trivial, ?_⟩ | refine ⟨rfl, ?_⟩ | refine ⟨fun hc => absurd hc (by decide), fun _ => ?_⟩ | refine ⟨fun _ => ?_, fun hc => absurd (by decide) hc⟩ | refine ⟨fun _ => ?_, fun hc => absurd hc (by decide)⟩ | refine ⟨fun hc => absurd (by decide) hc, fun _ => ?_⟩); conv => whnf)
          try dsimp only
          rw [ltN (by omega) (by omega)]
          refine ⟨fun hc2 => ?_, fun hc2 => ?_⟩
          · have z0 : ∀ k, x * 81 + y * 9 ≤ k → k < (x + 1) * 81 → f k = false := fun k h1 h2 => by
              rw [← hf]
              exact ck_far (Or.inr (Or.inl (by omega)))
            rw [fvI_more (show x * 81 + y * 9 ≤ (x + 1) * 81 by omega) z0, ct_more (show x * 81 + y * 9 ≤ (x + 1) * 81 by omega) z0] at ihxn
            conv => whnf
            repeat ((first | refine ⟨zH_of _, ?_⟩ | refine ⟨trivial, ?_⟩ | refine ⟨rfl, ?_⟩ | refine ⟨fun hc => absurd hc (by decide), fun _ => ?_⟩ | refine ⟨fun _ => ?_, fun hc => absurd (by decide) hc⟩ | refine ⟨fun _ => ?_, fun hc => absurd hc (by decide)⟩ | refine ⟨fun hc => absurd (by decide) hc, fun _ => ?_⟩); conv => whnf)
            try dsimp only
            rw [nI_add]
            exact ihxn wi' hL
          · have ihyn := ihy hc2
            have loopz := up_ind (P := fun z => ∀ wi', LkM wi wi' (fb_ct f (x * 81 + y * 9 + z)) (fvI f (x * 81 + y * 9 + z)) → Jm 34 [some (.ref 45), some (.int (nI x)), some (.int (nI y)), some (.int (nI z))] [] (GC ++ (GM ++ r), wi', wl) 0 0) (pl d 2) (fun z hz ihz => by
              intro wi' hL
              have hS' := fr hL
              refine hs 400 34 _ _ _ _ _ ?_
              conv => whnf
              repeat ((first | refine ⟨zH_of _, ?_⟩ | refine ⟨trivial, ?_⟩ | refine ⟨rfl, ?_⟩ | refine ⟨fun hc => absurd hc (by decide), fun _ => ?_⟩ | refine ⟨fun _ => ?_, fun hc => absurd (by decide) hc⟩ | refine ⟨fun _ => ?_, fun hc => absurd hc (by decide)⟩ | refine ⟨fun hc => absurd (by decide) hc, fun _ => ?_⟩); conv => whnf)
              try dsimp only
              refine ⟨2, rfl, by decide, ?_⟩
              rw [mpl hS' (by decide)]
              conv => whnf
              repeat ((first | refine ⟨zH_of _, ?_⟩ | refine ⟨trivial, ?_⟩ | refine ⟨rfl, ?_⟩ | refine ⟨fun hc => absurd hc (by decide), fun _ => ?_⟩ | refine ⟨fun _ => ?_, fun hc => absurd (by decide) hc⟩ | refine ⟨fun _ => ?_, fun hc => absurd hc (by decide)⟩ | refine ⟨fun hc => absurd (by decide) hc, fun _ => ?_⟩); conv => whnf)
              try dsimp only
              rw [ltN (by omega) (by omega)]
              refine ⟨fun hc3 => ?_, fun hc3 => ?_⟩
              · have z0 : ∀ k, x * 81 + y * 9 + z ≤ k → k < x * 81 + (y + 1) * 9 → f k = false := fun k h1 h2 => by
                  rw [← hf]
                  exact ck_far (Or.inr (Or.inr (by omega)))
                rw [fvI_more (show x * 81 + y * 9 + z ≤ x * 81 + (y + 1) * 9 by omega) z0, ct_more (show x * 81 + y * 9 + z ≤ x * 81 + (y + 1) * 9 by omega) z0] at ihyn
                conv => whnf
                repeat ((first | refine ⟨zH_of _, ?_⟩ | refine ⟨trivial, ?_⟩ | refine ⟨rfl, ?_⟩ | refine ⟨fun hc => absurd hc (by decide), fun _ => ?_⟩ | refine ⟨fun _ => ?_, fun hc => absurd (by decide) hc⟩ | refine ⟨fun _ => ?_, fun hc => absurd hc (by decide)⟩ | refine ⟨fun hc => absurd (by decide) hc, fun _ => ?_⟩); conv => whnf)
                try dsimp only
                rw [nI_add]
                exact ihyn wi' hL
              · have ihzn := ihz hc3
                have nl := ndN_le d x y z
                have gl : gvN A c x y z % q < q := Nat.mod_lt _ (by omega)
                have gb := gvN_lt (A := A) (c := c) (x := x) (y := y) (z := z) (fun k hk => ⟨ms_A3 hS _ (by omega) _ (by omega), ms_A3 hS _ (by omega) _ (by omega), ms_A3 hS _ (by omega) _ (by omega)⟩)
                have fa := ck_at (d := d) (q := q) (A := A) (c := c) (x := x) (y := y) (z := z) (by omega) (by omega)
                rw [hf, decide_eq_true hc, decide_eq_true hc2, decide_eq_true hc3] at fa
                have fm := fle (x * 81 + y * 9 + z)
                conv => whnf
                repeat ((first | refine ⟨zH_of _, ?_⟩ | refine ⟨trivial, ?_⟩ | refine ⟨rfl, ?_⟩ | refine ⟨fun hc => absurd hc (by decide), fun _ => ?_⟩ | refine ⟨fun _ => ?_, fun hc => absurd (by decide) hc⟩ | refine ⟨fun _ => ?_, fun hc => absurd hc (by decide)⟩ | refine ⟨fun hc => absurd (by decide) hc, fun _ => ?_⟩); conv => whnf)
                try dsimp only
                refine ⟨d, q, c, A, x, y, z, hS', rfl, by omega, rfl, by omega, rfl, by omega, ?_⟩
                conv => whnf
                repeat ((first | refine ⟨zH_of _, ?_⟩ | refine ⟨trivial, ?_⟩ | refine ⟨rfl, ?_⟩ | refine ⟨fun hc => absurd hc (by decide), fun _ => ?_⟩ | refine ⟨fun _ => ?_, fun hc => absurd (by decide) hc⟩ | refine ⟨fun _ => ?_, fun hc => absurd hc (by decide)⟩ | refine ⟨fun hc => absurd (by decide) hc, fun _ => ?_⟩); conv => whnf)
                try dsimp only
                rw [ms_q hS']
                refine ⟨q_n0 q23, ?_⟩
                conv => whnf
                repeat ((first | refine ⟨zH_of _, ?_⟩ | refine ⟨trivial, ?_⟩ | refine ⟨rfl, ?_⟩ | refine ⟨fun hc => absurd hc (by decide), fun _ => ?_⟩ | refine ⟨fun _ => ?_, fun hc => absurd (by decide) hc⟩ | refine ⟨fun _ => ?_, fun hc => absurd hc (by decide)⟩ | refine ⟨fun hc => absurd (by decide) hc, fun _ => ?_⟩); conv => whnf)
                try dsimp only
                refine ⟨d, q, c, A, x, y, z, hS', rfl, by omega, rfl, by omega, rfl, by omega, ?_⟩
                conv => whnf
                repeat ((first | refine ⟨zH_of _, ?_⟩ | refine ⟨trivial, ?_⟩ | refine ⟨rfl, ?_⟩ | refine ⟨fun hc => absurd hc (by decide), fun _ => ?_⟩ | refine ⟨fun _ => ?_, fun hc => absurd (by decide) hc⟩ | refine ⟨fun _ => ?_, fun hc => absurd hc (by decide)⟩ | refine ⟨fun hc => absurd (by decide) hc, fun _ => ?_⟩); conv => whnf)
                try dsimp only
                rw [z_remN (by omega) (by omega) (by omega), nI_eq (by omega) (by omega)]
                refine ⟨fun hq => ?_, fun hq => ?_⟩
                · have ft : f (x * 81 + y * 9 + z) = true := by rw [fa]; simpa using hq
                  have ect : fb_ct f (x * 81 + y * 9 + (z + 1)) = fb_ct f (x * 81 + y * 9 + z) + 1 := ct_t ft
                  rw [ect] at ihzn
                  conv => whnf
                  repeat ((first | refine ⟨zH_of _, ?_⟩ | refine ⟨trivial, ?_⟩ | refine ⟨rfl, ?_⟩ | refine ⟨fun hc => absurd hc (by decide), fun _ => ?_⟩ | refine ⟨fun _ => ?_, fun hc => absurd (by decide) hc⟩ | refine ⟨fun _ => ?_, fun hc => absurd hc (by decide)⟩ | refine ⟨fun hc => absurd (by decide) hc, fun _ => ?_⟩); conv => whnf)
                  try dsimp only
                  rw [hL.2.2.1, eq0N (by omega)]
                  refine ⟨fun hz0 => ?_, fun hz0 => ?_⟩
                  · have k : fi f (x * 81 + y * 9 + z) < x * 81 + y * 9 + z := fi_ct.mpr (by omega)
                    have ev : fvI f (x * 81 + y * 9 + (z + 1)) = fvI f (x * 81 + y * 9 + z) := by
                      unfold fvI
                      rw [if_pos k, show x * 81 + y * 9 + (z + 1) = x * 81 + y * 9 + z + 1 by omega, fi, if_pos k, if_pos (by omega)]
                    rw [ev] at ihzn
                    conv => whnf
                    repeat ((first | refine ⟨zH_of _, ?_⟩ | refine ⟨trivial, ?_⟩ | refine ⟨rfl, ?_⟩ | refine ⟨fun hc => absurd hc (by decide), fun _ => ?_⟩ | refine ⟨fun _ => ?_, fun hc => absurd (by decide) hc⟩ | refine ⟨fun _ => ?_, fun hc => absurd hc (by decide)⟩ | refine ⟨fun hc => absurd (by decide) hc, fun _ => ?_⟩); conv => whnf)
                    try dsimp only
                    rw [hL.2.2.1, nI_add, nI_add]
                    exact ihzn _ ⟨fun y hy => by rw [z_up_ne hy, hL.1 y hy], fun i g1 g2 => by rw [z_up_nei g1, hL.2.1 i g1 g2], z_up_eq, by rw [z_up_nei (by decide)]; exact hL.2.2.2⟩
                  · have hz0 : fb_ct f (x * 81 + y * 9 + z) = 0 := by omega
                    have kn : ∀ j, j < x * 81 + y * 9 + z → ¬ f j = true := fun j hj => by
                      rw [fb_ct_zero.mp hz0 j hj]
                      decide
                    have ek : fi f (x * 81 + y * 9 + (z + 1)) = x * 81 + y * 9 + z := fi_at (by omega) ft kn
                    have ev : fvI f (x * 81 + y * 9 + (z + 1)) = nI (x * 81 + y * 9 + z) := by
                      unfold fvI
                      rw [ek, if_pos (by omega)]
                    rw [ev] at ihzn
                    conv => whnf
                    repeat ((first | refine ⟨zH_of _, ?_⟩ | refine ⟨trivial, ?_⟩ | refine ⟨rfl, ?_⟩ | refine ⟨fun hc => absurd hc (by decide), fun _ => ?_⟩ | refine ⟨fun _ => ?_, fun hc => absurd (by decide) hc⟩ | refine ⟨fun _ => ?_, fun hc => absurd hc (by decide)⟩ | refine ⟨fun hc => absurd (by decide) hc, fun _ => ?_⟩); conv => whnf)
                    try dsimp only
                    rw [pk_mul, pk_mul, nI_add, nI_add, nI_add, z_up_nei (show (17 : Nat) ≠ 18 by decide), hL.2.2.1, nI_add]
                    exact ihzn _ ⟨fun y hy => by rw [z_up_ne hy, z_up_ne hy, hL.1 y hy], fun i g1 g2 => by rw [z_up_nei g1, z_up_nei g2, hL.2.1 i g1 g2], z_up_eq, by rw [z_up_nei (by decide), z_up_eq, Nat.mul_comm 81, Nat.mul_comm 9]⟩
                · have fs : f (x * 81 + y * 9 + z) = false := by rw [fa]; simp [hq]
                  have z0 : ∀ k, x * 81 + y * 9 + z ≤ k → k < x * 81 + y * 9 + (z + 1) → f k = false := fun k h1 h2 => by
                    rw [show k = x * 81 + y * 9 + z by omega]
                    exact fs
                  rw [fvI_more (by omega) z0, ct_more (by omega) z0] at ihzn
                  conv => whnf
                  repeat ((first | refine ⟨zH_of _, ?_⟩ | refine ⟨trivial, ?_⟩ | refine ⟨rfl, ?_⟩ | refine ⟨fun hc => absurd hc (by decide), fun _ => ?_⟩ | refine ⟨fun _ => ?_, fun hc => absurd (by decide) hc⟩ | refine ⟨fun _ => ?_, fun hc => absurd hc (by decide)⟩ | refine ⟨fun hc => absurd (by decide) hc, fun _ => ?_⟩); conv => whnf)
                  try dsimp only
                  rw [nI_add]
                  exact ihzn wi' hL)
            conv => whnf
            repeat ((first | refine ⟨zH_of _, ?_⟩ | refine ⟨trivial, ?_⟩ | refine ⟨rfl, ?_⟩ | refine ⟨fun hc => absurd hc (by decide), fun _ => ?_⟩ | refine ⟨fun _ => ?_, fun hc => absurd (by decide) hc⟩ | refine ⟨fun _ => ?_, fun hc => absurd hc (by decide)⟩ | refine ⟨fun hc => absurd (by decide) hc, fun _ => ?_⟩); conv => whnf)
            try dsimp only
            exact loopz 0 (Nat.zero_le _) wi' hL)
        conv => whnf
        repeat ((first | refine ⟨zH_of _, ?_⟩ | refine ⟨trivial, ?_⟩ | refine ⟨rfl, ?_⟩ | refine ⟨fun hc => absurd hc (by decide), fun _ => ?_⟩ | refine ⟨fun _ => ?_, fun hc => absurd (by decide) hc⟩ | refine ⟨fun _ => ?_, fun hc => absurd hc (by decide)⟩ | refine ⟨fun hc => absurd (by decide) hc, fun _ => ?_⟩); conv => whnf)
        try dsimp only
        exact loopy 0 (Nat.zero_le _) wi' hL)
    refine hs 400 0 _ _ _ _ _ ?_
    conv => whnf
    repeat ((first | refine ⟨zH_of _, ?_⟩ | refine ⟨trivial, ?_⟩ | refine ⟨rfl, ?_⟩ | refine ⟨fun hc => absurd hc (by decide), fun _ => ?_⟩ | refine ⟨fun _ => ?_, fun hc => absurd (by decide) hc⟩ | refine ⟨fun _ => ?_, fun hc => absurd hc (by decide)⟩ | refine ⟨fun hc => absurd (by decide) hc, fun _ => ?_⟩); conv => whnf)
    try dsimp only
    refine loop 0 (Nat.zero_le _) _ ⟨fun y hy => by rw [z_up_ne hy, z_up_ne hy], fun i g1 g2 => by rw [z_up_nei g2, z_up_nei g1], by rw [z_up_nei (by decide), z_up_eq]; rfl, ?_⟩
    rw [z_up_eq]
    rfl

