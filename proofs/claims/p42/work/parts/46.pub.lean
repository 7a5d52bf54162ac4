/-! sums; what is wrong; tables multiplied -/
def su1 (A : Nat → Nat → Nat) (t c : Nat) : Nat := fb_sm (fun i => nzc (A (3 * i + t)) - 1) c
def hsN (A : Nat → Nat → Nat) (c z : Nat) : Nat := fb_ct (fun i => A (3 * i + 2) z == 1) c + fb_ct (fun i => A (3 * i + 2) z == 2) c
def su3 (A : Nat → Nat → Nat) (c n : Nat) : Nat := fb_sm (fun z => hsN A c z - 1) n
theorem less_N {n : Nat} (h : n < 2 ^ 31) : lessF (nI n) = nI (n - 1) := by
  unfold lessF
  by_cases k : 0 < n
  · rw [if_pos (nI_lt k h), pk_sub (by omega)]
  · rw [if_neg (by rw [ltN (by omega) h]; exact k), show n - 1 = 0 by omega]
def st_sums (T : zT) : zT × Int32 := (wTl T (3, t3 (lN (su1 T.2.2.2.1 0 T.2.2.1)) (lN (su1 T.2.2.2.1 1 T.2.2.1)) (lN (su3 T.2.2.2.1 T.2.2.1 (pl T.1 2)))), nI (su1 T.2.2.2.1 0 T.2.2.1 + su1 T.2.2.2.1 1 T.2.2.1 + su3 T.2.2.2.1 T.2.2.1 (pl T.1 2)))
def sp_X11_sums : zSp := fun av w K => match av with
  | [.ref o] => o = 0 ∧ zG w.1 ∧ ∃ T, CT w.2.1 w.2.2 T ∧ ∀ wi' wl', FrC w.2.1 w.2.2 wi' wl' → CT wi' wl' (st_sums T).1 → K (some (.int (st_sums T).2)) (w.1, wi', wl')
  | _ => False
def ckB (d : Nat → Nat) (q : Nat) (A : Nat → Nat → Nat) (c m : Nat) : Bool := decide (m / 81 < pl d 0) && decide (m / 9 % 9 < pl d 1) && decide (m % 9 < pl d 2) && !(gvN A c (m / 81) (m / 9 % 9) (m % 9) % q == ndN d (m / 81) (m / 9 % 9) (m % 9))
theorem ck_at {d : Nat → Nat} {q : Nat} {A : Nat → Nat → Nat} {c x y z : Nat} (hy : y < 9) (hz : z < 9) : ckB d q A c (x * 81 + y * 9 + z) = (decide (x < pl d 0) && decide (y < pl d 1) && decide (z < pl d 2) && !(gvN A c x y z % q == ndN d x y z)) := by
  unfold ckB
  rw [show (x * 81 + y * 9 + z) / 81 = x by omega, show (x * 81 + y * 9 + z) / 9 % 9 = y by omega, show (x * 81 + y * 9 + z) % 9 = z by omega]
theorem ck_far {d : Nat → Nat} {q : Nat} {A : Nat → Nat → Nat} {c m : Nat} (h : pl d 0 ≤ m / 81 ∨ pl d 1 ≤ m / 9 % 9 ∨ pl d 2 ≤ m % 9) : ckB d q A c m = false := by
  cases e : ckB d q A c m with
  | false => rfl
  | true =>
    unfold ckB at e
    simp only [Bool.and_eq_true, decide_eq_true_eq] at e
    omega
theorem fi_more {f : Nat → Bool} {a b : Nat} (h : a ≤ b) (h0 : ∀ k, a ≤ k → k < b → f k = false) : (fi f b < b ↔ fi f a < a) ∧ (fi f a < a → fi f b = fi f a) := by
  by_cases k : fi f a < a
  · have h1 := fi_lt k
    have e : fi f b = fi f a := fi_at (by omega) h1.1 h1.2
    exact ⟨⟨fun _ => k, fun _ => by omega⟩, fun _ => e⟩
  · have h1 := fi_ge k
    have e : fi f b = b := fi_none (fun j hj => by
      rcases Nat.lt_or_ge j a with g | g
      · exact h1 j g
      · rw [h0 j g hj]; decide)
    exact ⟨⟨fun z => by omega, fun z => absurd z k⟩, fun z => absurd z k⟩
theorem fi_ct {f : Nat → Bool} {n : Nat} : fi f n < n ↔ 0 < fb_ct f n := by
  rw [fb_ct_pos]
  constructor
  · intro h
    exact ⟨_, h, (fi_lt h).1⟩
  · rintro ⟨k, h1, h2⟩
    by_cases q : fi f n < n
    · exact q
    · exact absurd h2 (fi_ge q k h1)
/-- the first of some, told: its places, what comes, what is due -/
def fv (g : Nat → Nat → Int64) (f : Nat → Bool) (nn m : Nat) : Nat × (Nat → Int64) := if fi f m < m then (nn, g (fi f m)) else (0, fun _ => 0)
def ckG (d : Nat → Nat) (q : Nat) (A : Nat → Nat → Nat) (c m : Nat) : Nat → Int64 := upL (upL (t3 (lN (m / 81)) (lN (m / 9 % 9)) (lN (m % 9))) 3 (lN (gvN A c (m / 81) (m / 9 % 9) (m % 9) % q))) 4 (lN (ndN d (m / 81) (m / 9 % 9) (m % 9)))
theorem fv_more {g : Nat → Nat → Int64} {f : Nat → Bool} {nn a b : Nat} (h : a ≤ b) (h0 : ∀ k, a ≤ k → k < b → f k = false) : fv g f nn b = fv g f nn a := by
  have k := fi_more h h0
  unfold fv
  by_cases e : fi f a < a
  · rw [if_pos e, if_pos (k.1.mpr e), k.2 e]
  · rw [if_neg e, if_neg (fun z => e (k.1.mp z))]
def st_checks (T : zT) : zT × Int32 := (wTl T (fv (ckG T.1 T.2.1 T.2.2.2.1 T.2.2.1) (ckB T.1 T.2.1 T.2.2.2.1 T.2.2.1) 5 729), nI (fb_ct (ckB T.1 T.2.1 T.2.2.2.1 T.2.2.1) 729))
def sp_X11_checks : zSp := fun av w K => match av with
  | [.ref o] => o = 0 ∧ zG w.1 ∧ ∃ T, CT w.2.1 w.2.2 T ∧ ∀ wi' wl', FrC w.2.1 w.2.2 wi' wl' → CT wi' wl' (st_checks T).1 → K (some (.int (st_checks T).2)) (w.1, wi', wl')
  | _ => False
def rm_X11_checks : Room := { frames := 4, cells := 0, slots := 0, locals := 88 }
def M_X11_checks : zM := (k_X11_checks, f_X11, [(150, 4, 8, 1, 0, 0, sp_X9_clear), (153, 4, 5, 2, 0, 0, sp_X6_places), (157, 4, 5, 4, 0, 0, sp_X6_givenAt), (161, 4, 5, 4, 0, 0, sp_X6_neededAt), (164, 4, 9, 5, 0, 0, sp_X11_tellFirst), (167, 4, 8, 2, 0, 0, sp_X9_add)], ([], [], []), [], [(11, [true, true, true, false, false, false, false]), (25, [true, true, true, true, false, false, false]), (40, [true, true, true, true, true, false, false]), (119, [true, true, true, true, true, false, false]), (122, [true, true, true, true, true, false, false])], 1, false, (false, 0, fun _ => 0), (0, 0, []))
theorem ca_X11_checks_0 (l : Launch) : z_cok l RX11 (headSpec (.code yX11_checks cX11_checks 7 (some .int) :: zTT) rm_X11_checks).room (false, 0, fun _ => 0) (150, 4, 8, 1, 0, 0, sp_X9_clear) := z_ca4 (c_X9_clear l) mb_X9_clear ⟨_, rfl, rfl⟩ wt_429 wt_430 wt_431 (by decide)
theorem ca_X11_checks_1 (l : Launch) : z_cok l RX11 (headSpec (.code yX11_checks cX11_checks 7 (some .int) :: zTT) rm_X11_checks).room (false, 0, fun _ => 0) (153, 4, 5, 2, 0, 0, sp_X6_places) := z_ca4 (c_X6_places l) mb_X6_places ⟨_, rfl, rfl⟩ wt_433 wt_434 wt_435 (by decide)
theorem ca_X11_checks_2 (l : Launch) : z_cok l RX11 (headSpec (.code yX11_checks cX11_checks 7 (some .int) :: zTT) rm_X11_checks).room (false, 0, fun _ => 0) (157, 4, 5, 4, 0, 0, sp_X6_givenAt) := z_ca4 (c_X6_givenAt l) mb_X6_givenAt ⟨_, rfl, rfl⟩ wt_438 wt_439 wt_440 (by decide)
theorem ca_X11_checks_3 (l : Launch) : z_cok l RX11 (headSpec (.code yX11_checks cX11_checks 7 (some .int) :: zTT) rm_X11_checks).room (false, 0, fun _ => 0) (161, 4, 5, 4, 0, 0, sp_X6_neededAt) := z_ca4 (c_X6_neededAt l) mb_X6_neededAt ⟨_, rfl, rfl⟩ wt_449 wt_450 wt_451 (by decide)
theorem ca_X11_checks_4 (l : Launch) : z_cok l RX11 (headSpec (.code yX11_checks cX11_checks 7 (some .int) :: zTT) rm_X11_checks).room (false, 0, fun _ => 0) (164, 4, 9, 5, 0, 0, sp_X11_tellFirst) := z_ca4 (c_X11_tellFirst l) mb_X11_tellFirst ⟨_, rfl, rfl⟩ wt_461 wt_463 wt_7 (by decide)
theorem ca_X11_checks_5 (l : Launch) : z_cok l RX11 (headSpec (.code yX11_checks cX11_checks 7 (some .int) :: zTT) rm_X11_checks).room (false, 0, fun _ => 0) (167, 4, 8, 2, 0, 0, sp_X9_add) := z_ca4 (c_X9_add l) mb_X9_add ⟨_, rfl, rfl⟩ wt_469 wt_470 wt_471 (by decide)
theorem O_X11_checks (l : Launch) : z_OK l RX11 cX11_checks (headSpec (.code yX11_checks cX11_checks 7 (some .int) :: zTT) rm_X11_checks).room M_X11_checks := ⟨ok_X11_checks, fo_X11, List.forall_mem_cons.mpr ⟨ca_X11_checks_0 l, List.forall_mem_cons.mpr ⟨ca_X11_checks_1 l, List.forall_mem_cons.mpr ⟨ca_X11_checks_2 l, List.forall_mem_cons.mpr ⟨ca_X11_checks_3 l, List.forall_mem_cons.mpr ⟨ca_X11_checks_4 l, List.forall_mem_cons.mpr ⟨ca_X11_checks_5 l, fun _ h => absurd h List.not_mem_nil⟩⟩⟩⟩⟩⟩, fun _ h => absurd h List.not_mem_nil, fun _ h => absurd h List.not_mem_nil, fun _ h => absurd h List.not_mem_nil, fun _ h => absurd h List.not_mem_nil, rfl, rfl, fun _ h => absurd h List.not_mem_nil⟩
theorem c_X11_checks (l : Launch) : z_CS l yX11_checks cX11_checks 7 (some .int) rm_X11_checks sp_X11_checks := by
  refine z_meth (by decide) (Or.inr (Or.inl ⟨rfl, rfl⟩)) (fun h => by cases h) rfl (O_X11_checks l) ?_
  intro av w K h
  match av, h with
  | [.ref o], h =>
    obtain ⟨rfl, ⟨r, hG⟩, ⟨d, q, c, A, kp, tx, tl⟩, hC, h⟩ := h
    obtain ⟨G, wi, wl⟩ := w
    subst hG
    try dsimp only at h hC
    unfold st_checks wTl at h
    dsimp only at h
    have hS := ct_S hC
    have h40 := cs_40 hS
    have q23 := cs_q23 hS
    have p0 := pl_le (cs_d hS) (t := 0) (by decide)
    have p1 := pl_le (cs_d hS) (t := 1) (by decide)
    have p2 := pl_le (cs_d hS) (t := 2) (by decide)
    generalize hg : ckG d q A c = g at h
    generalize hf : ckB d q A c = f at h
    have fle : ∀ m, fb_ct f m ≤ m := fb_ct_le f
    refine ⟨Nat.le_of_ble_eq_true rfl, fun Jm hs => ?_⟩
    have loop := up_ind (P := fun x => ∀ (wi' : Nat → Nat → Int32) (wl' : Nat → Nat → Int64), (∀ y, y ≠ 4 → wi' y = wi y) → (∀ y, y ≠ 5 → wl' y = wl y) → TS wi' wl' (fv g f 5 (x * 81)).1 (fv g f 5 (x * 81)).2 → Jm 11 [some (.ref 0), some (.int (nI (fb_ct f (x * 81)))), some (.int (nI x)), none, none, none, none] [] (GC ++ r, wi', wl') 0 0) (pl d 0) (fun x hx ihx => by
      intro wi' wl' hF hL hT
      have hS' : CS wi' 6 d q c A := cs_fr hS (hF 6 (by decide)) (hF 8 (by decide))
      have e := ltN (i := x) (n := pl d 0) (by omega) (by omega)
      rw [← show plF wi' 6 (nI 0) = nI (pl d 0) from pl_S hS' (by decide)] at e
      refine hs 400 11 _ _ _ _ _ ?_
      conv => whnf
      repeat ((first | refine ⟨zG_of _, ?_⟩ | refine ⟨trivial, ?_⟩ | refine ⟨rfl, ?_⟩ | refine ⟨fun hc => absurd hc (by decide), fun _ => ?_⟩ | refine ⟨fun _ => ?_, fun hc => absurd (by decide) hc⟩ | refine ⟨fun _ => ?_, fun hc => absurd hc (by decide)⟩ | refine ⟨fun hc => absurd (by decide) hc, fun _ => ?_⟩); conv => whnf)
      try dsimp only
      refine ⟨fun hc => ?_, fun hc => ?_⟩
      · have hc : ¬ x < pl d 0 := fun k => hc (e.mpr k)
        have z0 : ∀ k, x * 81 ≤ k → k < 729 → f k = false := fun k h1 h2 => by
          rw [← hf]
          exact ck_far (Or.inl (by omega))
        rw [fv_more (show x * 81 ≤ 729 by omega) z0, ct_more (show x * 81 ≤ 729 by omega) z0] at h
        exact ⟨trivial, h wi' wl' (fun y hy => ⟨hF y (by omega), hL y (by omega)⟩) (ct_told hC hF hT)⟩
      · have hc := e.mp hc
        have ihxn := ihx hc
        have loopy := up_ind (P := fun y => ∀ (wi' : Nat → Nat → Int32) (wl' : Nat → Nat → Int64), (∀ y, y ≠ 4 → wi' y = wi y) → (∀ y, y ≠ 5 → wl' y = wl y) → TS wi' wl' (fv g f 5 (x * 81 + y * 9)).1 (fv g f 5 (x * 81 + y * 9)).2 → Jm 25 [some (.ref 0), some (.int (nI (fb_ct f (x * 81 + y * 9)))), some (.int (nI x)), some (.int (nI y)), none, none, none] [] (GC ++ r, wi', wl') 0 0) (pl d 1) (fun y hy ihy => by
          intro wi' wl' hF hL hT
          have hS' : CS wi' 6 d q c A := cs_fr hS (hF 6 (by decide)) (hF 8 (by decide))
          have e := ltN (i := y) (n := pl d 1) (by omega) (by omega)
          rw [← show plF wi' 6 (nI 1) = nI (pl d 1) from pl_S hS' (by decide)] at e
          refine hs 400 25 _ _ _ _ _ ?_
          conv => whnf
          repeat ((first | refine ⟨zG_of _, ?_⟩ | refine ⟨trivial, ?_⟩ | refine ⟨rfl, ?_⟩ | refine ⟨fun hc => absurd hc (by decide), fun _ => ?_⟩ | refine ⟨fun _ => ?_, fun hc => absurd (by decide) hc⟩ | refine ⟨fun _ => ?_, fun hc => absurd hc (by decide)⟩ | refine ⟨fun hc => absurd (by decide) hc, fun _ => ?_⟩); conv => whnf)
          try dsimp only
          refine ⟨fun hc2 => ?_, fun hc2 => ?_⟩
          · have hc2 : ¬ y < pl d 1 := fun k => hc2 (e.mpr k)
            have z0 : ∀ k, x * 81 + y * 9 ≤ k → k < (x + 1) * 81 → f k = false := fun k h1 h2 => by
              rw [← hf]
              exact ck_far (Or.inr (Or.inl (by omega)))
            rw [fv_more (show x * 81 + y * 9 ≤ (x + 1) * 81 by omega) z0, ct_more (show x * 81 + y * 9 ≤ (x + 1) * 81 by omega) z0] at ihxn
            conv => whnf
            repeat ((first | refine ⟨zG_of _, ?_⟩ | refine ⟨trivial, ?_⟩ | refine ⟨rfl, ?_⟩ | refine ⟨fun hc => absurd hc (by decide), fun _ => ?_⟩ | refine ⟨fun _ => ?_, fun hc => absurd (by decide) hc⟩ | refine ⟨fun _ => ?_, fun hc => absurd hc (by decide)⟩ | refine ⟨fun hc => absurd (by decide) hc, fun _ => ?_⟩); conv => whnf)
            try dsimp only
            rw [nI_add]
            exact ihxn wi' wl' hF hL hT
          · have hc2 := e.mp hc2
            have ihyn := ihy hc2
            have loopz := up_ind (P := fun z => ∀ (wi' : Nat → Nat → Int32) (wl' : Nat → Nat → Int64), (∀ y, y ≠ 4 → wi' y = wi y) → (∀ y, y ≠ 5 → wl' y = wl y) → TS wi' wl' (fv g f 5 (x * 81 + y * 9 + z)).1 (fv g f 5 (x * 81 + y * 9 + z)).2 → Jm 40 [some (.ref 0), some (.int (nI (fb_ct f (x * 81 + y * 9 + z)))), some (.int (nI x)), some (.int (nI y)), some (.int (nI z)), none, none] [] (GC ++ r, wi', wl') 0 0) (pl d 2) (fun z hz ihz => by
              intro wi' wl' hF hL hT
              have hS' : CS wi' 6 d q c A := cs_fr hS (hF 6 (by decide)) (hF 8 (by decide))
              have e := ltN (i := z) (n := pl d 2) (by omega) (by omega)
              rw [← show plF wi' 6 (nI 2) = nI (pl d 2) from pl_S hS' (by decide)] at e
              refine hs 400 40 _ _ _ _ _ ?_
              conv => whnf
              repeat ((first | refine ⟨zG_of _, ?_⟩ | refine ⟨trivial, ?_⟩ | refine ⟨rfl, ?_⟩ | refine ⟨fun hc => absurd hc (by decide), fun _ => ?_⟩ | refine ⟨fun _ => ?_, fun hc => absurd (by decide) hc⟩ | refine ⟨fun _ => ?_, fun hc => absurd hc (by decide)⟩ | refine ⟨fun hc => absurd (by decide) hc, fun _ => ?_⟩); conv => whnf)
              try dsimp only
              refine ⟨fun hc3 => ?_, fun hc3 => ?_⟩
              · have hc3 : ¬ z < pl d 2 := fun k => hc3 (e.mpr k)
                have z0 : ∀ k, x * 81 + y * 9 + z ≤ k → k < x * 81 + (y + 1) * 9 → f k = false := fun k h1 h2 => by
                  rw [← hf]
                  exact ck_far (Or.inr (Or.inr (by omega)))
                rw [fv_more (show x * 81 + y * 9 + z ≤ x * 81 + (y + 1) * 9 by omega) z0, ct_more (show x * 81 + y * 9 + z ≤ x * 81 + (y + 1) * 9 by omega) z0] at ihyn
                conv => whnf
                repeat ((first | refine ⟨zG_of _, ?_⟩ | refine ⟨trivial, ?_⟩ | refine ⟨rfl, ?_⟩ | refine ⟨fun hc => absurd hc (by decide), fun _ => ?_⟩ | refine ⟨fun _ => ?_, fun hc => absurd (by decide) hc⟩ | refine ⟨fun _ => ?_, fun hc => absurd hc (by decide)⟩ | refine ⟨fun hc => absurd (by decide) hc, fun _ => ?_⟩); conv => whnf)
                try dsimp only
                rw [nI_add]
                exact ihyn wi' wl' hF hL hT
              · have hc3 := e.mp hc3
                have ihzn := ihz hc3
                have en := need_S hS' (show x < 9 by omega) (show y < 9 by omega) (show z < 9 by omega)
                have nl := ndN_le d x y z
                have gl : gvN A c x y z % q < q := Nat.mod_lt _ (by omega)
                have fa := ck_at (d := d) (q := q) (A := A) (c := c) (x := x) (y := y) (z := z) (by omega) (by omega)
                rw [hf, decide_eq_true hc, decide_eq_true hc2, decide_eq_true hc3] at fa
                have fm := fle (x * 81 + y * 9 + z)
                conv => whnf
                repeat ((first | refine ⟨zG_of _, ?_⟩ | refine ⟨trivial, ?_⟩ | refine ⟨rfl, ?_⟩ | refine ⟨fun hc => absurd hc (by decide), fun _ => ?_⟩ | refine ⟨fun _ => ?_, fun hc => absurd (by decide) hc⟩ | refine ⟨fun _ => ?_, fun hc => absurd hc (by decide)⟩ | refine ⟨fun hc => absurd (by decide) hc, fun _ => ?_⟩); conv => whnf)
                try dsimp only
                refine ⟨Or.inl rfl, zG_of _, d, q, c, A, x, y, z, hS', rfl, by omega, rfl, by omega, rfl, by omega, ?_⟩
                conv => whnf
                repeat ((first | refine ⟨zG_of _, ?_⟩ | refine ⟨trivial, ?_⟩ | refine ⟨rfl, ?_⟩ | refine ⟨fun hc => absurd hc (by decide), fun _ => ?_⟩ | refine ⟨fun _ => ?_, fun hc => absurd (by decide) hc⟩ | refine ⟨fun _ => ?_, fun hc => absurd hc (by decide)⟩ | refine ⟨fun hc => absurd (by decide) hc, fun _ => ?_⟩); conv => whnf)
                try dsimp only
                rw [en, nI_eq (by omega) (by omega)]
                refine ⟨fun hq => ?_, fun hq => ?_⟩
                · have fs : f (x * 81 + y * 9 + z) = false := by rw [fa]; simp [hq]
                  have z0 : ∀ k, x * 81 + y * 9 + z ≤ k → k < x * 81 + y * 9 + (z + 1) → f k = false := fun k h1 h2 => by
                    rw [show k = x * 81 + y * 9 + z by omega]
                    exact fs
                  rw [fv_more (by omega) z0, ct_more (by omega) z0] at ihzn
                  conv => whnf
                  repeat ((first | refine ⟨zG_of _, ?_⟩ | refine ⟨trivial, ?_⟩ | refine ⟨rfl, ?_⟩ | refine ⟨fun hc => absurd hc (by decide), fun _ => ?_⟩ | refine ⟨fun _ => ?_, fun hc => absurd (by decide) hc⟩ | refine ⟨fun _ => ?_, fun hc => absurd hc (by decide)⟩ | refine ⟨fun hc => absurd (by decide) hc, fun _ => ?_⟩); conv => whnf)
                  try dsimp only
                  refine hs 400 122 _ _ _ _ _ ?_
                  conv => whnf
                  repeat ((first | refine ⟨zG_of _, ?_⟩ | refine ⟨trivial, ?_⟩ | refine ⟨rfl, ?_⟩ | refine ⟨fun hc => absurd hc (by decide), fun _ => ?_⟩ | refine ⟨fun _ => ?_, fun hc => absurd (by decide) hc⟩ | refine ⟨fun _ => ?_, fun hc => absurd hc (by decide)⟩ | refine ⟨fun hc => absurd (by decide) hc, fun _ => ?_⟩); conv => whnf)
                  try dsimp only
                  rw [nI_add]
                  exact ihzn wi' wl' hF hL hT
                · have ft : f (x * 81 + y * 9 + z) = true := by rw [fa]; simpa using hq
                  have ect : fb_ct f (x * 81 + y * 9 + (z + 1)) = fb_ct f (x * 81 + y * 9 + z) + 1 := ct_t ft
                  rw [ect] at ihzn
                  conv => whnf
                  repeat ((first | refine ⟨zG_of _, ?_⟩ | refine ⟨trivial, ?_⟩ | refine ⟨rfl, ?_⟩ | refine ⟨fun hc => absurd hc (by decide), fun _ => ?_⟩ | refine ⟨fun _ => ?_, fun hc => absurd (by decide) hc⟩ | refine ⟨fun _ => ?_, fun hc => absurd hc (by decide)⟩ | refine ⟨fun hc => absurd (by decide) hc, fun _ => ?_⟩); conv => whnf)
                  try dsimp only
                  refine ⟨fun hz0 => ?_, fun hz0 => ?_⟩
                  · rw [eq0N (by omega)] at hz0
                    have k : fi f (x * 81 + y * 9 + z) < x * 81 + y * 9 + z := fi_ct.mpr (by omega)
                    have ev : fv g f 5 (x * 81 + y * 9 + (z + 1)) = fv g f 5 (x * 81 + y * 9 + z) := by
                      unfold fv
                      rw [if_pos k, show x * 81 + y * 9 + (z + 1) = x * 81 + y * 9 + z + 1 by omega, fi, if_pos k, if_pos (by omega)]
                    rw [ev] at ihzn
                    conv => whnf
                    repeat ((first | refine ⟨zG_of _, ?_⟩ | refine ⟨trivial, ?_⟩ | refine ⟨rfl, ?_⟩ | refine ⟨fun hc => absurd hc (by decide), fun _ => ?_⟩ | refine ⟨fun _ => ?_, fun hc => absurd (by decide) hc⟩ | refine ⟨fun _ => ?_, fun hc => absurd hc (by decide)⟩ | refine ⟨fun hc => absurd (by decide) hc, fun _ => ?_⟩); conv => whnf)
                    try dsimp only
                    rw [eq0N (by omega)]
                    refine ⟨fun _ => ?_, fun q => absurd q hz0⟩
                    conv => whnf
                    repeat ((first | refine ⟨zG_of _, ?_⟩ | refine ⟨trivial, ?_⟩ | refine ⟨rfl, ?_⟩ | refine ⟨fun hc => absurd hc (by decide), fun _ => ?_⟩ | refine ⟨fun _ => ?_, fun hc => absurd (by decide) hc⟩ | refine ⟨fun _ => ?_, fun hc => absurd hc (by decide)⟩ | refine ⟨fun hc => absurd (by decide) hc, fun _ => ?_⟩); conv => whnf)
                    try dsimp only
                    refine hs 400 119 _ _ _ _ _ ?_
                    conv => whnf
                    repeat ((first | refine ⟨zG_of _, ?_⟩ | refine ⟨trivial, ?_⟩ | refine ⟨rfl, ?_⟩ | refine ⟨fun hc => absurd hc (by decide), fun _ => ?_⟩ | refine ⟨fun _ => ?_, fun hc => absurd (by decide) hc⟩ | refine ⟨fun _ => ?_, fun hc => absurd hc (by decide)⟩ | refine ⟨fun hc => absurd (by decide) hc, fun _ => ?_⟩); conv => whnf)
                    try dsimp only
                    refine hs 400 122 _ _ _ _ _ ?_
                    conv => whnf
                    repeat ((first | refine ⟨zG_of _, ?_⟩ | refine ⟨trivial, ?_⟩ | refine ⟨rfl, ?_⟩ | refine ⟨fun hc => absurd hc (by decide), fun _ => ?_⟩ | refine ⟨fun _ => ?_, fun hc => absurd (by decide) hc⟩ | refine ⟨fun _ => ?_, fun hc => absurd hc (by decide)⟩ | refine ⟨fun hc => absurd (by decide) hc, fun _ => ?_⟩); conv => whnf)
                    try dsimp only
                    rw [nI_add, nI_add]
                    exact ihzn wi' wl' hF hL hT
                  · rw [eq0N (by omega)] at hz0
                    intro wi1 wl1 hF1 hL1 hT1
                    rw [nI_l (by omega), nI_l (by omega), nI_l (by omega)] at hT1
                    have kn : ∀ j, j < x * 81 + y * 9 + z → ¬ f j = true := fun j hj => by
                      rw [fb_ct_zero.mp hz0 j hj]
                      decide
                    have ek : fi f (x * 81 + y * 9 + (z + 1)) = x * 81 + y * 9 + z := fi_at (by omega) ft kn
                    have ev : fv g f 5 (x * 81 + y * 9 + (z + 1)) = (5, g (x * 81 + y * 9 + z)) := by
                      unfold fv
                      rw [ek, if_pos (by omega)]
                    rw [ev] at ihzn
                    conv => whnf
                    repeat ((first | refine ⟨zG_of _, ?_⟩ | refine ⟨trivial, ?_⟩ | refine ⟨rfl, ?_⟩ | refine ⟨fun hc => absurd hc (by decide), fun _ => ?_⟩ | refine ⟨fun _ => ?_, fun hc => absurd (by decide) hc⟩ | refine ⟨fun _ => ?_, fun hc => absurd hc (by decide)⟩ | refine ⟨fun hc => absurd (by decide) hc, fun _ => ?_⟩); conv => whnf)
                    try dsimp only
                    rw [eq0N (by omega)]
                    refine ⟨fun q => absurd hz0 q, fun _ => ?_⟩
                    conv => whnf
                    repeat ((first | refine ⟨zG_of _, ?_⟩ | refine ⟨trivial, ?_⟩ | refine ⟨rfl, ?_⟩ | refine ⟨fun hc => absurd hc (by decide), fun _ => ?_⟩ | refine ⟨fun _ => ?_, fun hc => absurd (by decide) hc⟩ | refine ⟨fun _ => ?_, fun hc => absurd hc (by decide)⟩ | refine ⟨fun hc => absurd (by decide) hc, fun _ => ?_⟩); conv => whnf)
                    try dsimp only
                    rw [nI_l (by omega)]
                    refine ⟨3, _, hT1, by decide, fun wi2 wl2 hF2 hL2 hT2 => ?_⟩
                    conv => whnf
                    repeat ((first | refine ⟨zG_of _, ?_⟩ | refine ⟨trivial, ?_⟩ | refine ⟨rfl, ?_⟩ | refine ⟨fun hc => absurd hc (by decide), fun _ => ?_⟩ | refine ⟨fun _ => ?_, fun hc => absurd (by decide) hc⟩ | refine ⟨fun _ => ?_, fun hc => absurd hc (by decide)⟩ | refine ⟨fun hc => absurd (by decide) hc, fun _ => ?_⟩); conv => whnf)
                    try dsimp only
                    rw [nI_l (by omega)]
                    refine ⟨4, _, hT2, by decide, fun wi3 wl3 hF3 hL3 hT3 => ?_⟩
                    conv => whnf
                    repeat ((first | refine ⟨zG_of _, ?_⟩ | refine ⟨trivial, ?_⟩ | refine ⟨rfl, ?_⟩ | refine ⟨fun hc => absurd hc (by decide), fun _ => ?_⟩ | refine ⟨fun _ => ?_, fun hc => absurd (by decide) hc⟩ | refine ⟨fun _ => ?_, fun hc => absurd hc (by decide)⟩ | refine ⟨fun hc => absurd (by decide) hc, fun _ => ?_⟩); conv => whnf)
                    try dsimp only
                    refine hs 400 119 _ _ _ _ _ ?_
                    conv => whnf
                    repeat ((first | refine ⟨zG_of _, ?_⟩ | refine ⟨trivial, ?_⟩ | refine ⟨rfl, ?_⟩ | refine ⟨fun hc => absurd hc (by decide), fun _ => ?_⟩ | refine ⟨fun _ => ?_, fun hc => absurd (by decide) hc⟩ | refine ⟨fun _ => ?_, fun hc => absurd hc (by decide)⟩ | refine ⟨fun hc => absurd (by decide) hc, fun _ => ?_⟩); conv => whnf)
                    try dsimp only
                    refine hs 400 122 _ _ _ _ _ ?_
                    conv => whnf
                    repeat ((first | refine ⟨zG_of _, ?_⟩ | refine ⟨trivial, ?_⟩ | refine ⟨rfl, ?_⟩ | refine ⟨fun hc => absurd hc (by decide), fun _ => ?_⟩ | refine ⟨fun _ => ?_, fun hc => absurd (by decide) hc⟩ | refine ⟨fun _ => ?_, fun hc => absurd hc (by decide)⟩ | refine ⟨fun hc => absurd (by decide) hc, fun _ => ?_⟩); conv => whnf)
                    try dsimp only
                    rw [nI_add, nI_add]
                    refine ihzn wi3 wl3 (fun y hy => by rw [hF3 y hy, hF2 y hy, hF1 y hy, hF y hy]) (fun y hy => by rw [hL3 y hy, hL2 y hy, hL1 y hy, hL y hy]) ?_
                    rw [← hg]
                    unfold ckG
                    rw [show (x * 81 + y * 9 + z) / 81 = x by omega, show (x * 81 + y * 9 + z) / 9 % 9 = y by omega, show (x * 81 + y * 9 + z) % 9 = z by omega]
                    exact hT3)
            conv => whnf
            repeat ((first | refine ⟨zG_of _, ?_⟩ | refine ⟨trivial, ?_⟩ | refine ⟨rfl, ?_⟩ | refine ⟨fun hc => absurd hc (by decide), fun _ => ?_⟩ | refine ⟨fun _ => ?_, fun hc => absurd (by decide) hc⟩ | refine ⟨fun _ => ?_, fun hc => absurd hc (by decide)⟩ | refine ⟨fun hc => absurd (by decide) hc, fun _ => ?_⟩); conv => whnf)
            try dsimp only
            exact loopz 0 (Nat.zero_le _) wi' wl' hF hL hT)
        conv => whnf
        repeat ((first | refine ⟨zG_of _, ?_⟩ | refine ⟨trivial, ?_⟩ | refine ⟨rfl, ?_⟩ | refine ⟨fun hc => absurd hc (by decide), fun _ => ?_⟩ | refine ⟨fun _ => ?_, fun hc => absurd (by decide) hc⟩ | refine ⟨fun _ => ?_, fun hc => absurd hc (by decide)⟩ | refine ⟨fun hc => absurd (by decide) hc, fun _ => ?_⟩); conv => whnf)
        try dsimp only
        exact loopy 0 (Nat.zero_le _) wi' wl' hF hL hT)
    refine hs 400 0 _ _ _ _ _ ?_
    conv => whnf
    repeat ((first | refine ⟨zG_of _, ?_⟩ | refine ⟨trivial, ?_⟩ | refine ⟨rfl, ?_⟩ | refine ⟨fun hc => absurd hc (by decide), fun _ => ?_⟩ | refine ⟨fun _ => ?_, fun hc => absurd (by decide) hc⟩ | refine ⟨fun _ => ?_, fun hc => absurd hc (by decide)⟩ | refine ⟨fun hc => absurd (by decide) hc, fun _ => ?_⟩); conv => whnf)
    try dsimp only
    intro wi1 hF1 hT1
    have l0 := loop 0 (Nat.zero_le _) wi1 wl hF1 (fun _ _ => rfl) hT1
    rw [Nat.zero_mul] at l0
    conv => whnf
    repeat ((first | refine ⟨zG_of _, ?_⟩ | refine ⟨trivial, ?_⟩ | refine ⟨rfl, ?_⟩ | refine ⟨fun hc => absurd hc (by decide), fun _ => ?_⟩ | refine ⟨fun _ => ?_, fun hc => absurd (by decide) hc⟩ | refine ⟨fun _ => ?_, fun hc => absurd hc (by decide)⟩ | refine ⟨fun hc => absurd (by decide) hc, fun _ => ?_⟩); conv => whnf)
    try dsimp only
    exact l0

