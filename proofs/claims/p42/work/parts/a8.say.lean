/-! a String told to the class -/
def sp_L_say : zSp := fun av w K => match av with
  | [.ref o, .ref u] => o = 0 ∧ zG w.1 ∧ ∃ (T : zT) (v n : Nat) (f : Nat → Nat), CT w.2.1 w.2.2 T ∧ T.2.2.2.2.2.1.1 = 0 ∧ 45 ≤ u ∧ 45 ≤ v ∧ STv w u v n f ∧ n ≤ 150 ∧ ∀ wi' wl' x, FrC w.2.1 w.2.2 wi' wl' → CT wi' wl' (setTx T n x) → (∀ k, k < n → x k = f k) → K none (w.1, wi', wl')
  | _ => False
def rm_L_say : Room := { frames := 4, cells := 0, slots := 0, locals := 85 }
def M_L_say : zM := (k_L_say, [], [(7, 4, 10, 1, 0, 0, sp_J0_length_8abf5), (13, 4, 10, 2, 0, 0, sp_J0_charAt_5068e), (17, 4, 9, 2, 0, 0, sp_X11_sign), (23, 4, 9, 2, 0, 0, sp_X11_end)], ([], [], []), [], [(2, [true, true, true, false, false]), (15, [true, true, true, true, true])], 0, false, (false, 0, fun _ => 0), (0, 0, []))
theorem ca_L_say_0 (l : Launch) : z_cok l RL (headSpec (.code yL_say cL_say 5 none :: zTT) rm_L_say).room (false, 0, fun _ => 0) (7, 4, 10, 1, 0, 0, sp_J0_length_8abf5) := z_ca4 (c_J0_length_8abf5 l) mb_J0_length_8abf5 ⟨_, rfl, rfl⟩ wt_956 wt_957 wt_958 (by decide)
theorem ca_L_say_1 (l : Launch) : z_cok l RL (headSpec (.code yL_say cL_say 5 none :: zTT) rm_L_say).room (false, 0, fun _ => 0) (13, 4, 10, 2, 0, 0, sp_J0_charAt_5068e) := z_ca4 (c_J0_charAt_5068e l) mb_J0_charAt_5068e ⟨_, rfl, rfl⟩ wt_966 wt_967 wt_968 (by decide)
theorem ca_L_say_2 (l : Launch) : z_cok l RL (headSpec (.code yL_say cL_say 5 none :: zTT) rm_L_say).room (false, 0, fun _ => 0) (17, 4, 9, 2, 0, 0, sp_X11_sign) := z_ca4 (c_X11_sign l) mb_X11_sign ⟨_, rfl, rfl⟩ wt_1004 wt_1005 wt_1006 (by decide)
theorem ca_L_say_3 (l : Launch) : z_cok l RL (headSpec (.code yL_say cL_say 5 none :: zTT) rm_L_say).room (false, 0, fun _ => 0) (23, 4, 9, 2, 0, 0, sp_X11_end) := z_ca4 (c_X11_end l) mb_X11_end ⟨_, rfl, rfl⟩ wt_1012 wt_1013 wt_1014 (by decide)
theorem O_L_say (l : Launch) : z_OK l RL cL_say (headSpec (.code yL_say cL_say 5 none :: zTT) rm_L_say).room M_L_say := ⟨ok_L_say, fun _ h => absurd h List.not_mem_nil, List.forall_mem_cons.mpr ⟨ca_L_say_0 l, List.forall_mem_cons.mpr ⟨ca_L_say_1 l, List.forall_mem_cons.mpr ⟨ca_L_say_2 l, List.forall_mem_cons.mpr ⟨ca_L_say_3 l, fun _ h => absurd h List.not_mem_nil⟩⟩⟩⟩, fun _ h => absurd h List.not_mem_nil, fun _ h => absurd h List.not_mem_nil, fun _ h => absurd h List.not_mem_nil, fun _ h => absurd h List.not_mem_nil, rfl, rfl, fun _ h => absurd h List.not_mem_nil⟩
theorem FrC_tr {wi wi1 wi2 : Nat → Nat → Int32} {wl wl1 wl2 : Nat → Nat → Int64} (h1 : FrC wi wl wi1 wl1) (h2 : FrC wi1 wl1 wi2 wl2) : FrC wi wl wi2 wl2 := fun y hy => ⟨(h2 y hy).1.trans (h1 y hy).1, (h2 y hy).2.trans (h1 y hy).2⟩
theorem c_L_say (l : Launch) : z_CS l yL_say cL_say 5 none rm_L_say sp_L_say := by
  refine z_meth (by decide) (Or.inl ⟨rfl, rfl⟩) (fun h => by cases h) rfl (O_L_say l) ?_
  intro av w K h
  match av, h with
  | [.ref (o : Nat), .ref (u : Nat)], h =>
    obtain ⟨rfl, ⟨r, hG⟩, T, v, n, f, hC, hT, hu, hv, hS, hn, h⟩ := h
    obtain ⟨G, wi, wl⟩ := w
    dsimp only at hG
    subst hG
    dsimp only at hC h
    refine ⟨Nat.le_of_ble_eq_true rfl, fun Jm hs => ?_⟩
    have hU : z_nth (GC ++ r) u = some (.inl (10, [some (some v), none, none, none])) := hS.1
    have hf : ∀ k, k < n → f k < 128 := fun k hk => (hS.2.2.2.2.1 k hk).2
    have st : ∀ wi1 wl1, FrC wi wl wi1 wl1 → STv (GC ++ r, wi1, wl1) u v n f := fun wi1 wl1 hF => st_ext hS (frc_ext hF) hu hv
    obtain ⟨fp, hfp⟩ : ∃ fp : Nat → Nat, ∀ k, fp k = if k < n then f k else 0 := ⟨fun k => if k < n then f k else 0, fun _ => rfl⟩
    have hfl : ∀ k, fp k < 256 := fun k => by
      rw [hfp]
      split
      · have := hf k (by assumption); omega
      · decide
    have loop : ∀ (m j : Nat) (wi1 : Nat → Nat → Int32) (wl1 : Nat → Nat → Int64) (x : Nat → Nat), n ≤ 4 * j + 4 * m → 4 * j ≤ n + 3 → FrC wi wl wi1 wl1 → CT wi1 wl1 (setTx T (4 * j) x) → (∀ k, k < 4 * j → x k = fp k) → Jm 2 [some (.ref 0), some (.ref u), some (.int (nI (4 * j))), none, none] [] (GC ++ r, wi1, wl1) 0 0 := by
      intro m
      induction m with
      | zero =>
        intro j wi1 wl1 x h1 h2 hF hC1 hx
        refine hs 400 2 _ _ _ _ _ ?_
        conv => whnf
        repeat ((first | rw [rcv4 hU] | refine ⟨trivial, ?_⟩ | refine ⟨rfl, ?_⟩ | refine ⟨fun hc => absurd hc (by decide), fun _ => ?_⟩ | refine ⟨fun _ => ?_, fun hc => absurd (by decide) hc⟩ | refine ⟨fun _ => ?_, fun hc => absurd hc (by decide)⟩ | refine ⟨fun hc => absurd (by decide) hc, fun _ => ?_⟩ | refine ⟨Or.inr rfl, ?_⟩ | refine ⟨Or.inl rfl, ?_⟩ | refine ⟨fun hq => absurd (by assumption) hq, fun _ => ?_⟩ | refine ⟨fun _ => ?_, fun hq => absurd (by assumption) hq⟩ | refine ⟨fun hq => absurd hq (by assumption), fun _ => ?_⟩ | refine ⟨fun _ => ?_, fun hq => absurd hq (by assumption)⟩); conv => whnf)
        try dsimp only
        refine ⟨n, f, ⟨v, st wi1 wl1 hF⟩, ?_⟩
        conv => whnf
        repeat ((first | refine ⟨zG_of _, ?_⟩ | refine ⟨trivial, ?_⟩ | refine ⟨rfl, ?_⟩ | refine ⟨fun hc => absurd hc (by decide), fun _ => ?_⟩ | refine ⟨fun _ => ?_, fun hc => absurd (by decide) hc⟩ | refine ⟨fun _ => ?_, fun hc => absurd hc (by decide)⟩ | refine ⟨fun hc => absurd (by decide) hc, fun _ => ?_⟩); conv => whnf)
        try dsimp only
        refine ⟨fun _ => ?_, fun hc => absurd hc (nI_nlt (by omega) (by omega))⟩
        conv => whnf
        repeat ((first | rw [rcv4 hU] | refine ⟨trivial, ?_⟩ | refine ⟨rfl, ?_⟩ | refine ⟨fun hc => absurd hc (by decide), fun _ => ?_⟩ | refine ⟨fun _ => ?_, fun hc => absurd (by decide) hc⟩ | refine ⟨fun _ => ?_, fun hc => absurd hc (by decide)⟩ | refine ⟨fun hc => absurd (by decide) hc, fun _ => ?_⟩ | refine ⟨Or.inr rfl, ?_⟩ | refine ⟨Or.inl rfl, ?_⟩ | refine ⟨fun hq => absurd (by assumption) hq, fun _ => ?_⟩ | refine ⟨fun _ => ?_, fun hq => absurd (by assumption) hq⟩ | refine ⟨fun hq => absurd hq (by assumption), fun _ => ?_⟩ | refine ⟨fun _ => ?_, fun hq => absurd hq (by assumption)⟩); conv => whnf)
        try dsimp only
        refine ⟨n, f, ⟨v, st wi1 wl1 hF⟩, ?_⟩
        conv => whnf
        repeat ((first | refine ⟨zG_of _, ?_⟩ | refine ⟨trivial, ?_⟩ | refine ⟨rfl, ?_⟩ | refine ⟨fun hc => absurd hc (by decide), fun _ => ?_⟩ | refine ⟨fun _ => ?_, fun hc => absurd (by decide) hc⟩ | refine ⟨fun _ => ?_, fun hc => absurd hc (by decide)⟩ | refine ⟨fun hc => absurd (by decide) hc, fun _ => ?_⟩); conv => whnf)
        try dsimp only
        refine ⟨_, hC1, fun wi2 wl2 hF2 hC2 => ?_⟩
        conv => whnf
        repeat ((first | refine ⟨zG_of _, ?_⟩ | refine ⟨trivial, ?_⟩ | refine ⟨rfl, ?_⟩ | refine ⟨fun hc => absurd hc (by decide), fun _ => ?_⟩ | refine ⟨fun _ => ?_, fun hc => absurd (by decide) hc⟩ | refine ⟨fun _ => ?_, fun hc => absurd hc (by decide)⟩ | refine ⟨fun hc => absurd (by decide) hc, fun _ => ?_⟩); conv => whnf)
        try dsimp only
        rw [end_eq _ _ (by omega) (by omega)] at hC2
        exact h wi2 wl2 x (FrC_tr hF hF2) hC2 (fun k hk => by rw [hx k (by omega), hfp, if_pos hk])
      | succ m ih =>
        intro j wi1 wl1 x h1 h2 hF hC1 hx
        refine hs 400 2 _ _ _ _ _ ?_
        conv => whnf
        repeat ((first | rw [rcv4 hU] | refine ⟨trivial, ?_⟩ | refine ⟨rfl, ?_⟩ | refine ⟨fun hc => absurd hc (by decide), fun _ => ?_⟩ | refine ⟨fun _ => ?_, fun hc => absurd (by decide) hc⟩ | refine ⟨fun _ => ?_, fun hc => absurd hc (by decide)⟩ | refine ⟨fun hc => absurd (by decide) hc, fun _ => ?_⟩ | refine ⟨Or.inr rfl, ?_⟩ | refine ⟨Or.inl rfl, ?_⟩ | refine ⟨fun hq => absurd (by assumption) hq, fun _ => ?_⟩ | refine ⟨fun _ => ?_, fun hq => absurd (by assumption) hq⟩ | refine ⟨fun hq => absurd hq (by assumption), fun _ => ?_⟩ | refine ⟨fun _ => ?_, fun hq => absurd hq (by assumption)⟩); conv => whnf)
        try dsimp only
        refine ⟨n, f, ⟨v, st wi1 wl1 hF⟩, ?_⟩
        conv => whnf
        repeat ((first | refine ⟨zG_of _, ?_⟩ | refine ⟨trivial, ?_⟩ | refine ⟨rfl, ?_⟩ | refine ⟨fun hc => absurd hc (by decide), fun _ => ?_⟩ | refine ⟨fun _ => ?_, fun hc => absurd (by decide) hc⟩ | refine ⟨fun _ => ?_, fun hc => absurd hc (by decide)⟩ | refine ⟨fun hc => absurd (by decide) hc, fun _ => ?_⟩); conv => whnf)
        try dsimp only
        refine ⟨fun hc => ?_, fun hc => ?_⟩
        · rw [ltN (by omega) (by omega)] at hc
          conv => whnf
          repeat ((first | rw [rcv4 hU] | refine ⟨trivial, ?_⟩ | refine ⟨rfl, ?_⟩ | refine ⟨fun hc => absurd hc (by decide), fun _ => ?_⟩ | refine ⟨fun _ => ?_, fun hc => absurd (by decide) hc⟩ | refine ⟨fun _ => ?_, fun hc => absurd hc (by decide)⟩ | refine ⟨fun hc => absurd (by decide) hc, fun _ => ?_⟩ | refine ⟨Or.inr rfl, ?_⟩ | refine ⟨Or.inl rfl, ?_⟩ | refine ⟨fun hq => absurd (by assumption) hq, fun _ => ?_⟩ | refine ⟨fun _ => ?_, fun hq => absurd (by assumption) hq⟩ | refine ⟨fun hq => absurd hq (by assumption), fun _ => ?_⟩ | refine ⟨fun _ => ?_, fun hq => absurd hq (by assumption)⟩); conv => whnf)
          try dsimp only
          refine ⟨n, f, ⟨v, st wi1 wl1 hF⟩, ?_⟩
          conv => whnf
          repeat ((first | refine ⟨zG_of _, ?_⟩ | refine ⟨trivial, ?_⟩ | refine ⟨rfl, ?_⟩ | refine ⟨fun hc => absurd hc (by decide), fun _ => ?_⟩ | refine ⟨fun _ => ?_, fun hc => absurd (by decide) hc⟩ | refine ⟨fun _ => ?_, fun hc => absurd hc (by decide)⟩ | refine ⟨fun hc => absurd (by decide) hc, fun _ => ?_⟩); conv => whnf)
          try dsimp only
          refine ⟨_, hC1, fun wi2 wl2 hF2 hC2 => ?_⟩
          conv => whnf
          repeat ((first | refine ⟨zG_of _, ?_⟩ | refine ⟨trivial, ?_⟩ | refine ⟨rfl, ?_⟩ | refine ⟨fun hc => absurd hc (by decide), fun _ => ?_⟩ | refine ⟨fun _ => ?_, fun hc => absurd (by decide) hc⟩ | refine ⟨fun _ => ?_, fun hc => absurd hc (by decide)⟩ | refine ⟨fun hc => absurd (by decide) hc, fun _ => ?_⟩); conv => whnf)
          try dsimp only
          rw [end_eq _ _ (by omega) (by omega)] at hC2
          exact h wi2 wl2 x (FrC_tr hF hF2) hC2 (fun k hk => by rw [hx k (by omega), hfp, if_pos hk])
        · rw [ltN (by omega) (by omega)] at hc
          conv => whnf
          repeat ((first | refine ⟨zG_of _, ?_⟩ | refine ⟨trivial, ?_⟩ | refine ⟨rfl, ?_⟩ | refine ⟨fun hc => absurd hc (by decide), fun _ => ?_⟩ | refine ⟨fun _ => ?_, fun hc => absurd (by decide) hc⟩ | refine ⟨fun _ => ?_, fun hc => absurd hc (by decide)⟩ | refine ⟨fun hc => absurd (by decide) hc, fun _ => ?_⟩); conv => whnf)
          try dsimp only
          have inner : ∀ (e c : Nat), c + e = 4 → Jm 15 [some (.ref 0), some (.ref u), some (.int (nI (4 * j))), some (.int (nI (pkN (fun c => fp (4 * j + c)) c))), some (.int (nI c))] [] (GC ++ r, wi1, wl1) 0 0 := by
            intro e
            induction e with
            | zero =>
              intro c hc4
              obtain rfl : c = 4 := by omega
              refine hs 400 15 _ _ _ _ _ ?_
              conv => whnf
              repeat ((first | refine ⟨zG_of _, ?_⟩ | refine ⟨trivial, ?_⟩ | refine ⟨rfl, ?_⟩ | refine ⟨fun hc => absurd hc (by decide), fun _ => ?_⟩ | refine ⟨fun _ => ?_, fun hc => absurd (by decide) hc⟩ | refine ⟨fun _ => ?_, fun hc => absurd hc (by decide)⟩ | refine ⟨fun hc => absurd (by decide) hc, fun _ => ?_⟩); conv => whnf)
              try dsimp only
              refine ⟨_, hC1, fun wi2 wl2 hF2 hC2 => ?_⟩
              conv => whnf
              repeat ((first | refine ⟨zG_of _, ?_⟩ | refine ⟨trivial, ?_⟩ | refine ⟨rfl, ?_⟩ | refine ⟨fun hc => absurd hc (by decide), fun _ => ?_⟩ | refine ⟨fun _ => ?_, fun hc => absurd (by decide) hc⟩ | refine ⟨fun _ => ?_, fun hc => absurd hc (by decide)⟩ | refine ⟨fun hc => absurd (by decide) hc, fun _ => ?_⟩); conv => whnf)
              try dsimp only
              have hW : pkN (fun c => fp (4 * j + c)) 4 < 2 ^ 32 := pkN_lt (fun k => hfl _) 4
              rw [sign_eq _ _ (by omega) hW] at hC2
              rw [show nI (4 * j) + nI 4 = nI (4 * (j + 1)) by rw [nI_add]; rfl]
              refine ih (j + 1) wi2 wl2 _ (by omega) (by omega) (FrC_tr hF hF2) hC2 (fun k hk => ?_)
              unfold apX
              by_cases hk2 : 4 * j ≤ k ∧ k < 4 * j + 4
              · rw [if_pos hk2, pkN_by (fun k => hfl _) (by omega)]
                rw [show 4 * j + (k - 4 * j) = k by omega]
              · rw [if_neg hk2]
                exact hx k (by omega)
            | succ e ih2 =>
              intro c hc4
              have hW : pkN (fun c => fp (4 * j + c)) c < 256 ^ c := pkN_lt (fun k => hfl _) c
              have hW2 : 256 ^ c ≤ 256 ^ 3 := Nat.pow_le_pow_right (by decide) (by omega)
              have hW3 : pkN (fun c => fp (4 * j + c)) c < 2 ^ 24 := Nat.lt_of_lt_of_le hW hW2
              refine hs 400 15 _ _ _ _ _ ?_
              conv => whnf
              repeat ((first | refine ⟨zG_of _, ?_⟩ | refine ⟨trivial, ?_⟩ | refine ⟨rfl, ?_⟩ | refine ⟨fun hc => absurd hc (by decide), fun _ => ?_⟩ | refine ⟨fun _ => ?_, fun hc => absurd (by decide) hc⟩ | refine ⟨fun _ => ?_, fun hc => absurd hc (by decide)⟩ | refine ⟨fun hc => absurd (by decide) hc, fun _ => ?_⟩); conv => whnf)
              try dsimp only
              refine ⟨fun hc5 => absurd (nI_lt (by omega) (by decide)) hc5, fun _ => ?_⟩
              conv => whnf
              repeat ((first | rw [rcv4 hU] | refine ⟨trivial, ?_⟩ | refine ⟨rfl, ?_⟩ | refine ⟨fun hc => absurd hc (by decide), fun _ => ?_⟩ | refine ⟨fun _ => ?_, fun hc => absurd (by decide) hc⟩ | refine ⟨fun _ => ?_, fun hc => absurd hc (by decide)⟩ | refine ⟨fun hc => absurd (by decide) hc, fun _ => ?_⟩ | refine ⟨Or.inr rfl, ?_⟩ | refine ⟨Or.inl rfl, ?_⟩ | refine ⟨fun hq => absurd (by assumption) hq, fun _ => ?_⟩ | refine ⟨fun _ => ?_, fun hq => absurd (by assumption) hq⟩ | refine ⟨fun hq => absurd hq (by assumption), fun _ => ?_⟩ | refine ⟨fun _ => ?_, fun hq => absurd hq (by assumption)⟩); conv => whnf)
              try dsimp only
              refine ⟨n, f, ⟨v, st wi1 wl1 hF⟩, ?_⟩
              conv => whnf
              repeat ((first | refine ⟨zG_of _, ?_⟩ | refine ⟨trivial, ?_⟩ | refine ⟨rfl, ?_⟩ | refine ⟨fun hc => absurd hc (by decide), fun _ => ?_⟩ | refine ⟨fun _ => ?_, fun hc => absurd (by decide) hc⟩ | refine ⟨fun _ => ?_, fun hc => absurd hc (by decide)⟩ | refine ⟨fun hc => absurd (by decide) hc, fun _ => ?_⟩); conv => whnf)
              try dsimp only
              rw [nI_add]
              refine ⟨fun hc6 => ?_, fun hc6 => ?_⟩
              · rw [ltN (by omega) (by omega)] at hc6
                conv => whnf
                repeat ((first | refine ⟨zG_of _, ?_⟩ | refine ⟨trivial, ?_⟩ | refine ⟨rfl, ?_⟩ | refine ⟨fun hc => absurd hc (by decide), fun _ => ?_⟩ | refine ⟨fun _ => ?_, fun hc => absurd (by decide) hc⟩ | refine ⟨fun _ => ?_, fun hc => absurd hc (by decide)⟩ | refine ⟨fun hc => absurd (by decide) hc, fun _ => ?_⟩); conv => whnf)
                try dsimp only
                have e2 := pkN_or (b := 0) hW3 (by decide)
                rw [e2, nI_add]
                have e3 : pkN (fun c => fp (4 * j + c)) c * 256 + 0 = pkN (fun c => fp (4 * j + c)) (c + 1) := by
                  show _ = pkN (fun c => fp (4 * j + c)) c * 256 + fp (4 * j + c)
                  rw [hfp, if_neg hc6]
                rw [e3]
                exact ih2 (c + 1) (by omega)
              · rw [ltN (by omega) (by omega)] at hc6
                conv => whnf
                repeat ((first | rw [rcv4 hU] | refine ⟨trivial, ?_⟩ | refine ⟨rfl, ?_⟩ | refine ⟨fun hc => absurd hc (by decide), fun _ => ?_⟩ | refine ⟨fun _ => ?_, fun hc => absurd (by decide) hc⟩ | refine ⟨fun _ => ?_, fun hc => absurd hc (by decide)⟩ | refine ⟨fun hc => absurd (by decide) hc, fun _ => ?_⟩ | refine ⟨Or.inr rfl, ?_⟩ | refine ⟨Or.inl rfl, ?_⟩ | refine ⟨fun hq => absurd (by assumption) hq, fun _ => ?_⟩ | refine ⟨fun _ => ?_, fun hq => absurd (by assumption) hq⟩ | refine ⟨fun hq => absurd hq (by assumption), fun _ => ?_⟩ | refine ⟨fun _ => ?_, fun hq => absurd hq (by assumption)⟩); conv => whnf)
                try dsimp only
                refine ⟨n, 4 * j + c, f, ⟨v, st wi1 wl1 hF⟩, nI_add _ _, hc6, by omega, ?_⟩
                conv => whnf
                repeat ((first | refine ⟨zG_of _, ?_⟩ | refine ⟨trivial, ?_⟩ | refine ⟨rfl, ?_⟩ | refine ⟨fun hc => absurd hc (by decide), fun _ => ?_⟩ | refine ⟨fun _ => ?_, fun hc => absurd (by decide) hc⟩ | refine ⟨fun _ => ?_, fun hc => absurd hc (by decide)⟩ | refine ⟨fun hc => absurd (by decide) hc, fun _ => ?_⟩); conv => whnf)
                try dsimp only
                have e2 := pkN_or (b := f (4 * j + c)) hW3 (by have := hf _ hc6; omega)
                rw [e2, nI_add]
                have e3 : pkN (fun c => fp (4 * j + c)) c * 256 + f (4 * j + c) = pkN (fun c => fp (4 * j + c)) (c + 1) := by
                  show _ = pkN (fun c => fp (4 * j + c)) c * 256 + fp (4 * j + c)
                  rw [hfp, if_pos hc6]
                rw [e3]
                exact ih2 (c + 1) (by omega)
          exact inner 4 0 rfl
    refine hs 400 0 _ _ _ _ _ ?_
    conv => whnf
    repeat ((first | refine ⟨zG_of _, ?_⟩ | refine ⟨trivial, ?_⟩ | refine ⟨rfl, ?_⟩ | refine ⟨fun hc => absurd hc (by decide), fun _ => ?_⟩ | refine ⟨fun _ => ?_, fun hc => absurd (by decide) hc⟩ | refine ⟨fun _ => ?_, fun hc => absurd hc (by decide)⟩ | refine ⟨fun hc => absurd (by decide) hc, fun _ => ?_⟩); conv => whnf)
    try dsimp only
    have hC0 : CT wi wl (setTx T (4 * 0) T.2.2.2.2.2.1.2) := by
      have e : setTx T (4 * 0) T.2.2.2.2.2.1.2 = T := by
        obtain ⟨d, q, c, A, kp, ⟨L, x⟩, tl⟩ := T
        dsimp only at hT
        subst hT
        rfl
      rw [e]
      exact hC
    exact loop n 0 wi wl _ (by omega) (by omega) (FrC_refl _ _) hC0 (fun k hk => absurd hk (Nat.not_lt_zero k))

