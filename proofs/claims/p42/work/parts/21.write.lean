/-! a scheme changed -/
def upA (A : Nat → Nat → Nat) (k : Nat) (a : Nat → Nat) : Nat → Nat → Nat := fun j => if j = k then a else A j
/-- cells but those two are as they were -/
def Fr (a b : Nat) (wi wi' : Nat → Nat → Int32) : Prop := ∀ x, x ≠ a → x ≠ b → wi' x = wi x
theorem Fr_refl (a b : Nat) (wi : Nat → Nat → Int32) : Fr a b wi wi := fun _ _ _ => rfl
theorem Fr_trans {a b : Nat} {wi wi' wi2 : Nat → Nat → Int32} (h : Fr a b wi wi') (h2 : Fr a b wi' wi2) : Fr a b wi wi2 := fun x h3 h4 => (h2 x h3 h4).trans (h x h3 h4)
theorem z_up_ne {α : Type} {f : Nat → Nat → α} {o i x : Nat} {v : α} (h : x ≠ o) : z_up f o i v x = f x := by
  funext j
  unfold z_up
  rw [if_neg (fun q => h q.1)]
theorem z_up_eq {α : Type} {f : Nat → Nat → α} {o i : Nat} {v : α} : z_up f o i v o i = v := if_pos ⟨rfl, rfl⟩
theorem z_up_nei {α : Type} {f : Nat → Nat → α} {o i j : Nat} {v : α} (h : j ≠ i) : z_up f o i v o j = f o j := if_neg (fun q => h q.2)
section
variable {wi wi' : Nat → Nat → Int32} {o : Nat} {d : Nat → Nat} {q c : Nat} {A : Nat → Nat → Nat}
theorem Fr_up {a b i : Nat} {v : Int32} (h : o = a ∨ o = b) : Fr a b wi (z_up wi o i v) := fun x h1 h2 => z_up_ne (by rcases h with rfl | rfl <;> assumption)
theorem cs_fr (h : CS wi o d q c A) (h1 : wi' o = wi o) (h2 : wi' (o + 2) = wi (o + 2)) : CS wi' o d q c A := by
  unfold CS at h ⊢
  rw [h1, h2]
  exact h
theorem cs_Fr {a b : Nat} (h : CS wi o d q c A) (hF : Fr a b wi wi') (h1 : o ≠ a ∧ o ≠ b ∧ o + 2 ≠ a ∧ o + 2 ≠ b) : CS wi' o d q c A := cs_fr h (hF o h1.1 h1.2.1) (hF (o + 2) h1.2.2.1 h1.2.2.2)
theorem cs_set (h : CS wi o d q c A) {i t : Nat} {v : Int32} {a : Nat → Nat} (hi : i < c) (ht : t < 3) (hv : v = pk a) (ha : ∀ p, p < 9 → a p < q) (e : wi' = z_up wi (o + 2) (3 * i + t) v) : CS wi' o d q c (upA A (3 * i + t) a) ∧ Fr o (o + 2) wi wi' := by
  subst e
  refine ⟨⟨?_, fun k hk => ?_, cs_q23 h, cs_d h, cs_40 h, fun k hk p hp => ?_⟩, Fr_up (Or.inr rfl)⟩
  · rw [z_up_ne (by omega)]
    exact h.1
  · unfold upA
    by_cases e : k = 3 * i + t
    · subst e
      rw [z_up_eq, if_pos rfl, hv]
    · rw [z_up_nei e, if_neg e]
      exact cs_f h k hk
  · unfold upA
    split
    · exact ha p hp
    · exact cs_A h k hk p hp
end
theorem bI_cg {p p' : Prop} [Decidable p] [Decidable p'] (h : p ↔ p') : bI p = bI p' := by
  unfold bI
  by_cases k : p
  · rw [if_pos k, if_pos (h.mp k)]
  · rw [if_neg k, if_neg (fun z => k (h.mpr z))]
theorem full_S {wi : Nat → Nat → Int32} {o : Nat} {d : Nat → Nat} {q c : Nat} {A : Nat → Nat → Nat} (h : CS wi o d q c A) : fullF wi o = bI (¬ c < 40) := by
  have := cs_40 h
  unfold fullF
  refine bI_cg ?_
  rw [cs_c h, ltN (by omega) (by omega)]
theorem cs_congr {wi : Nat → Nat → Int32} {o : Nat} {d : Nat → Nat} {q c : Nat} {A A' : Nat → Nat → Nat} (h : CS wi o d q c A) (e : ∀ k, k < 3 * c → ∀ p, p < 9 → A k p = A' k p) : CS wi o d q c A' :=
  ⟨h.1, fun k hk => (cs_f h k hk).trans (pk_congr (e k hk)), cs_q23 h, cs_d h, cs_40 h, fun k hk p hp => by rw [← e k hk p hp]; exact cs_A h k hk p hp⟩
/-- the forms up to a product, 0 behind them -/
def zA (A : Nat → Nat → Nat) (c : Nat) : Nat → Nat → Nat := fun k p => if k < 3 * c then A k p else 0
def sp_X6_addZero : zSp := fun av w K => match av with
  | [.ref o] => (o = 6 ∨ o = 12) ∧ zG w.1 ∧ ∃ d q c A, CS w.2.1 o d q c A ∧ (c = 40 → K (some (.int (nI 0))) w) ∧ (c < 40 → ∀ wi' : Nat → Nat → Int32, Fr o (o + 2) w.2.1 wi' → CS wi' o d q (c + 1) (zA A c) → K (some (.int (nI 1))) (w.1, wi', w.2.2))
  | _ => False
def rm_X6_addZero : Room := { frames := 2, cells := 0, slots := 0, locals := 45 }
def M_X6_addZero : zM := (k_X6_addZero, f_X6, [(56, 4, 5, 1, 0, 0, sp_X6_isFull), (53, 4, 5, 4, 0, 0, sp_X6_setForm)], ([], [], []), [], [(21, [true, true])], 2, false, (false, 0, fun _ => 0), (0, 0, []))
theorem ca_X6_addZero_0 (l : Launch) : z_cok l RX6 (headSpec (.code yX6_addZero cX6_addZero 2 (some .boolean) :: zTT) rm_X6_addZero).room (false, 0, fun _ => 0) (56, 4, 5, 1, 0, 0, sp_X6_isFull) := z_ca4 (c_X6_isFull l) mb_X6_isFull ⟨_, rfl, rfl⟩ wt_284 wt_285 wt_286 (by decide)
theorem ca_X6_addZero_1 (l : Launch) : z_cok l RX6 (headSpec (.code yX6_addZero cX6_addZero 2 (some .boolean) :: zTT) rm_X6_addZero).room (false, 0, fun _ => 0) (53, 4, 5, 4, 0, 0, sp_X6_setForm) := z_ca4 (c_X6_setForm l) mb_X6_setForm ⟨_, rfl, rfl⟩ wt_288 wt_289 wt_290 (by decide)
theorem O_X6_addZero (l : Launch) : z_OK l RX6 cX6_addZero (headSpec (.code yX6_addZero cX6_addZero 2 (some .boolean) :: zTT) rm_X6_addZero).room M_X6_addZero := ⟨ok_X6_addZero, fo_X6, List.forall_mem_cons.mpr ⟨ca_X6_addZero_0 l, List.forall_mem_cons.mpr ⟨ca_X6_addZero_1 l, fun _ h => absurd h List.not_mem_nil⟩⟩, fun _ h => absurd h List.not_mem_nil, fun _ h => absurd h List.not_mem_nil, fun _ h => absurd h List.not_mem_nil, fun _ h => absurd h List.not_mem_nil, rfl, rfl, fun _ h => absurd h List.not_mem_nil⟩
theorem c_X6_addZero (l : Launch) : z_CS l yX6_addZero cX6_addZero 2 (some .boolean) rm_X6_addZero sp_X6_addZero := by
  refine z_meth (by decide) (Or.inr (Or.inr (Or.inl ⟨rfl, rfl⟩))) (fun h => by cases h) rfl (O_X6_addZero l) ?_
  intro av w K h
  match av, h with
  | [.ref o], h =>
    obtain ⟨ho, ⟨r, hG⟩, d, q, c, A, hS, h1, h2⟩ := h
    obtain ⟨G, wi, wl⟩ := w
    subst hG
    try dsimp only at h1 h2 hS
    have h40 := cs_40 hS
    rcases ho with rfl | rfl
    · refine ⟨Nat.le_of_ble_eq_true rfl, fun Jm hs => ?_⟩
      have e5 := full_S hS
      refine hs 400 0 _ _ _ _ _ ?_
      conv => whnf
      repeat ((first | refine ⟨zG_of _, ?_⟩ | refine ⟨trivial, ?_⟩ | refine ⟨rfl, ?_⟩ | refine ⟨fun hc => absurd hc (by decide), fun _ => ?_⟩ | refine ⟨fun _ => ?_, fun hc => absurd (by decide) hc⟩ | refine ⟨fun _ => ?_, fun hc => absurd hc (by decide)⟩ | refine ⟨fun hc => absurd (by decide) hc, fun _ => ?_⟩); conv => whnf)
      try dsimp only
      rw [e5, bI_0]
      refine ⟨fun hc => ?_, fun hc => ?_⟩
      · have hc : c < 40 := by omega
        have loop := up_ind (P := fun t => ∀ wi' : Nat → Nat → Int32, Fr 6 8 wi wi' → (wi' 6 1 = nI (d 0) ∧ wi' 6 2 = nI (d 1) ∧ wi' 6 3 = nI (d 2) ∧ wi' 6 4 = nI q ∧ wi' 6 5 = nI (c + 1)) → (∀ k, k < 3 * c + t → wi' 8 k = pk (zA A c k)) → Jm 21 [some (.ref 6), some (.int (nI t))] [] (GC ++ r, wi', wl) 0 0) 3 (fun t hi ih => by
          intro wi' hF hD hA
          refine hs 400 21 _ _ _ _ _ ?_
          conv => whnf
          repeat ((first | refine ⟨zG_of _, ?_⟩ | refine ⟨trivial, ?_⟩ | refine ⟨rfl, ?_⟩ | refine ⟨fun hc => absurd hc (by decide), fun _ => ?_⟩ | refine ⟨fun _ => ?_, fun hc => absurd (by decide) hc⟩ | refine ⟨fun _ => ?_, fun hc => absurd hc (by decide)⟩ | refine ⟨fun hc => absurd (by decide) hc, fun _ => ?_⟩); conv => whnf)
          try dsimp only
          rw [ltN (by omega) (by omega)]
          refine ⟨fun hc2 => ?_, fun hc2 => ?_⟩
          · obtain rfl : t = 3 := by omega
            refine ⟨Or.inr rfl, h2 hc wi' hF ⟨hD, fun k hk => hA k (by omega), cs_q23 hS, cs_d hS, by omega, fun k hk p hp => ?_⟩⟩
            unfold zA
            have := cs_q23 hS
            split
            · exact cs_A hS k (by assumption) p hp
            · omega
          · have ih := ih hc2
            conv => whnf
            repeat ((first | refine ⟨zG_of _, ?_⟩ | refine ⟨trivial, ?_⟩ | refine ⟨rfl, ?_⟩ | refine ⟨fun hc => absurd hc (by decide), fun _ => ?_⟩ | refine ⟨fun _ => ?_, fun hc => absurd (by decide) hc⟩ | refine ⟨fun _ => ?_, fun hc => absurd hc (by decide)⟩ | refine ⟨fun hc => absurd (by decide) hc, fun _ => ?_⟩); conv => whnf)
            try dsimp only
            refine ⟨by first | exact Or.inl rfl | exact Or.inr rfl, zG_of _, c, t, ?_, hc, rfl, hc2, fun wi2 e2 => ?_⟩
            · rw [hD.2.2.2.2, pk_sub (by omega)]
              rfl
            · subst e2
              conv => whnf
              repeat ((first | refine ⟨zG_of _, ?_⟩ | refine ⟨trivial, ?_⟩ | refine ⟨rfl, ?_⟩ | refine ⟨fun hc => absurd hc (by decide), fun _ => ?_⟩ | refine ⟨fun _ => ?_, fun hc => absurd (by decide) hc⟩ | refine ⟨fun _ => ?_, fun hc => absurd hc (by decide)⟩ | refine ⟨fun hc => absurd (by decide) hc, fun _ => ?_⟩); conv => whnf)
              try dsimp only
              rw [nI_add]
              refine ih _ (Fr_trans hF (Fr_up (Or.inr rfl))) ?_ (fun k hk => ?_)
              · rw [z_up_ne (by decide)]
                exact hD
              · show z_up wi' 8 (3 * c + t) (nI 0) 8 k = _
                by_cases e : k = 3 * c + t
                · subst e
                  rw [z_up_eq, ← pk_zero]
                  refine pk_congr (fun p _ => ?_)
                  unfold zA
                  rw [if_neg (by omega)]
                · rw [z_up_nei e]
                  exact hA k (by omega))
        conv => whnf
        repeat ((first | refine ⟨zG_of _, ?_⟩ | refine ⟨trivial, ?_⟩ | refine ⟨rfl, ?_⟩ | refine ⟨fun hc => absurd hc (by decide), fun _ => ?_⟩ | refine ⟨fun _ => ?_, fun hc => absurd (by decide) hc⟩ | refine ⟨fun _ => ?_, fun hc => absurd hc (by decide)⟩ | refine ⟨fun hc => absurd (by decide) hc, fun _ => ?_⟩); conv => whnf)
        try dsimp only
        refine loop 0 (Nat.zero_le _) _ (Fr_up (Or.inl rfl)) ?_ (fun k hk => ?_)
        · rw [z_up_nei (by decide), z_up_nei (by decide), z_up_nei (by decide), z_up_nei (by decide), z_up_eq, cs_c hS, nI_add]
          exact ⟨cs_1 hS, cs_2 hS, cs_3 hS, cs_q hS, rfl⟩
        · rw [z_up_ne (by decide), show wi 8 k = pk (A k) from cs_f hS k (by omega)]
          refine pk_congr (fun p _ => ?_)
          unfold zA
          rw [if_pos (by omega)]
      · exact ⟨Or.inl rfl, h1 (by omega)⟩
    · refine ⟨Nat.le_of_ble_eq_true rfl, fun Jm hs => ?_⟩
      have e5 := full_S hS
      refine hs 400 0 _ _ _ _ _ ?_
      conv => whnf
      repeat ((first | refine ⟨zG_of _, ?_⟩ | refine ⟨trivial, ?_⟩ | refine ⟨rfl, ?_⟩ | refine ⟨fun hc => absurd hc (by decide), fun _ => ?_⟩ | refine ⟨fun _ => ?_, fun hc => absurd (by decide) hc⟩ | refine ⟨fun _ => ?_, fun hc => absurd hc (by decide)⟩ | refine ⟨fun hc => absurd (by decide) hc, fun _ => ?_⟩); conv => whnf)
      try dsimp only
      rw [e5, bI_0]
      refine ⟨fun hc => ?_, fun hc => ?_⟩
      · have hc : c < 40 := by omega
        have loop := up_ind (P := fun t => ∀ wi' : Nat → Nat → Int32, Fr 12 14 wi wi' → (wi' 12 1 = nI (d 0) ∧ wi' 12 2 = nI (d 1) ∧ wi' 12 3 = nI (d 2) ∧ wi' 12 4 = nI q ∧ wi' 12 5 = nI (c + 1)) → (∀ k, k < 3 * c + t → wi' 14 k = pk (zA A c k)) → Jm 21 [some (.ref 12), some (.int (nI t))] [] (GC ++ r, wi', wl) 0 0) 3 (fun t hi ih => by
          intro wi' hF hD hA
          refine hs 400 21 _ _ _ _ _ ?_
          conv => whnf
          repeat ((first | refine ⟨zG_of _, ?_⟩ | refine ⟨trivial, ?_⟩ | refine ⟨rfl, ?_⟩ | refine ⟨fun hc => absurd hc (by decide), fun _ => ?_⟩ | refine ⟨fun _ => ?_, fun hc => absurd (by decide) hc⟩ | refine ⟨fun _ => ?_, fun hc => absurd hc (by decide)⟩ | refine ⟨fun hc => absurd (by decide) hc, fun _ => ?_⟩); conv => whnf)
          try dsimp only
          rw [ltN (by omega) (by omega)]
          refine ⟨fun hc2 => ?_, fun hc2 => ?_⟩
          · obtain rfl : t = 3 := by omega
            refine ⟨Or.inr rfl, h2 hc wi' hF ⟨hD, fun k hk => hA k (by omega), cs_q23 hS, cs_d hS, by omega, fun k hk p hp => ?_⟩⟩
            unfold zA
            have := cs_q23 hS
            split
            · exact cs_A hS k (by assumption) p hp
            · omega
          · have ih := ih hc2
            conv => whnf
            repeat ((first | refine ⟨zG_of _, ?_⟩ | refine ⟨trivial, ?_⟩ | refine ⟨rfl, ?_⟩ | refine ⟨fun hc => absurd hc (by decide), fun _ => ?_⟩ | refine ⟨fun _ => ?_, fun hc => absurd (by decide) hc⟩ | refine ⟨fun _ => ?_, fun hc => absurd hc (by decide)⟩ | refine ⟨fun hc => absurd (by decide) hc, fun _ => ?_⟩); conv => whnf)
            try dsimp only
            refine ⟨by first | exact Or.inl rfl | exact Or.inr rfl, zG_of _, c, t, ?_, hc, rfl, hc2, fun wi2 e2 => ?_⟩
            · rw [hD.2.2.2.2, pk_sub (by omega)]
              rfl
            · subst e2
              conv => whnf
              repeat ((first | refine ⟨zG_of _, ?_⟩ | refine ⟨trivial, ?_⟩ | refine ⟨rfl, ?_⟩ | refine ⟨fun hc => absurd hc (by decide), fun _ => ?_⟩ | refine ⟨fun _ => ?_, fun hc => absurd (by decide) hc⟩ | refine ⟨fun _ => ?_, fun hc => absurd hc (by decide)⟩ | refine ⟨fun hc => absurd (by decide) hc, fun _ => ?_⟩); conv => whnf)
              try dsimp only
              rw [nI_add]
              refine ih _ (Fr_trans hF (Fr_up (Or.inr rfl))) ?_ (fun k hk => ?_)
              · rw [z_up_ne (by decide)]
                exact hD
              · show z_up wi' 14 (3 * c + t) (nI 0) 14 k = _
                by_cases e : k = 3 * c + t
                · subst e
                  rw [z_up_eq, ← pk_zero]
                  refine pk_congr (fun p _ => ?_)
                  unfold zA
                  rw [if_neg (by omega)]
                · rw [z_up_nei e]
                  exact hA k (by omega))
        conv => whnf
        repeat ((first | refine ⟨zG_of _, ?_⟩ | refine ⟨trivial, ?_⟩ | refine ⟨rfl, ?_⟩ | refine ⟨fun hc => absurd hc (by decide), fun _ => ?_⟩ | refine ⟨fun _ => ?_, fun hc => absurd (by decide) hc⟩ | refine ⟨fun _ => ?_, fun hc => absurd hc (by decide)⟩ | refine ⟨fun hc => absurd (by decide) hc, fun _ => ?_⟩); conv => whnf)
        try dsimp only
        refine loop 0 (Nat.zero_le _) _ (Fr_up (Or.inl rfl)) ?_ (fun k hk => ?_)
        · rw [z_up_nei (by decide), z_up_nei (by decide), z_up_nei (by decide), z_up_nei (by decide), z_up_eq, cs_c hS, nI_add]
          exact ⟨cs_1 hS, cs_2 hS, cs_3 hS, cs_q hS, rfl⟩
        · rw [z_up_ne (by decide), show wi 14 k = pk (A k) from cs_f hS k (by omega)]
          refine pk_congr (fun p _ => ?_)
          unfold zA
          rw [if_pos (by omega)]
      · exact ⟨Or.inl rfl, h1 (by omega)⟩

