/-! the state: scheme (d, q, c, A), what is kept, the text, what is told -/
abbrev zK : Type := Bool × (Nat → Nat) × Nat × (Nat → Nat → Nat)
abbrev zT : Type := (Nat → Nat) × Nat × Nat × (Nat → Nat → Nat) × zK × (Nat × (Nat → Nat)) × (Nat × (Nat → Int64))
/-- numbers beyond a form's places are 0 -/
def ZS (d : Nat → Nat) (c : Nat) (A : Nat → Nat → Nat) : Prop := ∀ k, k < 3 * c → ∀ p, pl d (k % 3) ≤ p → p < 9 → A k p = 0
def KC (wi : Nat → Nat → Int32) (q : Nat) (kp : zK) : Prop := (kp.1 = false ∧ wi 0 10 = nI 0) ∨ (kp.1 = true ∧ wi 0 10 = nI 1 ∧ CS wi 9 kp.2.1 q kp.2.2.1 kp.2.2.2 ∧ ZS kp.2.1 kp.2.2.1 kp.2.2.2)
def CT (wi : Nat → Nat → Int32) (wl : Nat → Nat → Int64) (T : zT) : Prop := CS wi 6 T.1 T.2.1 T.2.2.1 T.2.2.2.1 ∧ ZS T.1 T.2.2.1 T.2.2.2.1 ∧ KC wi T.2.1 T.2.2.2.2.1 ∧ TL wi T.2.2.2.2.2.1.1 T.2.2.2.2.2.1.2 ∧ TS wi wl T.2.2.2.2.2.2.1 T.2.2.2.2.2.2.2
/-- the reference's cells are as they were -/
def FrC (wi : Nat → Nat → Int32) (wl : Nat → Nat → Int64) (wi' : Nat → Nat → Int32) (wl' : Nat → Nat → Int64) : Prop := ∀ y, 45 ≤ y → wi' y = wi y ∧ wl' y = wl y
theorem FrC_refl (wi : Nat → Nat → Int32) (wl : Nat → Nat → Int64) : FrC wi wl wi wl := fun _ _ => ⟨rfl, rfl⟩
section
variable {wi wi' : Nat → Nat → Int32} {wl wl' : Nat → Nat → Int64} {d d' : Nat → Nat} {q c c' : Nat} {A A' : Nat → Nat → Nat} {kp : zK} {tx : Nat × (Nat → Nat)} {tl : Nat × (Nat → Int64)}
theorem ct_S (h : CT wi wl (d, q, c, A, kp, tx, tl)) : CS wi 6 d q c A := h.1
theorem ct_Z (h : CT wi wl (d, q, c, A, kp, tx, tl)) : ZS d c A := h.2.1
theorem ct_K (h : CT wi wl (d, q, c, A, kp, tx, tl)) : KC wi q kp := h.2.2.1
theorem ct_X (h : CT wi wl (d, q, c, A, kp, tx, tl)) : TL wi tx.1 tx.2 := h.2.2.2.1
theorem ct_T (h : CT wi wl (d, q, c, A, kp, tx, tl)) : TS wi wl tl.1 tl.2 := h.2.2.2.2
theorem kc_fr (h : KC wi q kp) (h0 : wi' 0 = wi 0) (h9 : wi' 9 = wi 9) (h11 : wi' 11 = wi 11) : KC wi' q kp := by
  rcases h with h | h
  · exact Or.inl ⟨h.1, by rw [h0]; exact h.2⟩
  · exact Or.inr ⟨h.1, by rw [h0]; exact h.2.1, cs_fr h.2.2.1 h9 h11, h.2.2.2⟩
theorem tl_fr {L : Nat} {x : Nat → Nat} (h : TL wi L x) (h1 : wi' 1 = wi 1) (h3 : wi' 3 = wi 3) : TL wi' L x := by
  unfold TL at *
  rw [h1, h3]
  exact h
theorem ts_fr {n : Nat} {xs : Nat → Int64} (h : TS wi wl n xs) (h4 : wi' 4 = wi 4) (h5 : wl' 5 = wl 5) : TS wi' wl' n xs := by
  unfold TS at *
  rw [h4, h5]
  exact h
/-- the scheme changes, nothing else -/
theorem ct_now (h : CT wi wl (d, q, c, A, kp, tx, tl)) (hS : CS wi' 6 d' q c' A') (hZ : ZS d' c' A') (hF : ∀ y, y < 6 ∨ y = 9 ∨ y = 11 → wi' y = wi y) (h5 : wl' 5 = wl 5) : CT wi' wl' (d', q, c', A', kp, tx, tl) :=
  ⟨hS, hZ, kc_fr (ct_K h) (hF 0 (by omega)) (hF 9 (by omega)) (hF 11 (by omega)), tl_fr (ct_X h) (hF 1 (by omega)) (hF 3 (by omega)), ts_fr (ct_T h) (hF 4 (by omega)) h5⟩
/-- what is told changes, nothing else -/
theorem ct_told {n : Nat} {xs : Nat → Int64} (h : CT wi wl (d, q, c, A, kp, tx, tl)) (hF : ∀ y, y ≠ 4 → wi' y = wi y) (hT : TS wi' wl' n xs) : CT wi' wl' (d, q, c, A, kp, tx, (n, xs)) :=
  ⟨cs_fr (ct_S h) (hF 6 (by decide)) (hF 8 (by decide)), ct_Z h, kc_fr (ct_K h) (hF 0 (by decide)) (hF 9 (by decide)) (hF 11 (by decide)), tl_fr (ct_X h) (hF 1 (by decide)) (hF 3 (by decide)), hT⟩
/-- the text changes, nothing else -/
theorem ct_text {L : Nat} {x : Nat → Nat} (h : CT wi wl (d, q, c, A, kp, tx, tl)) (hF : ∀ y, y = 0 ∨ y = 4 ∨ y = 6 ∨ y = 8 ∨ y = 9 ∨ y = 11 → wi' y = wi y) (hT : TL wi' L x) (h5 : wl' 5 = wl 5) : CT wi' wl' (d, q, c, A, kp, (L, x), tl) :=
  ⟨cs_fr (ct_S h) (hF 6 (by omega)) (hF 8 (by omega)), ct_Z h, kc_fr (ct_K h) (hF 0 (by omega)) (hF 9 (by omega)) (hF 11 (by omega)), hT, ts_fr (ct_T h) (hF 4 (by omega)) h5⟩
/-- nothing of the state changes -/
theorem ct_same {T : zT} (h : CT wi wl T) (hF : ∀ y, y < 9 ∨ y = 9 ∨ y = 11 → wi' y = wi y) (h5 : wl' 5 = wl 5) : CT wi' wl' T := by
  obtain ⟨d, q, c, A, kp, tx, tl⟩ := T
  exact ct_now h (cs_fr (ct_S h) (hF 6 (by omega)) (hF 8 (by omega))) (ct_Z h) (fun y hy => hF y (by omega)) h5
end
/-- an index below c -/
def idx (c : Nat) (i : Int32) : Prop := ¬ i < nI 0 ∧ i < nI c
theorem idx_N {c : Nat} {i : Int32} (h : idx c i) (hc : c < 2 ^ 31) : ∃ n, n < c ∧ i = nI n := by
  obtain ⟨n, h1, rfl⟩ := nn_N h.1
  exact ⟨n, (ltN h1 hc).mp h.2, rfl⟩
theorem idx_of {c n : Nat} (h : n < c) (hc : c < 2 ^ 31) : idx c (nI n) := ⟨nI_nlt (Nat.zero_le _) (by omega), nI_lt h hc⟩
theorem nc_N {n : Nat} (h : n < 2 ^ 31) : (nI n).toNatClampNeg = n := nI_clamp h

