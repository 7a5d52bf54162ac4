/-! numbers beyond the places stay 0; schemes and products read; flips, joins -/
def zb (n : Nat) (a : Nat → Nat) : Prop := ∀ p, n ≤ p → p < 9 → a p = 0
theorem zb_0 (n : Nat) : zb n (fun _ => 0) := fun _ _ _ => rfl
theorem zb_set {n k v : Nat} {a : Nat → Nat} (h : zb n a) (hk : k < n) : zb n (setp a k v) := fun p h1 h2 => by
  unfold setp
  rw [if_neg (by omega)]
  exact h p h1 h2
theorem zb_mul {q n f : Nat} {a : Nat → Nat} (h : zb n a) : zb n (fMul q f a) := fun p h1 h2 => by
  show f * a p % q = 0
  rw [h p h1 h2, Nat.mul_zero, Nat.zero_mod]
theorem zb_add {q n : Nat} {a b : Nat → Nat} (h : zb n a) (h' : zb n b) : zb n (fAdd q a b) := fun p h1 h2 => by
  show (a p + b p) % q = 0
  rw [h p h1 h2, h' p h1 h2, Nat.zero_mod]
theorem zb_sub {q n : Nat} {a b : Nat → Nat} (h : zb n a) (h' : zb n b) : zb n (fSub q a b) := fun p h1 h2 => by
  show (a p + (q - b p)) % q = 0
  rw [h p h1 h2, h' p h1 h2, Nat.zero_add, Nat.sub_zero, Nat.mod_self]
theorem zs_at {d : Nat → Nat} {c i t : Nat} {A : Nat → Nat → Nat} (h : ZS d c A) (hi : i < c) (ht : t < 3) : zb (pl d t) (A (3 * i + t)) := fun p h1 h2 => h _ (by omega) p (by rw [show (3 * i + t) % 3 = t by omega]; exact h1) h2
theorem zs_up {d : Nat → Nat} {c i t : Nat} {A : Nat → Nat → Nat} {a : Nat → Nat} (h : ZS d c A) (ht : t < 3) (ha : zb (pl d t) a) : ZS d c (upA A (3 * i + t) a) := fun k hk p h1 h2 => by
  unfold upA
  split
  · rename_i e
    refine ha p ?_ h2
    rw [e, show (3 * i + t) % 3 = t by omega] at h1
    exact h1
  · exact h k hk p h1 h2
theorem zs_congr {d : Nat → Nat} {c : Nat} {A A' : Nat → Nat → Nat} (h : ZS d c A) (e : ∀ k, k < 3 * c → ∀ p, p < 9 → A k p = A' k p) : ZS d c A' := fun k hk p h1 h2 => by
  rw [← e k hk p h2]
  exact h k hk p h1 h2
theorem tfA_z {d : Nat → Nat} {q c i j w : Nat} {A : Nat → Nat → Nat} (h : ZS d c A) (hi : i < c) (hj : j < c) (hw : w < 3) : ZS d c (tfA q A i j w) := by
  have z1 : ZS d c (tf1 A i j w) := zs_up h hw (zs_at h hi hw)
  have z2 : ZS d c (tf2 q (likeN q (A (3 * i + w)) (A (3 * j + w))) (tf1 A i j w) j (nx w)) := zs_up z1 (nx_lt w) (zb_mul (zs_at z1 hj (nx_lt w)))
  have z3 : ZS d c (tf3 q (tf2 q (likeN q (A (3 * i + w)) (A (3 * j + w))) (tf1 A i j w) j (nx w)) i j (nx w)) := zs_up z2 (nx_lt w) (zb_add (zs_at z2 hi (nx_lt w)) (zs_at z2 hj (nx_lt w)))
  exact zs_up z3 (nx_lt _) (zb_sub (zs_at z3 hj (nx_lt _)) (zs_at z3 hi (nx_lt _)))
theorem adA_z {d : Nat → Nat} {c i c2 : Nat} {A B : Nat → Nat → Nat} (h : ZS d c A) (h2 : ZS d c2 B) (hi : i < c2) : ZS d (c + 1) (adA A c B i) := fun k hk p g1 g2 => by
  unfold adA
  split
  · exact h k (by assumption) p g1 g2
  · exact h2 _ (by omega) p (by rw [show (3 * i + (k - 3 * c)) % 3 = k % 3 by omega]; exact g1) g2
theorem jnA_z {d : Nat → Nat} {q c i j w : Nat} {A : Nat → Nat → Nat} (h : ZS d c A) (hi : i < c) (hj : j < c) (hw : w < 3) : ZS d (c - 1) (jnA q A i j w) := rmA_z (zs_up h hw (zb_add (zs_at h hi hw) (zb_mul (zs_at h hj hw)))) hj
theorem jfA_z {d : Nat → Nat} {q c : Nat} {A : Nat → Nat → Nat} (h : ZS d c A) (hj : jf q A c < 4800) : ZS d (c - 1) (jfA q A c) := by
  have k := (fi_lt hj).1
  change jfB q A c (jf q A c) = true at k
  unfold jfB at k
  simp only [Bool.and_eq_true, decide_eq_true_eq] at k
  exact jnA_z h (by omega) k.1.2 (Nat.mod_lt _ (by decide))
theorem jAll_z {d : Nat → Nat} {q : Nat} : ∀ (n c : Nat) (A : Nat → Nat → Nat) (z l : Nat), ZS d c A → ZS d (jAll q n (c, A, z, l)).1 (jAll q n (c, A, z, l)).2.1
  | 0, _, _, _, _, h => h
  | n + 1, c, A, z, l, h => by
    rw [jAll]
    split
    · rename_i h0
      exact jAll_z n _ _ _ _ (rmA_z h h0)
    · split
      · rename_i h1
        exact jAll_z n _ _ _ _ (jfA_z h h1)
      · exact h
theorem jAll_c {q : Nat} : ∀ (n c : Nat) (A : Nat → Nat → Nat) (z l : Nat), (jAll q n (c, A, z, l)).2.2.1 + (jAll q n (c, A, z, l)).2.2.2 ≤ z + l + n
  | 0, _, _, _, _ => Nat.le_refl _
  | n + 1, c, A, z, l => by
    rw [jAll]
    split
    · have := jAll_c (q := q) n (c - 1) (rmA A (fi (hzB A) c)) (z + 1) l
      omega
    · split
      · have := jAll_c (q := q) n (c - 1) (jfA q A c) z (l + 1)
        omega
      · show z + l ≤ _
        omega
theorem tm_z {x : Nat → Nat} {L : Nat} {d : Nat → Nat} {t n k : Nat} {a : Nat → Nat} (ha : zb (pl d t) a) : zb (pl d t) (tmP x L d t n k a).2.2 := by
  unfold tmP
  split
  · split
    · rename_i h1
      split
      · rename_i h2
        split
        · exact zb_set ha (idx_pl (d := d) (u := t) (v := nx t) (by omega) (by omega))
        · exact ha
      · exact ha
    · exact ha
  · exact ha
theorem fmL_z {x : Nat → Nat} {L : Nat} {d : Nat → Nat} {q t : Nat} : ∀ (m n k : Nat) (a : Nat → Nat), zb (pl d t) a → zb (pl d t) (fmL x L d q t m n k a).2.2
  | 0, _, _, _, ha => ha
  | m + 1, n, k, a, ha => by
    have h1 := tm_z (x := x) (L := L) (n := n) (k := k) ha
    rw [fmL]
    split
    · split
      · exact fmL_z m 1 _ _ h1
      · split
        · exact fmL_z m (q - 1) _ _ h1
        · exact h1
    · exact h1
theorem fmP_z (x : Nat → Nat) (L : Nat) (d : Nat → Nat) (q t k : Nat) : zb (pl d t) (fmP x L d q t k).2.2 := by
  unfold fmP
  split
  · exact fmL_z _ _ _ _ (zb_0 _)
  · exact fmL_z _ _ _ _ (zb_0 _)
theorem prL_z (x : Nat → Nat) (L : Nat) (d : Nat → Nat) (q k : Nat) : ∀ t, ∀ u, zb (pl d u) ((prL x L d q k t).2.2 u)
  | 0, _ => zb_0 _
  | t + 1, u => by
    have ih := prL_z x L d q k t
    rw [prL]
    split
    · split
      · unfold upA
        dsimp only
        split
        · rename_i e
          rw [e]
          exact fmP_z x L d q t _
        · exact ih u
      · exact ih u
    · exact ih u
theorem ndA_z {d : Nat → Nat} {c : Nat} {A B : Nat → Nat → Nat} (h : ZS d c A) (hB : ∀ u, zb (pl d u) (B u)) : ZS d (c + 1) (ndA A c B) := fun k hk p g1 g2 => by
  unfold ndA
  split
  · exact h k (by assumption) p g1 g2
  · refine hB _ p ?_ g2
    rw [show k % 3 = k - 3 * c by omega] at g1
    exact g1
theorem scN_z {x : Nat → Nat} {L : Nat} {d : Nat → Nat} {q : Nat} : ∀ (n : Nat) (S : Bool × Nat × Nat × (Nat → Nat → Nat)), ZS d S.2.2.1 S.2.2.2 → ZS d (scN x L d q n S).2.2.1 (scN x L d q n S).2.2.2
  | 0, _, h => h
  | n + 1, S, h => by
    rw [scN]
    split
    · exact scN_z n _ (ndA_z h (prL_z x L d q _ 3))
    · exact h
theorem scP_z (x : Nat → Nat) (L : Nat) (d : Nat → Nat) (q : Nat) : ZS d (scP x L d q).2.2.1 (scP x L d q).2.2.2 := scN_z _ _ (ndA_z (A := fun _ _ => 0) (c := 0) (fun k hk => absurd hk (by omega)) (prL_z x L d q 0 3))
def txt0 (T : zT) : zT := (T.1, T.2.1, T.2.2.1, T.2.2.2.1, T.2.2.2.2.1, (0, T.2.2.2.2.2.1.2), T.2.2.2.2.2.2)
def st_scheme (T : zT) : zT × Int32 := if ffI (scP T.2.2.2.2.2.1.2 T.2.2.2.2.2.1.1 T.1 T.2.1).1 (scP T.2.2.2.2.2.1.2 T.2.2.2.2.2.1.1 T.1 T.2.1).2.1 T.2.2.2.2.2.1.1 < nI 0 then ((T.1, T.2.1, (scP T.2.2.2.2.2.1.2 T.2.2.2.2.2.1.1 T.1 T.2.1).2.2.1, (scP T.2.2.2.2.2.1.2 T.2.2.2.2.2.1.1 T.1 T.2.1).2.2.2, T.2.2.2.2.1, (0, T.2.2.2.2.2.1.2), T.2.2.2.2.2.2), nI (scP T.2.2.2.2.2.1.2 T.2.2.2.2.2.1.1 T.1 T.2.1).2.2.1) else (txt0 T, mI 21 - ffI (scP T.2.2.2.2.2.1.2 T.2.2.2.2.2.1.1 T.1 T.2.1).1 (scP T.2.2.2.2.2.1.2 T.2.2.2.2.2.1.1 T.1 T.2.1).2.1 T.2.2.2.2.2.1.1)
theorem ffI_neg {ok : Bool} {k L : Nat} (hk : k < 2 ^ 31) : ffI ok k L < nI 0 ↔ ok = true ∧ ¬ k < L := by
  unfold ffI
  by_cases h : ok = true ∧ ¬ k < L
  · rw [if_pos h]
    exact ⟨fun _ => h, fun _ => by decide⟩
  · rw [if_neg h]
    exact ⟨fun z => absurd z (nI_nlt (Nat.zero_le _) hk), fun z => absurd z h⟩
def sp_X11_scheme : zSp := fun av w K => match av with
  | [.ref o] => o = 0 ∧ zG w.1 ∧ ∃ T, CT w.2.1 w.2.2 T ∧ ∀ wi' wl', FrC w.2.1 w.2.2 wi' wl' → CT wi' wl' (st_scheme T).1 → K (some (.int (st_scheme T).2)) (w.1, wi', wl')
  | _ => False
theorem see_lt {x : Nat → Nat} {L k v : Nat} (h : see x L k = v) (hv : v < 256) : k < L := by
  unfold see at h
  by_cases q : k < L
  · exact q
  · rw [if_neg q] at h
    omega
theorem tm_le {x : Nat → Nat} {L : Nat} {d : Nat → Nat} {t n k : Nat} {a : Nat → Nat} (hd : ∀ t, t < 3 → 1 ≤ d t ∧ d t ≤ 3) (ht : t < 3) (hk : k ≤ L) : (tmP x L d t n k a).2.1 ≤ L := by
  have d1 := hd t ht
  have d2 := hd _ (nx_lt t)
  unfold tmP
  split
  · rename_i h0
    have := see_lt h0 (by omega)
    split
    · rename_i h1
      have := see_lt (x := x) (L := L) (k := k + 1) rfl (by omega)
      split
      · rename_i h2
        have := see_lt (x := x) (L := L) (k := k + 2) rfl (by omega)
        split
        · show k + 3 ≤ L
          omega
        · show k + 2 ≤ L
          omega
      · show k + 2 ≤ L
        omega
    · show k + 1 ≤ L
      omega
  · exact hk
theorem fmL_le {x : Nat → Nat} {L : Nat} {d : Nat → Nat} {q t : Nat} (hd : ∀ t, t < 3 → 1 ≤ d t ∧ d t ≤ 3) (ht : t < 3) : ∀ (m n k : Nat) (a : Nat → Nat), k ≤ L → (fmL x L d q t m n k a).2.1 ≤ L
  | 0, _, _, _, h => h
  | m + 1, n, k, a, h => by
    have h1 := tm_le (x := x) (n := n) (a := a) hd ht h
    rw [fmL]
    split
    · split
      · rename_i h2
        have := see_lt h2 (by omega)
        exact fmL_le hd ht m 1 _ _ this
      · split
        · rename_i h2
          have := see_lt h2 (by omega)
          exact fmL_le hd ht m (q - 1) _ _ this
        · exact h1
    · exact h1
theorem fmP_le {x : Nat → Nat} {L : Nat} {d : Nat → Nat} {q t k : Nat} (hd : ∀ t, t < 3 → 1 ≤ d t ∧ d t ≤ 3) (ht : t < 3) (hk : k ≤ L) : (fmP x L d q t k).2.1 ≤ L := by
  unfold fmP
  split
  · rename_i h
    exact fmL_le hd ht _ _ _ _ (see_lt h (by omega))
  · exact fmL_le hd ht _ _ _ _ hk
theorem prL_le {x : Nat → Nat} {L : Nat} {d : Nat → Nat} {q k : Nat} (hd : ∀ t, t < 3 → 1 ≤ d t ∧ d t ≤ 3) (hk : k ≤ L) : ∀ t, t ≤ 3 → (prL x L d q k t).2.1 ≤ L
  | 0, _ => hk
  | t + 1, ht => by
    have ih := prL_le (x := x) (q := q) hd hk t (by omega)
    rw [prL]
    split
    · split
      · rename_i h
        refine fmP_le hd (by omega) ?_
        by_cases h0 : t = 0
        · rw [if_pos h0]
          exact ih
        · rw [if_neg h0]
          exact see_lt (h.resolve_left h0) (by omega)
      · exact ih
    · exact ih
theorem scN_le {x : Nat → Nat} {L : Nat} {d : Nat → Nat} {q : Nat} (hd : ∀ t, t < 3 → 1 ≤ d t ∧ d t ≤ 3) : ∀ (n : Nat) (S : Bool × Nat × Nat × (Nat → Nat → Nat)), S.2.1 ≤ L → (scN x L d q n S).2.1 ≤ L
  | 0, _, h => h
  | n + 1, S, h => by
    rw [scN]
    split
    · rename_i h1
      exact scN_le hd n _ (prL_le hd (see_lt h1.2 (by omega)) 3 (Nat.le_refl 3))
    · exact h
theorem scP_le {x : Nat → Nat} {L : Nat} {d : Nat → Nat} {q : Nat} (hd : ∀ t, t < 3 → 1 ≤ d t ∧ d t ≤ 3) : (scP x L d q).2.1 ≤ L := scN_le hd _ _ (prL_le hd (Nat.zero_le _) 3 (Nat.le_refl 3))
theorem ff_ok {ok : Bool} {k L : Nat} (hk : k < 2 ^ 31) (h : ffI ok k L < nI 0) : ok = true := ((ffI_neg hk).mp h).1
def st_adds (T : zT) : zT × Int32 := if ffI (prP T.2.2.2.2.2.1.2 T.2.2.2.2.2.1.1 T.1 T.2.1 0).1 (prP T.2.2.2.2.2.1.2 T.2.2.2.2.2.1.1 T.1 T.2.1 0).2.1 T.2.2.2.2.2.1.1 < nI 0 then (if T.2.2.1 = 40 then (txt0 T, mI 2) else ((T.1, T.2.1, T.2.2.1 + 1, adA T.2.2.2.1 T.2.2.1 (prP T.2.2.2.2.2.1.2 T.2.2.2.2.2.1.1 T.1 T.2.1 0).2.2 0, T.2.2.2.2.1, (0, T.2.2.2.2.2.1.2), T.2.2.2.2.2.2), nI (T.2.2.1 + 1))) else (txt0 T, mI 21 - ffI (prP T.2.2.2.2.2.1.2 T.2.2.2.2.2.1.1 T.1 T.2.1 0).1 (prP T.2.2.2.2.2.1.2 T.2.2.2.2.2.1.1 T.1 T.2.1 0).2.1 T.2.2.2.2.2.1.1)
def sp_X11_adds : zSp := fun av w K => match av with
  | [.ref o] => o = 0 ∧ zG w.1 ∧ ∃ T, CT w.2.1 w.2.2 T ∧ ∀ wi' wl', FrC w.2.1 w.2.2 wi' wl' → CT wi' wl' (st_adds T).1 → K (some (.int (st_adds T).2)) (w.1, wi', wl')
  | _ => False
def rm_X11_adds : Room := { frames := 6, cells := 0, slots := 0, locals := 135 }
def M_X11_adds : zM := (k_X11_adds, f_X11, [(96, 4, 5, 2, 0, 0, sp_X6_takeShape), (110, 4, 7, 2, 0, 0, sp_X8_readProduct), (104, 4, 7, 1, 0, 0, sp_X8_empty), (113, 4, 5, 1, 0, 0, sp_X6_isFull), (117, 4, 5, 3, 0, 0, sp_X6_addFrom)], ([], [], []), [], [], 1, false, (false, 0, fun _ => 0), (0, 0, []))
theorem ca_X11_adds_0 (l : Launch) : z_cok l RX11 (headSpec (.code yX11_adds cX11_adds 2 (some .int) :: zTT) rm_X11_adds).room (false, 0, fun _ => 0) (96, 4, 5, 2, 0, 0, sp_X6_takeShape) := z_ca4 (c_X6_takeShape l) mb_X6_takeShape ⟨_, rfl, rfl⟩ wt_344 wt_345 wt_346 (by decide)
theorem ca_X11_adds_1 (l : Launch) : z_cok l RX11 (headSpec (.code yX11_adds cX11_adds 2 (some .int) :: zTT) rm_X11_adds).room (false, 0, fun _ => 0) (110, 4, 7, 2, 0, 0, sp_X8_readProduct) := z_ca4 (c_X8_readProduct l) mb_X8_readProduct ⟨_, rfl, rfl⟩ wt_348 wt_349 wt_350 (by decide)
theorem ca_X11_adds_2 (l : Launch) : z_cok l RX11 (headSpec (.code yX11_adds cX11_adds 2 (some .int) :: zTT) rm_X11_adds).room (false, 0, fun _ => 0) (104, 4, 7, 1, 0, 0, sp_X8_empty) := z_ca4 (c_X8_empty l) mb_X8_empty ⟨_, rfl, rfl⟩ wt_398 wt_399 wt_400 (by decide)
theorem ca_X11_adds_3 (l : Launch) : z_cok l RX11 (headSpec (.code yX11_adds cX11_adds 2 (some .int) :: zTT) rm_X11_adds).room (false, 0, fun _ => 0) (113, 4, 5, 1, 0, 0, sp_X6_isFull) := z_ca4 (c_X6_isFull l) mb_X6_isFull ⟨_, rfl, rfl⟩ wt_402 wt_285 wt_286 (by decide)
theorem ca_X11_adds_4 (l : Launch) : z_cok l RX11 (headSpec (.code yX11_adds cX11_adds 2 (some .int) :: zTT) rm_X11_adds).room (false, 0, fun _ => 0) (117, 4, 5, 3, 0, 0, sp_X6_addFrom) := z_ca4 (c_X6_addFrom l) mb_X6_addFrom ⟨_, rfl, rfl⟩ wt_403 wt_404 wt_405 (by decide)
theorem O_X11_adds (l : Launch) : z_OK l RX11 cX11_adds (headSpec (.code yX11_adds cX11_adds 2 (some .int) :: zTT) rm_X11_adds).room M_X11_adds := ⟨ok_X11_adds, fo_X11, List.forall_mem_cons.mpr ⟨ca_X11_adds_0 l, List.forall_mem_cons.mpr ⟨ca_X11_adds_1 l, List.forall_mem_cons.mpr ⟨ca_X11_adds_2 l, List.forall_mem_cons.mpr ⟨ca_X11_adds_3 l, List.forall_mem_cons.mpr ⟨ca_X11_adds_4 l, fun _ h => absurd h List.not_mem_nil⟩⟩⟩⟩⟩, fun _ h => absurd h List.not_mem_nil, fun _ h => absurd h List.not_mem_nil, fun _ h => absurd h List.not_mem_nil, fun _ h => absurd h List.not_mem_nil, rfl, rfl, fun _ h => absurd h List.not_mem_nil⟩
theorem c_X11_adds (l : Launch) : z_CS l yX11_adds cX11_adds 2 (some .int) rm_X11_adds sp_X11_adds := by
  refine z_meth (by decide) (Or.inr (Or.inl ⟨rfl, rfl⟩)) (fun h => by cases h) rfl (O_X11_adds l) ?_
  intro av w K h
  match av, h with
  | [.ref o], h =>
    obtain ⟨rfl, ⟨r, hG⟩, ⟨d, q, c, A, kp, ⟨L, x⟩, tl⟩, hC, h⟩ := h
    obtain ⟨G, wi, wl⟩ := w
    subst hG
    try dsimp only at h hC
    refine ⟨Nat.le_of_ble_eq_true rfl, fun Jm hs => hs 400 0 _ _ _ _ _ ?_⟩
    unfold st_adds at h
    dsimp only at h
    have hS := ct_S hC
    have h40 := cs_40 hS
    have hle : (prP x L d q 0).2.1 ≤ L := prL_le (x := x) (L := L) (q := q) (cs_d hS) (Nat.zero_le _) 3 (Nat.le_refl 3)
    have hz : ∀ u, zb (pl d u) ((prP x L d q 0).2.2 u) := prL_z x L d q 0 3
    have hL : L ≤ 400 := (ct_X hC).2.1
    generalize hR : prP x L d q 0 = R at h hle hz
    conv => whnf
    repeat ((first | refine ⟨zG_of _, ?_⟩ | refine ⟨trivial, ?_⟩ | refine ⟨rfl, ?_⟩ | refine ⟨fun hc => absurd hc (by decide), fun _ => ?_⟩ | refine ⟨fun _ => ?_, fun hc => absurd (by decide) hc⟩ | refine ⟨fun _ => ?_, fun hc => absurd hc (by decide)⟩ | refine ⟨fun hc => absurd (by decide) hc, fun _ => ?_⟩); conv => whnf)
    try dsimp only
    refine ⟨by simp, zG_of _, d, q, c, A, hS, fun wi1 hF1 hD1 => ?_⟩
    have hS12 : CS wi1 12 d q 0 (fun _ _ => 0) := ⟨hD1, fun k hk => absurd hk (by omega), cs_q23 hS, cs_d hS, by omega, fun k hk => absurd hk (by omega)⟩
    have hT1 : TL wi1 L x := tl_fr (ct_X hC) (hF1 1 (by decide)) (hF1 3 (by decide))
    conv => whnf
    repeat ((first | refine ⟨zG_of _, ?_⟩ | refine ⟨trivial, ?_⟩ | refine ⟨rfl, ?_⟩ | refine ⟨fun hc => absurd hc (by decide), fun _ => ?_⟩ | refine ⟨fun _ => ?_, fun hc => absurd (by decide) hc⟩ | refine ⟨fun _ => ?_, fun hc => absurd hc (by decide)⟩ | refine ⟨fun hc => absurd (by decide) hc, fun _ => ?_⟩); conv => whnf)
    try dsimp only
    refine ⟨L, x, d, q, _, hT1, hS12, fun wi2 hF2 hT2 hok => ?_⟩
    rw [hR]
    rw [hR] at hok
    conv => whnf
    repeat ((first | refine ⟨zG_of _, ?_⟩ | refine ⟨trivial, ?_⟩ | refine ⟨rfl, ?_⟩ | refine ⟨fun hc => absurd hc (by decide), fun _ => ?_⟩ | refine ⟨fun _ => ?_, fun hc => absurd (by decide) hc⟩ | refine ⟨fun _ => ?_, fun hc => absurd hc (by decide)⟩ | refine ⟨fun hc => absurd (by decide) hc, fun _ => ?_⟩); conv => whnf)
    try dsimp only
    refine ⟨L, x, hT2, fun wi3 hF3 hT3 _ => ?_⟩
    have hF : ∀ y, y ≠ 1 → y ≠ 12 → y ≠ 14 → wi3 y = wi y := fun y g1 g2 g3 => by rw [hF3 y g1, hF2 y g1 g2 g3, hF1 y g2]
    have hX : CT wi3 wl (d, q, c, A, kp, (0, x), tl) := ct_text hC (fun y hy => hF y (by omega) (by omega) (by omega)) hT3 rfl
    have hFC : FrC wi wl wi3 wl := fun y hy => ⟨hF y (by omega) (by omega) (by omega), rfl⟩
    conv => whnf
    repeat ((first | refine ⟨zG_of _, ?_⟩ | refine ⟨trivial, ?_⟩ | refine ⟨rfl, ?_⟩ | refine ⟨fun hc => absurd hc (by decide), fun _ => ?_⟩ | refine ⟨fun _ => ?_, fun hc => absurd (by decide) hc⟩ | refine ⟨fun _ => ?_, fun hc => absurd hc (by decide)⟩ | refine ⟨fun hc => absurd (by decide) hc, fun _ => ?_⟩); conv => whnf)
    try dsimp only
    refine ⟨fun hn => ?_, fun hn => ?_⟩
    · rw [if_pos hn] at h
      have hS3 : CS wi3 12 d q 1 R.2.2 := cs_fr (hok (ff_ok (by omega) hn)) (hF3 12 (by decide)) (hF3 14 (by decide))
      conv => whnf
      repeat ((first | refine ⟨zG_of _, ?_⟩ | refine ⟨trivial, ?_⟩ | refine ⟨rfl, ?_⟩ | refine ⟨fun hc => absurd hc (by decide), fun _ => ?_⟩ | refine ⟨fun _ => ?_, fun hc => absurd (by decide) hc⟩ | refine ⟨fun _ => ?_, fun hc => absurd hc (by decide)⟩ | refine ⟨fun hc => absurd (by decide) hc, fun _ => ?_⟩); conv => whnf)
      try dsimp only
      rw [full_S (ct_S hX), bI_0, Classical.not_not]
      refine ⟨fun hc => ?_, fun hc => ?_⟩
      · rw [if_neg (by omega)] at h
        conv => whnf
        repeat ((first | refine ⟨zG_of _, ?_⟩ | refine ⟨trivial, ?_⟩ | refine ⟨rfl, ?_⟩ | refine ⟨fun hc => absurd hc (by decide), fun _ => ?_⟩ | refine ⟨fun _ => ?_, fun hc => absurd (by decide) hc⟩ | refine ⟨fun _ => ?_, fun hc => absurd hc (by decide)⟩ | refine ⟨fun hc => absurd (by decide) hc, fun _ => ?_⟩); conv => whnf)
        try dsimp only
        refine Or.inl ⟨Or.inl ⟨rfl, rfl⟩, d, q, c, A, d, 1, R.2.2, 0, ct_S hX, hS3, hc, rfl, by decide, fun wi4 hF4 hS4 => ?_⟩
        have h := h wi4 wl (fun y hy => ⟨by rw [hF4 y (by omega) (by omega), hF y (by omega) (by omega) (by omega)], rfl⟩) (ct_now hX hS4 (adA_z (ct_Z hC) (c2 := 1) (fun k hk p g1 g2 => hz k p (by rw [show k % 3 = k by omega] at g1; exact g1) g2) (by decide)) (fun y hy => hF4 y (by omega) (by omega)) rfl)
        rw [← cs_c hS4] at h
        conv => whnf
        repeat ((first | refine ⟨zG_of _, ?_⟩ | refine ⟨trivial, ?_⟩ | refine ⟨rfl, ?_⟩ | refine ⟨fun hc => absurd hc (by decide), fun _ => ?_⟩ | refine ⟨fun _ => ?_, fun hc => absurd (by decide) hc⟩ | refine ⟨fun _ => ?_, fun hc => absurd hc (by decide)⟩ | refine ⟨fun hc => absurd (by decide) hc, fun _ => ?_⟩); conv => whnf)
        try dsimp only
        exact h
      · rw [if_pos (by omega)] at h
        exact ⟨trivial, h wi3 wl hFC hX⟩
    · rw [if_neg hn] at h
      exact ⟨trivial, h wi3 wl hFC hX⟩
def st_like (T : zT) (i j t : Int32) : zT × Int32 := if (idB T.2.2.1 i && (idB T.2.2.1 j && idB 3 t)) = true then (T, if likeN T.2.1 (T.2.2.2.1 (3 * i.toNatClampNeg + t.toNatClampNeg)) (T.2.2.2.1 (3 * j.toNatClampNeg + t.toNatClampNeg)) = 0 then mI 2 else nI (likeN T.2.1 (T.2.2.2.1 (3 * i.toNatClampNeg + t.toNatClampNeg)) (T.2.2.2.1 (3 * j.toNatClampNeg + t.toNatClampNeg)))) else (T, mI 1)
def sp_X11_like : zSp := fun av w K => match av with
  | [.ref o, .int i, .int j, .int t] => o = 0 ∧ zG w.1 ∧ ∃ T, CT w.2.1 w.2.2 T ∧ ∀ wi' wl', FrC w.2.1 w.2.2 wi' wl' → CT wi' wl' (st_like T i j t).1 → K (some (.int (st_like T i j t).2)) (w.1, wi', wl')
  | _ => False
def rm_X11_like : Room := { frames := 3, cells := 0, slots := 0, locals := 66 }
def M_X11_like : zM := (k_X11_like, f_X11, [(121, 4, 5, 2, 0, 0, sp_X6_isProduct), (128, 0, 0, 1, 0, 0, sp_X11_isTable), (204, 4, 5, 4, 0, 0, sp_X6_likeBy)], ([], [], []), [], [], 1, false, (false, 0, fun _ => 0), (0, 0, []))
theorem ca_X11_like_0 (l : Launch) : z_cok l RX11 (headSpec (.code yX11_like cX11_like 5 (some .int) :: zTT) rm_X11_like).room (false, 0, fun _ => 0) (121, 4, 5, 2, 0, 0, sp_X6_isProduct) := z_ca4 (c_X6_isProduct l) mb_X6_isProduct ⟨_, rfl, rfl⟩ wt_416 wt_417 wt_418 (by decide)
theorem ca_X11_like_1 (l : Launch) : z_cok l RX11 (headSpec (.code yX11_like cX11_like 5 (some .int) :: zTT) rm_X11_like).room (false, 0, fun _ => 0) (128, 0, 0, 1, 0, 0, sp_X11_isTable) := z_ca0 (c_X11_isTable l) mb_X11_isTable wt_505 wt_506 (by decide)
theorem ca_X11_like_2 (l : Launch) : z_cok l RX11 (headSpec (.code yX11_like cX11_like 5 (some .int) :: zTT) rm_X11_like).room (false, 0, fun _ => 0) (204, 4, 5, 4, 0, 0, sp_X6_likeBy) := z_ca4 (c_X6_likeBy l) mb_X6_likeBy ⟨_, rfl, rfl⟩ wt_508 wt_509 wt_510 (by decide)
theorem O_X11_like (l : Launch) : z_OK l RX11 cX11_like (headSpec (.code yX11_like cX11_like 5 (some .int) :: zTT) rm_X11_like).room M_X11_like := ⟨ok_X11_like, fo_X11, List.forall_mem_cons.mpr ⟨ca_X11_like_0 l, List.forall_mem_cons.mpr ⟨ca_X11_like_1 l, List.forall_mem_cons.mpr ⟨ca_X11_like_2 l, fun _ h => absurd h List.not_mem_nil⟩⟩⟩, fun _ h => absurd h List.not_mem_nil, fun _ h => absurd h List.not_mem_nil, fun _ h => absurd h List.not_mem_nil, fun _ h => absurd h List.not_mem_nil, rfl, rfl, fun _ h => absurd h List.not_mem_nil⟩
theorem c_X11_like (l : Launch) : z_CS l yX11_like cX11_like 5 (some .int) rm_X11_like sp_X11_like := by
  refine z_meth (by decide) (Or.inr (Or.inl ⟨rfl, rfl⟩)) (fun h => by cases h) rfl (O_X11_like l) ?_
  intro av w K h
  match av, h with
  | [.ref o, .int i, .int j, .int t], h =>
    obtain ⟨rfl, ⟨r, hG⟩, ⟨d, q, c, A, kp, tx, tl⟩, hC, h⟩ := h
    obtain ⟨G, wi, wl⟩ := w
    subst hG
    try dsimp only at h hC
    refine ⟨Nat.le_of_ble_eq_true rfl, fun Jm hs => hs 400 0 _ _ _ _ _ ?_⟩
    have h := h wi wl (FrC_refl _ _)
    unfold st_like at h
    dsimp only at h
    have hS := ct_S hC
    have h40 := cs_40 hS
    have no : ¬ (idB c i && (idB c j && idB 3 t)) = true → K (some (.int (mI 1))) (GC ++ r, wi, wl) := fun hn => by
      rw [if_neg hn] at h
      exact h hC
    conv => whnf
    repeat ((first | refine ⟨zG_of _, ?_⟩ | refine ⟨trivial, ?_⟩ | refine ⟨rfl, ?_⟩ | refine ⟨fun hc => absurd hc (by decide), fun _ => ?_⟩ | refine ⟨fun _ => ?_, fun hc => absurd (by decide) hc⟩ | refine ⟨fun _ => ?_, fun hc => absurd hc (by decide)⟩ | refine ⟨fun hc => absurd (by decide) hc, fun _ => ?_⟩); conv => whnf)
    try dsimp only
    rw [isP_S hS, bI_0]
    refine ⟨fun h1 => ⟨trivial, no (by simp [h1])⟩, fun h1 => ?_⟩
    conv => whnf
    repeat ((first | refine ⟨zG_of _, ?_⟩ | refine ⟨trivial, ?_⟩ | refine ⟨rfl, ?_⟩ | refine ⟨fun hc => absurd hc (by decide), fun _ => ?_⟩ | refine ⟨fun _ => ?_, fun hc => absurd (by decide) hc⟩ | refine ⟨fun _ => ?_, fun hc => absurd hc (by decide)⟩ | refine ⟨fun hc => absurd (by decide) hc, fun _ => ?_⟩); conv => whnf)
    try dsimp only
    rw [isP_S hS, bI_0]
    refine ⟨fun h2 => ⟨trivial, no (by simp [h2])⟩, fun h2 => ?_⟩
    conv => whnf
    repeat ((first | refine ⟨zG_of _, ?_⟩ | refine ⟨trivial, ?_⟩ | refine ⟨rfl, ?_⟩ | refine ⟨fun hc => absurd hc (by decide), fun _ => ?_⟩ | refine ⟨fun _ => ?_, fun hc => absurd (by decide) hc⟩ | refine ⟨fun _ => ?_, fun hc => absurd hc (by decide)⟩ | refine ⟨fun hc => absurd (by decide) hc, fun _ => ?_⟩); conv => whnf)
    try dsimp only
    rw [isT_B, bI_0, Classical.not_not]
    refine ⟨fun h3 => ?_, fun h3 => ⟨trivial, no (by simp [h3])⟩⟩
    have h1 := Classical.not_not.mp h1
    have h2 := Classical.not_not.mp h2
    obtain ⟨i', hi, rfl⟩ := idB_N h1 (by omega)
    obtain ⟨j', hj, rfl⟩ := idB_N h2 (by omega)
    obtain ⟨t', ht, rfl⟩ := idB_N h3 (by omega)
    rw [if_pos (by simp [h1, h2, h3]), nc_N (by omega), nc_N (by omega), nc_N (by omega)] at h
    have lk : flike (atF (wi 8) 120 (nI 3 * nI i' + nI t')) (atF (wi 8) 120 (nI 3 * nI j' + nI t')) (wi 6 4) = nI (likeN q (A (3 * i' + t')) (A (3 * j' + t'))) := lk_S hS hi hj ht
    have l3 := likeN_lt q (A (3 * i' + t')) (A (3 * j' + t'))
    conv => whnf
    repeat ((first | refine ⟨zG_of _, ?_⟩ | refine ⟨trivial, ?_⟩ | refine ⟨rfl, ?_⟩ | refine ⟨fun hc => absurd hc (by decide), fun _ => ?_⟩ | refine ⟨fun _ => ?_, fun hc => absurd (by decide) hc⟩ | refine ⟨fun _ => ?_, fun hc => absurd hc (by decide)⟩ | refine ⟨fun hc => absurd (by decide) hc, fun _ => ?_⟩); conv => whnf)
    try dsimp only
    rw [lk, ltN (by omega) (by omega)]
    refine ⟨fun hz => ?_, fun hz => ?_⟩
    · rw [if_pos (by omega)] at h
      exact ⟨trivial, h hC⟩
    · rw [if_neg (by omega)] at h
      exact ⟨trivial, h hC⟩

