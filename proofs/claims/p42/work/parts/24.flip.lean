/-! a scheme made plain; a flip done -/
theorem apK_le (s : Nat) (d : Nat → Nat) (i j : Nat) (S : Nat × (Nat → Nat → Nat)) : ∀ k, (apK s d i j k S).1 ≤ S.1 + k
  | 0 => Nat.le_refl _
  | k + 1 => by
    have := apK_le s d i j S k
    rw [apK]
    split
    · show (apK s d i j k S).1 + 1 ≤ _
      omega
    · omega
theorem apJ_le (s : Nat) (d : Nat → Nat) (i : Nat) (S : Nat × (Nat → Nat → Nat)) : ∀ j, (apJ s d i j S).1 ≤ S.1 + j * d 2
  | 0 => by rw [Nat.zero_mul]; exact Nat.le_refl _
  | j + 1 => by
    have h1 := apJ_le s d i S j
    have h2 := apK_le s d i j (apJ s d i j S) (d 2)
    rw [apJ, Nat.add_mul, Nat.one_mul]
    omega
theorem apI_le (s : Nat) (d : Nat → Nat) (S : Nat × (Nat → Nat → Nat)) : ∀ i, (apI s d i S).1 ≤ S.1 + i * (d 1 * d 2)
  | 0 => by rw [Nat.zero_mul]; exact Nat.le_refl _
  | i + 1 => by
    have h1 := apI_le s d S i
    have h2 := apJ_le s d i (apI s d i S) (d 1)
    rw [apI, Nat.add_mul, Nat.one_mul]
    omega
def plS (d : Nat → Nat) : Nat × (Nat → Nat → Nat) := apI 3 d (d 0) (0, fun _ _ => 0)
theorem plS_le {d : Nat → Nat} (h : ∀ t, t < 3 → 1 ≤ d t ∧ d t ≤ 3) : (plS d).1 ≤ 27 := by
  have h1 := apI_le 3 d (0, fun _ _ => 0) (d 0)
  have h2 : d 0 * (d 1 * d 2) ≤ 3 * (3 * 3) := Nat.mul_le_mul (h 0 (by decide)).2 (Nat.mul_le_mul (h 1 (by decide)).2 (h 2 (by decide)).2)
  unfold plS
  simp only [Nat.zero_add] at h1
  omega
def sp_X6_makePlain : zSp := fun av w K => match av with
  | [.ref o, .int a, .int b, .int e, .int f] => o = 6 ∧ zG w.1 ∧ ∃ (d : Nat → Nat) (q : Nat), a = nI (d 0) ∧ b = nI (d 1) ∧ e = nI (d 2) ∧ f = nI q ∧ (q = 2 ∨ q = 3) ∧ (∀ t, t < 3 → 1 ≤ d t ∧ d t ≤ 3) ∧ ∀ wi' : Nat → Nat → Int32, Fr 6 8 w.2.1 wi' → CS wi' 6 d q (plS d).1 (plS d).2 → K none (w.1, wi', w.2.2)
  | _ => False
def rm_X6_makePlain : Room := { frames := 5, cells := 0, slots := 0, locals := 114 }
def M_X6_makePlain : zM := (k_X6_makePlain, f_X6, [(36, 4, 5, 2, 0, 0, sp_X6_addPlain)], ([], [], []), [], [], 0, false, (false, 0, fun _ => 0), (0, 0, []))
theorem ca_X6_makePlain_0 (l : Launch) : z_cok l RX6 (headSpec (.code yX6_makePlain cX6_makePlain 5 none :: zTT) rm_X6_makePlain).room (false, 0, fun _ => 0) (36, 4, 5, 2, 0, 0, sp_X6_addPlain) := z_ca4 (c_X6_addPlain l) mb_X6_addPlain ⟨_, rfl, rfl⟩ wt_272 wt_273 wt_274 (by decide)
theorem O_X6_makePlain (l : Launch) : z_OK l RX6 cX6_makePlain (headSpec (.code yX6_makePlain cX6_makePlain 5 none :: zTT) rm_X6_makePlain).room M_X6_makePlain := ⟨ok_X6_makePlain, fo_X6, List.forall_mem_cons.mpr ⟨ca_X6_makePlain_0 l, fun _ h => absurd h List.not_mem_nil⟩, fun _ h => absurd h List.not_mem_nil, fun _ h => absurd h List.not_mem_nil, fun _ h => absurd h List.not_mem_nil, fun _ h => absurd h List.not_mem_nil, rfl, rfl, fun _ h => absurd h List.not_mem_nil⟩
theorem c_X6_makePlain (l : Launch) : z_CS l yX6_makePlain cX6_makePlain 5 none rm_X6_makePlain sp_X6_makePlain := by
  refine z_meth (by decide) (Or.inl ⟨rfl, rfl⟩) (fun h => by cases h) rfl (O_X6_makePlain l) ?_
  intro av w K h
  match av, h with
  | [.ref o, .int a, .int b, .int e, .int f], h =>
    obtain ⟨rfl, ⟨r, hG⟩, d, q, rfl, rfl, rfl, rfl, hq, hd, h⟩ := h
    obtain ⟨G, wi, wl⟩ := w
    subst hG
    try dsimp only at h
    refine ⟨Nat.le_of_ble_eq_true rfl, fun Jm hs => ?_⟩
    refine hs 400 0 _ _ _ _ _ ?_
    have hl := plS_le hd
    conv => whnf
    repeat ((first | refine ⟨zG_of _, ?_⟩ | refine ⟨trivial, ?_⟩ | refine ⟨rfl, ?_⟩ | refine ⟨fun hc => absurd hc (by decide), fun _ => ?_⟩ | refine ⟨fun _ => ?_, fun hc => absurd (by decide) hc⟩ | refine ⟨fun _ => ?_, fun hc => absurd hc (by decide)⟩ | refine ⟨fun hc => absurd (by decide) hc, fun _ => ?_⟩); conv => whnf)
    try dsimp only
    refine ⟨d, q, 0, fun _ _ => 0, 3, ⟨?_, fun k hk => absurd hk (by omega), hq, hd, by omega, fun k hk => absurd hk (by omega)⟩, Or.inl ⟨rfl, rfl⟩, by unfold plS at hl; omega, fun wi' hF hS => ?_⟩
    · simp [z_up]
    · exact h wi' (fun x h1 h2 => by rw [hF x h1 h2, z_up_ne h1, z_up_ne h1, z_up_ne h1, z_up_ne h1, z_up_ne h1]) hS
def nx (t : Nat) : Nat := (t + 1) % 3
theorem nx_lt (t : Nat) : nx t < 3 := mod3_lt _
theorem beh_nx {t : Nat} (h : t < 3) : behF (nI t) = nI (nx t) := beh_N h
theorem nx_ne {t : Nat} (h : t < 3) : nx t ≠ t ∧ nx (nx t) ≠ t ∧ nx (nx t) ≠ nx t := by
  rcases lt3 h with rfl | rfl | rfl <;> decide
def fMul (q f : Nat) (a : Nat → Nat) : Nat → Nat := fun p => f * a p % q
def fAdd (q : Nat) (a b : Nat → Nat) : Nat → Nat := fun p => (a p + b p) % q
def fSub (q : Nat) (a b : Nat → Nat) : Nat → Nat := fun p => (a p + (q - b p)) % q
def tf1 (A : Nat → Nat → Nat) (i j w : Nat) : Nat → Nat → Nat := upA A (3 * j + w) (A (3 * i + w))
def tf2 (q f : Nat) (A : Nat → Nat → Nat) (j u : Nat) : Nat → Nat → Nat := upA A (3 * j + u) (fMul q f (A (3 * j + u)))
def tf3 (q : Nat) (A : Nat → Nat → Nat) (i j u : Nat) : Nat → Nat → Nat := upA A (3 * i + u) (fAdd q (A (3 * i + u)) (A (3 * j + u)))
def tf4 (q : Nat) (A : Nat → Nat → Nat) (i j v : Nat) : Nat → Nat → Nat := upA A (3 * j + v) (fSub q (A (3 * j + v)) (A (3 * i + v)))
/-- a scheme behind the flip of i and j at w -/
def tfA (q : Nat) (A : Nat → Nat → Nat) (i j w : Nat) : Nat → Nat → Nat := tf4 q (tf3 q (tf2 q (likeN q (A (3 * i + w)) (A (3 * j + w))) (tf1 A i j w) j (nx w)) i j (nx w)) i j (nx (nx w))
section
variable {wi wi' : Nat → Nat → Int32} {o : Nat} {d : Nat → Nat} {q c : Nat} {A : Nat → Nat → Nat}
theorem mod_q (h : CS wi o d q c A) (x : Nat) : x % q < q := Nat.mod_lt _ (by have := cs_q23 h; omega)
theorem vMul (h : CS wi o d q c A) {f i t : Nat} (hf : f < q) (hi : i < c) (ht : t < 3) : ftimes (nI f) (fmF wi o (nI i) (nI t)) = pk (fMul q f (A (3 * i + t))) := by
  rw [fm_S h hi ht]
  exact ftimes_pk (cs_q23 h) hf (cs_A h _ (by omega))
theorem vAdd (h : CS wi o d q c A) {i j t : Nat} (hi : i < c) (hj : j < c) (ht : t < 3) : fsum (fmF wi o (nI i) (nI t)) (fmF wi o (nI j) (nI t)) (wi o 4) = pk (fAdd q (A (3 * i + t)) (A (3 * j + t))) := by
  rw [fm_S h hi ht, fm_S h hj ht, cs_q h]
  exact fsum_pk (cs_q23 h) (cs_A h _ (by omega)) (cs_A h _ (by omega))
theorem vSub (h : CS wi o d q c A) {i j t : Nat} (hi : i < c) (hj : j < c) (ht : t < 3) : fless (fmF wi o (nI i) (nI t)) (fmF wi o (nI j) (nI t)) (wi o 4) = pk (fSub q (A (3 * i + t)) (A (3 * j + t))) := by
  rw [fm_S h hi ht, fm_S h hj ht, cs_q h]
  exact fless_pk (cs_q23 h) (cs_A h _ (by omega)) (cs_A h _ (by omega))
end
def sp_X6_turnFlip : zSp := fun av w K => match av with
  | [.ref o, .int i, .int j, .int t] => o = 6 ∧ zG w.1 ∧ ∃ d q c A i' j' t', CS w.2.1 6 d q c A ∧ i = nI i' ∧ i' < c ∧ j = nI j' ∧ j' < c ∧ t = nI t' ∧ t' < 3 ∧ ∀ wi' : Nat → Nat → Int32, Fr 6 8 w.2.1 wi' → CS wi' 6 d q c (tfA q A i' j' t') → K none (w.1, wi', w.2.2)
  | _ => False
def rm_X6_turnFlip : Room := { frames := 3, cells := 0, slots := 0, locals := 66 }
def M_X6_turnFlip : zM := (k_X6_turnFlip, f_X6, [(85, 2, 0, 1, 0, 0, sp_X11_behind), (139, 4, 5, 4, 0, 0, sp_X6_likeBy), (59, 4, 5, 3, 0, 0, sp_X6_formAt), (53, 4, 5, 4, 0, 0, sp_X6_setForm), (144, 0, 0, 2, 0, 0, sp_X2_times), (147, 0, 0, 3, 0, 0, sp_X2_sum), (150, 0, 0, 3, 0, 0, sp_X2_less)], ([], [], []), [], [], 0, false, (false, 0, fun _ => 0), (0, 0, []))
theorem ca_X6_turnFlip_0 (l : Launch) : z_cok l RX6 (headSpec (.code yX6_turnFlip cX6_turnFlip 7 none :: zTT) rm_X6_turnFlip).room (false, 0, fun _ => 0) (85, 2, 0, 1, 0, 0, sp_X11_behind) := z_ca2 (host := "FewProducts") (c_X11_behind l) mb_X11_behind (by decide +kernel) wt_386 (by decide)
theorem ca_X6_turnFlip_1 (l : Launch) : z_cok l RX6 (headSpec (.code yX6_turnFlip cX6_turnFlip 7 none :: zTT) rm_X6_turnFlip).room (false, 0, fun _ => 0) (139, 4, 5, 4, 0, 0, sp_X6_likeBy) := z_ca4 (c_X6_likeBy l) mb_X6_likeBy ⟨_, rfl, rfl⟩ wt_526 wt_509 wt_510 (by decide)
theorem ca_X6_turnFlip_2 (l : Launch) : z_cok l RX6 (headSpec (.code yX6_turnFlip cX6_turnFlip 7 none :: zTT) rm_X6_turnFlip).room (false, 0, fun _ => 0) (59, 4, 5, 3, 0, 0, sp_X6_formAt) := z_ca4 (c_X6_formAt l) mb_X6_formAt ⟨_, rfl, rfl⟩ wt_407 wt_408 wt_409 (by decide)
theorem ca_X6_turnFlip_3 (l : Launch) : z_cok l RX6 (headSpec (.code yX6_turnFlip cX6_turnFlip 7 none :: zTT) rm_X6_turnFlip).room (false, 0, fun _ => 0) (53, 4, 5, 4, 0, 0, sp_X6_setForm) := z_ca4 (c_X6_setForm l) mb_X6_setForm ⟨_, rfl, rfl⟩ wt_288 wt_289 wt_290 (by decide)
theorem ca_X6_turnFlip_4 (l : Launch) : z_cok l RX6 (headSpec (.code yX6_turnFlip cX6_turnFlip 7 none :: zTT) rm_X6_turnFlip).room (false, 0, fun _ => 0) (144, 0, 0, 2, 0, 0, sp_X2_times) := z_ca0 (c_X2_times l) mb_X2_times wt_527 wt_516 (by decide)
theorem ca_X6_turnFlip_5 (l : Launch) : z_cok l RX6 (headSpec (.code yX6_turnFlip cX6_turnFlip 7 none :: zTT) rm_X6_turnFlip).room (false, 0, fun _ => 0) (147, 0, 0, 3, 0, 0, sp_X2_sum) := z_ca0 (c_X2_sum l) mb_X2_sum wt_528 wt_529 (by decide)
theorem ca_X6_turnFlip_6 (l : Launch) : z_cok l RX6 (headSpec (.code yX6_turnFlip cX6_turnFlip 7 none :: zTT) rm_X6_turnFlip).room (false, 0, fun _ => 0) (150, 0, 0, 3, 0, 0, sp_X2_less) := z_ca0 (c_X2_less l) mb_X2_less wt_531 wt_532 (by decide)
theorem O_X6_turnFlip (l : Launch) : z_OK l RX6 cX6_turnFlip (headSpec (.code yX6_turnFlip cX6_turnFlip 7 none :: zTT) rm_X6_turnFlip).room M_X6_turnFlip := ⟨ok_X6_turnFlip, fo_X6, List.forall_mem_cons.mpr ⟨ca_X6_turnFlip_0 l, List.forall_mem_cons.mpr ⟨ca_X6_turnFlip_1 l, List.forall_mem_cons.mpr ⟨ca_X6_turnFlip_2 l, List.forall_mem_cons.mpr ⟨ca_X6_turnFlip_3 l, List.forall_mem_cons.mpr ⟨ca_X6_turnFlip_4 l, List.forall_mem_cons.mpr ⟨ca_X6_turnFlip_5 l, List.forall_mem_cons.mpr ⟨ca_X6_turnFlip_6 l, fun _ h => absurd h List.not_mem_nil⟩⟩⟩⟩⟩⟩⟩, fun _ h => absurd h List.not_mem_nil, fun _ h => absurd h List.not_mem_nil, fun _ h => absurd h List.not_mem_nil, fun _ h => absurd h List.not_mem_nil, rfl, rfl, fun _ h => absurd h List.not_mem_nil⟩
theorem c_X6_turnFlip (l : Launch) : z_CS l yX6_turnFlip cX6_turnFlip 7 none rm_X6_turnFlip sp_X6_turnFlip := by
  refine z_meth (by decide) (Or.inl ⟨rfl, rfl⟩) (fun h => by cases h) rfl (O_X6_turnFlip l) ?_
  intro av w K h
  match av, h with
  | [.ref o, .int i, .int j, .int t], h =>
    obtain ⟨rfl, ⟨r, hG⟩, d, q, c, A, i', j', t', hS, rfl, hi, rfl, hj, rfl, ht, h⟩ := h
    obtain ⟨G, wi, wl⟩ := w
    subst hG
    try dsimp only at h hS
    have h40 := cs_40 hS
    have hf := likeN_lt_q (cs_q23 hS) (A (3 * i' + t')) (A (3 * j' + t'))
    have lk : flike (atF (wi 8) 120 (nI 3 * nI i' + nI t')) (atF (wi 8) 120 (nI 3 * nI j' + nI t')) (wi 6 4) = nI (likeN q (A (3 * i' + t')) (A (3 * j' + t'))) := lk_S hS hi hj ht
    have b1 := beh_nx ht
    have b2 := beh_nx (nx_lt t')
    refine ⟨Nat.le_of_ble_eq_true rfl, fun Jm hs => ?_⟩
    refine hs 400 0 _ _ _ _ _ ?_
    conv => whnf
    repeat ((first | refine ⟨zG_of _, ?_⟩ | refine ⟨trivial, ?_⟩ | refine ⟨rfl, ?_⟩ | refine ⟨fun hc => absurd hc (by decide), fun _ => ?_⟩ | refine ⟨fun _ => ?_, fun hc => absurd (by decide) hc⟩ | refine ⟨fun _ => ?_, fun hc => absurd hc (by decide)⟩ | refine ⟨fun hc => absurd (by decide) hc, fun _ => ?_⟩); conv => whnf)
    try dsimp only
    rw [b1, b2, lk]
    refine ⟨Or.inl rfl, zG_of _, j', t', rfl, by omega, rfl, ht, fun wi1 e1 => ?_⟩
    have k1 := cs_set hS hj ht (fm_S hS hi ht) (cs_A hS _ (by omega)) e1
    conv => whnf
    repeat ((first | refine ⟨zG_of _, ?_⟩ | refine ⟨trivial, ?_⟩ | refine ⟨rfl, ?_⟩ | refine ⟨fun hc => absurd hc (by decide), fun _ => ?_⟩ | refine ⟨fun _ => ?_, fun hc => absurd (by decide) hc⟩ | refine ⟨fun _ => ?_, fun hc => absurd hc (by decide)⟩ | refine ⟨fun hc => absurd (by decide) hc, fun _ => ?_⟩); conv => whnf)
    try dsimp only
    refine ⟨Or.inl rfl, zG_of _, j', nx t', rfl, by omega, rfl, nx_lt _, fun wi2 e2 => ?_⟩
    have k2 := cs_set k1.1 hj (nx_lt t') (vMul k1.1 hf hj (nx_lt t')) (fun p _ => mod_q hS _) e2
    conv => whnf
    repeat ((first | refine ⟨zG_of _, ?_⟩ | refine ⟨trivial, ?_⟩ | refine ⟨rfl, ?_⟩ | refine ⟨fun hc => absurd hc (by decide), fun _ => ?_⟩ | refine ⟨fun _ => ?_, fun hc => absurd (by decide) hc⟩ | refine ⟨fun _ => ?_, fun hc => absurd hc (by decide)⟩ | refine ⟨fun hc => absurd (by decide) hc, fun _ => ?_⟩); conv => whnf)
    try dsimp only
    refine ⟨Or.inl rfl, zG_of _, i', nx t', rfl, by omega, rfl, nx_lt _, fun wi3 e3 => ?_⟩
    have k3 := cs_set k2.1 hi (nx_lt t') (vAdd k2.1 hi hj (nx_lt t')) (fun p _ => mod_q hS _) e3
    conv => whnf
    repeat ((first | refine ⟨zG_of _, ?_⟩ | refine ⟨trivial, ?_⟩ | refine ⟨rfl, ?_⟩ | refine ⟨fun hc => absurd hc (by decide), fun _ => ?_⟩ | refine ⟨fun _ => ?_, fun hc => absurd (by decide) hc⟩ | refine ⟨fun _ => ?_, fun hc => absurd hc (by decide)⟩ | refine ⟨fun hc => absurd (by decide) hc, fun _ => ?_⟩); conv => whnf)
    try dsimp only
    refine ⟨Or.inl rfl, zG_of _, j', nx (nx t'), rfl, by omega, rfl, nx_lt _, fun wi4 e4 => ?_⟩
    have k4 := cs_set k3.1 hj (nx_lt _) (vSub k3.1 hj hi (nx_lt _)) (fun p _ => mod_q hS _) e4
    exact h wi4 (Fr_trans (Fr_trans (Fr_trans k1.2 k2.2) k3.2) k4.2) k4.1

