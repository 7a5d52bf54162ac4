/-! the reference: its scheme, in rows of numbers -/
def fl (A : Nat → Nat → Nat) (j : Nat) : Nat := A (j / 9) (j % 9)
def RW (wi : Nat → Nat → Int32) (o n : Nat) (A : Nat → Nat → Nat) : Prop := ∀ j, j < n → wi o j = nI (fl A j)
def MS (wi : Nat → Nat → Int32) (d : Nat → Nat) (q c : Nat) (A : Nat → Nat → Nat) : Prop :=
  (∀ t, t < 3 → wi 46 t = nI (d t)) ∧ (wi 45 1 = nI q ∧ wi 45 2 = nI c) ∧ RW wi 47 (27 * c) A ∧ (q = 2 ∨ q = 3) ∧ (∀ t, t < 3 → 1 ≤ d t ∧ d t ≤ 3) ∧ c ≤ 40 ∧ ∀ k, k < 3 * c → ∀ p, p < 9 → A k p < q
section
variable {wi wi' : Nat → Nat → Int32} {d : Nat → Nat} {q c : Nat} {A A' : Nat → Nat → Nat}
theorem ms_d (h : MS wi d q c A) : ∀ t, t < 3 → wi 46 t = nI (d t) := h.1
theorem ms_q (h : MS wi d q c A) : wi 45 1 = nI q := h.2.1.1
theorem ms_c (h : MS wi d q c A) : wi 45 2 = nI c := h.2.1.2
theorem ms_f (h : MS wi d q c A) : RW wi 47 (27 * c) A := h.2.2.1
theorem ms_q23 (h : MS wi d q c A) : q = 2 ∨ q = 3 := h.2.2.2.1
theorem ms_hd (h : MS wi d q c A) : ∀ t, t < 3 → 1 ≤ d t ∧ d t ≤ 3 := h.2.2.2.2.1
theorem ms_40 (h : MS wi d q c A) : c ≤ 40 := h.2.2.2.2.2.1
theorem ms_A (h : MS wi d q c A) : ∀ k, k < 3 * c → ∀ p, p < 9 → A k p < q := h.2.2.2.2.2.2
theorem ms_A3 (h : MS wi d q c A) : ∀ k, k < 3 * c → ∀ p, p < 9 → A k p < 3 := fun k hk p hp => by
  have := ms_A h k hk p hp
  have := ms_q23 h
  omega
theorem fl_at (A : Nat → Nat → Nat) {i t p : Nat} (ht : t < 3) (hp : p < 9) : fl A (27 * i + 9 * t + p) = A (3 * i + t) p := by
  unfold fl
  rw [show (27 * i + 9 * t + p) / 9 = 3 * i + t by omega, show (27 * i + 9 * t + p) % 9 = p by omega]
theorem ms_at (h : MS wi d q c A) {i t p : Nat} (hi : i < c) (ht : t < 3) (hp : p < 9) : wi 47 (27 * i + 9 * t + p) = nI (A (3 * i + t) p) := by
  rw [ms_f h _ (by omega), fl_at A ht hp]
end
theorem i64_lt (a b : Int32) : a.toInt64 < b.toInt64 ↔ a < b := by
  rw [Int64.lt_iff_toInt_lt, Int32.lt_iff_toInt_lt, Int32.toInt_toInt64, Int32.toInt_toInt64]
def inF (v lo hi : Int64) : Int32 := bI (¬ v < lo ∧ ¬ hi < v)
def sp_X12_in : zSp := fun av w K => match av with
  | [.long v, .long lo, .long hi] => K (some (.int (inF v lo hi))) w
  | _ => False
def rm_X12_in : Room := { frames := 0, cells := 0, slots := 0, locals := 0 }
def M_X12_in : zM := (k_X12_in, f_X12, [], ([], [], []), [], [], 2, false, (false, 0, fun _ => 0), (0, 0))
theorem O_X12_in (l : Launch) : z_OK l RX12 cX12_in (headSpec (.code yX12_in cX12_in 6 (some .boolean) :: zTT) rm_X12_in).room M_X12_in := ⟨ok_X12_in, fo_X12, fun _ h => absurd h List.not_mem_nil, fun _ h => absurd h List.not_mem_nil, fun _ h => absurd h List.not_mem_nil, fun _ h => absurd h List.not_mem_nil, fun _ h => absurd h List.not_mem_nil, rfl, rfl⟩
theorem c_X12_in (l : Launch) : z_CS l yX12_in cX12_in 6 (some .boolean) rm_X12_in sp_X12_in := by
  refine z_meth (by decide) (Or.inr (Or.inr (Or.inl ⟨rfl, rfl⟩))) (fun h => by cases h) rfl (O_X12_in l) ?_
  intro av w K h
  match av, h with
  | [.long v, .long lo, .long hi], h =>
    refine ⟨Nat.le_of_ble_eq_true rfl, fun Jm hs => hs 400 0 _ _ _ _ _ ?_⟩
    have h : K (some (.int (inF v lo hi))) w := h
    conv => whnf
    rw [show (nI 0 : Int32) = 0 from rfl, lg_cmp_lt]
    refine ⟨fun hc => ?_, fun hc => ?_⟩
    · rw [inF, bI_f (fun z => z.1 hc)] at h
      exact ⟨Or.inl rfl, h⟩
    · conv => whnf
      rw [show (nI 0 : Int32) = 0 from rfl, lg_cmp_gt]
      refine ⟨fun hc2 => ?_, fun hc2 => ?_⟩
      · rw [inF, bI_f (fun z => z.2 hc2)] at h
        exact ⟨Or.inl rfl, h⟩
      · rw [inF, bI_t ⟨hc, hc2⟩] at h
        exact ⟨Or.inr rfl, h⟩
theorem in_id {c : Nat} (hc : c < 2 ^ 31) (i : Int32) : inF i.toInt64 (lN 0) (nI c - nI 1).toInt64 = bI (idB c i = true) := by
  unfold inF idB
  refine bI_cg ?_
  rw [decide_eq_true_iff, show (lN 0 : Int64) = (nI 0).toInt64 from by decide, i64_lt, i64_lt]
  have e : (nI c - nI 1).toInt = (c : Int) - 1 := by
    by_cases h : c = 0
    · subst h; decide
    · rw [pk_sub (by omega), nI_toInt (by omega)]
      omega
  constructor
  · rintro ⟨h1, h2⟩
    refine ⟨h1, ?_⟩
    rw [Int32.lt_iff_toInt_lt, e] at h2
    rw [Int32.lt_iff_toInt_lt, nI_toInt hc]
    omega
  · rintro ⟨h1, h2⟩
    refine ⟨h1, ?_⟩
    rw [Int32.lt_iff_toInt_lt, nI_toInt hc] at h2
    rw [Int32.lt_iff_toInt_lt, e]
    omega
theorem in_rg {lo hi : Nat} (h1 : lo < 2 ^ 31) (h2 : hi < 2 ^ 31) (v : Int32) : inF v.toInt64 (lN lo) (lN hi) = bI (rgB lo hi v = true) := by
  unfold inF rgB
  refine bI_cg ?_
  rw [decide_eq_true_iff, ← nI_l h1, ← nI_l h2, i64_lt, i64_lt]
def sp_X12_rowsOf : zSp := fun av w K => match av with
  | [.ref o, .int t] => o = 45 ∧ zH w.1 ∧ ∃ t' : Nat, t = nI t' ∧ t' < 3 ∧ K (some (.int (w.2.1 46 t'))) w
  | _ => False
def rm_X12_rowsOf : Room := { frames := 0, cells := 0, slots := 0, locals := 0 }
def M_X12_rowsOf : zM := (k_X12_rowsOf, f_X12, [], ([], [], []), [], [], 1, false, (false, 0, fun _ => 0), (0, 0))
theorem O_X12_rowsOf (l : Launch) : z_OK l RX12 cX12_rowsOf (headSpec (.code yX12_rowsOf cX12_rowsOf 2 (some .int) :: zTT) rm_X12_rowsOf).room M_X12_rowsOf := ⟨ok_X12_rowsOf, fo_X12, fun _ h => absurd h List.not_mem_nil, fun _ h => absurd h List.not_mem_nil, fun _ h => absurd h List.not_mem_nil, fun _ h => absurd h List.not_mem_nil, fun _ h => absurd h List.not_mem_nil, rfl, rfl⟩
theorem c_X12_rowsOf (l : Launch) : z_CS l yX12_rowsOf cX12_rowsOf 2 (some .int) rm_X12_rowsOf sp_X12_rowsOf := by
  refine z_meth (by decide) (Or.inr (Or.inl ⟨rfl, rfl⟩)) (fun h => by cases h) rfl (O_X12_rowsOf l) ?_
  intro av w K h
  match av, h with
  | [.ref o, .int t], h =>
    obtain ⟨rfl, ⟨r, hG⟩, t', rfl, ht, h⟩ := h
    obtain ⟨G, wi, wl⟩ := w
    subst hG
    try dsimp only at h
    refine ⟨Nat.le_of_ble_eq_true rfl, fun Jm hs => hs 400 0 _ _ _ _ _ ?_⟩
    conv => whnf
    refine ⟨vp_in_nI ht (by decide), ?_⟩
    rw [nI_clamp (by omega)]
    exact ⟨trivial, h⟩
theorem rem3 {t : Nat} (h : t < 3) : z_rem (nI t + nI 1) (nI 3) = nI (nx t) := by
  rw [nI_add, z_remN (by omega) (by decide) (by decide)]
  rfl
theorem n30 : ¬ nI 3 = 0 := by decide
def sp_X12_columnsOf : zSp := fun av w K => match av with
  | [.ref o, .int t] => o = 45 ∧ zH w.1 ∧ ∃ t' : Nat, t = nI t' ∧ t' < 3 ∧ K (some (.int (w.2.1 46 (nx t')))) w
  | _ => False
def rm_X12_columnsOf : Room := { frames := 0, cells := 0, slots := 0, locals := 0 }
def M_X12_columnsOf : zM := (k_X12_columnsOf, f_X12, [], ([], [], []), [], [], 1, false, (false, 0, fun _ => 0), (0, 0))
theorem O_X12_columnsOf (l : Launch) : z_OK l RX12 cX12_columnsOf (headSpec (.code yX12_columnsOf cX12_columnsOf 2 (some .int) :: zTT) rm_X12_columnsOf).room M_X12_columnsOf := ⟨ok_X12_columnsOf, fo_X12, fun _ h => absurd h List.not_mem_nil, fun _ h => absurd h List.not_mem_nil, fun _ h => absurd h List.not_mem_nil, fun _ h => absurd h List.not_mem_nil, fun _ h => absurd h List.not_mem_nil, rfl, rfl⟩
theorem c_X12_columnsOf (l : Launch) : z_CS l yX12_columnsOf cX12_columnsOf 2 (some .int) rm_X12_columnsOf sp_X12_columnsOf := by
  refine z_meth (by decide) (Or.inr (Or.inl ⟨rfl, rfl⟩)) (fun h => by cases h) rfl (O_X12_columnsOf l) ?_
  intro av w K h
  match av, h with
  | [.ref o, .int t], h =>
    obtain ⟨rfl, ⟨r, hG⟩, t', rfl, ht, h⟩ := h
    obtain ⟨G, wi, wl⟩ := w
    subst hG
    try dsimp only at h
    have hn := nx_lt t'
    refine ⟨Nat.le_of_ble_eq_true rfl, fun Jm hs => hs 400 0 _ _ _ _ _ ?_⟩
    conv => whnf
    refine ⟨n30, ?_⟩
    conv => whnf
    rw [rem3 ht]
    refine ⟨vp_in_nI hn (by decide), ?_⟩
    rw [nI_clamp (by omega)]
    exact ⟨trivial, h⟩
def sp_X12_placesOf : zSp := fun av w K => match av with
  | [.ref o, .int t] => o = 45 ∧ zH w.1 ∧ ∃ t' : Nat, t = nI t' ∧ t' < 3 ∧ K (some (.int (w.2.1 46 t' * w.2.1 46 (nx t')))) w
  | _ => False
def rm_X12_placesOf : Room := { frames := 1, cells := 0, slots := 0, locals := 21 }
def M_X12_placesOf : zM := (k_X12_placesOf, f_X12, [(84, 4, 10, 2, 0, 0, sp_X12_rowsOf), (88, 4, 10, 2, 0, 0, sp_X12_columnsOf)], ([], [], []), [], [], 1, false, (false, 0, fun _ => 0), (0, 0))
theorem ca_X12_placesOf_0 (l : Launch) : z_cok l RX12 (headSpec (.code yX12_placesOf cX12_placesOf 2 (some .int) :: zTT) rm_X12_placesOf).room (84, 4, 10, 2, 0, 0, sp_X12_rowsOf) := z_ca4 (c_X12_rowsOf l) mb_X12_rowsOf ⟨_, rfl, rfl⟩ wt_1298 wt_1300 wt_37 (by decide)
theorem ca_X12_placesOf_1 (l : Launch) : z_cok l RX12 (headSpec (.code yX12_placesOf cX12_placesOf 2 (some .int) :: zTT) rm_X12_placesOf).room (88, 4, 10, 2, 0, 0, sp_X12_columnsOf) := z_ca4 (c_X12_columnsOf l) mb_X12_columnsOf ⟨_, rfl, rfl⟩ wt_1306 wt_1308 wt_39 (by decide)
theorem O_X12_placesOf (l : Launch) : z_OK l RX12 cX12_placesOf (headSpec (.code yX12_placesOf cX12_placesOf 2 (some .int) :: zTT) rm_X12_placesOf).room M_X12_placesOf := ⟨ok_X12_placesOf, fo_X12, List.forall_mem_cons.mpr ⟨ca_X12_placesOf_0 l, List.forall_mem_cons.mpr ⟨ca_X12_placesOf_1 l, fun _ h => absurd h List.not_mem_nil⟩⟩, fun _ h => absurd h List.not_mem_nil, fun _ h => absurd h List.not_mem_nil, fun _ h => absurd h List.not_mem_nil, fun _ h => absurd h List.not_mem_nil, rfl, rfl⟩
theorem c_X12_placesOf (l : Launch) : z_CS l yX12_placesOf cX12_placesOf 2 (some .int) rm_X12_placesOf sp_X12_placesOf := by
  refine z_meth (by decide) (Or.inr (Or.inl ⟨rfl, rfl⟩)) (fun h => by cases h) rfl (O_X12_placesOf l) ?_
  intro av w K h
  match av, h with
  | [.ref o, .int t], h =>
    obtain ⟨rfl, ⟨r, hG⟩, t', rfl, ht, h⟩ := h
    obtain ⟨G, wi, wl⟩ := w
    subst hG
    try dsimp only at h
    refine ⟨Nat.le_of_ble_eq_true rfl, fun Jm hs => hs 400 0 _ _ _ _ _ ?_⟩
    conv => whnf
    repeat ((first | refine ⟨zH_of _, ?_⟩ | refine ⟨trivial, ?_⟩ | refine ⟨rfl, ?_⟩ | refine ⟨fun hc => absurd hc (by decide), fun _ => ?_⟩ | refine ⟨fun _ => ?_, fun hc => absurd (by decide) hc⟩ | refine ⟨fun _ => ?_, fun hc => absurd hc (by decide)⟩ | refine ⟨fun hc => absurd (by decide) hc, fun _ => ?_⟩); conv => whnf)
    try dsimp only
    refine ⟨t', rfl, ht, ?_⟩
    conv => whnf
    repeat ((first | refine ⟨zH_of _, ?_⟩ | refine ⟨trivial, ?_⟩ | refine ⟨rfl, ?_⟩ | refine ⟨fun hc => absurd hc (by decide), fun _ => ?_⟩ | refine ⟨fun _ => ?_, fun hc => absurd (by decide) hc⟩ | refine ⟨fun _ => ?_, fun hc => absurd hc (by decide)⟩ | refine ⟨fun hc => absurd (by decide) hc, fun _ => ?_⟩); conv => whnf)
    try dsimp only
    refine ⟨t', rfl, ht, ?_⟩
    conv => whnf
    repeat ((first | refine ⟨zH_of _, ?_⟩ | refine ⟨trivial, ?_⟩ | refine ⟨rfl, ?_⟩ | refine ⟨fun hc => absurd hc (by decide), fun _ => ?_⟩ | refine ⟨fun _ => ?_, fun hc => absurd (by decide) hc⟩ | refine ⟨fun _ => ?_, fun hc => absurd hc (by decide)⟩ | refine ⟨fun hc => absurd (by decide) hc, fun _ => ?_⟩); conv => whnf)
    try dsimp only
    exact h
theorem mpl {wi : Nat → Nat → Int32} {d : Nat → Nat} {q c : Nat} {A : Nat → Nat → Nat} (h : MS wi d q c A) {t : Nat} (ht : t < 3) : wi 46 t * wi 46 (nx t) = nI (pl d t) := by
  rw [ms_d h _ ht, ms_d h _ (nx_lt t), pk_mul]
  rfl
def atN (i t p : Int32) : Int32 := nI 27 * i + nI 9 * t + p
theorem at_N (i t p : Nat) : atN (nI i) (nI t) (nI p) = nI (27 * i + 9 * t + p) := by
  unfold atN
  rw [pk_mul, pk_mul, nI_add, nI_add]
def sp_X12_at : zSp := fun av w K => match av with
  | [.int i, .int t, .int p] => K (some (.int (atN i t p))) w
  | _ => False
def rm_X12_at : Room := { frames := 0, cells := 0, slots := 0, locals := 0 }
def M_X12_at : zM := (k_X12_at, f_X12, [], ([], [], []), [], [], 1, false, (false, 0, fun _ => 0), (0, 0))
theorem O_X12_at (l : Launch) : z_OK l RX12 cX12_at (headSpec (.code yX12_at cX12_at 3 (some .int) :: zTT) rm_X12_at).room M_X12_at := ⟨ok_X12_at, fo_X12, fun _ h => absurd h List.not_mem_nil, fun _ h => absurd h List.not_mem_nil, fun _ h => absurd h List.not_mem_nil, fun _ h => absurd h List.not_mem_nil, fun _ h => absurd h List.not_mem_nil, rfl, rfl⟩
theorem c_X12_at (l : Launch) : z_CS l yX12_at cX12_at 3 (some .int) rm_X12_at sp_X12_at := by
  refine z_meth (by decide) (Or.inr (Or.inl ⟨rfl, rfl⟩)) (fun h => by cases h) rfl (O_X12_at l) ?_
  intro av w K h
  match av, h with
  | [.int i, .int t, .int p], h => exact ⟨Nat.le_of_ble_eq_true rfl, fun Jm hs => hs 400 0 _ _ _ _ _ ⟨trivial, h⟩⟩
def sp_X12_isProduct : zSp := fun av w K => match av with
  | [.ref o, .int i] => o = 45 ∧ zH w.1 ∧ ∃ c : Nat, w.2.1 45 2 = nI c ∧ c < 2 ^ 31 ∧ K (some (.int (bI (idB c i = true)))) w
  | _ => False
def rm_X12_isProduct : Room := { frames := 1, cells := 0, slots := 0, locals := 25 }
def M_X12_isProduct : zM := (k_X12_isProduct, f_X12, [(80, 0, 0, 3, 0, 0, sp_X12_in)], ([], [], []), [], [], 2, false, (false, 0, fun _ => 0), (0, 0))
theorem ca_X12_isProduct_0 (l : Launch) : z_cok l RX12 (headSpec (.code yX12_isProduct cX12_isProduct 2 (some .boolean) :: zTT) rm_X12_isProduct).room (80, 0, 0, 3, 0, 0, sp_X12_in) := z_ca0 (c_X12_in l) mb_X12_in wt_1253 wt_1254 (by decide)
theorem O_X12_isProduct (l : Launch) : z_OK l RX12 cX12_isProduct (headSpec (.code yX12_isProduct cX12_isProduct 2 (some .boolean) :: zTT) rm_X12_isProduct).room M_X12_isProduct := ⟨ok_X12_isProduct, fo_X12, List.forall_mem_cons.mpr ⟨ca_X12_isProduct_0 l, fun _ h => absurd h List.not_mem_nil⟩, fun _ h => absurd h List.not_mem_nil, fun _ h => absurd h List.not_mem_nil, fun _ h => absurd h List.not_mem_nil, fun _ h => absurd h List.not_mem_nil, rfl, rfl⟩
theorem c_X12_isProduct (l : Launch) : z_CS l yX12_isProduct cX12_isProduct 2 (some .boolean) rm_X12_isProduct sp_X12_isProduct := by
  refine z_meth (by decide) (Or.inr (Or.inr (Or.inl ⟨rfl, rfl⟩))) (fun h => by cases h) rfl (O_X12_isProduct l) ?_
  intro av w K h
  match av, h with
  | [.ref o, .int i], h =>
    obtain ⟨rfl, ⟨r, hG⟩, c, hc, hc2, h⟩ := h
    obtain ⟨G, wi, wl⟩ := w
    subst hG
    try dsimp only at h hc
    refine ⟨Nat.le_of_ble_eq_true rfl, fun Jm hs => hs 400 0 _ _ _ _ _ ?_⟩
    rw [← in_id hc2, ← hc] at h
    conv => whnf
    repeat ((first | refine ⟨zH_of _, ?_⟩ | refine ⟨trivial, ?_⟩ | refine ⟨rfl, ?_⟩ | refine ⟨fun hc => absurd hc (by decide), fun _ => ?_⟩ | refine ⟨fun _ => ?_, fun hc => absurd (by decide) hc⟩ | refine ⟨fun _ => ?_, fun hc => absurd hc (by decide)⟩ | refine ⟨fun hc => absurd (by decide) hc, fun _ => ?_⟩); conv => whnf)
    try dsimp only
    exact ⟨bI_or, h⟩
def sp_X12_isTable : zSp := fun av w K => match av with
  | [.int t] => K (some (.int (bI (idB 3 t = true)))) w
  | _ => False
def rm_X12_isTable : Room := { frames := 1, cells := 0, slots := 0, locals := 25 }
def M_X12_isTable : zM := (k_X12_isTable, f_X12, [(80, 0, 0, 3, 0, 0, sp_X12_in)], ([], [(94, lN 2)], []), [], [], 2, false, (false, 0, fun _ => 0), (0, 0))
theorem ca_X12_isTable_0 (l : Launch) : z_cok l RX12 (headSpec (.code yX12_isTable cX12_isTable 1 (some .boolean) :: zTT) rm_X12_isTable).room (80, 0, 0, 3, 0, 0, sp_X12_in) := z_ca0 (c_X12_in l) mb_X12_in wt_1253 wt_1254 (by decide)
theorem O_X12_isTable (l : Launch) : z_OK l RX12 cX12_isTable (headSpec (.code yX12_isTable cX12_isTable 1 (some .boolean) :: zTT) rm_X12_isTable).room M_X12_isTable := ⟨ok_X12_isTable, fo_X12, List.forall_mem_cons.mpr ⟨ca_X12_isTable_0 l, fun _ h => absurd h List.not_mem_nil⟩, fun _ h => absurd h List.not_mem_nil, List.forall_mem_cons.mpr ⟨wt_1261, fun _ h => absurd h List.not_mem_nil⟩, fun _ h => absurd h List.not_mem_nil, fun _ h => absurd h List.not_mem_nil, rfl, rfl⟩
theorem c_X12_isTable (l : Launch) : z_CS l yX12_isTable cX12_isTable 1 (some .boolean) rm_X12_isTable sp_X12_isTable := by
  refine z_meth (by decide) (Or.inr (Or.inr (Or.inl ⟨rfl, rfl⟩))) (fun h => by cases h) rfl (O_X12_isTable l) ?_
  intro av w K h
  match av, h with
  | [.int t], h =>
    refine ⟨Nat.le_of_ble_eq_true rfl, fun Jm hs => hs 400 0 _ _ _ _ _ ?_⟩
    have h : K (some (.int (bI (idB 3 t = true)))) w := h
    rw [← in_id (by decide)] at h
    conv => whnf
    exact ⟨bI_or, h⟩
def sp_X12_isPlace : zSp := fun av w K => match av with
  | [.ref o, .int t, .int p] => o = 45 ∧ zH w.1 ∧ ∃ d q c A t', MS w.2.1 d q c A ∧ t = nI t' ∧ t' < 3 ∧ K (some (.int (bI (idB (pl d t') p = true)))) w
  | _ => False
def rm_X12_isPlace : Room := { frames := 2, cells := 0, slots := 0, locals := 42 }
def M_X12_isPlace : zM := (k_X12_isPlace, f_X12, [(96, 4, 10, 2, 0, 0, sp_X12_placesOf), (80, 0, 0, 3, 0, 0, sp_X12_in)], ([], [], []), [], [], 2, false, (false, 0, fun _ => 0), (0, 0))
theorem ca_X12_isPlace_0 (l : Launch) : z_cok l RX12 (headSpec (.code yX12_isPlace cX12_isPlace 3 (some .boolean) :: zTT) rm_X12_isPlace).room (96, 4, 10, 2, 0, 0, sp_X12_placesOf) := z_ca4 (c_X12_placesOf l) mb_X12_placesOf ⟨_, rfl, rfl⟩ wt_1349 wt_1351 wt_45 (by decide)
theorem ca_X12_isPlace_1 (l : Launch) : z_cok l RX12 (headSpec (.code yX12_isPlace cX12_isPlace 3 (some .boolean) :: zTT) rm_X12_isPlace).room (80, 0, 0, 3, 0, 0, sp_X12_in) := z_ca0 (c_X12_in l) mb_X12_in wt_1253 wt_1254 (by decide)
theorem O_X12_isPlace (l : Launch) : z_OK l RX12 cX12_isPlace (headSpec (.code yX12_isPlace cX12_isPlace 3 (some .boolean) :: zTT) rm_X12_isPlace).room M_X12_isPlace := ⟨ok_X12_isPlace, fo_X12, List.forall_mem_cons.mpr ⟨ca_X12_isPlace_0 l, List.forall_mem_cons.mpr ⟨ca_X12_isPlace_1 l, fun _ h => absurd h List.not_mem_nil⟩⟩, fun _ h => absurd h List.not_mem_nil, fun _ h => absurd h List.not_mem_nil, fun _ h => absurd h List.not_mem_nil, fun _ h => absurd h List.not_mem_nil, rfl, rfl⟩
theorem c_X12_isPlace (l : Launch) : z_CS l yX12_isPlace cX12_isPlace 3 (some .boolean) rm_X12_isPlace sp_X12_isPlace := by
  refine z_meth (by decide) (Or.inr (Or.inr (Or.inl ⟨rfl, rfl⟩))) (fun h => by cases h) rfl (O_X12_isPlace l) ?_
  intro av w K h
  match av, h with
  | [.ref o, .int t, .int p], h =>
    obtain ⟨rfl, ⟨r, hG⟩, d, q, c, A, t', hS, rfl, ht, h⟩ := h
    obtain ⟨G, wi, wl⟩ := w
    subst hG
    try dsimp only at h hS
    have p9 := pl_le (ms_hd hS) ht
    refine ⟨Nat.le_of_ble_eq_true rfl, fun Jm hs => hs 400 0 _ _ _ _ _ ?_⟩
    rw [← in_id (by omega), ← mpl hS ht] at h
    conv => whnf
    repeat ((first | refine ⟨zH_of _, ?_⟩ | refine ⟨trivial, ?_⟩ | refine ⟨rfl, ?_⟩ | refine ⟨fun hc => absurd hc (by decide), fun _ => ?_⟩ | refine ⟨fun _ => ?_, fun hc => absurd (by decide) hc⟩ | refine ⟨fun _ => ?_, fun hc => absurd hc (by decide)⟩ | refine ⟨fun hc => absurd (by decide) hc, fun _ => ?_⟩); conv => whnf)
    try dsimp only
    refine ⟨t', rfl, ht, ?_⟩
    conv => whnf
    repeat ((first | refine ⟨zH_of _, ?_⟩ | refine ⟨trivial, ?_⟩ | refine ⟨rfl, ?_⟩ | refine ⟨fun hc => absurd hc (by decide), fun _ => ?_⟩ | refine ⟨fun _ => ?_, fun hc => absurd (by decide) hc⟩ | refine ⟨fun _ => ?_, fun hc => absurd hc (by decide)⟩ | refine ⟨fun hc => absurd (by decide) hc, fun _ => ?_⟩); conv => whnf)
    try dsimp only
    exact ⟨bI_or, h⟩

