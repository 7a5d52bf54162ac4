/-! what the methods without loops answer: tables, rows, places -/
def isTF (t : Int32) : Int32 := bI (¬ t < nI 0 ∧ t < nI 3)
def sp_X11_isTable : zSp := fun av w K => match av with
  | [.int t] => K (some (.int (isTF t))) w
  | _ => False
def rm_X11_isTable : Room := { frames := 0, cells := 0, slots := 0, locals := 0 }
def M_X11_isTable : zM := (k_X11_isTable, f_X11, [], ([], [], []), [], [], 2, false, (false, 0, fun _ => 0), (0, 0, []))
theorem O_X11_isTable (l : Launch) : z_OK l RX11 cX11_isTable (headSpec (.code yX11_isTable cX11_isTable 1 (some .boolean) :: zTT) rm_X11_isTable).room M_X11_isTable := ⟨ok_X11_isTable, fo_X11, fun _ h => absurd h List.not_mem_nil, fun _ h => absurd h List.not_mem_nil, fun _ h => absurd h List.not_mem_nil, fun _ h => absurd h List.not_mem_nil, fun _ h => absurd h List.not_mem_nil, rfl, rfl, fun _ h => absurd h List.not_mem_nil⟩
theorem c_X11_isTable (l : Launch) : z_CS l yX11_isTable cX11_isTable 1 (some .boolean) rm_X11_isTable sp_X11_isTable := by
  refine z_meth (by decide) (Or.inr (Or.inr (Or.inl ⟨rfl, rfl⟩))) (fun h => by cases h) rfl (O_X11_isTable l) ?_
  intro av w K h
  match av, h with
  | [.int t], h =>
    refine ⟨Nat.le_of_ble_eq_true rfl, fun Jm hs => hs 400 0 _ _ _ _ _ ?_⟩
    have h : K (some (.int (isTF t))) w := h
    conv => whnf
    refine ⟨fun hc => ?_, fun hc => ?_⟩
    · rw [isTF, bI_f (fun q => q.1 hc)] at h
      exact ⟨Or.inl rfl, h⟩
    · conv => whnf
      refine ⟨fun hc2 => ?_, fun hc2 => ?_⟩
      · rw [isTF, bI_f (fun q => hc2 q.2)] at h
        exact ⟨Or.inl rfl, h⟩
      · rw [isTF, bI_t ⟨hc, hc2⟩] at h
        exact ⟨Or.inr rfl, h⟩
def isSF (t : Int32) : Int32 := bI (¬ t < nI 1 ∧ ¬ nI 3 < t)
def sp_X11_isSize : zSp := fun av w K => match av with
  | [.int t] => K (some (.int (isSF t))) w
  | _ => False
def rm_X11_isSize : Room := { frames := 0, cells := 0, slots := 0, locals := 0 }
def M_X11_isSize : zM := (k_X11_isSize, f_X11, [], ([], [], []), [], [], 2, false, (false, 0, fun _ => 0), (0, 0, []))
theorem O_X11_isSize (l : Launch) : z_OK l RX11 cX11_isSize (headSpec (.code yX11_isSize cX11_isSize 1 (some .boolean) :: zTT) rm_X11_isSize).room M_X11_isSize := ⟨ok_X11_isSize, fo_X11, fun _ h => absurd h List.not_mem_nil, fun _ h => absurd h List.not_mem_nil, fun _ h => absurd h List.not_mem_nil, fun _ h => absurd h List.not_mem_nil, fun _ h => absurd h List.not_mem_nil, rfl, rfl, fun _ h => absurd h List.not_mem_nil⟩
theorem c_X11_isSize (l : Launch) : z_CS l yX11_isSize cX11_isSize 1 (some .boolean) rm_X11_isSize sp_X11_isSize := by
  refine z_meth (by decide) (Or.inr (Or.inr (Or.inl ⟨rfl, rfl⟩))) (fun h => by cases h) rfl (O_X11_isSize l) ?_
  intro av w K h
  match av, h with
  | [.int t], h =>
    refine ⟨Nat.le_of_ble_eq_true rfl, fun Jm hs => hs 400 0 _ _ _ _ _ ?_⟩
    have h : K (some (.int (isSF t))) w := h
    conv => whnf
    refine ⟨fun hc => ?_, fun hc => ?_⟩
    · rw [isSF, bI_f (fun q => q.1 hc)] at h
      exact ⟨Or.inl rfl, h⟩
    · conv => whnf
      refine ⟨fun hc2 => ?_, fun hc2 => ?_⟩
      · rw [isSF, bI_f (fun q => q.2 hc2)] at h
        exact ⟨Or.inl rfl, h⟩
      · rw [isSF, bI_t ⟨hc, hc2⟩] at h
        exact ⟨Or.inr rfl, h⟩
def behF (t : Int32) : Int32 := if t < nI 2 then t + nI 1 else nI 0
def sp_X11_behind : zSp := fun av w K => match av with
  | [.int t] => K (some (.int (behF t))) w
  | _ => False
def rm_X11_behind : Room := { frames := 0, cells := 0, slots := 0, locals := 0 }
def M_X11_behind : zM := (k_X11_behind, f_X11, [], ([], [], []), [], [], 1, false, (false, 0, fun _ => 0), (0, 0, []))
theorem O_X11_behind (l : Launch) : z_OK l RX11 cX11_behind (headSpec (.code yX11_behind cX11_behind 1 (some .int) :: zTT) rm_X11_behind).room M_X11_behind := ⟨ok_X11_behind, fo_X11, fun _ h => absurd h List.not_mem_nil, fun _ h => absurd h List.not_mem_nil, fun _ h => absurd h List.not_mem_nil, fun _ h => absurd h List.not_mem_nil, fun _ h => absurd h List.not_mem_nil, rfl, rfl, fun _ h => absurd h List.not_mem_nil⟩
theorem c_X11_behind (l : Launch) : z_CS l yX11_behind cX11_behind 1 (some .int) rm_X11_behind sp_X11_behind := by
  refine z_meth (by decide) (Or.inr (Or.inl ⟨rfl, rfl⟩)) (fun h => by cases h) rfl (O_X11_behind l) ?_
  intro av w K h
  match av, h with
  | [.int t], h =>
    refine ⟨Nat.le_of_ble_eq_true rfl, fun Jm hs => hs 400 0 _ _ _ _ _ ?_⟩
    have h : K (some (.int (behF t))) w := h
    conv => whnf
    refine ⟨fun hc => ?_, fun hc => ?_⟩
    · rw [behF, if_pos hc] at h
      exact ⟨trivial, h⟩
    · rw [behF, if_neg hc] at h
      exact ⟨trivial, h⟩
def ahdF (t : Int32) : Int32 := if nI 0 < t then t - nI 1 else nI 2
def sp_X11_ahead : zSp := fun av w K => match av with
  | [.int t] => K (some (.int (ahdF t))) w
  | _ => False
def rm_X11_ahead : Room := { frames := 0, cells := 0, slots := 0, locals := 0 }
def M_X11_ahead : zM := (k_X11_ahead, f_X11, [], ([], [], []), [], [], 1, false, (false, 0, fun _ => 0), (0, 0, []))
theorem O_X11_ahead (l : Launch) : z_OK l RX11 cX11_ahead (headSpec (.code yX11_ahead cX11_ahead 1 (some .int) :: zTT) rm_X11_ahead).room M_X11_ahead := ⟨ok_X11_ahead, fo_X11, fun _ h => absurd h List.not_mem_nil, fun _ h => absurd h List.not_mem_nil, fun _ h => absurd h List.not_mem_nil, fun _ h => absurd h List.not_mem_nil, fun _ h => absurd h List.not_mem_nil, rfl, rfl, fun _ h => absurd h List.not_mem_nil⟩
theorem c_X11_ahead (l : Launch) : z_CS l yX11_ahead cX11_ahead 1 (some .int) rm_X11_ahead sp_X11_ahead := by
  refine z_meth (by decide) (Or.inr (Or.inl ⟨rfl, rfl⟩)) (fun h => by cases h) rfl (O_X11_ahead l) ?_
  intro av w K h
  match av, h with
  | [.int t], h =>
    refine ⟨Nat.le_of_ble_eq_true rfl, fun Jm hs => hs 400 0 _ _ _ _ _ ?_⟩
    have h : K (some (.int (ahdF t))) w := h
    conv => whnf
    refine ⟨fun hc => ?_, fun hc => ?_⟩
    · rw [ahdF, if_pos hc] at h
      exact ⟨trivial, h⟩
    · rw [ahdF, if_neg hc] at h
      exact ⟨trivial, h⟩
def lessF (t : Int32) : Int32 := if nI 0 < t then t - nI 1 else nI 0
def sp_X11_lessOne : zSp := fun av w K => match av with
  | [.int t] => K (some (.int (lessF t))) w
  | _ => False
def bitF (i : Int32) : Int64 := z_lshl (lN 1) i
def sp_X11_bit : zSp := fun av w K => match av with
  | [.int t] => K (some (.long (bitF t))) w
  | _ => False
def rm_X11_bit : Room := { frames := 0, cells := 0, slots := 0, locals := 0 }
def M_X11_bit : zM := (k_X11_bit, f_X11, [], ([], [], []), [], [], 3, false, (false, 0, fun _ => 0), (0, 0, []))
theorem O_X11_bit (l : Launch) : z_OK l RX11 cX11_bit (headSpec (.code yX11_bit cX11_bit 1 (some .long) :: zTT) rm_X11_bit).room M_X11_bit := ⟨ok_X11_bit, fo_X11, fun _ h => absurd h List.not_mem_nil, fun _ h => absurd h List.not_mem_nil, fun _ h => absurd h List.not_mem_nil, fun _ h => absurd h List.not_mem_nil, fun _ h => absurd h List.not_mem_nil, rfl, rfl, fun _ h => absurd h List.not_mem_nil⟩
theorem c_X11_bit (l : Launch) : z_CS l yX11_bit cX11_bit 1 (some .long) rm_X11_bit sp_X11_bit := by
  refine z_meth (by decide) (Or.inr (Or.inr (Or.inr (Or.inl ⟨rfl, rfl⟩)))) (fun h => by cases h) rfl (O_X11_bit l) ?_
  intro av w K h
  match av, h with
  | [.int t], h => exact ⟨Nat.le_of_ble_eq_true rfl, fun Jm hs => hs 400 0 _ _ _ _ _ h⟩
/-! Scheme -/
def gS (G : List zSh) (o : Nat) (k : Prop) : Prop := match z_nth G o with
  | some (.inl (c, [some (some _), none, none, none, none, none])) => (match Nat.beq c 5 with
    | true => k
    | false => False)
  | _ => False
theorem gS_ok {G : List zSh} {o : Nat} {k : Prop} (h : gS G o k) : ∃ a, z_nth G o = some (.inl (5, [some (some a), none, none, none, none, none])) ∧ k := by
  unfold gS at h
  split at h
  · rename_i c a e
    split at h
    · rename_i hc
      have := Nat.eq_of_beq_eq_true hc
      subst this
      exact ⟨a, e, h⟩
    · exact h.elim
  · exact h.elim
def rowsF (wi : Nat → Nat → Int32) (o : Nat) (t : Int32) : Int32 := if t = nI 0 then wi o 1 else if t = nI 1 then wi o 2 else wi o 3
def sp_X6_rows : zSp := fun av w K => match av with
  | [.ref o, .int t] => gS w.1 o (K (some (.int (rowsF w.2.1 o t))) w)
  | _ => False
def rm_X6_rows : Room := { frames := 0, cells := 0, slots := 0, locals := 0 }
def M_X6_rows : zM := (k_X6_rows, f_X6, [], ([], [], []), [], [], 1, false, (false, 0, fun _ => 0), (0, 0, []))
theorem O_X6_rows (l : Launch) : z_OK l RX6 cX6_rows (headSpec (.code yX6_rows cX6_rows 2 (some .int) :: zTT) rm_X6_rows).room M_X6_rows := ⟨ok_X6_rows, fo_X6, fun _ h => absurd h List.not_mem_nil, fun _ h => absurd h List.not_mem_nil, fun _ h => absurd h List.not_mem_nil, fun _ h => absurd h List.not_mem_nil, fun _ h => absurd h List.not_mem_nil, rfl, rfl, fun _ h => absurd h List.not_mem_nil⟩
theorem c_X6_rows (l : Launch) : z_CS l yX6_rows cX6_rows 2 (some .int) rm_X6_rows sp_X6_rows := by
  refine z_meth (by decide) (Or.inr (Or.inl ⟨rfl, rfl⟩)) (fun h => by cases h) rfl (O_X6_rows l) ?_
  intro av w K h
  match av, h with
  | [.ref o, .int t], h =>
    obtain ⟨a, h1, h⟩ := gS_ok h
    refine ⟨Nat.le_of_ble_eq_true rfl, fun Jm hs => hs 400 0 _ _ _ _ _ ?_⟩
    unfold rowsF at h
    conv => whnf
    refine ⟨fun hc => ?_, fun hc => ?_⟩
    · rw [if_neg hc] at h
      conv => whnf
      refine ⟨fun hc2 => ?_, fun hc2 => ?_⟩
      · rw [if_neg hc2] at h
        conv => whnf
        rw [h1]
        conv => whnf
        exact ⟨trivial, h⟩
      · rw [if_pos hc2] at h
        conv => whnf
        rw [h1]
        conv => whnf
        exact ⟨trivial, h⟩
    · rw [if_pos hc] at h
      conv => whnf
      rw [h1]
      conv => whnf
      exact ⟨trivial, h⟩
def isPF (wi : Nat → Nat → Int32) (o : Nat) (i : Int32) : Int32 := bI (¬ i < nI 0 ∧ i < wi o 5)
def sp_X6_isProduct : zSp := fun av w K => match av with
  | [.ref o, .int i] => gS w.1 o (K (some (.int (isPF w.2.1 o i))) w)
  | _ => False
def rm_X6_isProduct : Room := { frames := 0, cells := 0, slots := 0, locals := 0 }
def M_X6_isProduct : zM := (k_X6_isProduct, f_X6, [], ([], [], []), [], [], 2, false, (false, 0, fun _ => 0), (0, 0, []))
theorem O_X6_isProduct (l : Launch) : z_OK l RX6 cX6_isProduct (headSpec (.code yX6_isProduct cX6_isProduct 2 (some .boolean) :: zTT) rm_X6_isProduct).room M_X6_isProduct := ⟨ok_X6_isProduct, fo_X6, fun _ h => absurd h List.not_mem_nil, fun _ h => absurd h List.not_mem_nil, fun _ h => absurd h List.not_mem_nil, fun _ h => absurd h List.not_mem_nil, fun _ h => absurd h List.not_mem_nil, rfl, rfl, fun _ h => absurd h List.not_mem_nil⟩
theorem c_X6_isProduct (l : Launch) : z_CS l yX6_isProduct cX6_isProduct 2 (some .boolean) rm_X6_isProduct sp_X6_isProduct := by
  refine z_meth (by decide) (Or.inr (Or.inr (Or.inl ⟨rfl, rfl⟩))) (fun h => by cases h) rfl (O_X6_isProduct l) ?_
  intro av w K h
  match av, h with
  | [.ref o, .int t], h =>
    obtain ⟨a, h1, h⟩ := gS_ok h
    refine ⟨Nat.le_of_ble_eq_true rfl, fun Jm hs => hs 400 0 _ _ _ _ _ ?_⟩
    unfold isPF at h
    conv => whnf
    refine ⟨fun hc => ?_, fun hc => ?_⟩
    · rw [bI_f (fun q => q.1 hc)] at h
      exact ⟨Or.inl rfl, h⟩
    · conv => whnf
      rw [h1]
      conv => whnf
      refine ⟨fun hc2 => ?_, fun hc2 => ?_⟩
      · rw [bI_f (fun q => hc2 q.2)] at h
        exact ⟨Or.inl rfl, h⟩
      · rw [bI_t ⟨hc, hc2⟩] at h
        exact ⟨Or.inr rfl, h⟩
def fullF (wi : Nat → Nat → Int32) (o : Nat) : Int32 := bI (¬ wi o 5 < nI 40)
def sp_X6_isFull : zSp := fun av w K => match av with
  | [.ref o] => gS w.1 o (K (some (.int (fullF w.2.1 o))) w)
  | _ => False
def rm_X6_isFull : Room := { frames := 0, cells := 0, slots := 0, locals := 0 }
def M_X6_isFull : zM := (k_X6_isFull, f_X6, [], ([], [], []), [], [], 2, false, (false, 0, fun _ => 0), (0, 0, []))
theorem O_X6_isFull (l : Launch) : z_OK l RX6 cX6_isFull (headSpec (.code yX6_isFull cX6_isFull 1 (some .boolean) :: zTT) rm_X6_isFull).room M_X6_isFull := ⟨ok_X6_isFull, fo_X6, fun _ h => absurd h List.not_mem_nil, fun _ h => absurd h List.not_mem_nil, fun _ h => absurd h List.not_mem_nil, fun _ h => absurd h List.not_mem_nil, fun _ h => absurd h List.not_mem_nil, rfl, rfl, fun _ h => absurd h List.not_mem_nil⟩
theorem c_X6_isFull (l : Launch) : z_CS l yX6_isFull cX6_isFull 1 (some .boolean) rm_X6_isFull sp_X6_isFull := by
  refine z_meth (by decide) (Or.inr (Or.inr (Or.inl ⟨rfl, rfl⟩))) (fun h => by cases h) rfl (O_X6_isFull l) ?_
  intro av w K h
  match av, h with
  | [.ref o], h =>
    obtain ⟨a, h1, h⟩ := gS_ok h
    refine ⟨Nat.le_of_ble_eq_true rfl, fun Jm hs => hs 400 0 _ _ _ _ _ ?_⟩
    unfold fullF at h
    conv => whnf
    rw [h1]
    conv => whnf
    refine ⟨fun hc => ?_, fun hc => ?_⟩
    · rw [bI_f (fun q => q hc)] at h
      exact ⟨Or.inl rfl, h⟩
    · rw [bI_t hc] at h
      exact ⟨Or.inr rfl, h⟩
def shapeF (wi : Nat → Nat → Int32) (o o2 : Nat) : Int32 := bI (wi o 1 = wi o2 1 ∧ wi o 2 = wi o2 2 ∧ wi o 3 = wi o2 3)
def sp_X6_hasShapeOf : zSp := fun av w K => match av with
  | [.ref o, .ref o2] => gS w.1 o (gS w.1 o2 (K (some (.int (shapeF w.2.1 o o2))) w))
  | _ => False
def rm_X6_hasShapeOf : Room := { frames := 0, cells := 0, slots := 0, locals := 0 }
def M_X6_hasShapeOf : zM := (k_X6_hasShapeOf, f_X6, [], ([], [], []), [], [], 2, false, (false, 0, fun _ => 0), (0, 0, []))
theorem O_X6_hasShapeOf (l : Launch) : z_OK l RX6 cX6_hasShapeOf (headSpec (.code yX6_hasShapeOf cX6_hasShapeOf 2 (some .boolean) :: zTT) rm_X6_hasShapeOf).room M_X6_hasShapeOf := ⟨ok_X6_hasShapeOf, fo_X6, fun _ h => absurd h List.not_mem_nil, fun _ h => absurd h List.not_mem_nil, fun _ h => absurd h List.not_mem_nil, fun _ h => absurd h List.not_mem_nil, fun _ h => absurd h List.not_mem_nil, rfl, rfl, fun _ h => absurd h List.not_mem_nil⟩
theorem c_X6_hasShapeOf (l : Launch) : z_CS l yX6_hasShapeOf cX6_hasShapeOf 2 (some .boolean) rm_X6_hasShapeOf sp_X6_hasShapeOf := by
  refine z_meth (by decide) (Or.inr (Or.inr (Or.inl ⟨rfl, rfl⟩))) (fun h => by cases h) rfl (O_X6_hasShapeOf l) ?_
  intro av w K h
  match av, h with
  | [.ref o, .ref o2], h =>
    obtain ⟨a, h1, h⟩ := gS_ok h
    obtain ⟨a2, h2, h⟩ := gS_ok h
    refine ⟨Nat.le_of_ble_eq_true rfl, fun Jm hs => hs 400 0 _ _ _ _ _ ?_⟩
    unfold shapeF at h
    conv => whnf
    rw [h1]
    conv => whnf
    rw [h2]
    conv => whnf
    refine ⟨fun hc => ?_, fun hc => ?_⟩
    · rw [bI_f (fun q => hc q.1)] at h
      exact ⟨Or.inl rfl, h⟩
    · conv => whnf
      rw [h1]
      conv => whnf
      rw [h2]
      conv => whnf
      refine ⟨fun hc2 => ?_, fun hc2 => ?_⟩
      · rw [bI_f (fun q => hc2 q.2.1)] at h
        exact ⟨Or.inl rfl, h⟩
      · conv => whnf
        rw [h1]
        conv => whnf
        rw [h2]
        conv => whnf
        refine ⟨fun hc3 => ?_, fun hc3 => ?_⟩
        · rw [bI_f (fun q => hc3 q.2.2)] at h
          exact ⟨Or.inl rfl, h⟩
        · rw [bI_t ⟨hc, hc2, hc3⟩] at h
          exact ⟨Or.inr rfl, h⟩
def rm_X6_columns : Room := { frames := 1, cells := 0, slots := 0, locals := 21 }
def M_X6_columns : zM := (k_X6_columns, f_X6, [(85, 2, 0, 1, 0, 0, sp_X11_behind), (88, 4, 5, 2, 0, 0, sp_X6_rows)], ([], [], []), [], [], 1, false, (false, 0, fun _ => 0), (0, 0, []))
theorem ca_X6_columns_0 (l : Launch) : z_cok l RX6 (headSpec (.code yX6_columns cX6_columns 2 (some .int) :: zTT) rm_X6_columns).room (false, 0, fun _ => 0) (85, 2, 0, 1, 0, 0, sp_X11_behind) := z_ca2 (host := "FewProducts") (c_X11_behind l) mb_X11_behind (by decide +kernel) wt_386 (by decide)
theorem ca_X6_columns_1 (l : Launch) : z_cok l RX6 (headSpec (.code yX6_columns cX6_columns 2 (some .int) :: zTT) rm_X6_columns).room (false, 0, fun _ => 0) (88, 4, 5, 2, 0, 0, sp_X6_rows) := z_ca4 (c_X6_rows l) mb_X6_rows ⟨_, rfl, rfl⟩ wt_388 wt_378 wt_379 (by decide)
theorem O_X6_columns (l : Launch) : z_OK l RX6 cX6_columns (headSpec (.code yX6_columns cX6_columns 2 (some .int) :: zTT) rm_X6_columns).room M_X6_columns := ⟨ok_X6_columns, fo_X6, List.forall_mem_cons.mpr ⟨ca_X6_columns_0 l, List.forall_mem_cons.mpr ⟨ca_X6_columns_1 l, fun _ h => absurd h List.not_mem_nil⟩⟩, fun _ h => absurd h List.not_mem_nil, fun _ h => absurd h List.not_mem_nil, fun _ h => absurd h List.not_mem_nil, fun _ h => absurd h List.not_mem_nil, rfl, rfl, fun _ h => absurd h List.not_mem_nil⟩
def sp_X6_columns : zSp := z_au M_X6_columns 2
theorem c_X6_columns (l : Launch) : z_CS l yX6_columns cX6_columns 2 (some .int) rm_X6_columns sp_X6_columns := by
  refine z_meth (by decide) (Or.inr (Or.inl ⟨rfl, rfl⟩)) (fun h => by cases h) rfl (O_X6_columns l) ?_
  intro av w K h
  exact z_au_ok rfl h
def rm_X6_places : Room := { frames := 2, cells := 0, slots := 0, locals := 42 }
def M_X6_places : zM := (k_X6_places, f_X6, [(88, 4, 5, 2, 0, 0, sp_X6_rows), (91, 4, 5, 2, 0, 0, sp_X6_columns)], ([], [], []), [], [], 1, false, (false, 0, fun _ => 0), (0, 0, []))
theorem ca_X6_places_0 (l : Launch) : z_cok l RX6 (headSpec (.code yX6_places cX6_places 2 (some .int) :: zTT) rm_X6_places).room (false, 0, fun _ => 0) (88, 4, 5, 2, 0, 0, sp_X6_rows) := z_ca4 (c_X6_rows l) mb_X6_rows ⟨_, rfl, rfl⟩ wt_388 wt_378 wt_379 (by decide)
theorem ca_X6_places_1 (l : Launch) : z_cok l RX6 (headSpec (.code yX6_places cX6_places 2 (some .int) :: zTT) rm_X6_places).room (false, 0, fun _ => 0) (91, 4, 5, 2, 0, 0, sp_X6_columns) := z_ca4 (c_X6_columns l) mb_X6_columns ⟨_, rfl, rfl⟩ wt_437 wt_382 wt_383 (by decide)
theorem O_X6_places (l : Launch) : z_OK l RX6 cX6_places (headSpec (.code yX6_places cX6_places 2 (some .int) :: zTT) rm_X6_places).room M_X6_places := ⟨ok_X6_places, fo_X6, List.forall_mem_cons.mpr ⟨ca_X6_places_0 l, List.forall_mem_cons.mpr ⟨ca_X6_places_1 l, fun _ h => absurd h List.not_mem_nil⟩⟩, fun _ h => absurd h List.not_mem_nil, fun _ h => absurd h List.not_mem_nil, fun _ h => absurd h List.not_mem_nil, fun _ h => absurd h List.not_mem_nil, rfl, rfl, fun _ h => absurd h List.not_mem_nil⟩
def sp_X6_places : zSp := z_au M_X6_places 2
theorem c_X6_places (l : Launch) : z_CS l yX6_places cX6_places 2 (some .int) rm_X6_places sp_X6_places := by
  refine z_meth (by decide) (Or.inr (Or.inl ⟨rfl, rfl⟩)) (fun h => by cases h) rfl (O_X6_places l) ?_
  intro av w K h
  exact z_au_ok rfl h
def rm_X6_formAt : Room := { frames := 1, cells := 0, slots := 0, locals := 21 }
def M_X6_formAt : zM := (k_X6_formAt, f_X6, [(67, 4, 2, 2, 0, 0, sp_X3_at)], ([], [], []), [], [], 1, false, (false, 0, fun _ => 0), (0, 0, []))
theorem ca_X6_formAt_0 (l : Launch) : z_cok l RX6 (headSpec (.code yX6_formAt cX6_formAt 3 (some .int) :: zTT) rm_X6_formAt).room (false, 0, fun _ => 0) (67, 4, 2, 2, 0, 0, sp_X3_at) := z_ca4 (c_X3_at l) mb_X3_at ⟨_, rfl, rfl⟩ wt_411 wt_366 wt_367 (by decide)
theorem O_X6_formAt (l : Launch) : z_OK l RX6 cX6_formAt (headSpec (.code yX6_formAt cX6_formAt 3 (some .int) :: zTT) rm_X6_formAt).room M_X6_formAt := ⟨ok_X6_formAt, fo_X6, List.forall_mem_cons.mpr ⟨ca_X6_formAt_0 l, fun _ h => absurd h List.not_mem_nil⟩, fun _ h => absurd h List.not_mem_nil, fun _ h => absurd h List.not_mem_nil, fun _ h => absurd h List.not_mem_nil, fun _ h => absurd h List.not_mem_nil, rfl, rfl, fun _ h => absurd h List.not_mem_nil⟩
def sp_X6_formAt : zSp := z_au M_X6_formAt 3
theorem c_X6_formAt (l : Launch) : z_CS l yX6_formAt cX6_formAt 3 (some .int) rm_X6_formAt sp_X6_formAt := by
  refine z_meth (by decide) (Or.inr (Or.inl ⟨rfl, rfl⟩)) (fun h => by cases h) rfl (O_X6_formAt l) ?_
  intro av w K h
  exact z_au_ok rfl h
def sp_X6_setForm : zSp := fun av w K => match av with
  | [.ref o, .int i, .int t, .int v] => (o = 6 ∨ o = 12) ∧ zG w.1 ∧ ∃ i' t' : Nat, i = nI i' ∧ i' < 40 ∧ t = nI t' ∧ t' < 3 ∧ ∀ wi' : Nat → Nat → Int32, wi' = z_up w.2.1 (o + 2) (3 * i' + t') v → K none (w.1, wi', w.2.2)
  | _ => False
def rm_X6_setForm : Room := { frames := 1, cells := 0, slots := 0, locals := 22 }
def M_X6_setForm : zM := (k_X6_setForm, f_X6, [(71, 4, 2, 3, 0, 0, sp_X3_put)], ([], [], []), [], [], 0, false, (false, 0, fun _ => 0), (0, 0, []))
theorem ca_X6_setForm_0 (l : Launch) : z_cok l RX6 (headSpec (.code yX6_setForm cX6_setForm 4 none :: zTT) rm_X6_setForm).room (false, 0, fun _ => 0) (71, 4, 2, 3, 0, 0, sp_X3_put) := z_ca4 (c_X3_put l) mb_X3_put ⟨_, rfl, rfl⟩ wt_292 wt_293 wt_294 (by decide)
theorem O_X6_setForm (l : Launch) : z_OK l RX6 cX6_setForm (headSpec (.code yX6_setForm cX6_setForm 4 none :: zTT) rm_X6_setForm).room M_X6_setForm := ⟨ok_X6_setForm, fo_X6, List.forall_mem_cons.mpr ⟨ca_X6_setForm_0 l, fun _ h => absurd h List.not_mem_nil⟩, fun _ h => absurd h List.not_mem_nil, fun _ h => absurd h List.not_mem_nil, fun _ h => absurd h List.not_mem_nil, fun _ h => absurd h List.not_mem_nil, rfl, rfl, fun _ h => absurd h List.not_mem_nil⟩
theorem c_X6_setForm (l : Launch) : z_CS l yX6_setForm cX6_setForm 4 none rm_X6_setForm sp_X6_setForm := by
  refine z_meth (by decide) (Or.inl ⟨rfl, rfl⟩) (fun h => by cases h) rfl (O_X6_setForm l) ?_
  intro av w K h
  match av, h with
  | [.ref o, .int i, .int t, .int v], h =>
    obtain ⟨ho, ⟨r, hG⟩, i', t', rfl, hi, rfl, ht, h⟩ := h
    obtain ⟨G, wi, wl⟩ := w
    subst hG
    try dsimp only at h
    rcases ho with rfl | rfl
    · refine ⟨Nat.le_of_ble_eq_true rfl, fun Jm hs => hs 400 0 _ _ _ _ _ ?_⟩
      conv => whnf
      repeat ((first | refine ⟨zG_of _, ?_⟩ | refine ⟨trivial, ?_⟩ | refine ⟨rfl, ?_⟩ | refine ⟨fun hc => absurd hc (by decide), fun _ => ?_⟩ | refine ⟨fun _ => ?_, fun hc => absurd (by decide) hc⟩ | refine ⟨fun _ => ?_, fun hc => absurd hc (by decide)⟩ | refine ⟨fun hc => absurd (by decide) hc, fun _ => ?_⟩); conv => whnf)
      try dsimp only
      rw [pk_mul, nI_add, putF_in (by omega) (by decide)]
      exact h _ rfl
    · refine ⟨Nat.le_of_ble_eq_true rfl, fun Jm hs => hs 400 0 _ _ _ _ _ ?_⟩
      conv => whnf
      repeat ((first | refine ⟨zG_of _, ?_⟩ | refine ⟨trivial, ?_⟩ | refine ⟨rfl, ?_⟩ | refine ⟨fun hc => absurd hc (by decide), fun _ => ?_⟩ | refine ⟨fun _ => ?_, fun hc => absurd (by decide) hc⟩ | refine ⟨fun _ => ?_, fun hc => absurd hc (by decide)⟩ | refine ⟨fun hc => absurd (by decide) hc, fun _ => ?_⟩); conv => whnf)
      try dsimp only
      rw [pk_mul, nI_add, putF_in (by omega) (by decide)]
      exact h _ rfl
def rm_X6_likeBy : Room := { frames := 2, cells := 0, slots := 0, locals := 43 }
def M_X6_likeBy : zM := (k_X6_likeBy, f_X6, [(59, 4, 5, 3, 0, 0, sp_X6_formAt), (123, 0, 0, 3, 0, 0, sp_X2_likeBy)], ([], [], []), [], [], 1, false, (false, 0, fun _ => 0), (0, 0, []))
theorem ca_X6_likeBy_0 (l : Launch) : z_cok l RX6 (headSpec (.code yX6_likeBy cX6_likeBy 4 (some .int) :: zTT) rm_X6_likeBy).room (false, 0, fun _ => 0) (59, 4, 5, 3, 0, 0, sp_X6_formAt) := z_ca4 (c_X6_formAt l) mb_X6_formAt ⟨_, rfl, rfl⟩ wt_407 wt_408 wt_409 (by decide)
theorem ca_X6_likeBy_1 (l : Launch) : z_cok l RX6 (headSpec (.code yX6_likeBy cX6_likeBy 4 (some .int) :: zTT) rm_X6_likeBy).room (false, 0, fun _ => 0) (123, 0, 0, 3, 0, 0, sp_X2_likeBy) := z_ca0 (c_X2_likeBy l) mb_X2_likeBy wt_512 wt_513 (by decide)
theorem O_X6_likeBy (l : Launch) : z_OK l RX6 cX6_likeBy (headSpec (.code yX6_likeBy cX6_likeBy 4 (some .int) :: zTT) rm_X6_likeBy).room M_X6_likeBy := ⟨ok_X6_likeBy, fo_X6, List.forall_mem_cons.mpr ⟨ca_X6_likeBy_0 l, List.forall_mem_cons.mpr ⟨ca_X6_likeBy_1 l, fun _ h => absurd h List.not_mem_nil⟩⟩, fun _ h => absurd h List.not_mem_nil, fun _ h => absurd h List.not_mem_nil, fun _ h => absurd h List.not_mem_nil, fun _ h => absurd h List.not_mem_nil, rfl, rfl, fun _ h => absurd h List.not_mem_nil⟩
def sp_X6_likeBy : zSp := z_au M_X6_likeBy 4
theorem c_X6_likeBy (l : Launch) : z_CS l yX6_likeBy cX6_likeBy 4 (some .int) rm_X6_likeBy sp_X6_likeBy := by
  refine z_meth (by decide) (Or.inr (Or.inl ⟨rfl, rfl⟩)) (fun h => by cases h) rfl (O_X6_likeBy l) ?_
  intro av w K h
  exact z_au_ok rfl h
def colF (wi : Nat → Nat → Int32) (o : Nat) (t : Int32) : Int32 := rowsF wi o (behF t)
def plF (wi : Nat → Nat → Int32) (o : Nat) (t : Int32) : Int32 := rowsF wi o t * colF wi o t
def rowOfF (wi : Nat → Nat → Int32) (o : Nat) (t p : Int32) : Int32 := if nI 0 < colF wi o t then p / colF wi o t else nI 0
def sp_X6_rowOf : zSp := fun av w K => match av with
  | [.ref o, .int t, .int p] => o = 6 ∧ zG w.1 ∧ K (some (.int (rowOfF w.2.1 6 t p))) w
  | _ => False
theorem pos_n0 {x : Int32} (h : nI 0 < x) : ¬ x = 0 := by
  rintro rfl
  exact absurd h (by decide)
def rm_X6_rowOf : Room := { frames := 2, cells := 0, slots := 0, locals := 42 }
def M_X6_rowOf : zM := (k_X6_rowOf, f_X6, [(91, 4, 5, 2, 0, 0, sp_X6_columns)], ([], [], []), [], [], 1, false, (false, 0, fun _ => 0), (0, 0, []))
theorem ca_X6_rowOf_0 (l : Launch) : z_cok l RX6 (headSpec (.code yX6_rowOf cX6_rowOf 4 (some .int) :: zTT) rm_X6_rowOf).room (false, 0, fun _ => 0) (91, 4, 5, 2, 0, 0, sp_X6_columns) := z_ca4 (c_X6_columns l) mb_X6_columns ⟨_, rfl, rfl⟩ wt_437 wt_382 wt_383 (by decide)
theorem O_X6_rowOf (l : Launch) : z_OK l RX6 cX6_rowOf (headSpec (.code yX6_rowOf cX6_rowOf 4 (some .int) :: zTT) rm_X6_rowOf).room M_X6_rowOf := ⟨ok_X6_rowOf, fo_X6, List.forall_mem_cons.mpr ⟨ca_X6_rowOf_0 l, fun _ h => absurd h List.not_mem_nil⟩, fun _ h => absurd h List.not_mem_nil, fun _ h => absurd h List.not_mem_nil, fun _ h => absurd h List.not_mem_nil, fun _ h => absurd h List.not_mem_nil, rfl, rfl, fun _ h => absurd h List.not_mem_nil⟩
theorem c_X6_rowOf (l : Launch) : z_CS l yX6_rowOf cX6_rowOf 4 (some .int) rm_X6_rowOf sp_X6_rowOf := by
  refine z_meth (by decide) (Or.inr (Or.inl ⟨rfl, rfl⟩)) (fun h => by cases h) rfl (O_X6_rowOf l) ?_
  intro av w K h
  match av, h with
  | [.ref o, .int t, .int p], h =>
    obtain ⟨rfl, ⟨r, hG⟩, h⟩ := h
    obtain ⟨G, wi, wl⟩ := w
    subst hG
    try dsimp only at h
    refine ⟨Nat.le_of_ble_eq_true rfl, fun Jm hs => hs 400 0 _ _ _ _ _ ?_⟩
    unfold rowOfF colF at h
    conv => whnf
    repeat ((first | refine ⟨zG_of _, ?_⟩ | refine ⟨trivial, ?_⟩ | refine ⟨rfl, ?_⟩ | refine ⟨fun hc => absurd hc (by decide), fun _ => ?_⟩ | refine ⟨fun _ => ?_, fun hc => absurd (by decide) hc⟩ | refine ⟨fun _ => ?_, fun hc => absurd hc (by decide)⟩ | refine ⟨fun hc => absurd (by decide) hc, fun _ => ?_⟩); conv => whnf)
    try dsimp only
    refine ⟨fun hc => ?_, fun hc => ?_⟩
    · rw [if_neg hc] at h
      exact ⟨trivial, h⟩
    · rw [if_pos hc] at h
      exact ⟨pos_n0 hc, trivial, h⟩
def colOfF (wi : Nat → Nat → Int32) (o : Nat) (t p : Int32) : Int32 := if nI 0 < colF wi o t then z_rem p (colF wi o t) else nI 0
def sp_X6_columnOf : zSp := fun av w K => match av with
  | [.ref o, .int t, .int p] => o = 6 ∧ zG w.1 ∧ K (some (.int (colOfF w.2.1 6 t p))) w
  | _ => False
def rm_X6_columnOf : Room := { frames := 2, cells := 0, slots := 0, locals := 42 }
def M_X6_columnOf : zM := (k_X6_columnOf, f_X6, [(91, 4, 5, 2, 0, 0, sp_X6_columns)], ([], [], []), [], [], 1, false, (false, 0, fun _ => 0), (0, 0, []))
theorem ca_X6_columnOf_0 (l : Launch) : z_cok l RX6 (headSpec (.code yX6_columnOf cX6_columnOf 4 (some .int) :: zTT) rm_X6_columnOf).room (false, 0, fun _ => 0) (91, 4, 5, 2, 0, 0, sp_X6_columns) := z_ca4 (c_X6_columns l) mb_X6_columns ⟨_, rfl, rfl⟩ wt_437 wt_382 wt_383 (by decide)
theorem O_X6_columnOf (l : Launch) : z_OK l RX6 cX6_columnOf (headSpec (.code yX6_columnOf cX6_columnOf 4 (some .int) :: zTT) rm_X6_columnOf).room M_X6_columnOf := ⟨ok_X6_columnOf, fo_X6, List.forall_mem_cons.mpr ⟨ca_X6_columnOf_0 l, fun _ h => absurd h List.not_mem_nil⟩, fun _ h => absurd h List.not_mem_nil, fun _ h => absurd h List.not_mem_nil, fun _ h => absurd h List.not_mem_nil, fun _ h => absurd h List.not_mem_nil, rfl, rfl, fun _ h => absurd h List.not_mem_nil⟩
theorem c_X6_columnOf (l : Launch) : z_CS l yX6_columnOf cX6_columnOf 4 (some .int) rm_X6_columnOf sp_X6_columnOf := by
  refine z_meth (by decide) (Or.inr (Or.inl ⟨rfl, rfl⟩)) (fun h => by cases h) rfl (O_X6_columnOf l) ?_
  intro av w K h
  match av, h with
  | [.ref o, .int t, .int p], h =>
    obtain ⟨rfl, ⟨r, hG⟩, h⟩ := h
    obtain ⟨G, wi, wl⟩ := w
    subst hG
    try dsimp only at h
    refine ⟨Nat.le_of_ble_eq_true rfl, fun Jm hs => hs 400 0 _ _ _ _ _ ?_⟩
    unfold colOfF colF at h
    conv => whnf
    repeat ((first | refine ⟨zG_of _, ?_⟩ | refine ⟨trivial, ?_⟩ | refine ⟨rfl, ?_⟩ | refine ⟨fun hc => absurd hc (by decide), fun _ => ?_⟩ | refine ⟨fun _ => ?_, fun hc => absurd (by decide) hc⟩ | refine ⟨fun _ => ?_, fun hc => absurd hc (by decide)⟩ | refine ⟨fun hc => absurd (by decide) hc, fun _ => ?_⟩); conv => whnf)
    try dsimp only
    refine ⟨fun hc => ?_, fun hc => ?_⟩
    · rw [if_neg hc] at h
      exact ⟨trivial, h⟩
    · rw [if_pos hc] at h
      exact ⟨pos_n0 hc, trivial, h⟩
def needF (wi : Nat → Nat → Int32) (x y z : Int32) : Int32 := bI (colOfF wi 6 (nI 0) x = rowOfF wi 6 (nI 1) y ∧ colOfF wi 6 (nI 1) y = rowOfF wi 6 (nI 2) z ∧ colOfF wi 6 (nI 2) z = rowOfF wi 6 (nI 0) x)
def sp_X6_neededAt : zSp := fun av w K => match av with
  | [.ref o, .int x, .int y, .int z] => o = 6 ∧ zG w.1 ∧ K (some (.int (needF w.2.1 x y z))) w
  | _ => False
def rm_X6_neededAt : Room := { frames := 3, cells := 0, slots := 0, locals := 65 }
def M_X6_neededAt : zM := (k_X6_neededAt, f_X6, [(100, 4, 5, 3, 0, 0, sp_X6_columnOf), (103, 4, 5, 3, 0, 0, sp_X6_rowOf)], ([], [], []), [], [], 1, false, (false, 0, fun _ => 0), (0, 0, []))
theorem ca_X6_neededAt_0 (l : Launch) : z_cok l RX6 (headSpec (.code yX6_neededAt cX6_neededAt 4 (some .int) :: zTT) rm_X6_neededAt).room (false, 0, fun _ => 0) (100, 4, 5, 3, 0, 0, sp_X6_columnOf) := z_ca4 (c_X6_columnOf l) mb_X6_columnOf ⟨_, rfl, rfl⟩ wt_453 wt_454 wt_455 (by decide)
theorem ca_X6_neededAt_1 (l : Launch) : z_cok l RX6 (headSpec (.code yX6_neededAt cX6_neededAt 4 (some .int) :: zTT) rm_X6_neededAt).room (false, 0, fun _ => 0) (103, 4, 5, 3, 0, 0, sp_X6_rowOf) := z_ca4 (c_X6_rowOf l) mb_X6_rowOf ⟨_, rfl, rfl⟩ wt_457 wt_458 wt_459 (by decide)
theorem O_X6_neededAt (l : Launch) : z_OK l RX6 cX6_neededAt (headSpec (.code yX6_neededAt cX6_neededAt 4 (some .int) :: zTT) rm_X6_neededAt).room M_X6_neededAt := ⟨ok_X6_neededAt, fo_X6, List.forall_mem_cons.mpr ⟨ca_X6_neededAt_0 l, List.forall_mem_cons.mpr ⟨ca_X6_neededAt_1 l, fun _ h => absurd h List.not_mem_nil⟩⟩, fun _ h => absurd h List.not_mem_nil, fun _ h => absurd h List.not_mem_nil, fun _ h => absurd h List.not_mem_nil, fun _ h => absurd h List.not_mem_nil, rfl, rfl, fun _ h => absurd h List.not_mem_nil⟩
theorem c_X6_neededAt (l : Launch) : z_CS l yX6_neededAt cX6_neededAt 4 (some .int) rm_X6_neededAt sp_X6_neededAt := by
  refine z_meth (by decide) (Or.inr (Or.inl ⟨rfl, rfl⟩)) (fun h => by cases h) rfl (O_X6_neededAt l) ?_
  intro av w K h
  match av, h with
  | [.ref o, .int x, .int y, .int z], h =>
    obtain ⟨rfl, ⟨r, hG⟩, h⟩ := h
    obtain ⟨G, wi, wl⟩ := w
    subst hG
    try dsimp only at h
    refine ⟨Nat.le_of_ble_eq_true rfl, fun Jm hs => hs 400 0 _ _ _ _ _ ?_⟩
    unfold needF at h
    conv => whnf
    repeat ((first | refine ⟨zG_of _, ?_⟩ | refine ⟨trivial, ?_⟩ | refine ⟨rfl, ?_⟩ | refine ⟨fun hc => absurd hc (by decide), fun _ => ?_⟩ | refine ⟨fun _ => ?_, fun hc => absurd (by decide) hc⟩ | refine ⟨fun _ => ?_, fun hc => absurd hc (by decide)⟩ | refine ⟨fun hc => absurd (by decide) hc, fun _ => ?_⟩); conv => whnf)
    try dsimp only
    refine ⟨fun hc => ?_, fun hc => ?_⟩
    · rw [bI_f (fun q => hc q.1)] at h
      exact ⟨trivial, h⟩
    · conv => whnf
      repeat ((first | refine ⟨zG_of _, ?_⟩ | refine ⟨trivial, ?_⟩ | refine ⟨rfl, ?_⟩ | refine ⟨fun hc => absurd hc (by decide), fun _ => ?_⟩ | refine ⟨fun _ => ?_, fun hc => absurd (by decide) hc⟩ | refine ⟨fun _ => ?_, fun hc => absurd hc (by decide)⟩ | refine ⟨fun hc => absurd (by decide) hc, fun _ => ?_⟩); conv => whnf)
      try dsimp only
      refine ⟨fun hc2 => ?_, fun hc2 => ?_⟩
      · rw [bI_f (fun q => hc2 q.2.1)] at h
        exact ⟨trivial, h⟩
      · conv => whnf
        repeat ((first | refine ⟨zG_of _, ?_⟩ | refine ⟨trivial, ?_⟩ | refine ⟨rfl, ?_⟩ | refine ⟨fun hc => absurd hc (by decide), fun _ => ?_⟩ | refine ⟨fun _ => ?_, fun hc => absurd (by decide) hc⟩ | refine ⟨fun _ => ?_, fun hc => absurd hc (by decide)⟩ | refine ⟨fun hc => absurd (by decide) hc, fun _ => ?_⟩); conv => whnf)
        try dsimp only
        refine ⟨fun hc3 => ?_, fun hc3 => ?_⟩
        · rw [bI_f (fun q => hc3 q.2.2)] at h
          exact ⟨trivial, h⟩
        · rw [bI_t ⟨hc, hc2, hc3⟩] at h
          exact ⟨trivial, h⟩
def isPlF (wi : Nat → Nat → Int32) (t p : Int32) : Int32 := bI ((¬ t < nI 0 ∧ t < nI 3) ∧ ¬ p < nI 0 ∧ p < plF wi 6 t)
def sp_X6_isPlace : zSp := fun av w K => match av with
  | [.ref o, .int t, .int p] => o = 6 ∧ zG w.1 ∧ K (some (.int (isPlF w.2.1 t p))) w
  | _ => False
def fmF (wi : Nat → Nat → Int32) (o : Nat) (i t : Int32) : Int32 := atF (wi (o + 2)) 120 (nI 3 * i + t)
def hzF (wi : Nat → Nat → Int32) (i : Int32) : Int32 := bI (fmF wi 6 i (nI 0) = nI 0 ∨ fmF wi 6 i (nI 1) = nI 0 ∨ fmF wi 6 i (nI 2) = nI 0)
def sp_X6_hasZero : zSp := fun av w K => match av with
  | [.ref o, .int i] => o = 6 ∧ zG w.1 ∧ K (some (.int (hzF w.2.1 i))) w
  | _ => False
def rm_X6_hasZero : Room := { frames := 2, cells := 0, slots := 0, locals := 43 }
def M_X6_hasZero : zM := (k_X6_hasZero, f_X6, [(59, 4, 5, 3, 0, 0, sp_X6_formAt)], ([], [], []), [], [], 2, false, (false, 0, fun _ => 0), (0, 0, []))
theorem ca_X6_hasZero_0 (l : Launch) : z_cok l RX6 (headSpec (.code yX6_hasZero cX6_hasZero 2 (some .boolean) :: zTT) rm_X6_hasZero).room (false, 0, fun _ => 0) (59, 4, 5, 3, 0, 0, sp_X6_formAt) := z_ca4 (c_X6_formAt l) mb_X6_formAt ⟨_, rfl, rfl⟩ wt_407 wt_408 wt_409 (by decide)
theorem O_X6_hasZero (l : Launch) : z_OK l RX6 cX6_hasZero (headSpec (.code yX6_hasZero cX6_hasZero 2 (some .boolean) :: zTT) rm_X6_hasZero).room M_X6_hasZero := ⟨ok_X6_hasZero, fo_X6, List.forall_mem_cons.mpr ⟨ca_X6_hasZero_0 l, fun _ h => absurd h List.not_mem_nil⟩, fun _ h => absurd h List.not_mem_nil, fun _ h => absurd h List.not_mem_nil, fun _ h => absurd h List.not_mem_nil, fun _ h => absurd h List.not_mem_nil, rfl, rfl, fun _ h => absurd h List.not_mem_nil⟩
theorem c_X6_hasZero (l : Launch) : z_CS l yX6_hasZero cX6_hasZero 2 (some .boolean) rm_X6_hasZero sp_X6_hasZero := by
  refine z_meth (by decide) (Or.inr (Or.inr (Or.inl ⟨rfl, rfl⟩))) (fun h => by cases h) rfl (O_X6_hasZero l) ?_
  intro av w K h
  match av, h with
  | [.ref o, .int i], h =>
    obtain ⟨rfl, ⟨r, hG⟩, h⟩ := h
    obtain ⟨G, wi, wl⟩ := w
    subst hG
    try dsimp only at h
    refine ⟨Nat.le_of_ble_eq_true rfl, fun Jm hs => hs 400 0 _ _ _ _ _ ?_⟩
    conv => whnf
    repeat ((first | refine ⟨zG_of _, ?_⟩ | refine ⟨trivial, ?_⟩ | refine ⟨rfl, ?_⟩ | refine ⟨fun hc => absurd hc (by decide), fun _ => ?_⟩ | refine ⟨fun _ => ?_, fun hc => absurd (by decide) hc⟩ | refine ⟨fun _ => ?_, fun hc => absurd hc (by decide)⟩ | refine ⟨fun hc => absurd (by decide) hc, fun _ => ?_⟩); conv => whnf)
    try dsimp only
    refine ⟨fun hc => ?_, fun hc => ?_⟩
    · rw [show hzF wi i = nI 1 from bI_t (Or.inl hc)] at h
      exact ⟨Or.inr rfl, h⟩
    · conv => whnf
      repeat ((first | refine ⟨zG_of _, ?_⟩ | refine ⟨trivial, ?_⟩ | refine ⟨rfl, ?_⟩ | refine ⟨fun hc => absurd hc (by decide), fun _ => ?_⟩ | refine ⟨fun _ => ?_, fun hc => absurd (by decide) hc⟩ | refine ⟨fun _ => ?_, fun hc => absurd hc (by decide)⟩ | refine ⟨fun hc => absurd (by decide) hc, fun _ => ?_⟩); conv => whnf)
      try dsimp only
      refine ⟨fun hc2 => ?_, fun hc2 => ?_⟩
      · rw [show hzF wi i = nI 1 from bI_t (Or.inr (Or.inl hc2))] at h
        exact ⟨Or.inr rfl, h⟩
      · conv => whnf
        repeat ((first | refine ⟨zG_of _, ?_⟩ | refine ⟨trivial, ?_⟩ | refine ⟨rfl, ?_⟩ | refine ⟨fun hc => absurd hc (by decide), fun _ => ?_⟩ | refine ⟨fun _ => ?_, fun hc => absurd (by decide) hc⟩ | refine ⟨fun _ => ?_, fun hc => absurd hc (by decide)⟩ | refine ⟨fun hc => absurd (by decide) hc, fun _ => ?_⟩); conv => whnf)
        try dsimp only
        refine ⟨fun hc3 => ?_, fun hc3 => ?_⟩
        · rw [show hzF wi i = nI 0 from bI_f (fun q => q.elim hc (fun q => q.elim hc2 hc3))] at h
          exact ⟨Or.inl rfl, h⟩
        · rw [show hzF wi i = nI 1 from bI_t (Or.inr (Or.inr hc3))] at h
          exact ⟨Or.inr rfl, h⟩
/-! the object itself: lines, factors, what is told -/
def isLF (wi : Nat → Nat → Int32) (t r : Int32) : Int32 := bI (¬ r < nI 1 ∧ ¬ rowsF wi 6 t < r)
def sp_X11_isLine : zSp := fun av w K => match av with
  | [.ref o, .int t, .int r] => o = 0 ∧ zG w.1 ∧ K (some (.int (isLF w.2.1 t r))) w
  | _ => False
def rm_X11_isLine : Room := { frames := 1, cells := 0, slots := 0, locals := 21 }
def M_X11_isLine : zM := (k_X11_isLine, f_X11, [(270, 4, 5, 2, 0, 0, sp_X6_rows)], ([], [], []), [], [], 2, false, (false, 0, fun _ => 0), (0, 0, []))
theorem ca_X11_isLine_0 (l : Launch) : z_cok l RX11 (headSpec (.code yX11_isLine cX11_isLine 3 (some .boolean) :: zTT) rm_X11_isLine).room (false, 0, fun _ => 0) (270, 4, 5, 2, 0, 0, sp_X6_rows) := z_ca4 (c_X6_rows l) mb_X6_rows ⟨_, rfl, rfl⟩ wt_651 wt_378 wt_379 (by decide)
theorem O_X11_isLine (l : Launch) : z_OK l RX11 cX11_isLine (headSpec (.code yX11_isLine cX11_isLine 3 (some .boolean) :: zTT) rm_X11_isLine).room M_X11_isLine := ⟨ok_X11_isLine, fo_X11, List.forall_mem_cons.mpr ⟨ca_X11_isLine_0 l, fun _ h => absurd h List.not_mem_nil⟩, fun _ h => absurd h List.not_mem_nil, fun _ h => absurd h List.not_mem_nil, fun _ h => absurd h List.not_mem_nil, fun _ h => absurd h List.not_mem_nil, rfl, rfl, fun _ h => absurd h List.not_mem_nil⟩
theorem c_X11_isLine (l : Launch) : z_CS l yX11_isLine cX11_isLine 3 (some .boolean) rm_X11_isLine sp_X11_isLine := by
  refine z_meth (by decide) (Or.inr (Or.inr (Or.inl ⟨rfl, rfl⟩))) (fun h => by cases h) rfl (O_X11_isLine l) ?_
  intro av w K h
  match av, h with
  | [.ref o, .int t, .int r], h =>
    obtain ⟨rfl, ⟨r0, hG⟩, h⟩ := h
    obtain ⟨G, wi, wl⟩ := w
    subst hG
    try dsimp only at h
    refine ⟨Nat.le_of_ble_eq_true rfl, fun Jm hs => hs 400 0 _ _ _ _ _ ?_⟩
    unfold isLF at h
    conv => whnf
    repeat ((first | refine ⟨zG_of _, ?_⟩ | refine ⟨trivial, ?_⟩ | refine ⟨rfl, ?_⟩ | refine ⟨fun hc => absurd hc (by decide), fun _ => ?_⟩ | refine ⟨fun _ => ?_, fun hc => absurd (by decide) hc⟩ | refine ⟨fun _ => ?_, fun hc => absurd hc (by decide)⟩ | refine ⟨fun hc => absurd (by decide) hc, fun _ => ?_⟩); conv => whnf)
    try dsimp only
    refine ⟨fun hc => ?_, fun hc => ?_⟩
    · rw [bI_f (fun q => q.1 hc)] at h
      exact ⟨Or.inl rfl, h⟩
    · conv => whnf
      repeat ((first | refine ⟨zG_of _, ?_⟩ | refine ⟨trivial, ?_⟩ | refine ⟨rfl, ?_⟩ | refine ⟨fun hc => absurd hc (by decide), fun _ => ?_⟩ | refine ⟨fun _ => ?_, fun hc => absurd (by decide) hc⟩ | refine ⟨fun _ => ?_, fun hc => absurd hc (by decide)⟩ | refine ⟨fun hc => absurd (by decide) hc, fun _ => ?_⟩); conv => whnf)
      try dsimp only
      refine ⟨fun hc2 => ?_, fun hc2 => ?_⟩
      · rw [bI_f (fun q => q.2 hc2)] at h
        exact ⟨Or.inl rfl, h⟩
      · rw [bI_t ⟨hc, hc2⟩] at h
        exact ⟨Or.inr rfl, h⟩
def isFF (wi : Nat → Nat → Int32) (f : Int32) : Int32 := bI (¬ f < nI 1 ∧ f < wi 6 4)
def sp_X11_isFactor : zSp := fun av w K => match av with
  | [.ref o, .int r] => o = 0 ∧ zG w.1 ∧ K (some (.int (isFF w.2.1 r))) w
  | _ => False
def rm_X11_isFactor : Room := { frames := 0, cells := 0, slots := 0, locals := 0 }
def M_X11_isFactor : zM := (k_X11_isFactor, f_X11, [], ([], [], []), [], [], 2, false, (false, 0, fun _ => 0), (0, 0, []))
theorem O_X11_isFactor (l : Launch) : z_OK l RX11 cX11_isFactor (headSpec (.code yX11_isFactor cX11_isFactor 2 (some .boolean) :: zTT) rm_X11_isFactor).room M_X11_isFactor := ⟨ok_X11_isFactor, fo_X11, fun _ h => absurd h List.not_mem_nil, fun _ h => absurd h List.not_mem_nil, fun _ h => absurd h List.not_mem_nil, fun _ h => absurd h List.not_mem_nil, fun _ h => absurd h List.not_mem_nil, rfl, rfl, fun _ h => absurd h List.not_mem_nil⟩
theorem c_X11_isFactor (l : Launch) : z_CS l yX11_isFactor cX11_isFactor 2 (some .boolean) rm_X11_isFactor sp_X11_isFactor := by
  refine z_meth (by decide) (Or.inr (Or.inr (Or.inl ⟨rfl, rfl⟩))) (fun h => by cases h) rfl (O_X11_isFactor l) ?_
  intro av w K h
  match av, h with
  | [.ref o, .int r], h =>
    obtain ⟨rfl, ⟨r0, hG⟩, h⟩ := h
    obtain ⟨G, wi, wl⟩ := w
    subst hG
    try dsimp only at h
    refine ⟨Nat.le_of_ble_eq_true rfl, fun Jm hs => hs 400 0 _ _ _ _ _ ?_⟩
    unfold isFF at h
    conv => whnf
    repeat ((first | refine ⟨zG_of _, ?_⟩ | refine ⟨trivial, ?_⟩ | refine ⟨rfl, ?_⟩ | refine ⟨fun hc => absurd hc (by decide), fun _ => ?_⟩ | refine ⟨fun _ => ?_, fun hc => absurd (by decide) hc⟩ | refine ⟨fun _ => ?_, fun hc => absurd hc (by decide)⟩ | refine ⟨fun hc => absurd (by decide) hc, fun _ => ?_⟩); conv => whnf)
    try dsimp only
    refine ⟨fun hc => ?_, fun hc => ?_⟩
    · rw [bI_f (fun q => q.1 hc)] at h
      exact ⟨Or.inl rfl, h⟩
    · conv => whnf
      repeat ((first | refine ⟨zG_of _, ?_⟩ | refine ⟨trivial, ?_⟩ | refine ⟨rfl, ?_⟩ | refine ⟨fun hc => absurd hc (by decide), fun _ => ?_⟩ | refine ⟨fun _ => ?_, fun hc => absurd (by decide) hc⟩ | refine ⟨fun _ => ?_, fun hc => absurd hc (by decide)⟩ | refine ⟨fun hc => absurd (by decide) hc, fun _ => ?_⟩); conv => whnf)
      try dsimp only
      refine ⟨fun hc2 => ?_, fun hc2 => ?_⟩
      · rw [bI_f (fun q => hc2 q.2)] at h
        exact ⟨Or.inl rfl, h⟩
      · rw [bI_t ⟨hc, hc2⟩] at h
        exact ⟨Or.inr rfl, h⟩
def gT (G : List zSh) (o : Nat) (k : Nat → Prop) : Prop := match z_nth G o with
  | some (.inl (c, [some (some a), none])) => (match Nat.beq c 8 with
    | true => (match z_nth G a with
      | some (.inr (t, n)) => (match Nat.beq t 1 && Nat.beq n 9 with
        | true => k a
        | false => False)
      | _ => False)
    | false => False)
  | _ => False
theorem gT_ok {G : List zSh} {o : Nat} {k : Nat → Prop} (h : gT G o k) : ∃ a, z_nth G o = some (.inl (8, [some (some a), none])) ∧ z_nth G a = some (.inr (1, 9)) ∧ k a := by
  unfold gT at h
  split at h
  · rename_i c a e
    split at h
    · rename_i hc
      split at h
      · rename_i t n e2
        split at h
        · rename_i ht
          rw [Bool.and_eq_true] at ht
          have := Nat.eq_of_beq_eq_true hc
          have := Nat.eq_of_beq_eq_true ht.1
          have := Nat.eq_of_beq_eq_true ht.2
          subst_vars
          exact ⟨a, e, e2, h⟩
        · exact h.elim
      · exact h.elim
    · exact h.elim
  · exact h.elim
/-- what is told: how many numbers, which -/
def TS (wi : Nat → Nat → Int32) (wl : Nat → Nat → Int64) (n : Nat) (xs : Nat → Int64) : Prop := wi 4 1 = nI n ∧ n ≤ 9 ∧ ∀ k, k < n → wl 5 k = xs k
def upL (xs : Nat → Int64) (n : Nat) (v : Int64) : Nat → Int64 := fun k => if k = n then v else xs k
def sp_X9_clear : zSp := fun av w K => match av with
  | [.ref o] => o = 4 ∧ zG w.1 ∧ ∀ wi' : Nat → Nat → Int32, (∀ y, y ≠ 4 → wi' y = w.2.1 y) → TS wi' w.2.2 0 (fun _ => 0) → K none (w.1, wi', w.2.2)
  | _ => False
def rm_X9_clear : Room := { frames := 0, cells := 0, slots := 0, locals := 0 }
def M_X9_clear : zM := (k_X9_clear, f_X9, [], ([], [], []), [], [], 0, false, (false, 0, fun _ => 0), (0, 0, []))
theorem O_X9_clear (l : Launch) : z_OK l RX9 cX9_clear (headSpec (.code yX9_clear cX9_clear 1 none :: zTT) rm_X9_clear).room M_X9_clear := ⟨ok_X9_clear, fo_X9, fun _ h => absurd h List.not_mem_nil, fun _ h => absurd h List.not_mem_nil, fun _ h => absurd h List.not_mem_nil, fun _ h => absurd h List.not_mem_nil, fun _ h => absurd h List.not_mem_nil, rfl, rfl, fun _ h => absurd h List.not_mem_nil⟩
theorem c_X9_clear (l : Launch) : z_CS l yX9_clear cX9_clear 1 none rm_X9_clear sp_X9_clear := by
  refine z_meth (by decide) (Or.inl ⟨rfl, rfl⟩) (fun h => by cases h) rfl (O_X9_clear l) ?_
  intro av w K h
  match av, h with
  | [.ref o], h =>
    obtain ⟨rfl, ⟨r, hG⟩, h⟩ := h
    obtain ⟨G, wi, wl⟩ := w
    subst hG
    try dsimp only at h
    refine ⟨Nat.le_of_ble_eq_true rfl, fun Jm hs => hs 400 0 _ _ _ _ _ ?_⟩
    conv => whnf
    repeat ((first | refine ⟨zG_of _, ?_⟩ | refine ⟨trivial, ?_⟩ | refine ⟨rfl, ?_⟩ | refine ⟨fun hc => absurd hc (by decide), fun _ => ?_⟩ | refine ⟨fun _ => ?_, fun hc => absurd (by decide) hc⟩ | refine ⟨fun _ => ?_, fun hc => absurd hc (by decide)⟩ | refine ⟨fun hc => absurd (by decide) hc, fun _ => ?_⟩); conv => whnf)
    try dsimp only
    refine h _ (fun y hy => ?_) ⟨if_pos ⟨rfl, rfl⟩, by decide, fun k hk => absurd hk (Nat.not_lt_zero k)⟩
    funext j
    exact if_neg (fun q => hy q.1)
def sp_X9_add : zSp := fun av w K => match av with
  | [.ref o, .long v] => o = 4 ∧ zG w.1 ∧ ∃ n xs, TS w.2.1 w.2.2 n xs ∧ n < 9 ∧ ∀ (wi' : Nat → Nat → Int32) (wl' : Nat → Nat → Int64), (∀ y, y ≠ 4 → wi' y = w.2.1 y) → (∀ y, y ≠ 5 → wl' y = w.2.2 y) → TS wi' wl' (n + 1) (upL xs n v) → K none (w.1, wi', wl')
  | _ => False
def rm_X9_add : Room := { frames := 0, cells := 0, slots := 0, locals := 0 }
def M_X9_add : zM := (k_X9_add, f_X9, [], ([], [], []), [], [], 0, false, (false, 0, fun _ => 0), (0, 0, []))
theorem O_X9_add (l : Launch) : z_OK l RX9 cX9_add (headSpec (.code yX9_add cX9_add 3 none :: zTT) rm_X9_add).room M_X9_add := ⟨ok_X9_add, fo_X9, fun _ h => absurd h List.not_mem_nil, fun _ h => absurd h List.not_mem_nil, fun _ h => absurd h List.not_mem_nil, fun _ h => absurd h List.not_mem_nil, fun _ h => absurd h List.not_mem_nil, rfl, rfl, fun _ h => absurd h List.not_mem_nil⟩
theorem c_X9_add (l : Launch) : z_CS l yX9_add cX9_add 3 none rm_X9_add sp_X9_add := by
  refine z_meth (by decide) (Or.inl ⟨rfl, rfl⟩) (fun h => by cases h) rfl (O_X9_add l) ?_
  intro av w K h
  match av, h with
  | [.ref o, .long v], h =>
    obtain ⟨rfl, ⟨r, hG⟩, n, xs, hT, hn, h⟩ := h
    obtain ⟨G, wi, wl⟩ := w
    subst hG
    try dsimp only at h hT
    refine ⟨Nat.le_of_ble_eq_true rfl, fun Jm hs => hs 400 0 _ _ _ _ _ ?_⟩
    conv => whnf
    repeat ((first | refine ⟨zG_of _, ?_⟩ | refine ⟨trivial, ?_⟩ | refine ⟨rfl, ?_⟩ | refine ⟨fun hc => absurd hc (by decide), fun _ => ?_⟩ | refine ⟨fun _ => ?_, fun hc => absurd (by decide) hc⟩ | refine ⟨fun _ => ?_, fun hc => absurd hc (by decide)⟩ | refine ⟨fun hc => absurd (by decide) hc, fun _ => ?_⟩); conv => whnf)
    try dsimp only
    rw [hT.1]
    refine ⟨fun hc => absurd hc (nI_nlt (Nat.zero_le _) (by omega)), fun _ => ?_⟩
    conv => whnf
    repeat ((first | refine ⟨zG_of _, ?_⟩ | refine ⟨trivial, ?_⟩ | refine ⟨rfl, ?_⟩ | refine ⟨fun hc => absurd hc (by decide), fun _ => ?_⟩ | refine ⟨fun _ => ?_, fun hc => absurd (by decide) hc⟩ | refine ⟨fun _ => ?_, fun hc => absurd hc (by decide)⟩ | refine ⟨fun hc => absurd (by decide) hc, fun _ => ?_⟩); conv => whnf)
    try dsimp only
    rw [hT.1]
    refine ⟨fun hc => absurd (nI_lt hn (by decide)) hc, fun _ => ?_⟩
    conv => whnf
    repeat ((first | refine ⟨zG_of _, ?_⟩ | refine ⟨trivial, ?_⟩ | refine ⟨rfl, ?_⟩ | refine ⟨fun hc => absurd hc (by decide), fun _ => ?_⟩ | refine ⟨fun _ => ?_, fun hc => absurd (by decide) hc⟩ | refine ⟨fun _ => ?_, fun hc => absurd hc (by decide)⟩ | refine ⟨fun hc => absurd (by decide) hc, fun _ => ?_⟩); conv => whnf)
    try dsimp only
    rw [hT.1]
    refine ⟨vp_in_nI hn (by decide), ?_⟩
    conv => whnf
    repeat ((first | refine ⟨zG_of _, ?_⟩ | refine ⟨trivial, ?_⟩ | refine ⟨rfl, ?_⟩ | refine ⟨fun hc => absurd hc (by decide), fun _ => ?_⟩ | refine ⟨fun _ => ?_, fun hc => absurd (by decide) hc⟩ | refine ⟨fun _ => ?_, fun hc => absurd hc (by decide)⟩ | refine ⟨fun hc => absurd (by decide) hc, fun _ => ?_⟩); conv => whnf)
    try dsimp only
    rw [nI_clamp (by omega), hT.1, nI_add]
    refine h _ _ (fun y hy => ?_) (fun y hy => ?_) ⟨if_pos ⟨rfl, rfl⟩, hn, fun k hk => ?_⟩
    · funext j
      exact if_neg (fun q => hy q.1)
    · funext j
      exact if_neg (fun q => hy q.1)
    · unfold upL z_up
      by_cases e : k = n
      · rw [if_pos ⟨rfl, e⟩, if_pos e]
      · rw [if_neg (fun q => e q.2), if_neg e]
        exact hT.2.2 k (by omega)
def tatF (f : Nat → Int64) (i : Int32) : Int64 := if ¬ i < nI 0 ∧ i < nI 9 then f i.toNatClampNeg else lN 0
def sp_X9_at : zSp := fun av w K => match av with
  | [.ref o, .int i] => gT w.1 o (fun a => K (some (.long (tatF (w.2.2 a) i))) w)
  | _ => False
def rm_X9_at : Room := { frames := 0, cells := 0, slots := 0, locals := 0 }
def M_X9_at : zM := (k_X9_at, f_X9, [], ([], [], []), [], [], 3, false, (false, 0, fun _ => 0), (0, 0, []))
theorem O_X9_at (l : Launch) : z_OK l RX9 cX9_at (headSpec (.code yX9_at cX9_at 2 (some .long) :: zTT) rm_X9_at).room M_X9_at := ⟨ok_X9_at, fo_X9, fun _ h => absurd h List.not_mem_nil, fun _ h => absurd h List.not_mem_nil, fun _ h => absurd h List.not_mem_nil, fun _ h => absurd h List.not_mem_nil, fun _ h => absurd h List.not_mem_nil, rfl, rfl, fun _ h => absurd h List.not_mem_nil⟩
theorem c_X9_at (l : Launch) : z_CS l yX9_at cX9_at 2 (some .long) rm_X9_at sp_X9_at := by
  refine z_meth (by decide) (Or.inr (Or.inr (Or.inr (Or.inl ⟨rfl, rfl⟩)))) (fun h => by cases h) rfl (O_X9_at l) ?_
  intro av w K h
  match av, h with
  | [.ref o, .int i], h =>
    obtain ⟨a, h1, h2, h⟩ := gT_ok h
    refine ⟨Nat.le_of_ble_eq_true rfl, fun Jm hs => hs 400 0 _ _ _ _ _ ?_⟩
    unfold tatF at h
    conv => whnf
    refine ⟨fun hc => ?_, fun hc => ?_⟩
    · rw [if_neg (fun q => q.1 hc)] at h
      exact h
    · conv => whnf
      rw [h1]
      conv => whnf
      rw [h2]
      conv => whnf
      refine ⟨fun hc2 => ?_, fun hc2 => ?_⟩
      · rw [if_neg (fun q => hc2 q.2)] at h
        exact h
      · rw [if_pos ⟨hc, hc2⟩] at h
        conv => whnf
        rw [h1]
        conv => whnf
        rw [h2]
        conv => whnf
        exact ⟨vp_in_N hc hc2 (by omega), h⟩
def t3 (a b e : Int64) : Nat → Int64 := upL (upL (upL (fun _ => 0) 0 a) 1 b) 2 e
def sp_X11_tellThree : zSp := fun av w K => match av with
  | [.ref o, .int a, .int b, .int e] => o = 0 ∧ zG w.1 ∧ ∀ (wi' : Nat → Nat → Int32) (wl' : Nat → Nat → Int64), (∀ y, y ≠ 4 → wi' y = w.2.1 y) → (∀ y, y ≠ 5 → wl' y = w.2.2 y) → TS wi' wl' 3 (t3 a.toInt64 b.toInt64 e.toInt64) → K none (w.1, wi', wl')
  | _ => False
def rm_X11_tellThree : Room := { frames := 1, cells := 0, slots := 0, locals := 22 }
def M_X11_tellThree : zM := (k_X11_tellThree, f_X11, [(150, 4, 8, 1, 0, 0, sp_X9_clear), (167, 4, 8, 2, 0, 0, sp_X9_add)], ([], [], []), [], [], 0, false, (false, 0, fun _ => 0), (0, 0, []))
theorem ca_X11_tellThree_0 (l : Launch) : z_cok l RX11 (headSpec (.code yX11_tellThree cX11_tellThree 4 none :: zTT) rm_X11_tellThree).room (false, 0, fun _ => 0) (150, 4, 8, 1, 0, 0, sp_X9_clear) := z_ca4 (c_X9_clear l) mb_X9_clear ⟨_, rfl, rfl⟩ wt_429 wt_430 wt_431 (by decide)
theorem ca_X11_tellThree_1 (l : Launch) : z_cok l RX11 (headSpec (.code yX11_tellThree cX11_tellThree 4 none :: zTT) rm_X11_tellThree).room (false, 0, fun _ => 0) (167, 4, 8, 2, 0, 0, sp_X9_add) := z_ca4 (c_X9_add l) mb_X9_add ⟨_, rfl, rfl⟩ wt_469 wt_470 wt_471 (by decide)
theorem O_X11_tellThree (l : Launch) : z_OK l RX11 cX11_tellThree (headSpec (.code yX11_tellThree cX11_tellThree 4 none :: zTT) rm_X11_tellThree).room M_X11_tellThree := ⟨ok_X11_tellThree, fo_X11, List.forall_mem_cons.mpr ⟨ca_X11_tellThree_0 l, List.forall_mem_cons.mpr ⟨ca_X11_tellThree_1 l, fun _ h => absurd h List.not_mem_nil⟩⟩, fun _ h => absurd h List.not_mem_nil, fun _ h => absurd h List.not_mem_nil, fun _ h => absurd h List.not_mem_nil, fun _ h => absurd h List.not_mem_nil, rfl, rfl, fun _ h => absurd h List.not_mem_nil⟩
theorem c_X11_tellThree (l : Launch) : z_CS l yX11_tellThree cX11_tellThree 4 none rm_X11_tellThree sp_X11_tellThree := by
  refine z_meth (by decide) (Or.inl ⟨rfl, rfl⟩) (fun h => by cases h) rfl (O_X11_tellThree l) ?_
  intro av w K h
  match av, h with
  | [.ref o, .int a, .int b, .int e], h =>
    obtain ⟨rfl, ⟨r, hG⟩, h⟩ := h
    obtain ⟨G, wi, wl⟩ := w
    subst hG
    try dsimp only at h
    refine ⟨Nat.le_of_ble_eq_true rfl, fun Jm hs => hs 400 0 _ _ _ _ _ ?_⟩
    conv => whnf
    repeat ((first | refine ⟨zG_of _, ?_⟩ | refine ⟨trivial, ?_⟩ | refine ⟨rfl, ?_⟩ | refine ⟨fun hc => absurd hc (by decide), fun _ => ?_⟩ | refine ⟨fun _ => ?_, fun hc => absurd (by decide) hc⟩ | refine ⟨fun _ => ?_, fun hc => absurd hc (by decide)⟩ | refine ⟨fun hc => absurd (by decide) hc, fun _ => ?_⟩); conv => whnf)
    try dsimp only
    intro wi0 hF0 hT0
    conv => whnf
    repeat ((first | refine ⟨zG_of _, ?_⟩ | refine ⟨trivial, ?_⟩ | refine ⟨rfl, ?_⟩ | refine ⟨fun hc => absurd hc (by decide), fun _ => ?_⟩ | refine ⟨fun _ => ?_, fun hc => absurd (by decide) hc⟩ | refine ⟨fun _ => ?_, fun hc => absurd hc (by decide)⟩ | refine ⟨fun hc => absurd (by decide) hc, fun _ => ?_⟩); conv => whnf)
    try dsimp only
    refine ⟨0, _, hT0, by decide, fun wi1 wl1 hF1 hL1 hT1 => ?_⟩
    conv => whnf
    repeat ((first | refine ⟨zG_of _, ?_⟩ | refine ⟨trivial, ?_⟩ | refine ⟨rfl, ?_⟩ | refine ⟨fun hc => absurd hc (by decide), fun _ => ?_⟩ | refine ⟨fun _ => ?_, fun hc => absurd (by decide) hc⟩ | refine ⟨fun _ => ?_, fun hc => absurd hc (by decide)⟩ | refine ⟨fun hc => absurd (by decide) hc, fun _ => ?_⟩); conv => whnf)
    try dsimp only
    refine ⟨1, _, hT1, by decide, fun wi2 wl2 hF2 hL2 hT2 => ?_⟩
    conv => whnf
    repeat ((first | refine ⟨zG_of _, ?_⟩ | refine ⟨trivial, ?_⟩ | refine ⟨rfl, ?_⟩ | refine ⟨fun hc => absurd hc (by decide), fun _ => ?_⟩ | refine ⟨fun _ => ?_, fun hc => absurd (by decide) hc⟩ | refine ⟨fun _ => ?_, fun hc => absurd hc (by decide)⟩ | refine ⟨fun hc => absurd (by decide) hc, fun _ => ?_⟩); conv => whnf)
    try dsimp only
    refine ⟨2, _, hT2, by decide, fun wi3 wl3 hF3 hL3 hT3 => ?_⟩
    exact h wi3 wl3 (fun y hy => by rw [hF3 y hy, hF2 y hy, hF1 y hy, hF0 y hy]) (fun y hy => by rw [hL3 y hy, hL2 y hy, hL1 y hy]) hT3
def sp_X11_tellFirst : zSp := fun av w K => match av with
  | [.ref o, .int i, .int a, .int b, .int e] => o = 0 ∧ zG w.1 ∧ (¬ i = nI 0 → K none w) ∧ (i = nI 0 → ∀ (wi' : Nat → Nat → Int32) (wl' : Nat → Nat → Int64), (∀ y, y ≠ 4 → wi' y = w.2.1 y) → (∀ y, y ≠ 5 → wl' y = w.2.2 y) → TS wi' wl' 3 (t3 a.toInt64 b.toInt64 e.toInt64) → K none (w.1, wi', wl'))
  | _ => False
def rm_X11_tellFirst : Room := { frames := 2, cells := 0, slots := 0, locals := 45 }
def M_X11_tellFirst : zM := (k_X11_tellFirst, f_X11, [(200, 4, 9, 4, 0, 0, sp_X11_tellThree)], ([], [], []), [], [], 0, false, (false, 0, fun _ => 0), (0, 0, []))
theorem ca_X11_tellFirst_0 (l : Launch) : z_cok l RX11 (headSpec (.code yX11_tellFirst cX11_tellFirst 5 none :: zTT) rm_X11_tellFirst).room (false, 0, fun _ => 0) (200, 4, 9, 4, 0, 0, sp_X11_tellThree) := z_ca4 (c_X11_tellThree l) mb_X11_tellThree ⟨_, rfl, rfl⟩ wt_465 wt_467 wt_8 (by decide)
theorem O_X11_tellFirst (l : Launch) : z_OK l RX11 cX11_tellFirst (headSpec (.code yX11_tellFirst cX11_tellFirst 5 none :: zTT) rm_X11_tellFirst).room M_X11_tellFirst := ⟨ok_X11_tellFirst, fo_X11, List.forall_mem_cons.mpr ⟨ca_X11_tellFirst_0 l, fun _ h => absurd h List.not_mem_nil⟩, fun _ h => absurd h List.not_mem_nil, fun _ h => absurd h List.not_mem_nil, fun _ h => absurd h List.not_mem_nil, fun _ h => absurd h List.not_mem_nil, rfl, rfl, fun _ h => absurd h List.not_mem_nil⟩
theorem c_X11_tellFirst (l : Launch) : z_CS l yX11_tellFirst cX11_tellFirst 5 none rm_X11_tellFirst sp_X11_tellFirst := by
  refine z_meth (by decide) (Or.inl ⟨rfl, rfl⟩) (fun h => by cases h) rfl (O_X11_tellFirst l) ?_
  intro av w K h
  match av, h with
  | [.ref o, .int i, .int a, .int b, .int e], h =>
    obtain ⟨rfl, ⟨r, hG⟩, h0, h1⟩ := h
    obtain ⟨G, wi, wl⟩ := w
    subst hG
    try dsimp only at h0 h1
    refine ⟨Nat.le_of_ble_eq_true rfl, fun Jm hs => hs 400 0 _ _ _ _ _ ?_⟩
    conv => whnf
    repeat ((first | refine ⟨zG_of _, ?_⟩ | refine ⟨trivial, ?_⟩ | refine ⟨rfl, ?_⟩ | refine ⟨fun hc => absurd hc (by decide), fun _ => ?_⟩ | refine ⟨fun _ => ?_, fun hc => absurd (by decide) hc⟩ | refine ⟨fun _ => ?_, fun hc => absurd hc (by decide)⟩ | refine ⟨fun hc => absurd (by decide) hc, fun _ => ?_⟩); conv => whnf)
    try dsimp only
    refine ⟨fun hc => h0 hc, fun hc => ?_⟩
    conv => whnf
    repeat ((first | refine ⟨zG_of _, ?_⟩ | refine ⟨trivial, ?_⟩ | refine ⟨rfl, ?_⟩ | refine ⟨fun hc => absurd hc (by decide), fun _ => ?_⟩ | refine ⟨fun _ => ?_, fun hc => absurd (by decide) hc⟩ | refine ⟨fun _ => ?_, fun hc => absurd hc (by decide)⟩ | refine ⟨fun hc => absurd (by decide) hc, fun _ => ?_⟩); conv => whnf)
    try dsimp only
    exact h1 hc

