/-! worlds that grow: the texts of the JDK -/
theorem nI_sub {a b : Nat} (h : b ≤ a) : nI a - nI b = nI (a - b) := by
  have : nI a = nI (a - b) + nI b := by rw [nI_add, Nat.sub_add_cancel h]
  rw [this, Int32.add_sub_cancel]
theorem nth_lt {α : Type} {l : List α} {o : Nat} {a : α} (h : z_nth l o = some a) : o < l.length := by
  rw [z_nth_eq] at h
  exact (List.getElem?_eq_some_iff.mp h).1
theorem nth_app {α : Type} {l r : List α} {o : Nat} (h : o < l.length) : z_nth (l ++ r) o = z_nth l o := by
  rw [z_nth_eq, z_nth_eq, List.getElem?_append_left h]
theorem nth_new {α : Type} {l : List α} {a : α} {n : Nat} (h : n = l.length) : z_nth (l ++ [a]) n = some a := by
  subst h
  rw [z_nth_eq]
  simp
theorem nth_set {α : Type} {l : List α} {o : Nat} {a : α} (h : o < l.length) : z_nth (l.set o a) o = some a := by
  rw [z_nth_eq, List.getElem?_set_self h]
theorem nth_setn {α : Type} {l : List α} {o x : Nat} {a : α} (h : x ≠ o) : z_nth (l.set o a) x = z_nth l x := by
  rw [z_nth_eq, z_nth_eq, List.getElem?_set_ne (fun q => h q.symm)]
/-- all of a world's shapes point into it -/
def WF (w : zW) : Prop := z_wfg w.1.length w.1 = true
theorem wfg_ok {n : Nat} {G : List zSh} : z_wfg n G = true ↔ ∀ ci fs, .inl (ci, fs) ∈ G → ∀ r, some (some r) ∈ fs → r < n := by
  unfold z_wfg
  rw [List.all_eq_true]
  constructor
  · intro h ci fs hm r hr
    have := List.all_eq_true.mp (h _ hm) _ hr
    exact Nat.blt_eq.mp this
  · intro h s hs
    match s, hs with
    | .inr _, _ => rfl
    | .inl (ci, fs), hs =>
      refine List.all_eq_true.mpr fun f hf => ?_
      match f, hf with
      | none, _ => rfl
      | some none, _ => rfl
      | some (some r), hf => exact Nat.blt_eq.mpr (h ci fs hs r hf)
theorem wfg_app {G : List zSh} {s : zSh} (h : z_wfg G.length G = true) (hs : z_wfg (G ++ [s]).length [s] = true) : z_wfg (G ++ [s]).length (G ++ [s]) = true := by
  rw [wfg_ok] at *
  intro ci fs hm r hr
  rcases List.mem_append.mp hm with hm | hm
  · have := h ci fs hm r hr
    rw [List.length_append]
    omega
  · exact hs ci fs hm r hr
theorem wfg_set {G : List zSh} {o ci r : Nat} {fs : List (Option (Option Nat))} {j : Nat} (h : z_wfg G.length G = true) (ho : z_nth G o = some (.inl (ci, fs))) (hr : r < G.length) : z_wfg (G.set o (.inl (ci, fs.set j (some (some r))))).length (G.set o (.inl (ci, fs.set j (some (some r))))) = true := by
  rw [wfg_ok] at *
  intro c f hm q hq
  rw [List.length_set]
  rcases List.mem_or_eq_of_mem_set hm with hm | hm
  · exact h c f hm q hq
  · cases hm
    rcases List.mem_or_eq_of_mem_set hq with hq | hq
    · rw [z_nth_eq] at ho
      exact h ci fs (List.mem_of_getElem? ho) q hq
    · cases hq
      exact hr
/-- what P says of is kept -/
def Ext (P : Nat → Prop) (w w' : zW) : Prop := w.1.length ≤ w'.1.length ∧ (∀ x, P x → z_nth w'.1 x = z_nth w.1 x ∧ w'.2.1 x = w.2.1 x ∧ w'.2.2 x = w.2.2 x) ∧ (WF w → WF w')
theorem Ext.rf {P : Nat → Prop} {w : zW} : Ext P w w := ⟨Nat.le_refl _, fun _ _ => ⟨rfl, rfl, rfl⟩, fun h => h⟩
theorem Ext.tr {P : Nat → Prop} {w w1 w2 : zW} (h1 : Ext P w w1) (h2 : Ext P w1 w2) : Ext P w w2 :=
  ⟨Nat.le_trans h1.1 h2.1, fun x hx => ⟨(h2.2.1 x hx).1.trans (h1.2.1 x hx).1, (h2.2.1 x hx).2.1.trans (h1.2.1 x hx).2.1, (h2.2.1 x hx).2.2.trans (h1.2.1 x hx).2.2⟩, fun h => h2.2.2 (h1.2.2 h)⟩
theorem Ext.less {P R : Nat → Prop} {w w' : zW} (h : Ext P w w') (hab : ∀ x, R x → P x) : Ext R w w' := ⟨h.1, fun x hx => h.2.1 x (hab x hx), h.2.2⟩
/-- P says of cells that are there -/
def Bel (P : Nat → Prop) (w : zW) : Prop := ∀ x, P x → x < w.1.length
theorem Bel.up {P R : Nat → Prop} {w w' : zW} (h : Bel P w) (e : Ext R w w') : Bel P w' := fun x hx => Nat.lt_of_lt_of_le (h x hx) e.1
/-- bytes in an array: n letters below 128 -/
def BA (w : zW) (v N n : Nat) (f : Nat → Nat) : Prop := z_nth w.1 v = some (.inr (2, N)) ∧ n ≤ N ∧ (∀ k, k < n → w.2.1 v k = nI (f k) ∧ f k < 128) ∧ ∀ k, k < N → fits .byte (.int (w.2.1 v k)) = true
/-- a StringBuilder's text -/
def SBv (P : Nat → Prop) (w : zW) (o v N n : Nat) (f : Nat → Nat) : Prop := ¬ P o ∧ ¬ P v ∧ z_nth w.1 o = some (.inl (11, [some (some v), none, none, none])) ∧ w.2.1 o 1 = nI 0 ∧ w.2.1 o 3 = nI n ∧ N ≤ 300 ∧ BA w v N n f
def SB (P : Nat → Prop) (w : zW) (o m n : Nat) (f : Nat → Nat) : Prop := ∃ v N, m ≤ N ∧ SBv P w o v N n f
/-- a String's text -/
def STv (w : zW) (u v n : Nat) (f : Nat → Nat) : Prop := z_nth w.1 u = some (.inl (10, [some (some v), none, none, none])) ∧ w.2.1 u 1 = nI 0 ∧ BA w v n n f
def ST (w : zW) (u n : Nat) (f : Nat → Nat) : Prop := ∃ v, STv w u v n f
def StrV (w : zW) (s : Value) (n : Nat) (f : Nat → Nat) : Prop := match s with
  | .ref u => ST w u n f
  | .retAddr 1 => n = 1 ∧ f = fun _ => 42
  | .retAddr 3 => n = 1 ∧ f = fun _ => 49
  | .retAddr 5 => n = 2 ∧ f = fun k => if k = 0 then 44 else 49
  | _ => False
theorem fits_lt {c : Nat} (h : c < 128) : fits .byte (.int (nI c)) = true ∧ vp_nar .byte (nI c) = nI c ∧ (nI c).toInt8.toInt32 = nI c ∧ ((nI c &&& nI 255).toUInt32 % 65536).toInt32 = nI c ∧ vp_nar .char (nI c) = nI c := by
  have : ∀ c : Fin 128, fits .byte (.int (nI c.1)) = true ∧ vp_nar .byte (nI c.1) = nI c.1 ∧ (nI c.1).toInt8.toInt32 = nI c.1 ∧ ((nI c.1 &&& nI 255).toUInt32 % 65536).toInt32 = nI c.1 ∧ vp_nar .char (nI c.1) = nI c.1 := by decide +kernel
  exact this ⟨c, h⟩
/-! the leaves -/
def sp_J9_max_7cf53 : zSp := fun av w K => match av with
  | [.int a, .int c] => ∃ x y : Nat, a = nI x ∧ c = nI y ∧ x < 2 ^ 31 ∧ y < 2 ^ 31 ∧ K (some (.int (nI (max x y)))) w
  | _ => False
def rm_J9_max_7cf53 : Room := { frames := 0, cells := 0, slots := 0, locals := 0 }
def M_J9_max_7cf53 : zM := (k_J9_max_7cf53, [], [], ([], [], []), [], [], 1, false, (false, 0, fun _ => 0), (0, 0, []))
theorem O_J9_max_7cf53 (l : Launch) : z_OK l RJ9 cJ9_max_7cf53 (headSpec (.code yJ9_max_7cf53 cJ9_max_7cf53 2 (some .int) :: zTT) rm_J9_max_7cf53).room M_J9_max_7cf53 := ⟨ok_J9_max_7cf53, fun _ h => absurd h List.not_mem_nil, fun _ h => absurd h List.not_mem_nil, fun _ h => absurd h List.not_mem_nil, fun _ h => absurd h List.not_mem_nil, fun _ h => absurd h List.not_mem_nil, fun _ h => absurd h List.not_mem_nil, rfl, rfl, fun _ h => absurd h List.not_mem_nil⟩
theorem c_J9_max_7cf53 (l : Launch) : z_CS l yJ9_max_7cf53 cJ9_max_7cf53 2 (some .int) rm_J9_max_7cf53 sp_J9_max_7cf53 := by
  refine z_methF (by decide +kernel) (Or.inr (Or.inl ⟨rfl, rfl⟩)) (fun h => by cases h) rfl (O_J9_max_7cf53 l) ?_
  intro av w K h
  match av, h with
  | [.int a, .int c], h =>
    obtain ⟨x, y, rfl, rfl, hx, hy, h⟩ := h
    refine ⟨Nat.le_of_ble_eq_true rfl, fun Jm hs => hs 400 0 _ _ _ _ _ ?_⟩
    conv => whnf
    repeat ((first | refine ⟨zG_of _, ?_⟩ | refine ⟨trivial, ?_⟩ | refine ⟨rfl, ?_⟩ | refine ⟨fun hc => absurd hc (by decide), fun _ => ?_⟩ | refine ⟨fun _ => ?_, fun hc => absurd (by decide) hc⟩ | refine ⟨fun _ => ?_, fun hc => absurd hc (by decide)⟩ | refine ⟨fun hc => absurd (by decide) hc, fun _ => ?_⟩); conv => whnf)
    try dsimp only
    refine ⟨fun hc => ?_, fun hc => ?_⟩
    · conv => whnf
      repeat ((first | refine ⟨zG_of _, ?_⟩ | refine ⟨trivial, ?_⟩ | refine ⟨rfl, ?_⟩ | refine ⟨fun hc => absurd hc (by decide), fun _ => ?_⟩ | refine ⟨fun _ => ?_, fun hc => absurd (by decide) hc⟩ | refine ⟨fun _ => ?_, fun hc => absurd hc (by decide)⟩ | refine ⟨fun hc => absurd (by decide) hc, fun _ => ?_⟩); conv => whnf)
      try dsimp only
      rw [Nat.max_eq_right (Nat.le_of_lt ((ltN hx hy).mp hc))] at h
      exact h
    · conv => whnf
      repeat ((first | refine ⟨zG_of _, ?_⟩ | refine ⟨trivial, ?_⟩ | refine ⟨rfl, ?_⟩ | refine ⟨fun hc => absurd hc (by decide), fun _ => ?_⟩ | refine ⟨fun _ => ?_, fun hc => absurd (by decide) hc⟩ | refine ⟨fun _ => ?_, fun hc => absurd hc (by decide)⟩ | refine ⟨fun hc => absurd (by decide) hc, fun _ => ?_⟩); conv => whnf)
      try dsimp only
      rw [Nat.max_eq_left (by rw [ltN hx hy] at hc; omega)] at h
      exact h
def sp_J9_min_7cf53 : zSp := fun av w K => match av with
  | [.int a, .int c] => ∃ x y : Nat, a = nI x ∧ c = nI y ∧ x < 2 ^ 31 ∧ y < 2 ^ 31 ∧ K (some (.int (nI (min x y)))) w
  | _ => False
def rm_J9_min_7cf53 : Room := { frames := 0, cells := 0, slots := 0, locals := 0 }
def M_J9_min_7cf53 : zM := (k_J9_min_7cf53, [], [], ([], [], []), [], [], 1, false, (false, 0, fun _ => 0), (0, 0, []))
theorem O_J9_min_7cf53 (l : Launch) : z_OK l RJ9 cJ9_min_7cf53 (headSpec (.code yJ9_min_7cf53 cJ9_min_7cf53 2 (some .int) :: zTT) rm_J9_min_7cf53).room M_J9_min_7cf53 := ⟨ok_J9_min_7cf53, fun _ h => absurd h List.not_mem_nil, fun _ h => absurd h List.not_mem_nil, fun _ h => absurd h List.not_mem_nil, fun _ h => absurd h List.not_mem_nil, fun _ h => absurd h List.not_mem_nil, fun _ h => absurd h List.not_mem_nil, rfl, rfl, fun _ h => absurd h List.not_mem_nil⟩
theorem c_J9_min_7cf53 (l : Launch) : z_CS l yJ9_min_7cf53 cJ9_min_7cf53 2 (some .int) rm_J9_min_7cf53 sp_J9_min_7cf53 := by
  refine z_methF (by decide +kernel) (Or.inr (Or.inl ⟨rfl, rfl⟩)) (fun h => by cases h) rfl (O_J9_min_7cf53 l) ?_
  intro av w K h
  match av, h with
  | [.int a, .int c], h =>
    obtain ⟨x, y, rfl, rfl, hx, hy, h⟩ := h
    refine ⟨Nat.le_of_ble_eq_true rfl, fun Jm hs => hs 400 0 _ _ _ _ _ ?_⟩
    conv => whnf
    repeat ((first | refine ⟨zG_of _, ?_⟩ | refine ⟨trivial, ?_⟩ | refine ⟨rfl, ?_⟩ | refine ⟨fun hc => absurd hc (by decide), fun _ => ?_⟩ | refine ⟨fun _ => ?_, fun hc => absurd (by decide) hc⟩ | refine ⟨fun _ => ?_, fun hc => absurd hc (by decide)⟩ | refine ⟨fun hc => absurd (by decide) hc, fun _ => ?_⟩); conv => whnf)
    try dsimp only
    refine ⟨fun hc => ?_, fun hc => ?_⟩
    · conv => whnf
      repeat ((first | refine ⟨zG_of _, ?_⟩ | refine ⟨trivial, ?_⟩ | refine ⟨rfl, ?_⟩ | refine ⟨fun hc => absurd hc (by decide), fun _ => ?_⟩ | refine ⟨fun _ => ?_, fun hc => absurd (by decide) hc⟩ | refine ⟨fun _ => ?_, fun hc => absurd hc (by decide)⟩ | refine ⟨fun hc => absurd (by decide) hc, fun _ => ?_⟩); conv => whnf)
      try dsimp only
      rw [Nat.min_eq_right (Nat.le_of_lt ((ltN hy hx).mp hc))] at h
      exact h
    · conv => whnf
      repeat ((first | refine ⟨zG_of _, ?_⟩ | refine ⟨trivial, ?_⟩ | refine ⟨rfl, ?_⟩ | refine ⟨fun hc => absurd hc (by decide), fun _ => ?_⟩ | refine ⟨fun _ => ?_, fun hc => absurd (by decide) hc⟩ | refine ⟨fun _ => ?_, fun hc => absurd hc (by decide)⟩ | refine ⟨fun hc => absurd (by decide) hc, fun _ => ?_⟩); conv => whnf)
      try dsimp only
      rw [Nat.min_eq_left (by rw [ltN hy hx] at hc; omega)] at h
      exact h
def sp_J8_newLength_cabcc : zSp := fun av w K => match av with
  | [.int a, .int m, .int p] => ∃ x y z : Nat, a = nI x ∧ m = nI y ∧ p = nI z ∧ x ≤ 1000 ∧ y ≤ 1000 ∧ z ≤ 1000 ∧ 0 < x + max y z ∧ K (some (.int (nI (x + max y z)))) w
  | _ => False
def rm_J8_newLength_cabcc : Room := { frames := 1, cells := 0, slots := 0, locals := 21 }
def M_J8_newLength_cabcc : zM := (k_J8_newLength_cabcc, [], [(194, 0, 0, 2, 0, 0, sp_J9_max_7cf53)], ([(200, 2147483639)], [], []), [], [], 1, false, (false, 0, fun _ => 0), (0, 0, []))
theorem ca_J8_newLength_cabcc_0 (l : Launch) : z_cok l RJ8 (headSpec (.code yJ8_newLength_cabcc cJ8_newLength_cabcc 4 (some .int) :: zTT) rm_J8_newLength_cabcc).room (false, 0, fun _ => 0) (194, 0, 0, 2, 0, 0, sp_J9_max_7cf53) := z_ca0 (c_J9_max_7cf53 l) mb_J9_max_7cf53 wt_1079 wt_1080 (by decide)
theorem O_J8_newLength_cabcc (l : Launch) : z_OK l RJ8 cJ8_newLength_cabcc (headSpec (.code yJ8_newLength_cabcc cJ8_newLength_cabcc 4 (some .int) :: zTT) rm_J8_newLength_cabcc).room M_J8_newLength_cabcc := ⟨ok_J8_newLength_cabcc, fun _ h => absurd h List.not_mem_nil, List.forall_mem_cons.mpr ⟨ca_J8_newLength_cabcc_0 l, fun _ h => absurd h List.not_mem_nil⟩, List.forall_mem_cons.mpr ⟨wt_1082, fun _ h => absurd h List.not_mem_nil⟩, fun _ h => absurd h List.not_mem_nil, fun _ h => absurd h List.not_mem_nil, fun _ h => absurd h List.not_mem_nil, rfl, rfl, fun _ h => absurd h List.not_mem_nil⟩
theorem c_J8_newLength_cabcc (l : Launch) : z_CS l yJ8_newLength_cabcc cJ8_newLength_cabcc 4 (some .int) rm_J8_newLength_cabcc sp_J8_newLength_cabcc := by
  refine z_methF (by decide +kernel) (Or.inr (Or.inl ⟨rfl, rfl⟩)) (fun h => by cases h) rfl (O_J8_newLength_cabcc l) ?_
  intro av w K h
  match av, h with
  | [.int a, .int m, .int p], h =>
    obtain ⟨x, y, z, rfl, rfl, rfl, hx, hy, hz, h0, h⟩ := h
    have hm : x + max y z ≤ 2000 := by omega
    refine ⟨Nat.le_of_ble_eq_true rfl, fun Jm hs => hs 400 0 _ _ _ _ _ ?_⟩
    conv => whnf
    repeat ((first | refine ⟨zG_of _, ?_⟩ | refine ⟨trivial, ?_⟩ | refine ⟨rfl, ?_⟩ | refine ⟨fun hc => absurd hc (by decide), fun _ => ?_⟩ | refine ⟨fun _ => ?_, fun hc => absurd (by decide) hc⟩ | refine ⟨fun _ => ?_, fun hc => absurd hc (by decide)⟩ | refine ⟨fun hc => absurd (by decide) hc, fun _ => ?_⟩); conv => whnf)
    try dsimp only
    refine ⟨y, z, rfl, rfl, by omega, by omega, ?_⟩
    conv => whnf
    repeat ((first | refine ⟨zG_of _, ?_⟩ | refine ⟨trivial, ?_⟩ | refine ⟨rfl, ?_⟩ | refine ⟨fun hc => absurd hc (by decide), fun _ => ?_⟩ | refine ⟨fun _ => ?_, fun hc => absurd (by decide) hc⟩ | refine ⟨fun _ => ?_, fun hc => absurd hc (by decide)⟩ | refine ⟨fun hc => absurd (by decide) hc, fun _ => ?_⟩); conv => whnf)
    try dsimp only
    rw [nI_add]
    refine ⟨fun hc => absurd (nI_lt h0 (by omega)) hc, fun _ => ?_⟩
    conv => whnf
    repeat ((first | refine ⟨zG_of _, ?_⟩ | refine ⟨trivial, ?_⟩ | refine ⟨rfl, ?_⟩ | refine ⟨fun hc => absurd hc (by decide), fun _ => ?_⟩ | refine ⟨fun _ => ?_, fun hc => absurd (by decide) hc⟩ | refine ⟨fun _ => ?_, fun hc => absurd hc (by decide)⟩ | refine ⟨fun hc => absurd (by decide) hc, fun _ => ?_⟩); conv => whnf)
    try dsimp only
    refine ⟨fun hc => absurd hc (nI_nlt (Nat.le_trans hm (by decide)) (by decide)), fun _ => ?_⟩
    conv => whnf
    repeat ((first | refine ⟨zG_of _, ?_⟩ | refine ⟨trivial, ?_⟩ | refine ⟨rfl, ?_⟩ | refine ⟨fun hc => absurd hc (by decide), fun _ => ?_⟩ | refine ⟨fun _ => ?_, fun hc => absurd (by decide) hc⟩ | refine ⟨fun _ => ?_, fun hc => absurd hc (by decide)⟩ | refine ⟨fun hc => absurd (by decide) hc, fun _ => ?_⟩); conv => whnf)
    try dsimp only
    exact h
def rm_J1_canEncode_fc78d : Room := { frames := 0, cells := 0, slots := 0, locals := 0 }
def M_J1_canEncode_fc78d : zM := (k_J1_canEncode_fc78d, [], [], ([], [], []), [], [], 2, false, (false, 0, fun _ => 0), (0, 0, []))
theorem O_J1_canEncode_fc78d (l : Launch) : z_OK l RJ1 cJ1_canEncode_fc78d (headSpec (.code yJ1_canEncode_fc78d cJ1_canEncode_fc78d 1 (some .boolean) :: zTT) rm_J1_canEncode_fc78d).room M_J1_canEncode_fc78d := ⟨ok_J1_canEncode_fc78d, fun _ h => absurd h List.not_mem_nil, fun _ h => absurd h List.not_mem_nil, fun _ h => absurd h List.not_mem_nil, fun _ h => absurd h List.not_mem_nil, fun _ h => absurd h List.not_mem_nil, fun _ h => absurd h List.not_mem_nil, rfl, rfl, fun _ h => absurd h List.not_mem_nil⟩
def sp_J1_canEncode_fc78d : zSp := z_au M_J1_canEncode_fc78d 1
theorem c_J1_canEncode_fc78d (l : Launch) : z_CS l yJ1_canEncode_fc78d cJ1_canEncode_fc78d 1 (some .boolean) rm_J1_canEncode_fc78d sp_J1_canEncode_fc78d := by
  refine z_methF (by decide +kernel) (Or.inr (Or.inr (Or.inl ⟨rfl, rfl⟩))) (fun h => by cases h) rfl (O_J1_canEncode_fc78d l) ?_
  intro av w K h
  exact z_au_ok rfl h
def rm_J5_isLatin1_aae02 : Room := { frames := 0, cells := 0, slots := 0, locals := 0 }
def M_J5_isLatin1_aae02 : zM := (k_J5_isLatin1_aae02, f_J5, [], ([], [], []), [], [], 2, false, (false, 0, fun _ => 0), (0, 0, [(18, .int (nI 1))]))
theorem O_J5_isLatin1_aae02 (l : Launch) : z_OK l RJ5 cJ5_isLatin1_aae02 (headSpec (.code yJ5_isLatin1_aae02 cJ5_isLatin1_aae02 1 (some .boolean) :: zTT) rm_J5_isLatin1_aae02).room M_J5_isLatin1_aae02 := ⟨ok_J5_isLatin1_aae02, fo_J5, fun _ h => absurd h List.not_mem_nil, fun _ h => absurd h List.not_mem_nil, fun _ h => absurd h List.not_mem_nil, fun _ h => absurd h List.not_mem_nil, fun _ h => absurd h List.not_mem_nil, rfl, rfl, List.forall_mem_cons.mpr ⟨⟨by decide, (zTT_in (by decide +kernel) rfl)⟩, fun _ h => absurd h List.not_mem_nil⟩⟩
def sp_J5_isLatin1_aae02 : zSp := z_au M_J5_isLatin1_aae02 1
theorem c_J5_isLatin1_aae02 (l : Launch) : z_CS l yJ5_isLatin1_aae02 cJ5_isLatin1_aae02 1 (some .boolean) rm_J5_isLatin1_aae02 sp_J5_isLatin1_aae02 := by
  refine z_methF (by decide +kernel) (Or.inr (Or.inr (Or.inl ⟨rfl, rfl⟩))) (fun h => by cases h) rfl (O_J5_isLatin1_aae02 l) ?_
  intro av w K h
  exact z_au_ok rfl h
def rm_J5_length_8abf5 : Room := { frames := 0, cells := 0, slots := 0, locals := 0 }
def M_J5_length_8abf5 : zM := (k_J5_length_8abf5, f_J5, [], ([], [], []), [], [], 1, false, (false, 0, fun _ => 0), (0, 0, []))
theorem O_J5_length_8abf5 (l : Launch) : z_OK l RJ5 cJ5_length_8abf5 (headSpec (.code yJ5_length_8abf5 cJ5_length_8abf5 1 (some .int) :: zTT) rm_J5_length_8abf5).room M_J5_length_8abf5 := ⟨ok_J5_length_8abf5, fo_J5, fun _ h => absurd h List.not_mem_nil, fun _ h => absurd h List.not_mem_nil, fun _ h => absurd h List.not_mem_nil, fun _ h => absurd h List.not_mem_nil, fun _ h => absurd h List.not_mem_nil, rfl, rfl, fun _ h => absurd h List.not_mem_nil⟩
def sp_J5_length_8abf5 : zSp := z_au M_J5_length_8abf5 1
theorem c_J5_length_8abf5 (l : Launch) : z_CS l yJ5_length_8abf5 cJ5_length_8abf5 1 (some .int) rm_J5_length_8abf5 sp_J5_length_8abf5 := by
  refine z_methF (by decide +kernel) (Or.inr (Or.inl ⟨rfl, rfl⟩)) (fun h => by cases h) rfl (O_J5_length_8abf5 l) ?_
  intro av w K h
  exact z_au_ok rfl h
def rm_J4_length_8abf5 : Room := { frames := 1, cells := 0, slots := 0, locals := 20 }
def M_J4_length_8abf5 : zM := (k_J4_length_8abf5, f_J4, [(343, 11, 11, 1, 0, 0, sp_J5_length_8abf5)], ([], [], []), [], [], 1, false, (false, 0, fun _ => 0), (0, 0, []))
theorem ca_J4_length_8abf5_0 (l : Launch) : z_cok l RJ4 (headSpec (.code yJ4_length_8abf5 cJ4_length_8abf5 1 (some .int) :: zTT) rm_J4_length_8abf5).room (false, 0, fun _ => 0) (343, 11, 11, 1, 0, 0, sp_J5_length_8abf5) := z_ca11 (c_J5_length_8abf5 l) mb_J5_length_8abf5 ⟨_, rfl⟩ (by decide) wt_1058 (zTT_in (by decide +kernel) rfl) (zTT_in (by decide +kernel) rfl) wt_1059 (by decide)
theorem O_J4_length_8abf5 (l : Launch) : z_OK l RJ4 cJ4_length_8abf5 (headSpec (.code yJ4_length_8abf5 cJ4_length_8abf5 1 (some .int) :: zTT) rm_J4_length_8abf5).room M_J4_length_8abf5 := ⟨ok_J4_length_8abf5, fo_J4, List.forall_mem_cons.mpr ⟨ca_J4_length_8abf5_0 l, fun _ h => absurd h List.not_mem_nil⟩, fun _ h => absurd h List.not_mem_nil, fun _ h => absurd h List.not_mem_nil, fun _ h => absurd h List.not_mem_nil, fun _ h => absurd h List.not_mem_nil, rfl, rfl, fun _ h => absurd h List.not_mem_nil⟩
def sp_J4_length_8abf5 : zSp := z_au M_J4_length_8abf5 1
theorem c_J4_length_8abf5 (l : Launch) : z_CS l yJ4_length_8abf5 cJ4_length_8abf5 1 (some .int) rm_J4_length_8abf5 sp_J4_length_8abf5 := by
  refine z_methF (by decide +kernel) (Or.inr (Or.inl ⟨rfl, rfl⟩)) (fun h => by cases h) rfl (O_J4_length_8abf5 l) ?_
  intro av w K h
  exact z_au_ok rfl h
def rm_J5_getValue_6d5f1 : Room := { frames := 0, cells := 0, slots := 0, locals := 0 }
def M_J5_getValue_6d5f1 : zM := (k_J5_getValue_6d5f1, f_J5, [], ([], [], []), [], [], 4, false, (false, 0, fun _ => 0), (0, 0, []))
theorem O_J5_getValue_6d5f1 (l : Launch) : z_OK l RJ5 cJ5_getValue_6d5f1 (headSpec (.code yJ5_getValue_6d5f1 cJ5_getValue_6d5f1 1 (some (.array .byte)) :: zTT) rm_J5_getValue_6d5f1).room M_J5_getValue_6d5f1 := ⟨ok_J5_getValue_6d5f1, fo_J5, fun _ h => absurd h List.not_mem_nil, fun _ h => absurd h List.not_mem_nil, fun _ h => absurd h List.not_mem_nil, fun _ h => absurd h List.not_mem_nil, fun _ h => absurd h List.not_mem_nil, rfl, rfl, fun _ h => absurd h List.not_mem_nil⟩
def sp_J5_getValue_6d5f1 : zSp := z_au M_J5_getValue_6d5f1 1
theorem c_J5_getValue_6d5f1 (l : Launch) : z_CS l yJ5_getValue_6d5f1 cJ5_getValue_6d5f1 1 (some (.array .byte)) rm_J5_getValue_6d5f1 sp_J5_getValue_6d5f1 := by
  refine z_methF (by decide +kernel) (Or.inr (Or.inr (Or.inr (Or.inr (Or.inl ⟨rfl, _, rfl, Or.inr ⟨_, rfl⟩⟩))))) (fun h => by cases h) rfl (O_J5_getValue_6d5f1 l) ?_
  intro av w K h
  exact z_au_ok rfl h
def rm_J0_coder_7d493 : Room := { frames := 0, cells := 0, slots := 0, locals := 0 }
def M_J0_coder_7d493 : zM := (k_J0_coder_7d493, f_J0, [], ([], [], []), [], [], 5, false, (false, 0, fun _ => 0), (0, 0, [(38, .int (nI 1))]))
theorem O_J0_coder_7d493 (l : Launch) : z_OK l RJ0 cJ0_coder_7d493 (headSpec (.code yJ0_coder_7d493 cJ0_coder_7d493 1 (some .byte) :: zTT) rm_J0_coder_7d493).room M_J0_coder_7d493 := ⟨ok_J0_coder_7d493, fo_J0, fun _ h => absurd h List.not_mem_nil, fun _ h => absurd h List.not_mem_nil, fun _ h => absurd h List.not_mem_nil, fun _ h => absurd h List.not_mem_nil, fun _ h => absurd h List.not_mem_nil, rfl, rfl, List.forall_mem_cons.mpr ⟨⟨by decide, (zTT_in (by decide +kernel) rfl)⟩, fun _ h => absurd h List.not_mem_nil⟩⟩
def sp_J0_coder_7d493 : zSp := z_au M_J0_coder_7d493 1
theorem c_J0_coder_7d493 (l : Launch) : z_CS l yJ0_coder_7d493 cJ0_coder_7d493 1 (some .byte) rm_J0_coder_7d493 sp_J0_coder_7d493 := by
  refine z_methF (by decide +kernel) (Or.inr (Or.inr (Or.inr (Or.inr (Or.inr (Or.inl ⟨rfl, rfl⟩)))))) (fun h => by cases h) rfl (O_J0_coder_7d493 l) ?_
  intro av w K h
  exact z_au_ok rfl h
def rm_J0_isLatin1_aae02 : Room := { frames := 0, cells := 0, slots := 0, locals := 0 }
def M_J0_isLatin1_aae02 : zM := (k_J0_isLatin1_aae02, f_J0, [], ([], [], []), [], [], 2, false, (false, 0, fun _ => 0), (0, 0, [(38, .int (nI 1))]))
theorem O_J0_isLatin1_aae02 (l : Launch) : z_OK l RJ0 cJ0_isLatin1_aae02 (headSpec (.code yJ0_isLatin1_aae02 cJ0_isLatin1_aae02 1 (some .boolean) :: zTT) rm_J0_isLatin1_aae02).room M_J0_isLatin1_aae02 := ⟨ok_J0_isLatin1_aae02, fo_J0, fun _ h => absurd h List.not_mem_nil, fun _ h => absurd h List.not_mem_nil, fun _ h => absurd h List.not_mem_nil, fun _ h => absurd h List.not_mem_nil, fun _ h => absurd h List.not_mem_nil, rfl, rfl, List.forall_mem_cons.mpr ⟨⟨by decide, (zTT_in (by decide +kernel) rfl)⟩, fun _ h => absurd h List.not_mem_nil⟩⟩
def sp_J0_isLatin1_aae02 : zSp := z_au M_J0_isLatin1_aae02 1
theorem c_J0_isLatin1_aae02 (l : Launch) : z_CS l yJ0_isLatin1_aae02 cJ0_isLatin1_aae02 1 (some .boolean) rm_J0_isLatin1_aae02 sp_J0_isLatin1_aae02 := by
  refine z_methF (by decide +kernel) (Or.inr (Or.inr (Or.inl ⟨rfl, rfl⟩))) (fun h => by cases h) rfl (O_J0_isLatin1_aae02 l) ?_
  intro av w K h
  exact z_au_ok rfl h

