/-! the world of the class, and of the reference -/
def GC : List zSh := [.inl (9, [some (some 1), some (some 4), some (some 6), some (some 9), some (some 12), some (some 15), some (some 18), some (some 19), some (some 31), some (some 38), none]),
  .inl (7, [some (some 2), none, none, none]), .inl (2, [some (some 3)]), .inr (0, 400),
  .inl (8, [some (some 5), none]), .inr (1, 9),
  .inl (5, [some (some 7), none, none, none, none, none]), .inl (2, [some (some 8)]), .inr (0, 120),
  .inl (5, [some (some 10), none, none, none, none, none]), .inl (2, [some (some 11)]), .inr (0, 120),
  .inl (5, [some (some 13), none, none, none, none, none]), .inl (2, [some (some 14)]), .inr (0, 120),
  .inl (1, [some (some 16)]), .inl (2, [some (some 17)]), .inr (0, 18),
  .inl (3, [none, none]),
  .inl (6, [some (some 20), some (some 27), some (some 29)]),
  .inl (0, [some (some 21), some (some 23), some (some 25), none, none, none, none]), .inl (2, [some (some 22)]), .inr (0, 9), .inl (2, [some (some 24)]), .inr (0, 9), .inl (2, [some (some 26)]), .inr (0, 9),
  .inl (2, [some (some 28)]), .inr (0, 9), .inl (2, [some (some 30)]), .inr (0, 3),
  .inl (0, [some (some 32), some (some 34), some (some 36), none, none, none, none]), .inl (2, [some (some 33)]), .inr (0, 9), .inl (2, [some (some 35)]), .inr (0, 9), .inl (2, [some (some 37)]), .inr (0, 9),
  .inl (4, [some (some 39), some (some 40), some (some 42), some (some 43), none, none]), .inr (1, 8748), .inl (2, [some (some 41)]), .inr (0, 729), .inr (1, 12), .inl (2, [some (some 44)]), .inr (0, 3)]
def GM : List zSh := [.inl (10, [some (some 46), none, none, some (some 47), none, some (some 48), some (some 49), some (some 50), none, some (some 51), none, none, none, none, none, some (some 52), none, none, none, some (some 53), none, none, some (some 54), some (some 55), none, some (some 56), some (some 57), some (some 58), some (some 59), none, some (some 60), some (some 61), none]),
  .inr (0, 3), .inr (0, 1080), .inr (0, 3), .inr (0, 1080), .inr (2, 400), .inr (1, 16), .inr (0, 1080), .inr (0, 18), .inr (0, 180), .inr (0, 9), .inr (0, 3), .inr (0, 1080), .inr (3, 40), .inr (0, 81), .inr (1, 13122), .inr (0, 729)]
/-- a world in which the class's cells stand -/
def zG (G : List zSh) : Prop := ∃ r, G = GC ++ r
theorem zG_of (r : List zSh) : zG (GC ++ r) := ⟨r, rfl⟩
/-- a world in which the reference's cells stand, too -/
def zH (G : List zSh) : Prop := ∃ r, G = GC ++ (GM ++ r)
theorem zH_of (r : List zSh) : zH (GC ++ (GM ++ r)) := ⟨r, rfl⟩

/-! loops that count up; truth as a number -/
theorem up_ind {P : Nat → Prop} (N : Nat) (h : ∀ i, i ≤ N → (i < N → P (i + 1)) → P i) : ∀ i, i ≤ N → P i := by
  intro i hi
  have H : ∀ m i, i + m = N → P i := by
    intro m
    induction m with
    | zero => intro i e; exact h i (by omega) (fun q => by omega)
    | succ m ih => intro i e; exact h i (by omega) (fun _ => ih (i + 1) (by omega))
  exact H (N - i) i (by omega)
def bI (p : Prop) [Decidable p] : Int32 := if p then nI 1 else nI 0
theorem bI_t {p : Prop} [Decidable p] (h : p) : bI p = nI 1 := if_pos h
theorem bI_f {p : Prop} [Decidable p] (h : ¬ p) : bI p = nI 0 := if_neg h
theorem bI_0 {p : Prop} [Decidable p] : bI p = nI 0 ↔ ¬ p := by
  unfold bI
  by_cases h : p
  · rw [if_pos h]; exact ⟨fun q => absurd q (by decide), fun q => absurd h q⟩
  · rw [if_neg h]; exact ⟨fun _ => h, fun _ => rfl⟩
theorem bI_or {p : Prop} [Decidable p] : bI p = nI 0 ∨ bI p = nI 1 := by
  unfold bI
  split
  · exact Or.inr rfl
  · exact Or.inl rfl
theorem ltN {i n : Nat} (hi : i < 2 ^ 31) (hn : n < 2 ^ 31) : nI i < nI n ↔ i < n := nI_ltI hi hn
/-! a method that has no loop: its walk is its contract -/
def z_au (M : zM) (nL : Nat) : zSp := fun av w K => match Nat.ble (z_szs av) nL with
  | true => z_wp M K (fun _ _ _ _ _ _ => False) 1000 (z_from M.1 0) (z_arl av nL) [] w 0 0
  | false => False
theorem z_wp_nocut {M : zM} (hM : M.2.2.2.2.2.1 = []) (post : Option Value → zW → Prop) (Jm Jm' : zJ) : ∀ n, z_wp M post Jm n = z_wp M post Jm' n
  | 0 => by
    funext l al st w c1 c2
    rfl
  | n + 1 => by
    have ih := z_wp_nocut hM post Jm Jm' n
    have hn : z_nxt M Jm = z_nxt M Jm' := by
      funext go l pc' al' st' w' c1' c2'
      unfold z_nxt
      rw [hM]
      rfl
    funext l al st w c1 c2
    cases l with
    | nil => rfl
    | cons e l =>
      show z_step M post _ e al st w c1 c2 = z_step M post _ e al st w c1 c2
      rw [ih, hn]
theorem z_au_ok {M : zM} {nL : Nat} {K : Option Value → zW → Prop} {av : List Value} {w : zW} (hM : M.2.2.2.2.2.1 = []) (h : z_au M nL av w K) : z_PO M nL K av w := by
  unfold z_au at h
  split at h
  · rename_i e
    refine ⟨Nat.le_of_ble_eq_true e, fun Jm hs => hs 1000 0 _ _ _ _ _ ?_⟩
    rw [z_wp_nocut hM K Jm (fun _ _ _ _ _ _ => False)]
    exact h
  · exact h.elim
/-! a field, an element of an object that is not told by its number -/
theorem z_fld_of {M : zM} {i ci j tc : Nat} {b : Bool} {w : zW} {o : Nat} {fs : List (Option (Option Nat))} {f : Option (Option Nat)} {k : Nat → Nat → List (Option (Option Nat)) → Nat → Option (Option Nat) → Prop} (h0 : z_look M.2.1 i = some (ci, j, tc, b)) (h1 : z_nth w.1 o = some (.inl (ci, fs))) (h2 : z_nth fs j = some f) (h : k tc ci fs j f) : z_fld M i w o k := by
  unfold z_fld
  rw [h0]
  dsimp only
  rw [h1]
  dsimp only
  rw [Nat.beq_refl]
  dsimp only
  rw [h2]
  exact h
theorem z_arr_of {w : zW} {o t n : Nat} {k : Nat → Nat → Prop} (h1 : z_nth w.1 o = some (.inr (t, n))) (h : k t n) : z_arr w o k := by
  unfold z_arr
  rw [h1]
  exact h
/-! Ints -/
def gI (G : List zSh) (o : Nat) (k : Nat → Nat → Prop) : Prop := match z_nth G o with
  | some (.inl (c, [some (some a)])) => (match Nat.beq c 2 with
    | true => (match z_nth G a with
      | some (.inr (t, n)) => (match Nat.beq t 0 with
        | true => k a n
        | false => False)
      | _ => False)
    | false => False)
  | _ => False
theorem gI_ok {G : List zSh} {o : Nat} {k : Nat → Nat → Prop} (h : gI G o k) : ∃ a n, z_nth G o = some (.inl (2, [some (some a)])) ∧ z_nth G a = some (.inr (0, n)) ∧ k a n := by
  unfold gI at h
  split at h
  · rename_i c a e
    split at h
    · rename_i hc
      split at h
      · rename_i t n e2
        split at h
        · rename_i ht
          have := Nat.eq_of_beq_eq_true hc
          have := Nat.eq_of_beq_eq_true ht
          subst_vars
          exact ⟨a, n, e, e2, h⟩
        · exact h.elim
      · exact h.elim
    · exact h.elim
  · exact h.elim
def atF (f : Nat → Int32) (n : Nat) (i : Int32) : Int32 := if ¬ i < nI 0 ∧ i < nI n then f i.toNatClampNeg else nI 0
theorem atF_in {f : Nat → Int32} {n k : Nat} (h : k < n) (hn : n < 2 ^ 31) : atF f n (nI k) = f k := by
  unfold atF
  rw [if_pos ⟨nI_nlt (Nat.zero_le _) (by omega), nI_lt h hn⟩, nI_clamp (by omega)]
theorem vp_in_N {i : Int32} {n : Nat} (h0 : ¬ i < nI 0) (h1 : i < nI n) (hn : n < 2 ^ 31) : vp_in i n := by
  rw [vp_in_iff]
  rw [Int32.lt_iff_toInt_lt, nI_toInt (by decide)] at h0
  rw [Int32.lt_iff_toInt_lt, nI_toInt hn] at h1
  omega
def sp_X3_at : zSp := fun av w K => match av with
  | [.ref o, .int i] => gI w.1 o (fun a n => match Nat.ble n 100000 with
    | true => K (some (.int (atF (w.2.1 a) n i))) w
    | false => False)
  | _ => False
def rm_X3_at : Room := { frames := 0, cells := 0, slots := 0, locals := 0 }
def M_X3_at : zM := (k_X3_at, f_X3, [], ([], [], []), [], [], 1, false, (false, 0, fun _ => 0), (0, 0, []))
theorem O_X3_at (l : Launch) : z_OK l RX3 cX3_at (headSpec (.code yX3_at cX3_at 2 (some .int) :: zTT) rm_X3_at).room M_X3_at := ⟨ok_X3_at, fo_X3, fun _ h => absurd h List.not_mem_nil, fun _ h => absurd h List.not_mem_nil, fun _ h => absurd h List.not_mem_nil, fun _ h => absurd h List.not_mem_nil, fun _ h => absurd h List.not_mem_nil, rfl, rfl, fun _ h => absurd h List.not_mem_nil⟩
theorem c_X3_at (l : Launch) : z_CS l yX3_at cX3_at 2 (some .int) rm_X3_at sp_X3_at := by
  refine z_meth (by decide) (Or.inr (Or.inl ⟨rfl, rfl⟩)) (fun h => by cases h) rfl (O_X3_at l) ?_
  intro av w K h
  match av, h with
  | [.ref o, .int i], h =>
    obtain ⟨a, n, h1, h2, h⟩ := gI_ok h
    split at h
    case h_2 => exact h.elim
    rename_i hn
    have hn := Nat.le_of_ble_eq_true hn
    obtain ⟨G, wi, wl⟩ := w
    refine ⟨Nat.le_of_ble_eq_true rfl, fun Jm hs => hs 400 0 _ _ _ _ _ ?_⟩
    conv => whnf
    unfold atF at h
    refine ⟨fun hc => ?_, fun hc => ?_⟩
    · rw [if_neg (fun q => q.1 hc)] at h
      exact ⟨trivial, h⟩
    · conv => whnf
      rw [h1]
      conv => whnf
      rw [h2]
      conv => whnf
      refine ⟨fun hc2 => ?_, fun hc2 => ?_⟩
      · rw [if_neg (fun q => hc2 q.2)] at h
        exact ⟨trivial, h⟩
      · rw [if_pos ⟨hc, hc2⟩] at h
        conv => whnf
        rw [h1]
        conv => whnf
        rw [h2]
        conv => whnf
        exact ⟨vp_in_N hc hc2 (by omega), trivial, h⟩
def putF (wi : Nat → Nat → Int32) (a n : Nat) (i v : Int32) : Nat → Nat → Int32 := if ¬ i < nI 0 ∧ i < nI n then z_up wi a i.toNatClampNeg v else wi
theorem putF_in {wi : Nat → Nat → Int32} {a n k : Nat} {v : Int32} (h : k < n) (hn : n < 2 ^ 31) : putF wi a n (nI k) v = z_up wi a k v := by
  unfold putF
  rw [if_pos ⟨nI_nlt (Nat.zero_le _) (by omega), nI_lt h hn⟩, nI_clamp (by omega)]
def sp_X3_put : zSp := fun av w K => match av with
  | [.ref o, .int i, .int v] => gI w.1 o (fun a n => match Nat.ble n 100000 with
    | true => K none (w.1, putF w.2.1 a n i v, w.2.2)
    | false => False)
  | _ => False
def rm_X3_put : Room := { frames := 0, cells := 0, slots := 0, locals := 0 }
def M_X3_put : zM := (k_X3_put, f_X3, [], ([], [], []), [], [], 0, false, (false, 0, fun _ => 0), (0, 0, []))
theorem O_X3_put (l : Launch) : z_OK l RX3 cX3_put (headSpec (.code yX3_put cX3_put 3 none :: zTT) rm_X3_put).room M_X3_put := ⟨ok_X3_put, fo_X3, fun _ h => absurd h List.not_mem_nil, fun _ h => absurd h List.not_mem_nil, fun _ h => absurd h List.not_mem_nil, fun _ h => absurd h List.not_mem_nil, fun _ h => absurd h List.not_mem_nil, rfl, rfl, fun _ h => absurd h List.not_mem_nil⟩
theorem c_X3_put (l : Launch) : z_CS l yX3_put cX3_put 3 none rm_X3_put sp_X3_put := by
  refine z_meth (by decide) (Or.inl ⟨rfl, rfl⟩) (fun h => by cases h) rfl (O_X3_put l) ?_
  intro av w K h
  match av, h with
  | [.ref o, .int i, .int v], h =>
    obtain ⟨a, n, h1, h2, h⟩ := gI_ok h
    split at h
    case h_2 => exact h.elim
    rename_i hn
    have hn := Nat.le_of_ble_eq_true hn
    obtain ⟨G, wi, wl⟩ := w
    refine ⟨Nat.le_of_ble_eq_true rfl, fun Jm hs => hs 400 0 _ _ _ _ _ ?_⟩
    conv => whnf
    unfold putF at h
    refine ⟨fun hc => ?_, fun hc => ?_⟩
    · rw [if_neg (fun q => q.1 hc)] at h
      exact h
    · conv => whnf
      rw [h1]
      conv => whnf
      rw [h2]
      conv => whnf
      refine ⟨fun hc2 => ?_, fun hc2 => ?_⟩
      · rw [if_neg (fun q => hc2 q.2)] at h
        exact h
      · rw [if_pos ⟨hc, hc2⟩] at h
        conv => whnf
        rw [h1]
        conv => whnf
        rw [h2]
        conv => whnf
        exact ⟨vp_in_N hc hc2 (by omega), h⟩
/-- a row of numbers that is 0 up to somewhere -/
def clrF (wi : Nat → Nat → Int32) (a n : Nat) : Nat → Nat → Int32 := fun o i => if o = a ∧ i < n then nI 0 else wi o i
theorem clrF_0 (wi : Nat → Nat → Int32) (a : Nat) : clrF wi a 0 = wi := by
  funext o i
  simp [clrF]
theorem clrF_up (wi : Nat → Nat → Int32) (a n : Nat) : z_up (clrF wi a n) a n (nI 0) = clrF wi a (n + 1) := by
  funext o i
  unfold z_up clrF
  by_cases h : o = a
  · by_cases h2 : i = n
    · simp [h, h2]
    · by_cases h3 : i < n
      · simp [h, h2, h3, show i < n + 1 by omega]
      · simp [h, h2, h3, show ¬ i < n + 1 by omega]
  · simp [h]
def sp_X3_clear : zSp := fun av w K => match av with
  | [.ref o] => gI w.1 o (fun a n => match Nat.ble n 100000 with
    | true => K none (w.1, clrF w.2.1 a n, w.2.2)
    | false => False)
  | _ => False
def rm_X3_clear : Room := { frames := 0, cells := 0, slots := 0, locals := 0 }
def M_X3_clear : zM := (k_X3_clear, f_X3, [], ([], [], []), [], [(2, [true, true])], 0, false, (false, 0, fun _ => 0), (0, 0, []))
theorem O_X3_clear (l : Launch) : z_OK l RX3 cX3_clear (headSpec (.code yX3_clear cX3_clear 2 none :: zTT) rm_X3_clear).room M_X3_clear := ⟨ok_X3_clear, fo_X3, fun _ h => absurd h List.not_mem_nil, fun _ h => absurd h List.not_mem_nil, fun _ h => absurd h List.not_mem_nil, fun _ h => absurd h List.not_mem_nil, fun _ h => absurd h List.not_mem_nil, rfl, rfl, fun _ h => absurd h List.not_mem_nil⟩
theorem c_X3_clear (l : Launch) : z_CS l yX3_clear cX3_clear 2 none rm_X3_clear sp_X3_clear := by
  refine z_meth (by decide) (Or.inl ⟨rfl, rfl⟩) (fun h => by cases h) rfl (O_X3_clear l) ?_
  intro av w K h
  match av, h with
  | [.ref o], h =>
    obtain ⟨a, n, h1, h2, h⟩ := gI_ok h
    split at h
    case h_2 => exact h.elim
    rename_i hn
    have hn := Nat.le_of_ble_eq_true hn
    obtain ⟨G, wi, wl⟩ := w
    refine ⟨Nat.le_of_ble_eq_true rfl, fun Jm hs => ?_⟩
    have loop := up_ind (P := fun i => Jm 2 [some (.ref o), some (.int (nI i))] [] (G, clrF wi a i, wl) 0 0) n (fun i hi ih => by
      refine hs 400 2 _ _ _ _ _ ?_
      conv => whnf
      rw [h1]
      conv => whnf
      rw [h2]
      conv => whnf
      rw [ltN (by omega) (by omega)]
      refine ⟨fun hc => ?_, fun hc => ?_⟩
      · have e : i = n := by omega
        subst e
        exact h
      · conv => whnf
        rw [h1]
        conv => whnf
        rw [h2]
        conv => whnf
        refine ⟨vp_in_nI hc (by omega), ?_⟩
        have ih := ih hc
        rw [← clrF_up, ← nI_1] at ih
        rw [nI_clamp (by omega)]
        exact ih)
    refine hs 400 0 _ _ _ _ _ ?_
    have l0 := loop 0 (Nat.zero_le _)
    rw [clrF_0] at l0
    exact l0

