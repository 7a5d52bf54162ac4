
/-! ===== the walker: a method walked by computation over abstract worlds ===== -/
/-- shapes of the cells: an object (its class's number in vwCl, for each field none: a number, some r: a reference), or an array (0 int, 1 long, 2 byte, 3 boolean; its length) -/
abbrev zSh : Type := (Nat × List (Option (Option Nat))) ⊕ (Nat × Nat)
/-- a world: shapes, the numbers of 32 bits by cell and slot, those of 64 bits -/
abbrev zW : Type := List zSh × (Nat → Nat → Int32) × (Nat → Nat → Int64)
abbrev zX : Type := va_G × ClassId × ClassId × ClassId × ClassId
abbrev zAL : Type := List (Option Value)
abbrev zI : Type := Nat × Nat × Nat × Instr
abbrev zSp : Type := List Value → zW → (Option Value → zW → Prop) → Prop
abbrev zCall : Type := Nat × Nat × Nat × Nat × Nat × Nat × zSp
abbrev zJ : Type := Nat → zAL → List Value → zW → Nat → Nat → Prop
abbrev zM : Type := List zI × List (Nat × Nat × Nat × Nat × Bool) × List zCall × (List (Nat × Int32) × List (Nat × Int64) × List (Nat × Nat × List (Option (Option Nat)))) × List (Nat × Int × Nat × List Nat) × List (Nat × List Bool) × Nat × Bool × (Bool × Nat × (Nat → Int32)) × (Nat × Nat × List (Nat × Value))
def z_tys (x : zX) : List (ClassId × FieldType) := [(x.2.1, .int), (x.2.2.1, .long), (x.2.2.2.1, .byte)]
def z_up {α : Type} (f : Nat → Nat → α) (o i : Nat) (v : α) : Nat → Nat → α := fun o' i' => if o' = o ∧ i' = i then v else f o' i'
def z_row {α : Type} (f : Nat → Nat → α) (o : Nat) (g : Nat → α) : Nat → Nat → α := fun o' i' => if o' = o then g i' else f o' i'
def z_fv (ad : Nat → Nat) (wi : Nat → Int32) (k : Nat) (f : Option (Option Nat)) : Value := match f with
  | none => .int (wi k)
  | some none => .null
  | some (some r) => .ref (ad r)
def z_ce (x : zX) (ad : Nat → Nat) (wi : Nat → Int32) (wl : Nat → Int64) (sh : zSh) : va_E := match sh with
  | .inl (ci, fs) => .inr (ci, fs.mapIdx (fun k f => z_fv ad wi k f))
  | .inr (0, n) => .inl (x.2.1, n, .inl wi)
  | .inr (1, n) => .inl (x.2.2.1, n, .inr (.inl wl))
  | .inr (2, n) => .inl (x.2.2.2.1, n, .inl wi)
  | .inr (_, n) => .inl (x.2.2.2.1, n, .inl wi)
def z_ws (x : zX) (ad : Nat → Nat) (w : zW) : va_W := w.1.mapIdx (fun o sh => (ad o, z_ce x ad (w.2.1 o) (w.2.2 o) sh))
theorem z_ws_at {x : zX} {ad : Nat → Nat} {w : zW} {o : Nat} {sh : zSh} (h : w.1[o]? = some sh) : (z_ws x ad w)[o]? = some (ad o, z_ce x ad (w.2.1 o) (w.2.2 o) sh) := by
  simp [z_ws, List.getElem?_mapIdx, h]
theorem z_ws_set {x : zX} {ad : Nat → Nat} {G G' : List zSh} {wi wi' : Nat → Nat → Int32} {wl wl' : Nat → Nat → Int64} {o : Nat} {sh' : zSh} {E : va_E} (h : o < G.length) (hG : G' = G.set o sh') (hi : ∀ o', o' ≠ o → wi' o' = wi o') (hl : ∀ o', o' ≠ o → wl' o' = wl o') (he : z_ce x ad (wi' o) (wl' o) sh' = E) : (z_ws x ad (G, wi, wl)).set o (ad o, E) = z_ws x ad (G', wi', wl') := by
  subst hG
  apply List.ext_getElem?
  intro k
  by_cases hk : k = o
  · subst hk
    rw [List.getElem?_set_self (by simpa [z_ws] using h), ← he, z_ws_at (sh := sh') (by show (G.set k sh')[k]? = _; rw [List.getElem?_set_self h])]
  · rw [List.getElem?_set_ne (fun q => hk q.symm)]
    simp only [z_ws, List.getElem?_mapIdx, List.getElem?_set_ne (fun q : o = k => hk q.symm), hi k hk, hl k hk]
theorem z_set_same {G : List zSh} {o : Nat} {sh : zSh} (h : G[o]? = some sh) : G = G.set o sh := by
  apply List.ext_getElem?
  intro k
  by_cases hk : k = o
  · subst hk
    rw [List.getElem?_set_self (List.getElem?_eq_some_iff.mp h).1, h]
  · rw [List.getElem?_set_ne (fun q => hk q.symm)]
/-- a number of 32 bits is written: into a field of numbers, or an array of ints -/
theorem z_ws_upi {x : zX} {ad : Nat → Nat} {G : List zSh} {wi : Nat → Nat → Int32} {wl : Nat → Nat → Int64} {o i : Nat} {v : Int32} {sh : zSh} {E : va_E} (h : G[o]? = some sh) (he : z_ce x ad (upd (wi o) i v) (wl o) sh = E) : (z_ws x ad (G, wi, wl)).set o (ad o, E) = z_ws x ad (G, z_up wi o i v, wl) := by
  refine z_ws_set (List.getElem?_eq_some_iff.mp h).1 (z_set_same h) (fun o' ho => ?_) (fun o' _ => rfl) ?_
  · funext j; simp [z_up, ho]
  · rw [← he]
    congr 1
    funext j; simp [z_up, upd]
theorem z_ws_upl {x : zX} {ad : Nat → Nat} {G : List zSh} {wi : Nat → Nat → Int32} {wl : Nat → Nat → Int64} {o i : Nat} {v : Int64} {sh : zSh} {E : va_E} (h : G[o]? = some sh) (he : z_ce x ad (wi o) (vp_updL (wl o) i v) sh = E) : (z_ws x ad (G, wi, wl)).set o (ad o, E) = z_ws x ad (G, wi, z_up wl o i v) := by
  refine z_ws_set (List.getElem?_eq_some_iff.mp h).1 (z_set_same h) (fun o' _ => rfl) (fun o' ho => ?_) ?_
  · funext j; simp [z_up, ho]
  · rw [← he]
    congr 1
    funext j; simp [z_up, vp_updL]
theorem z_fv_upd {ad : Nat → Nat} {wi : Nat → Int32} {fs : List (Option (Option Nat))} {k : Nat} {v : Int32} (h : fs[k]? = some none) : fs.mapIdx (fun j f => z_fv ad (upd wi k v) j f) = (fs.mapIdx (fun j f => z_fv ad wi j f)).set k (.int v) := by
  apply List.ext_getElem?
  intro j
  by_cases hj : j = k
  · subst hj
    rw [List.getElem?_set_self (by simpa using (List.getElem?_eq_some_iff.mp h).1)]
    simp [List.getElem?_mapIdx, h, z_fv, upd]
  · rw [List.getElem?_set_ne (fun q => hj q.symm)]
    simp only [List.getElem?_mapIdx]
    cases fs[j]? with
    | none => rfl
    | some f => cases f with
      | none => simp [z_fv, upd, hj]
      | some r => cases r <;> rfl
theorem z_fv_ref {ad : Nat → Nat} {wi : Nat → Int32} {fs : List (Option (Option Nat))} {k r : Nat} (h : k < fs.length) : (fs.set k (some (some r))).mapIdx (fun j f => z_fv ad wi j f) = (fs.mapIdx (fun j f => z_fv ad wi j f)).set k (.ref (ad r)) := by
  apply List.ext_getElem?
  intro j
  by_cases hj : j = k
  · subst hj
    rw [List.getElem?_set_self (by simpa using h), List.getElem?_mapIdx, List.getElem?_set_self h]
    rfl
  · rw [List.getElem?_set_ne (fun q => hj q.symm)]
    simp only [List.getElem?_mapIdx, List.getElem?_set_ne (fun q : k = j => hj q.symm)]
/-! values and locals -/
def z_cv (b : Nat → Nat) (ad : Nat → Nat) (v : Value) : Value := match v with
  | .ref k => .ref (ad k)
  | .float _ => .ref (b 0)
  | .retAddr k => .ref (b k)
  | v => v
theorem z_cv_cat (b : Nat → Nat) (ad : Nat → Nat) (v : Value) : (z_cv b ad v).category = v.category := by cases v <;> rfl
def z_nth {α : Type} : List α → Nat → Option α
  | [], _ => none
  | a :: _, 0 => some a
  | _ :: l, n + 1 => z_nth l n
theorem z_nth_eq {α : Type} : ∀ (l : List α) (i : Nat), z_nth l i = l[i]?
  | [], _ => by simp [z_nth]
  | _ :: _, 0 => by simp [z_nth]
  | _ :: l, n + 1 => by simpa [z_nth] using z_nth_eq l n
def z_look {α : Type} : List (Nat × α) → Nat → Option α
  | [], _ => none
  | (k, a) :: l, i => match Nat.beq k i with
    | true => some a
    | false => z_look l i
theorem z_look_mem {α : Type} : ∀ {l : List (Nat × α)} {i : Nat} {a : α}, z_look l i = some a → (i, a) ∈ l
  | [], _, _, h => by cases h
  | (k, a') :: l, i, a, h => by
    unfold z_look at h
    split at h
    · rename_i e
      have := Nat.eq_of_beq_eq_true e
      subst this
      cases h
      exact List.mem_cons_self
    · exact List.mem_cons_of_mem _ (z_look_mem h)
def z_set : zAL → Nat → Option Value → zAL
  | [], _, _ => []
  | _ :: l, 0, v => v :: l
  | a :: l, n + 1, v => a :: z_set l n v
theorem z_set_eq : ∀ (l : zAL) (i : Nat) (v : Option Value), z_set l i v = l.set i v
  | [], _, _ => by simp [z_set]
  | _ :: _, 0, _ => by simp [z_set]
  | a :: l, n + 1, v => by simpa [z_set] using z_set_eq l n v
def z_setk : zAL → Nat → Option Value → (zAL → Prop) → Prop
  | [], _, _, k => k []
  | _ :: l, 0, v, k => k (v :: l)
  | a :: l, n + 1, v, k => z_setk l n v (fun l' => k (a :: l'))
theorem z_setk_eq : ∀ (l : zAL) (i : Nat) (v : Option Value) (k : zAL → Prop), z_setk l i v k = k (z_set l i v)
  | [], _, _, _ => rfl
  | _ :: _, 0, _, _ => rfl
  | a :: l, n + 1, v, k => by rw [z_setk, z_setk_eq l n v]; rfl
def z_c2 (o : Option (Option Value)) : Bool := match o with
  | some (some (.long _)) => true
  | some (some (.double _)) => true
  | _ => false
def z_kill (al : zAL) (i : Nat) : zAL := match i with
  | 0 => al
  | j + 1 => match z_c2 (z_nth al j) with
    | true => z_set al j none
    | false => al
def z_killk (al : zAL) (i : Nat) (k : zAL → Prop) : Prop := match i with
  | 0 => k al
  | j + 1 => match z_c2 (z_nth al j) with
    | true => z_setk al j none k
    | false => k al
theorem z_killk_eq (al : zAL) (i : Nat) (k : zAL → Prop) : z_killk al i k = k (z_kill al i) := by
  cases i with
  | zero => rfl
  | succ j =>
    unfold z_killk z_kill
    dsimp only
    generalize z_c2 (z_nth al j) = q
    cases q with
    | true => exact z_setk_eq al j none k
    | false => rfl
/-- a value of one slot, of two slots, is stored -/
def z_st1 (al : zAL) (i : Nat) (v : Value) (k : zAL → Prop) : Prop := match z_nth al i with
  | some _ => z_killk al i (fun al1 => z_setk al1 i (some v) k)
  | none => False
def z_st2 (al : zAL) (i : Nat) (v : Value) (k : zAL → Prop) : Prop := match z_nth al (i + 1) with
  | some _ => z_killk al i (fun al1 => z_setk al1 i (some v) (fun al2 => z_setk al2 (i + 1) none k))
  | none => False
def z_LH (b : Nat → Nat) (ad : Nat → Nat) (ls : Array Slot) (nL : Nat) (al : zAL) : Prop := ls.size = nL ∧ lv_wf ls ∧ al.length ≤ nL ∧ ∀ (i : Nat) (v : Value), al[i]? = some (some v) → ls[i]? = some (Slot.val (z_cv b ad v))
def z_ll (b : Nat → Nat) (ad : Nat → Nat) : Nat → zAL → List (Nat × Value)
  | _, [] => []
  | i, none :: l => z_ll b ad (i + 1) l
  | i, some v :: l => (i, z_cv b ad v) :: z_ll b ad (i + 1) l
theorem z_ll_mem {b : Nat → Nat} {ad : Nat → Nat} : ∀ (al : zAL) (i j : Nat) (u : Value), (j, u) ∈ z_ll b ad i al ↔ ∃ k v, j = i + k ∧ al[k]? = some (some v) ∧ u = z_cv b ad v
  | [], i, j, u => by simp [z_ll]
  | none :: l, i, j, u => by
    rw [z_ll, z_ll_mem l]
    constructor
    · rintro ⟨k, v, h1, h2, h3⟩
      exact ⟨k + 1, v, by omega, by simpa using h2, h3⟩
    · rintro ⟨k, v, h1, h2, h3⟩
      cases k with
      | zero => simp at h2
      | succ k => exact ⟨k, v, by omega, by simpa using h2, h3⟩
  | some v0 :: l, i, j, u => by
    rw [z_ll, List.mem_cons, z_ll_mem l]
    constructor
    · rintro (h | ⟨k, v, h1, h2, h3⟩)
      · cases h
        exact ⟨0, v0, by omega, by simp, rfl⟩
      · exact ⟨k + 1, v, by omega, by simpa using h2, h3⟩
    · rintro ⟨k, v, h1, h2, h3⟩
      cases k with
      | zero =>
        simp only [List.getElem?_cons_zero, Option.some.injEq] at h2
        subst h2
        exact Or.inl (by rw [h3]; simp [h1])
      | succ k => exact Or.inr ⟨k, v, by omega, by simpa using h2, h3⟩
theorem z_LH.has {b : Nat → Nat} {ad : Nat → Nat} {ls : Array Slot} {nL : Nat} {al : zAL} (h : z_LH b ad ls nL al) : lv_has ls nL (z_ll b ad 0 al) := by
  refine ⟨h.1, h.2.1, ?_⟩
  rintro ⟨j, u⟩ hq
  obtain ⟨k, v, rfl, h2, rfl⟩ := (z_ll_mem al 0 j u).mp hq
  simpa using h.2.2.2 k v h2
theorem z_LH.at {b : Nat → Nat} {ad : Nat → Nat} {ls : Array Slot} {nL : Nat} {al : zAL} (h : z_LH b ad ls nL al) {i : Nat} {v : Value} (hv : z_nth al i = some (some v)) : ls[i]? = some (.val (z_cv b ad v)) := h.2.2.2 i v (by rw [← z_nth_eq]; exact hv)
theorem z_kill_at {al : zAL} {i k : Nat} {u : Value} (h : (z_kill al i)[k]? = some (some u)) : al[k]? = some (some u) ∧ ¬ (k + 1 = i ∧ u.category = 2) := by
  unfold z_kill at h
  split at h
  · exact ⟨h, fun q => by omega⟩
  · rename_i j
    split at h
    · rw [z_set_eq] at h
      by_cases hk : k = j
      · subst hk
        rw [List.getElem?_set] at h
        simp at h
      · rw [List.getElem?_set_ne (fun q => hk q.symm)] at h
        exact ⟨h, fun q => hk (by omega)⟩
    · rename_i e
      refine ⟨h, fun q => ?_⟩
      have hj : k = j := by omega
      subst hj
      rw [z_nth_eq, h] at e
      cases u <;> simp [z_c2, Value.category] at e q
theorem z_kill_len (al : zAL) (i : Nat) : (z_kill al i).length = al.length := by
  unfold z_kill
  split
  · rfl
  · split <;> simp [z_set_eq]
theorem z_LH.st1 {b : Nat → Nat} {ad : Nat → Nat} {ls ls' : Array Slot} {nL : Nat} {al : zAL} (h : z_LH b ad ls nL al) {i : Nat} {v : Value} (h' : lv_has ls' nL ((i, z_cv b ad v) :: (z_ll b ad 0 al).filter (fun q => !(q.1 == i) && !(q.1 + 1 == i && q.2.category == 2)))) : z_LH b ad ls' nL (z_set (z_kill al i) i (some v)) := by
  refine ⟨h'.1, h'.2.1, by rw [z_set_eq, List.length_set, z_kill_len]; exact h.2.2.1, fun k u hu => ?_⟩
  rw [z_set_eq] at hu
  by_cases hk : k = i
  · subst hk
    have hlt : k < (z_kill al k).length := by
      have := (List.getElem?_eq_some_iff.mp hu).1
      simpa using this
    rw [List.getElem?_set_self hlt] at hu
    cases hu
    exact h'.2.2 (k, z_cv b ad v) List.mem_cons_self
  · rw [List.getElem?_set_ne (fun q => hk q.symm)] at hu
    obtain ⟨h1, h2⟩ := z_kill_at hu
    refine h'.2.2 (k, z_cv b ad u) (List.mem_cons_of_mem _ (List.mem_filter.mpr ⟨(z_ll_mem al 0 k _).mpr ⟨k, u, by omega, h1, rfl⟩, ?_⟩))
    simp only [z_cv_cat, Bool.and_eq_true, Bool.not_eq_true', beq_eq_false_iff_ne, ne_eq, Bool.and_eq_false_iff]
    exact ⟨hk, by by_cases e : k + 1 = i; exact Or.inr (fun q => h2 ⟨e, q⟩); exact Or.inl e⟩
theorem z_LH.st2 {b : Nat → Nat} {ad : Nat → Nat} {ls ls' : Array Slot} {nL : Nat} {al : zAL} (h : z_LH b ad ls nL al) {i : Nat} {v : Value} (h' : lv_has ls' nL ((i, z_cv b ad v) :: (z_ll b ad 0 al).filter (fun q => !(q.1 == i) && (!(q.1 == i + 1) && !(q.1 + 1 == i && q.2.category == 2))))) : z_LH b ad ls' nL (z_set (z_set (z_kill al i) i (some v)) (i + 1) none) := by
  refine ⟨h'.1, h'.2.1, by rw [z_set_eq, z_set_eq, List.length_set, List.length_set, z_kill_len]; exact h.2.2.1, fun k u hu => ?_⟩
  rw [z_set_eq, z_set_eq] at hu
  by_cases hk1 : k = i + 1
  · subst hk1
    rw [List.getElem?_set] at hu
    simp at hu
  rw [List.getElem?_set_ne (fun q => hk1 q.symm)] at hu
  by_cases hk : k = i
  · subst hk
    have hlt : k < (z_kill al k).length := by
      have := (List.getElem?_eq_some_iff.mp hu).1
      simpa using this
    rw [List.getElem?_set_self hlt] at hu
    cases hu
    exact h'.2.2 (k, z_cv b ad v) List.mem_cons_self
  · rw [List.getElem?_set_ne (fun q => hk q.symm)] at hu
    obtain ⟨h1, h2⟩ := z_kill_at hu
    refine h'.2.2 (k, z_cv b ad u) (List.mem_cons_of_mem _ (List.mem_filter.mpr ⟨(z_ll_mem al 0 k _).mpr ⟨k, u, by omega, h1, rfl⟩, ?_⟩))
    simp only [z_cv_cat, Bool.and_eq_true, Bool.not_eq_true', beq_eq_false_iff_ne, ne_eq, Bool.and_eq_false_iff]
    exact ⟨hk, hk1, by by_cases e : k + 1 = i; exact Or.inr (fun q => h2 ⟨e, q⟩); exact Or.inl e⟩
def z_msk : List Bool → zAL → (zAL → Prop) → Prop
  | true :: ms, a :: l, k => z_msk ms l (fun l' => k (a :: l'))
  | false :: ms, _ :: l, k => z_msk ms l (fun l' => k (none :: l'))
  | _, l, k => k l
theorem z_msk_ok : ∀ (ms : List Bool) (l : zAL) (k : zAL → Prop), z_msk ms l k → ∃ l' : zAL, k l' ∧ l'.length = l.length ∧ ∀ (i : Nat) (v : Value), l'[i]? = some (some v) → l[i]? = some (some v)
  | [], l, k, h => ⟨l, by cases l <;> exact h, rfl, fun _ _ q => q⟩
  | true :: ms, [], k, h => ⟨[], h, rfl, fun _ _ q => q⟩
  | false :: ms, [], k, h => ⟨[], h, rfl, fun _ _ q => q⟩
  | true :: ms, a :: l, k, h => by
    obtain ⟨l', h1, h2, h3⟩ := z_msk_ok ms l _ h
    refine ⟨a :: l', h1, by simp [h2], fun i v q => ?_⟩
    cases i with
    | zero => simpa using q
    | succ i => simpa using h3 i v (by simpa using q)
  | false :: ms, a :: l, k, h => by
    obtain ⟨l', h1, h2, h3⟩ := z_msk_ok ms l _ h
    refine ⟨none :: l', h1, by simp [h2], fun i v q => ?_⟩
    cases i with
    | zero => simp at q
    | succ i => simpa using h3 i v (by simpa using q)
theorem z_LH.weaken {b : Nat → Nat} {ad : Nat → Nat} {ls : Array Slot} {nL : Nat} {al al' : zAL} (h : z_LH b ad ls nL al) (hl : al'.length = al.length) (hs : ∀ (i : Nat) (v : Value), al'[i]? = some (some v) → al[i]? = some (some v)) : z_LH b ad ls nL al' := ⟨h.1, h.2.1, by rw [hl]; exact h.2.2.1, fun i v q => h.2.2.2 i v (hs i v q)⟩
/-! the step -/
def mI (n : Nat) : Int32 := -(nI n)
def z_rem (x y : Int32) : Int32 := x - x / y * y
def z_lrem (x y : Int64) : Int64 := x - x / y * y
def z_shl (x y : Int32) : Int32 := x <<< (y &&& 31)
def z_sar (x y : Int32) : Int32 := x >>> (y &&& 31)
def z_shr (x y : Int32) : Int32 := (x.toUInt32 >>> (y.toUInt32 &&& Int32.toUInt32 31)).toInt32
def z_lshl (x : Int64) (y : Int32) : Int64 := x <<< (y.toInt64 &&& 63)
def z_lsar (x : Int64) (y : Int32) : Int64 := x >>> (y.toInt64 &&& 63)
def z_lshr (x : Int64) (y : Int32) : Int64 := (x.toUInt64 >>> (y.toInt64.toUInt64 &&& Int64.toUInt64 63)).toInt64
def z_i1 (st : List Value) (k : Int32 → List Value → Prop) : Prop := match st with
  | .int a :: r => k a r
  | _ => False
def z_l1 (st : List Value) (k : Int64 → List Value → Prop) : Prop := match st with
  | .long a :: r => k a r
  | _ => False
def z_i2 (st : List Value) (k : Int32 → Int32 → List Value → Prop) : Prop := match st with
  | .int y :: .int a :: r => k a y r
  | _ => False
def z_l2 (st : List Value) (k : Int64 → Int64 → List Value → Prop) : Prop := match st with
  | .long y :: .long a :: r => k a y r
  | _ => False
def z_li (st : List Value) (k : Int64 → Int32 → List Value → Prop) : Prop := match st with
  | .int y :: .long a :: r => k a y r
  | _ => False
def z_ldi (al : zAL) (i : Nat) (k : Int32 → Prop) : Prop := match z_nth al i with
  | some (some (.int a)) => k a
  | _ => False
def z_ldl (al : zAL) (i : Nat) (k : Int64 → Prop) : Prop := match z_nth al i with
  | some (some (.long a)) => k a
  | _ => False
def z_lda (al : zAL) (i : Nat) (k : Value → Prop) : Prop := match z_nth al i with
  | some (some (.ref a)) => k (.ref a)
  | some (some (.float a)) => k (.float a)
  | some (some (.retAddr a)) => k (.retAddr a)
  | some (some .null) => k .null
  | _ => False
def z_sti (al : zAL) (i : Nat) (st : List Value) (k : zAL → List Value → Prop) : Prop := match st with
  | .int a :: r => z_st1 al i (.int a) (fun al' => k al' r)
  | _ => False
def z_stl (al : zAL) (i : Nat) (st : List Value) (k : zAL → List Value → Prop) : Prop := match st with
  | .long a :: r => z_st2 al i (.long a) (fun al' => k al' r)
  | _ => False
def z_sta (al : zAL) (i : Nat) (st : List Value) (k : zAL → List Value → Prop) : Prop := match st with
  | .ref a :: r => z_st1 al i (.ref a) (fun al' => k al' r)
  | _ => False
def z_one (v : Value) (k : Prop) : Prop := match v with
  | .int _ => k
  | .ref _ => k
  | .float _ => k
  | .null => k
  | .retAddr _ => k
  | _ => False
def z_pop : Nat → List Value → List Value → (List Value → List Value → Prop) → Prop
  | 0, st, acc, k => k acc st
  | n + 1, v :: st, acc, k => z_pop n st (v :: acc) k
  | _ + 1, [], _, _ => False
def z_cats (st : List Value) : Nat := match st with
  | [] => 0
  | v :: r => v.category + z_cats r
def z_rlt (n : Nat) (v : Value) : Bool := match v with
  | .ref k => Nat.blt k n
  | _ => true
def z_wfl (n : Nat) (al : zAL) : Bool := al.all (fun o => match o with
  | none => true
  | some v => z_rlt n v)
def z_wfs (n : Nat) (st : List Value) : Bool := st.all (z_rlt n)
def z_wfg (n : Nat) (G : List zSh) : Bool := G.all (fun s => match s with
  | .inl (_, fs) => fs.all (fun f => match f with
    | some (some r) => Nat.blt r n
    | _ => true)
  | _ => true)
def z_psh : List zSh → zSh → Nat → (List zSh → Nat → Prop) → Prop
  | [], s, n, k => k [s] n
  | a :: l, s, n, k => z_psh l s (n + 1) (fun l' m => k (a :: l') m)
def z_fld (M : zM) (i : Nat) (w : zW) (o : Nat) (k : Nat → Nat → List (Option (Option Nat)) → Nat → Option (Option Nat) → Prop) : Prop := match z_look M.2.1 i with
  | some (ci, j, tc, _) => match z_nth w.1 o with
    | some (.inl (ci', fs)) => match Nat.beq ci' ci with
      | true => match z_nth fs j with
        | some f => k tc ci fs j f
        | none => False
      | false => False
    | _ => False
  | none => False
/-! constant cells: 1, 3, 5 Strings, 2, 4, 6 their bytes, 7 the digits' table, 8 what is never looked at -/
def z_cl : Nat → List Int32
  | 2 => [42]
  | 4 => [49]
  | 6 => [44, 49]
  | _ => []
def dOnes (j : Nat) : Int32 := nI (48 + j % 10)
def z_cv1 : Nat → Nat
  | 1 => 2
  | 3 => 4
  | 5 => 6
  | _ => 0
def z_cs : Nat → Bool
  | 1 => true
  | 3 => true
  | 5 => true
  | _ => false
def z_cb : Nat → Bool
  | 2 => true
  | 4 => true
  | 6 => true
  | _ => false
/-- a field of a String that is a constant -/
def z_cf (M : zM) (i c : Nat) (k : Value → Prop) : Prop := match z_look M.2.1 i with
  | some (ci, j, _, nest) => match Nat.beq ci 10 && (!nest && z_cs c) with
    | true => match j with
      | 0 => k (.retAddr (z_cv1 c))
      | 1 => k (.int (nI 0))
      | _ => False
    | false => False
  | none => False
def z_arr (w : zW) (o : Nat) (k : Nat → Nat → Prop) : Prop := match z_nth w.1 o with
  | some (.inr (t, n)) => k t n
  | _ => False
def z_gset : List zSh → Nat → Nat → Nat → Nat → (List zSh → Prop) → Prop
  | .inl (ci, fs) :: l, 0, j, r, _, k => k (.inl (ci, fs.set j (some (some r))) :: l)
  | a :: l, n + 1, j, r, q, k => z_gset l n j r q (fun l' => k (a :: l'))
  | _, _, _, _, _, _ => False
def z_sw (pc : Nat) (a : Int32) (st : List Value) (J : Nat → Prop) : Int → List Nat → Prop
  | _, [] => True
  | lo, t :: ts => (a = Int32.ofInt lo → J t) ∧ z_sw pc a st J (lo + 1) ts
def z_ret (rc : Nat) (a : Int32) : Prop := match rc with
  | 1 => True
  | 2 => a = nI 0 ∨ a = nI 1
  | 5 => vp_nar .byte a = a
  | 6 => vp_nar .char a = a
  | _ => False
/-- how a call is told: 0 static, 1 a constructor, 2 static of a nest mate, 3 a constructor of a nest mate, 4 virtual, 5 virtual of a nest mate, 6 Object's constructor, 7 System.arraycopy, 8 the law's cell, 9 an array's clone, 10 virtual and inherited, 11 super's, 13 virtual and overridden -/
def z_kk (ik kd : Nat) : Bool := match ik, kd with
  | 0, 0 => true
  | 0, 2 => true
  | 1, 4 => true
  | 1, 5 => true
  | 2, 1 => true
  | 2, 3 => true
  | 2, 6 => true
  | 0, 7 => true
  | 0, 8 => true
  | 1, 9 => true
  | 1, 10 => true
  | 2, 11 => true
  | 1, 13 => true
  | _, _ => false
def z_hdo (ci : Nat) (av : List Value) (w : zW) : Bool := match av with
  | .ref o :: _ => match z_nth w.1 o with
    | some (.inl (c', _)) => Nat.beq c' ci
    | _ => false
  | .retAddr c :: _ => Nat.beq ci 10 && z_cs c
  | _ => false
def z_hdr (av : List Value) : Bool := match av with
  | .ref _ :: _ => true
  | _ => false
def z_rcv (kd ci : Nat) (av : List Value) (w : zW) : Bool := match kd with
  | 0 => true
  | 2 => true
  | 4 => z_hdo ci av w
  | 5 => z_hdo ci av w
  | 7 => true
  | 8 => true
  | 9 => true
  | 10 => z_hdo ci av w
  | 11 => z_hdo ci av w
  | 13 => z_hdo ci av w
  | _ => z_hdr av
def z_bk (J : zJ) (nx : Nat) (al : zAL) (r : List Value) (c1 c2 : Nat) (v : Option Value) (w' : zW) : Prop := match v with
  | none => J nx al r w' c1 c2
  | some v => J nx al (v :: r) w' c1 c2
def z_cgo (M : zM) (J : zJ) (nx : Nat) (al : zAL) (r : List Value) (w : zW) (c1 c2 mc ms : Nat) (sp : zSp) (av : List Value) : Prop := match mc with
  | 0 => match ms with
    | 0 => sp av w (fun v w' => z_bk J nx al r c1 c2 v w')
    | _ => False
  | mc' + 1 => (c1 + (mc' + 1) ≤ M.2.2.2.2.2.2.2.2.2.1 ∧ c2 + ms ≤ M.2.2.2.2.2.2.2.2.2.2.1) ∧ ((z_wfl w.1.length al && z_wfs w.1.length r) = true ∧ sp av w (fun v w' => z_bk J nx al r (c1 + (mc' + 1)) (c2 + ms) v w'))
/-- bytes are copied, out of an array or a constant -/
def z_cpyk (_ : zM) (J : zJ) (nx : Nat) (al : zAL) (r : List Value) (w : zW) (c1 c2 : Nat) (av : List Value) : Prop := match av with
  | [.ref o, .int sp, .ref o2, .int dp, .int n] => z_arr w o (fun t N => z_arr w o2 (fun t2 N2 => match t with
    | 2 => match t2 with
      | 2 => (¬ sp < 0 ∧ ¬ dp < 0 ∧ ¬ n < 0 ∧ sp.toNatClampNeg + n.toNatClampNeg ≤ N ∧ dp.toNatClampNeg + n.toNatClampNeg ≤ N2 ∧ ∀ i : Nat, i < n.toNatClampNeg → fits .byte (.int (w.2.1 o (sp.toNatClampNeg + i))) = true) ∧ J nx al r (w.1, z_row w.2.1 o2 (va_cpy (w.2.1 o) (w.2.1 o2) sp.toNatClampNeg dp.toNatClampNeg n.toNatClampNeg), w.2.2) c1 c2
      | _ => False
    | _ => False))
  | [.retAddr c, .int sp, .ref o2, .int dp, .int n] => match z_cb c with
    | true => z_arr w o2 (fun t2 N2 => match t2 with
      | 2 => (¬ sp < 0 ∧ ¬ dp < 0 ∧ ¬ n < 0 ∧ sp.toNatClampNeg + n.toNatClampNeg ≤ (z_cl c).length ∧ dp.toNatClampNeg + n.toNatClampNeg ≤ N2) ∧ J nx al r (w.1, z_row w.2.1 o2 (va_cpy (fun j => (z_cl c).getD j 0) (w.2.1 o2) sp.toNatClampNeg dp.toNatClampNeg n.toNatClampNeg), w.2.2) c1 c2
      | _ => False)
    | false => False
  | _ => False
def z_clnk (M : zM) (J : zJ) (nx : Nat) (al : zAL) (r : List Value) (w : zW) (c1 c2 : Nat) (av : List Value) : Prop := match av with
  | [.ref o] => z_arr w o (fun t N => match t with
    | 2 => (c1 + 1 ≤ M.2.2.2.2.2.2.2.2.2.1 ∧ c2 + N ≤ M.2.2.2.2.2.2.2.2.2.2.1) ∧ ((z_wfl w.1.length al && (z_wfs w.1.length r && z_wfg w.1.length w.1)) = true ∧ (∀ i : Nat, i < N → fits .byte (.int (w.2.1 o i)) = true) ∧ z_psh w.1 (.inr (2, N)) 0 (fun G' n => J nx al (.ref n :: r) (G', z_row w.2.1 n (w.2.1 o), w.2.2) (c1 + 1) (c2 + N)))
    | _ => False)
  | _ => False
def z_call (M : zM) (J : zJ) (ik i nx : Nat) (al : zAL) (st : List Value) (w : zW) (c1 c2 : Nat) : Prop := match z_look M.2.2.1 i with
  | some (kd, ci, na, mc, ms, sp) => z_pop na st [] (fun av r => match z_kk ik kd && (Nat.ble (z_cats r) 8 && z_rcv kd ci av w) with
    | true => match kd with
      | 6 => J nx al r w c1 c2
      | 7 => z_cpyk M J nx al r w c1 c2 av
      | 9 => z_clnk M J nx al r w c1 c2 av
      | _ => z_cgo M J nx al r w c1 c2 mc ms sp av
    | false => False)
  | none => False
def z_step (M : zM) (post : Option Value → zW → Prop) (J : zJ) (e : zI) (al : zAL) (st : List Value) (w : zW) (c1 c2 : Nat) : Prop := match e with
  | (pc, nx, tg, ins) => match ins with
    | .aload i => z_lda al i (fun v => J nx al (v :: st) w c1 c2)
    | .aload_n i => z_lda al i.val (fun v => J nx al (v :: st) w c1 c2)
    | .iload i => z_ldi al i (fun a => J nx al (.int a :: st) w c1 c2)
    | .iload_n i => z_ldi al i.val (fun a => J nx al (.int a :: st) w c1 c2)
    | .lload i => z_ldl al i (fun a => J nx al (.long a :: st) w c1 c2)
    | .lload_n i => z_ldl al i.val (fun a => J nx al (.long a :: st) w c1 c2)
    | .istore i => z_sti al i st (fun al' r => J nx al' r w c1 c2)
    | .istore_n i => z_sti al i.val st (fun al' r => J nx al' r w c1 c2)
    | .lstore i => z_stl al i st (fun al' r => J nx al' r w c1 c2)
    | .lstore_n i => z_stl al i.val st (fun al' r => J nx al' r w c1 c2)
    | .astore i => z_sta al i st (fun al' r => J nx al' r w c1 c2)
    | .astore_n i => z_sta al i.val st (fun al' r => J nx al' r w c1 c2)
    | .iinc i n => z_ldi al i (fun a => match n with
      | .ofNat _ => z_st1 al i (.int (a + nI tg)) (fun al' => J nx al' st w c1 c2)
      | .negSucc _ => z_st1 al i (.int (a - nI tg)) (fun al' => J nx al' st w c1 c2))
    | .iconst n => match n with
      | .ofNat _ => J nx al (.int (nI tg) :: st) w c1 c2
      | .negSucc _ => J nx al (.int (mI tg) :: st) w c1 c2
    | .bipush n => match n with
      | .ofNat _ => J nx al (.int (nI tg) :: st) w c1 c2
      | .negSucc _ => J nx al (.int (mI tg) :: st) w c1 c2
    | .sipush n => match n with
      | .ofNat _ => J nx al (.int (nI tg) :: st) w c1 c2
      | .negSucc _ => J nx al (.int (mI tg) :: st) w c1 c2
    | .lconst _ => J nx al (.long (lN tg) :: st) w c1 c2
    | .ldc_w i => match z_look M.2.2.2.1.1 i with
      | some a => J nx al (.int a :: st) w c1 c2
      | none => False
    | .ldc i => match z_look M.2.2.2.1.1 i with
      | some a => J nx al (.int a :: st) w c1 c2
      | none => match z_look M.2.2.2.2.2.2.2.2.2.2.2 i with
        | some (.retAddr c) => match z_cs c with
          | true => J nx al (.retAddr c :: st) w c1 c2
          | false => False
        | _ => False
    | .getstatic i => match z_look M.2.2.2.2.2.2.2.2.2.2.2 i with
      | some (.int a) => J nx al (.int a :: st) w c1 c2
      | some (.retAddr 7) => J nx al (.retAddr 7 :: st) w c1 c2
      | some (.long _) => J nx al (.null :: st) w c1 c2 ∧ J nx al (.retAddr 8 :: st) w c1 c2
      | _ => False
    | .aconst_null => J nx al (.null :: st) w c1 c2
    | .ifnonnull _ => match st with
      | .ref _ :: r => J tg al r w c1 c2
      | .retAddr _ :: r => J tg al r w c1 c2
      | _ => False
    | .checkcast i => match st with
      | .ref o :: r => match z_look M.2.2.2.2.2.2.2.2.2.2.2 i with
        | some .null => z_arr w o (fun t _ => match t with
          | 2 => J nx al (.ref o :: r) w c1 c2
          | _ => False)
        | _ => False
      | _ => False
    | .areturn => match st with
      | [.ref q] => match M.2.2.2.2.2.2.1 with
        | 4 => post (some (.ref q)) w
        | _ => False
      | _ => False
    | .ldc2_w i => match z_look M.2.2.2.1.2.1 i with
      | some a => J nx al (.long a :: st) w c1 c2
      | none => False
    | .iadd => z_i2 st (fun a y r => J nx al (.int (a + y) :: r) w c1 c2)
    | .isub => z_i2 st (fun a y r => J nx al (.int (a - y) :: r) w c1 c2)
    | .imul => z_i2 st (fun a y r => J nx al (.int (a * y) :: r) w c1 c2)
    | .iand => z_i2 st (fun a y r => J nx al (.int (a &&& y) :: r) w c1 c2)
    | .ior => z_i2 st (fun a y r => J nx al (.int (a ||| y) :: r) w c1 c2)
    | .ixor => z_i2 st (fun a y r => J nx al (.int (a ^^^ y) :: r) w c1 c2)
    | .ishl => z_i2 st (fun a y r => J nx al (.int (z_shl a y) :: r) w c1 c2)
    | .ishr => z_i2 st (fun a y r => J nx al (.int (z_sar a y) :: r) w c1 c2)
    | .iushr => z_i2 st (fun a y r => J nx al (.int (z_shr a y) :: r) w c1 c2)
    | .idiv => z_i2 st (fun a y r => ¬ y = 0 ∧ J nx al (.int (a / y) :: r) w c1 c2)
    | .irem => z_i2 st (fun a y r => ¬ y = 0 ∧ J nx al (.int (z_rem a y) :: r) w c1 c2)
    | .ineg => z_i1 st (fun a r => J nx al (.int (-a) :: r) w c1 c2)
    | .i2l => z_i1 st (fun a r => J nx al (.long a.toInt64 :: r) w c1 c2)
    | .i2b => z_i1 st (fun a r => J nx al (.int a.toInt8.toInt32 :: r) w c1 c2)
    | .i2c => z_i1 st (fun a r => J nx al (.int (a.toUInt32 % 65536).toInt32 :: r) w c1 c2)
    | .l2i => z_l1 st (fun a r => J nx al (.int a.toInt32 :: r) w c1 c2)
    | .ladd => z_l2 st (fun a y r => J nx al (.long (a + y) :: r) w c1 c2)
    | .lsub => z_l2 st (fun a y r => J nx al (.long (a - y) :: r) w c1 c2)
    | .lmul => z_l2 st (fun a y r => J nx al (.long (a * y) :: r) w c1 c2)
    | .land => z_l2 st (fun a y r => J nx al (.long (a &&& y) :: r) w c1 c2)
    | .lor => z_l2 st (fun a y r => J nx al (.long (a ||| y) :: r) w c1 c2)
    | .lxor => z_l2 st (fun a y r => J nx al (.long (a ^^^ y) :: r) w c1 c2)
    | .lrem => z_l2 st (fun a y r => ¬ y = 0 ∧ J nx al (.long (z_lrem a y) :: r) w c1 c2)
    | .lcmp => z_l2 st (fun a y r => J nx al (.int (lg_cmp a y) :: r) w c1 c2)
    | .lshl => z_li st (fun a y r => J nx al (.long (z_lshl a y) :: r) w c1 c2)
    | .lshr => z_li st (fun a y r => J nx al (.long (z_lsar a y) :: r) w c1 c2)
    | .lushr => z_li st (fun a y r => J nx al (.long (z_lshr a y) :: r) w c1 c2)
    | .dup => match st with
      | v :: r => z_one v (J nx al (v :: v :: r) w c1 c2)
      | _ => False
    | .pop => match st with
      | v :: r => z_one v (J nx al r w c1 c2)
      | _ => False
    | .dup_x1 => match st with
      | v :: u :: r => z_one v (z_one u (J nx al (v :: u :: v :: r) w c1 c2))
      | _ => False
    | .dup2 => match st with
      | v :: u :: r => z_one v (z_one u (J nx al (v :: u :: v :: u :: r) w c1 c2))
      | _ => False
    | .goto _ => J tg al st w c1 c2
    | .ifCond .eq _ => z_i1 st (fun a r => (a = nI 0 → J tg al r w c1 c2) ∧ (¬ a = nI 0 → J nx al r w c1 c2))
    | .ifCond .ne _ => z_i1 st (fun a r => (¬ a = nI 0 → J tg al r w c1 c2) ∧ (a = nI 0 → J nx al r w c1 c2))
    | .ifCond .lt _ => z_i1 st (fun a r => (a < nI 0 → J tg al r w c1 c2) ∧ (¬ a < nI 0 → J nx al r w c1 c2))
    | .ifCond .ge _ => z_i1 st (fun a r => (¬ a < nI 0 → J tg al r w c1 c2) ∧ (a < nI 0 → J nx al r w c1 c2))
    | .ifCond .gt _ => z_i1 st (fun a r => (nI 0 < a → J tg al r w c1 c2) ∧ (¬ nI 0 < a → J nx al r w c1 c2))
    | .ifCond .le _ => z_i1 st (fun a r => (¬ nI 0 < a → J tg al r w c1 c2) ∧ (nI 0 < a → J nx al r w c1 c2))
    | .if_icmp .eq _ => z_i2 st (fun a y r => (a = y → J tg al r w c1 c2) ∧ (¬ a = y → J nx al r w c1 c2))
    | .if_icmp .ne _ => z_i2 st (fun a y r => (¬ a = y → J tg al r w c1 c2) ∧ (a = y → J nx al r w c1 c2))
    | .if_icmp .lt _ => z_i2 st (fun a y r => (a < y → J tg al r w c1 c2) ∧ (¬ a < y → J nx al r w c1 c2))
    | .if_icmp .ge _ => z_i2 st (fun a y r => (¬ a < y → J tg al r w c1 c2) ∧ (a < y → J nx al r w c1 c2))
    | .if_icmp .gt _ => z_i2 st (fun a y r => (y < a → J tg al r w c1 c2) ∧ (¬ y < a → J nx al r w c1 c2))
    | .if_icmp .le _ => z_i2 st (fun a y r => (¬ y < a → J tg al r w c1 c2) ∧ (y < a → J nx al r w c1 c2))
    | .getfield i => match st with
      | .ref o :: r => z_fld M i w o (fun _ _ _ j f => match f with
        | none => J nx al (.int (w.2.1 o j) :: r) w c1 c2
        | some (some q) => J nx al (.ref q :: r) w c1 c2
        | some none => False)
      | .retAddr c :: r => z_cf M i c (fun v => J nx al (v :: r) w c1 c2)
      | _ => False
    | .putfield i => match st with
      | .int a :: .ref o :: r => z_fld M i w o (fun tc _ _ j f => match f with
        | none => match tc with
          | 0 => J nx al r (w.1, z_up w.2.1 o j a, w.2.2) c1 c2
          | 1 => (a = nI 0 ∨ a = nI 1) ∧ J nx al r (w.1, z_up w.2.1 o j a, w.2.2) c1 c2
          | 4 => (vp_nar .byte a = a ∧ fits .byte (.int a) = true) ∧ J nx al r (w.1, z_up w.2.1 o j a, w.2.2) c1 c2
          | 5 => match M.2.2.2.2.2.2.2.1 with
            | true => (vp_nar .byte a = a ∧ fits .byte (.int a) = true) ∧ J nx al r (w.1, z_up w.2.1 o j a, w.2.2) c1 c2
            | false => False
          | _ => False
        | _ => False)
      | .ref q :: .ref o :: r => z_fld M i w o (fun tc _ _ j f => match tc with
        | 2 => match M.2.2.2.2.2.2.2.1 with
          | true => match f with
            | some _ => z_gset w.1 o j q 0 (fun G' => J nx al r (G', w.2.1, w.2.2) c1 c2)
            | none => False
          | false => False
        | 6 => match f with
          | some _ => z_gset w.1 o j q 0 (fun G' => J nx al r (G', w.2.1, w.2.2) c1 c2)
          | none => False
        | _ => False)
      | _ => False
    | .iaload => match st with
      | .int i :: .ref o :: r => z_arr w o (fun t n => match t with
        | 0 => vp_in i n ∧ J nx al (.int (w.2.1 o i.toNatClampNeg) :: r) w c1 c2
        | _ => False)
      | .int i :: .float _ :: r => match M.2.2.2.2.2.2.2.2.1.1 with
        | true => vp_in i M.2.2.2.2.2.2.2.2.1.2.1 ∧ J nx al (.int (M.2.2.2.2.2.2.2.2.1.2.2 i.toNatClampNeg) :: r) w c1 c2
        | false => False
      | _ => False
    | .baload => match st with
      | .int i :: .ref o :: r => z_arr w o (fun t n => match t with
        | 2 => vp_in i n ∧ J nx al (.int (w.2.1 o i.toNatClampNeg) :: r) w c1 c2
        | _ => False)
      | .int i :: .retAddr 7 :: r => vp_in i 100 ∧ J nx al (.int (dOnes i.toNatClampNeg) :: r) w c1 c2
      | _ => False
    | .laload => match st with
      | .int i :: .ref o :: r => z_arr w o (fun t n => match t with
        | 1 => vp_in i n ∧ J nx al (.long (w.2.2 o i.toNatClampNeg) :: r) w c1 c2
        | _ => False)
      | _ => False
    | .iastore => match st with
      | .int a :: .int i :: .ref o :: r => z_arr w o (fun t n => match t with
        | 0 => vp_in i n ∧ J nx al r (w.1, z_up w.2.1 o i.toNatClampNeg a, w.2.2) c1 c2
        | _ => False)
      | _ => False
    | .bastore => match st with
      | .int a :: .int i :: .ref o :: r => z_arr w o (fun t n => match t with
        | 2 => vp_in i n ∧ J nx al r (w.1, z_up w.2.1 o i.toNatClampNeg (vp_nar .byte a), w.2.2) c1 c2
        | _ => False)
      | _ => False
    | .lastore => match st with
      | .long a :: .int i :: .ref o :: r => z_arr w o (fun t n => match t with
        | 1 => vp_in i n ∧ J nx al r (w.1, w.2.1, z_up w.2.2 o i.toNatClampNeg a) c1 c2
        | _ => False)
      | _ => False
    | .arraylength => match st with
      | .ref o :: r => z_arr w o (fun _ n => J nx al (.int (nI n) :: r) w c1 c2)
      | .float _ :: r => match M.2.2.2.2.2.2.2.2.1.1 with
        | true => J nx al (.int (nI M.2.2.2.2.2.2.2.2.1.2.1) :: r) w c1 c2
        | false => False
      | .retAddr c :: r => match z_cb c with
        | true => J nx al (.int (nI (z_cl c).length) :: r) w c1 c2
        | false => False
      | _ => False
    | .new i => match z_look M.2.2.2.1.2.2 i with
      | some (ci, fs) => (c1 + 1 ≤ M.2.2.2.2.2.2.2.2.2.1 ∧ c2 + fs.length ≤ M.2.2.2.2.2.2.2.2.2.2.1) ∧ ((z_wfl w.1.length al && (z_wfs w.1.length st && z_wfg w.1.length w.1)) = true ∧ z_psh w.1 (.inl (ci, fs)) 0 (fun G' n => J nx al (.ref n :: st) (G', z_row w.2.1 n (fun _ => 0), w.2.2) (c1 + 1) (c2 + fs.length)))
      | none => False
    | .newarray t => z_i1 st (fun a r => ∃ N : Nat, a = nI N ∧ N ≤ 100000 ∧ (c1 + 1 ≤ M.2.2.2.2.2.2.2.2.2.1 ∧ c2 + N ≤ M.2.2.2.2.2.2.2.2.2.2.1) ∧ ((z_wfl w.1.length al && (z_wfs w.1.length r && z_wfg w.1.length w.1)) = true ∧ match t with
        | .int => z_psh w.1 (.inr (0, N)) 0 (fun G' n => J nx al (.ref n :: r) (G', z_row w.2.1 n (fun _ => 0), w.2.2) (c1 + 1) (c2 + N))
        | .long => z_psh w.1 (.inr (1, N)) 0 (fun G' n => J nx al (.ref n :: r) (G', w.2.1, z_row w.2.2 n (fun _ => 0)) (c1 + 1) (c2 + N))
        | .byte => z_psh w.1 (.inr (2, N)) 0 (fun G' n => J nx al (.ref n :: r) (G', z_row w.2.1 n (fun _ => 0), w.2.2) (c1 + 1) (c2 + N))
        | _ => False))
    | .invokestatic i => z_call M J 0 i nx al st w c1 c2
    | .invokevirtual i => z_call M J 1 i nx al st w c1 c2
    | .invokespecial i => z_call M J 2 i nx al st w c1 c2
    | .tableswitch _ _ _ _ => match z_look M.2.2.2.2.1 pc with
      | some (lo, d, ts) => z_i1 st (fun a r => z_sw pc a r (fun t => J t al r w c1 c2) lo ts ∧ ((a.toInt < lo ∨ lo + ts.length ≤ a.toInt) → J d al r w c1 c2))
      | none => False
    | .ireturn => match st with
      | [.int a] => z_ret M.2.2.2.2.2.2.1 a ∧ post (some (.int a)) w
      | _ => False
    | .lreturn => match st with
      | [.long a] => match M.2.2.2.2.2.2.1 with
        | 3 => post (some (.long a)) w
        | _ => False
      | _ => False
    | .return_ => match st with
      | [] => match M.2.2.2.2.2.2.1 with
        | 0 => post none w
        | _ => False
      | _ => False
    | _ => False
def z_from : List zI → Nat → List zI
  | [], _ => []
  | e :: l, pc => match Nat.beq e.1 pc with
    | true => e :: l
    | false => z_from l pc
def z_nxt (M : zM) (Jm : zJ) (go : List zI → zAL → List Value → zW → Nat → Nat → Prop) (l : List zI) (pc' : Nat) (al' : zAL) (st' : List Value) (w' : zW) (c1' c2' : Nat) : Prop := match z_look M.2.2.2.2.2.1 pc' with
  | some ms => z_msk ms al' (fun al2 => Jm pc' al2 st' w' c1' c2')
  | none => match l with
    | e' :: _ => match Nat.beq e'.1 pc' with
      | true => go l al' st' w' c1' c2'
      | false => go (z_from M.1 pc') al' st' w' c1' c2'
    | [] => go (z_from M.1 pc') al' st' w' c1' c2'
def z_wp (M : zM) (post : Option Value → zW → Prop) (Jm : zJ) : Nat → List zI → zAL → List Value → zW → Nat → Nat → Prop
  | 0, _, _, _, _, _, _ => False
  | _ + 1, [], _, _, _, _, _ => False
  | n + 1, e :: l, al, st, w, c1, c2 => z_step M post (fun pc' al' st' w' c1' c2' => z_nxt M Jm (z_wp M post Jm n) l pc' al' st' w' c1' c2') e al st w c1 c2
