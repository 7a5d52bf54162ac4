/-! texts as lists of letters; terms -/
def lfN (l : List Nat) : Nat → Nat := fun k => l.getD k 0
theorem lfN_at {l : List Nat} {k : Nat} (h : k < l.length) : l[k]? = some (lfN l k) := by
  unfold lfN
  rw [List.getD_eq_getElem?_getD, List.getElem?_eq_getElem h]
  rfl
theorem lfN_l {l r : List Nat} {k : Nat} (h : k < l.length) : lfN (l ++ r) k = lfN l k := by
  unfold lfN
  rw [List.getD_eq_getElem?_getD, List.getD_eq_getElem?_getD, List.getElem?_append_left h]
theorem lfN_r {l r : List Nat} {k : Nat} (h : ¬ k < l.length) : lfN (l ++ r) k = lfN r (k - l.length) := by
  unfold lfN
  rw [List.getD_eq_getElem?_getD, List.getD_eq_getElem?_getD, List.getElem?_append_right (by omega)]
theorem SB.cong {P : Nat → Prop} {w : zW} {o m n n2 : Nat} {f g : Nat → Nat} (h : SB P w o m n f) (hn : n = n2) (hg : ∀ k, k < n → f k = g k) : SB P w o m n2 g := by
  subst hn
  obtain ⟨v, N, h0, h1, h2, h3, h4, h5, h6, h7, h8, h9, h10⟩ := h
  exact ⟨v, N, h0, h1, h2, h3, h4, h5, h6, h7, h8, fun k hk => by rw [← hg k hk]; exact h9 k hk, h10⟩
theorem STv.cong {w : zW} {u v n n2 : Nat} {f g : Nat → Nat} (h : STv w u v n f) (hn : n = n2) (hg : ∀ k, k < n → f k = g k) : STv w u v n2 g := by
  subst hn
  obtain ⟨h1, h2, h3, h4, h5, h6⟩ := h
  exact ⟨h1, h2, h3, h4, fun k hk => by rw [← hg k hk]; exact h5 k hk, h6⟩
/-- a StringBuilder's text is l; a String's text is l -/
def SLx (P : Nat → Prop) (w : zW) (o : Nat) (l : List Nat) : Prop := SB P w o 0 l.length (lfN l)
def TL' (w : zW) (u v : Nat) (l : List Nat) : Prop := STv w u v l.length (lfN l)
theorem SLx_put {P : Nat → Prop} {w : zW} {o c : Nat} {l : List Nat} (h : SB P w o 0 (l.length + 1) (upF (lfN l) l.length c)) : SLx P w o (l ++ [c]) := by
  refine SB.cong h (by simp) (fun k hk => ?_)
  unfold upF
  by_cases e : k = l.length
  · rw [if_pos e, lfN_r (by omega), e, Nat.sub_self]
    rfl
  · rw [if_neg e, lfN_l (by omega)]
theorem SLx_cat {P : Nat → Prop} {w : zW} {o : Nat} {l r : List Nat} (h : SB P w o 0 (l.length + r.length) (catF (lfN l) l.length (lfN r))) : SLx P w o (l ++ r) := by
  refine SB.cong h (by simp) (fun k hk => ?_)
  unfold catF
  by_cases e : k < l.length
  · rw [if_pos e, lfN_l e]
  · rw [if_neg e, lfN_r e]
theorem SB.less {P R : Nat → Prop} {w : zW} {o m n : Nat} {f : Nat → Nat} (h : SB P w o m n f) (hr : ∀ x, R x → P x) : SB R w o m n f := by
  obtain ⟨v, N, h0, h1, h2, h3⟩ := h
  exact ⟨v, N, h0, fun q => h1 (hr _ q), fun q => h2 (hr _ q), h3⟩
/-- a StringBuilder that is not among what changes -/
theorem SB.keep {P R : Nat → Prop} {w w' : zW} {o m n : Nat} {f : Nat → Nat} (h : SB P w o m n f) (e : Ext R w w') (hr : ∀ x, x < w.1.length → ¬ P x → R x) : SB P w' o m n f := by
  obtain ⟨v, N, h0, h1, h2, hO, c1, c3, hN, hV, h4, h5, h6⟩ := h
  have ro := hr o (nth_lt hO) h1
  have rv := hr v (nth_lt hV) h2
  refine ⟨v, N, h0, h1, h2, (e.2.1 o ro).1.trans hO, by rw [(e.2.1 o ro).2.1]; exact c1, by rw [(e.2.1 o ro).2.1]; exact c3, hN, (e.2.1 v rv).1.trans hV, h4, fun k hk => ?_, fun k hk => ?_⟩
  · rw [(e.2.1 v rv).2.1]
    exact h5 k hk
  · rw [(e.2.1 v rv).2.1]
    exact h6 k hk
theorem SB.bel {P : Nat → Prop} {w : zW} {o m n : Nat} {f : Nat → Nat} (h : SB P w o m n f) : o < w.1.length := by
  obtain ⟨v, N, h0, h1, h2, hO, -⟩ := h
  exact nth_lt hO
/-! terms added at the end -/
theorem rsx_app (d : Nat → Nat) (t : Nat) (g : Bool) (p : Nat) : ∀ r : List (Bool × Nat), rsx d t (r ++ [(g, p)]) = rsx d t r ++ ((if g = true then 45 else 43) :: tmx d t p)
  | [] => by simp [rsx]
  | (g', p') :: r => by
    have := rsx_app d t g p r
    show (if g' = true then 45 else 43) :: (tmx d t p' ++ rsx d t (r ++ [(g, p)])) = ((if g' = true then 45 else 43) :: (tmx d t p' ++ rsx d t r)) ++ _
    rw [this, List.cons_append, List.append_assoc]
def sgx (ts : List (Bool × Nat)) (g : Bool) : List Nat := if g = true then [45] else if ts = [] then [] else [43]
theorem ttx_app (d : Nat → Nat) (t : Nat) (g : Bool) (p : Nat) (ts : List (Bool × Nat)) : ttx d t (ts ++ [(g, p)]) = ttx d t ts ++ sgx ts g ++ tmx d t p := by
  match ts with
  | [] => cases g <;> simp [ttx, sgx, rsx]
  | (g', p') :: r =>
    show (if g' = true then [45] else []) ++ (tmx d t p' ++ rsx d t (r ++ [(g, p)])) = ((if g' = true then [45] else []) ++ (tmx d t p' ++ rsx d t r)) ++ sgx ((g', p') :: r) g ++ tmx d t p
    rw [rsx_app]
    cases g <;> simp [sgx]
theorem ttx_len (d : Nat → Nat) (t : Nat) (ts : List (Bool × Nat)) : (ttx d t ts).length ≤ 4 * ts.length := by
  match ts with
  | [] => exact Nat.le_refl _
  | (g, p) :: r =>
    have hr : ∀ r : List (Bool × Nat), (rsx d t r).length = 4 * r.length := by
      intro r
      induction r with
      | nil => rfl
      | cons a r ih =>
        obtain ⟨g, p⟩ := a
        show (_ :: (tmx d t p ++ rsx d t r)).length = _
        rw [List.length_cons, List.length_append, ih, List.length_cons]
        show 3 + _ + 1 = _
        omega
    show ((if g = true then [45] else []) ++ (tmx d t p ++ rsx d t r)).length ≤ _
    rw [List.length_append, List.length_append, hr, List.length_cons]
    have : (tmx d t p).length = 3 := rfl
    cases g <;> simp <;> omega
theorem ttx_nil (d : Nat → Nat) (t : Nat) (ts : List (Bool × Nat)) : (0 < (ttx d t ts).length) ↔ ts ≠ [] := by
  match ts with
  | [] => simp [ttx]
  | (g, p) :: r => cases g <;> simp [ttx, tmx]
theorem inc_app {n p g} : ∀ (ts : List (Bool × Nat)) (p0 : Nat), inc n p0 ts → (∀ e ∈ ts, e.2 < p) → p0 ≤ p → p < n → inc n p0 (ts ++ [(g, p)])
  | [], p0, _, _, h1, h2 => ⟨h1, h2, trivial⟩
  | (g', p') :: r, p0, ⟨i1, i2, i3⟩, h, h1, h2 => ⟨i1, i2, inc_app r (p' + 1) i3 (fun e he => h e (List.mem_cons_of_mem _ he)) (h _ List.mem_cons_self) h2⟩

