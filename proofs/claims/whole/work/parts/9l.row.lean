/-! the law's own row: it catches -/
theorem z_ofWH {l : Launch} {y : MethodName} {ws ws' : List Cond} {rm : Room} {Pc : Array Value → State → Prop} {Qc : Array Value → State → Outcome → State → Prop} {mc ms : Nat} {free : Addr → Prop} {cc : ByteArray} {maxL : Nat} {ret : Option FieldType} {hh : List (Nat × Nat × Nat × Nat)}
    (hy : plainName y.cls = true) (hw : ws = Cond.codeWith y cc maxL ret hh :: ws')
    (body : ∀ p e s m args below meth c s₁, BodyLoose p l y (headSpec ws rm) cc maxL ret e s m args below meth c s₁ → c.maxLocals = maxL → Pc args s →
      W p l e (headSpec ws rm).room s m args below meth c s.heap [] 0 0 (MQ below Qc args s mc ms free) (entryFrame m args maxL)) : Met l y ws rm Pc Qc mc ms free := by
  refine MetFree.of_bodyS (code := cc) (maxLocals := maxL) (ret := ret) hy ?_ ?_
  · intro args s m h hn
    obtain ⟨m9, meth, c, hn9, h1, h2, h3, h4, -, h5, h6, -⟩ := Cond.codeWith_spec (atoms_spec (ws := ws) h _ (by rw [hw]; exact List.mem_cons_self))
    cases hn.symm.trans hn9
    exact ⟨meth, c, h1, h2, h3, h4, h5, h6⟩
  · intro p e s m args below meth c s₁ B hml hP _
    have hh0 : s₁.heap = s.heap := by rw [B.state]; rfl
    obtain ⟨t, a1, o, b1, b2, b3⟩ := body p e s m args below meth c s₁ B hml hP s₁ hh0 (Stand.of_body B)
    exact ⟨t, o, a1, b1, b2, b3⟩
section ZAX
variable {p : Program} {l : Launch} {e : Env} {R : Room} {s : State} {m : MethodId} {args : Array Value} {below : List Frame} {meth : Method} {c : Code} {Q : State → Prop} {x : zX} {b : Nat} {A0 : Nat → Prop}
theorem z_aw {ad : Nat → Nat} {w : zW} {H : Heap} {locs : List Loc} (hD : va_D A0 (z_ws x ad w)) (hS : va_S A0 s.heap H locs) (hA : ∀ q : Nat, s.heap.size ≤ q → A0 q) : ∀ q, z_A x ad w H.size q → A0 q := by
  intro q hq
  rcases hq with ⟨k, e, hq⟩ | hq
  · exact hD.2 k (q, e) hq
  · exact hA q (Nat.le_trans hS.1 hq)
/-- behind a call that may throw -/
theorem z_afterX {H : Heap} {locs : List Loc} {c1 c2 ms pc : Nat} {ls : Array Slot} {st0 rest : List Value} {a : Array Value} {ad : Nat → Nat} {w : zW} {K : Option Value → zW → Prop} {XK : Prop}
    (hr : vx_Run p l e R s m args below meth c H locs c1 c2 1 ms (F0 m pc ls st0) rest (z_Qc x b ad w K H.size 1 a) (z_XC x ad w H.size XK) (z_A x ad w H.size)) (hD : va_D A0 (z_ws x ad w)) (hS : va_S A0 s.heap H locs) (hA : ∀ q : Nat, s.heap.size ≤ q → A0 q)
    (kk : ∀ (r : Option Value) (w' : zW) (ad' : Nat → Nat) (H1 : Heap) (locs1 : List Loc), K r w' → w.1.length ≤ w'.1.length → z_AG ad ad' w.1.length 1 → va_P x.1 vwCl (z_ws x ad' w') H1 → va_D A0 (z_ws x ad' w') → va_S A0 s.heap H1 locs1 → W p l e R s m args below meth c H1 locs1 (c1 + 1) (c2 + ms) Q (F0 m (pc + 3) ls ((r.map (z_cv b ad')).toList ++ rest)))
    (kx : ∀ (ce : Cell) (q9 : Addr) (ad' : Nat → Nat) (H1 : Heap) (locs1 : List Loc), XK → z_AG ad ad' w.1.length 1 → va_P x.1 vwCl (z_ws x ad' w) H1 → va_D A0 (z_ws x ad' w) → va_S A0 s.heap H1 locs1 → H1[q9]? = some ce → ce.vm = .none → s.vm.findClass nseN = some ce.cls → vx_W p l e R s m args below meth c H1 locs1 (c1 + 1) (c2 + ms) Q (F0 m pc ls rest) q9) : W p l e R s m args below meth c H locs c1 c2 Q (F0 m pc ls st0) := by
  intro T hT X
  have hAA := z_aw hD hS hA
  rcases hr T hT X with ⟨v, st₀, t, T', L, h0, X', hL, e1, e2, ⟨⟨r, w', ad', hv, hk, hlen, hag, hP', hD'⟩, hz, hkeep⟩, st⟩ | ⟨q, st₀, t, T', L, E, ce, h0, X', hL, e1, e2, ⟨hE, hXK, ⟨ad', hag, hP', hD'⟩, hz, hkeep⟩, hce, hcv, hcl, st⟩
  · cases hv
    rw [h0] at hz hkeep
    obtain ⟨t2, a1, b1⟩ := kk r w' ad' T'.heap (locs ++ L) hk hlen hag (by rw [e1]; exact hP') (hD'.weaken (fun k q _ h => hAA q.1 h))
      ⟨Nat.le_trans hS.1 (by rw [e1]; exact hz), fun q h1 h2 => by rw [e1, hkeep q (Nat.lt_of_lt_of_le h1 hS.1) (fun z => h2 (hAA q z))]; exact hS.2.1 q h1 h2, fun q hq => by
        rcases List.mem_append.mp hq with h | h
        · exact hS.2.2 q h
        · exact hAA _ (hL q h)⟩ T' rfl X'
    exact ⟨t2, st t2 a1, b1⟩
  · subst hE
    rw [h0] at hz hkeep
    obtain ⟨t2, a1, b1⟩ := kx ce q ad' T'.heap (locs ++ L) hXK hag (by rw [e1]; exact hP') (hD'.weaken (fun k q _ h => hAA q.1 h))
      ⟨Nat.le_trans hS.1 (by rw [e1]; exact hz), fun q h1 h2 => by rw [e1, hkeep q (Nat.lt_of_lt_of_le h1 hS.1) (fun z => h2 (hAA q z))]; exact hS.2.1 q h1 h2, fun q hq => by
        rcases List.mem_append.mp hq with h | h
        · exact hS.2.2 q h
        · exact hAA _ (hL q h)⟩ (by rw [e1]; exact hce) hcv hcl T' rfl X'
    exact ⟨t2, st.trans a1, b1⟩
end ZAX
def k_L_row_0 : List zI := [(0, 1, 0, .aload_n 2), (1, 2, 0, .iconst 0), (2, 3, 0, .aload_n 0), (3, 4, 0, .iload_n 1), (4, 7, 0, .invokevirtual 7), (7, 8, 0, .lastore), (8, 11, 14, .goto 6), (11, 12, 0, .astore_n 3), (12, 13, 1, .iconst 1), (13, 14, 0, .ireturn), (14, 15, 0, .iconst 0), (15, 16, 0, .ireturn)]
theorem ok_L_row_0 : ∀ e ∈ k_L_row_0, z_okb cL_row e = true := fun e h => List.all_eq_true.mp (by decide +kernel : k_L_row_0.all (z_okb cL_row) = true) e h
def k_L_row : List zI := k_L_row_0
theorem ok_L_row : ∀ e ∈ k_L_row, z_okb cL_row e = true := ok_L_row_0
def rm_L_row : Room := { frames := 7, cells := 1, slots := 6, locals := 102 }
def M_L_row : zM := (k_L_row, [], [], ([], [], []), [], [(4, [true, true, true, false])], 1, false, (false, 0, fun _ => 0), (1, 6))
theorem O_L_row (l : Launch) : z_OK l RL cL_row rm_L_row M_L_row := ⟨ok_L_row, fun _ h => absurd h List.not_mem_nil, fun _ h => absurd h List.not_mem_nil, fun _ h => absurd h List.not_mem_nil, fun _ h => absurd h List.not_mem_nil, fun _ h => absurd h List.not_mem_nil, fun _ h => absurd h List.not_mem_nil, rfl, rfl⟩
def rowK (r : Nat) (w : zW) (K : Option Value → zW → Prop) : Option Value → zW → Prop := fun v w' => ∃ a, v = some (.long a) ∧ w' = w ∧ K (some (.int (nI 0))) (w.1, w.2.1, z_up w.2.2 r 0 a)
def sp_L_row (i : Int32) (r : Nat) (w : zW) (K : Option Value → zW → Prop) : Prop := z_nth w.1 r = some (.inr (1, 1)) ∧ sp_X11_row i w (rowK r w K) (K (some (.int (nI 1))) w)
section
variable {i : Int32} {r : Nat} {w : zW} {K : Option Value → zW → Prop} {Jm : zJ}
theorem w_L_row0 (hs : ∀ (n pc : Nat) (al : zAL) (st : List Value) (w : zW) (c1 c2 : Nat), z_wp M_L_row K Jm n (z_from M_L_row.1 pc) al st w c1 c2 → Jm pc al st w c1 c2) (h : Jm 4 [some (.ref 0), some (.int i), some (.ref r), none] [.int i, .ref 0, .int (nI 0), .ref r] w 0 0) : Jm 0 [some (.ref 0), some (.int i), some (.ref r), none] [] w 0 0 := by
  refine hs 400 0 _ _ _ _ _ ?_
  conv => whnf
  repeat ((first | refine ⟨zG_of _, ?_⟩ | refine ⟨trivial, ?_⟩ | refine ⟨rfl, ?_⟩ | refine ⟨fun hc => absurd hc (by decide), fun _ => ?_⟩ | refine ⟨fun _ => ?_, fun hc => absurd (by decide) hc⟩ | refine ⟨fun _ => ?_, fun hc => absurd hc (by decide)⟩ | refine ⟨fun hc => absurd (by decide) hc, fun _ => ?_⟩); conv => whnf)
  try dsimp only
  exact h
theorem w_L_row7 {c1 c2 : Nat} {a : Int64} {al : zAL} (hs : ∀ (n pc : Nat) (al : zAL) (st : List Value) (w : zW) (c1 c2 : Nat), z_wp M_L_row K Jm n (z_from M_L_row.1 pc) al st w c1 c2 → Jm pc al st w c1 c2) (hr : z_nth w.1 r = some (.inr (1, 1))) (h : K (some (.int (nI 0))) (w.1, w.2.1, z_up w.2.2 r 0 a)) : Jm 7 al [.long a, .int (nI 0), .ref r] w c1 c2 := by
  refine hs 400 7 _ _ _ _ _ ?_
  conv => whnf
  rw [hr]
  refine ⟨vp_in_nI (show 0 < 1 by decide) (by decide), ?_⟩
  conv => whnf
  refine ⟨trivial, ?_⟩
  exact h
theorem w_L_row12 {c1 c2 : Nat} {al : zAL} (hs : ∀ (n pc : Nat) (al : zAL) (st : List Value) (w : zW) (c1 c2 : Nat), z_wp M_L_row K Jm n (z_from M_L_row.1 pc) al st w c1 c2 → Jm pc al st w c1 c2) (h : K (some (.int (nI 1))) w) : Jm 12 al [] w c1 c2 := by
  refine hs 400 12 _ _ _ _ _ ?_
  conv => whnf
  refine ⟨trivial, ?_⟩
  exact h
end
theorem lrow_lk : Cond.classLink RL 13 nseN ∈ zTT := List.mem_filter.mpr ⟨by decide +kernel, rfl⟩

