/-! row of the class: it returns, or throws -/
set_option maxHeartbeats 4000000 in
theorem cx_X11_row (l : Launch) (hl : l.stackTraces = false) {x : zX} {b : Nat} {ad : Nat → Nat} {w : zW} {K : Option Value → zW → Prop} {X : Prop} {sz : Nat} {i : Int32} (hsp : sp_X11_row i w K X) : vx_Met l yX11_row (.code yX11_row cX11_row 2 (some .long) :: zTT) rm_X11_row (z_Pc2 x b ad [.ref 0, .int i] w sz) (z_Qc x b ad w K sz 1) (z_XC x ad w sz X) 1 6 (z_A x ad w sz) := by
  refine vx_ofW (cc := cX11_row) (maxL := 2) (ret := some .long) (by decide) rfl ?_
  intro p e s m args below meth c s₁ B hml ht0 hv
  obtain ⟨⟨rfl, hsz2, hP, hK, hD0⟩, hXs⟩ := hv
  have hex := B.exec
  have hb := B.bytes
  have hr := B.returns
  have hts := atoms_spec (ws := .code yX11_row cX11_row 2 (some .long) :: zTT) B.pre
  have hown : s.vm.findClass RX11 = some m.cls := findClass_of_methodNamed B.named
  have hlocks := B.notSynchronized
  subst hsz2
  have hD : va_D (z_A x ad w s.heap.size) (z_ws x ad w) := hD0.self (sz := s.heap.size)
  have hA : ∀ q : Nat, s.heap.size ≤ q → z_A x ad w s.heap.size q := fun q h => Or.inr h
  have E : z_En p s m (([.ref 0, .int i] : List Value).map (z_cv b ad)).toArray meth c cX11_row 2 RX11 (.code yX11_row cX11_row 2 (some .long) :: zTT) x b (z_A x ad w s.heap.size) M_X11_row := ⟨⟨hex, hb, hml, hown, hts⟩, fun w hw => List.mem_cons_of_mem _ hw, hK, hA, fun h => (by cases h), fun h => by cases h⟩
  have hl0 := lv_entry (([.ref 0, .int i] : List Value).map (z_cv b ad)) (n := 2) (by rw [z_szs_eq]; exact Nat.le_refl 2)
  rw [lg_entry_eq]
  generalize (lg_sl (([.ref 0, .int i] : List Value).map (z_cv b ad)) ++ List.replicate (2 - (lg_sl (([.ref 0, .int i] : List Value).map (z_cv b ad))).length) Slot.unset).toArray = ls at hl0 ⊢
  have hLH : z_LH b ad ls 2 (z_arl [.ref 0, .int i] 2) := ⟨hl0.1, hl0.2.1, Nat.le_of_eq (z_arl_len [.ref 0, .int i] 2 (Nat.le_refl 2)), fun i1 v q => by
    have := hl0.2.2 _ (z_arl_mem (b := b) (ad := ad) [.ref 0, .int i] 2 0 i1 v q)
    simpa using this⟩
  have hR : z_Rt p l e rm_X11_row s m (([.ref 0, .int i] : List Value).map (z_cv b ad)).toArray below meth c (vx_MQ below (z_Qc x b ad w K s.heap.size 1) (z_XC x ad w s.heap.size X) (([.ref 0, .int i] : List Value).map (z_cv b ad)).toArray s 1 6 (z_A x ad w s.heap.size)) x b (z_A x ad w s.heap.size) ad w.1.length cX11_row M_X11_row K := by
    intro r w' hk ad' H locs ls' pc c1 c2 g1 g2 g3 hP' hD' hS' hG' hend
    have hq : ∀ t : State, t.heap = H → s.WarmedH t.vm → z_Qc x b ad w K s.heap.size 1 (([.ref 0, .int i] : List Value).map (z_cv b ad)).toArray s (.returned (r.map (z_cv b ad'))) t := fun t ht _ => ⟨⟨r, w', ad', rfl, hk, g3, hG', by rw [ht]; exact hP', hD'⟩, hS'.F ht⟩
    refine vx_ret (W.widen (k := 1) (n := 6) g1 g2 ?_)
    rcases hend with ⟨a, rfl, hd, hz⟩ | ⟨a, rfl, hd, hz⟩ | ⟨rfl, hd, hz⟩
    · exact absurd hz (by show ¬ z_ret 3 a; exact id)
    · exact W.lret hex hb hr hq hS'.2.2 hd
    · exact absurd hz (by show ¬ (3 = 0); decide)
  have hthrow : X → z_JJ p l e rm_X11_row s m (([.ref 0, .int i] : List Value).map (z_cv b ad)).toArray below meth c (vx_MQ below (z_Qc x b ad w K s.heap.size 1) (z_XC x ad w s.heap.size X) (([.ref 0, .int i] : List Value).map (z_cv b ad)).toArray s 1 6 (z_A x ad w s.heap.size)) x b (z_A x ad w s.heap.size) ad w.1.length 2 15 [some (.ref 0), some (.int i)] [] w 0 0 := by
    intro hX h1 h2 h3 ad' H locs ls' hl' hP' hD' hS' hG'
    refine vx_throw0 (hexec := hex) (hb := hb) hl (own := RX11) (cls := nseN) (names := nseL) (ik := 371) (ic := 373) (A := z_A x ad w s.heap.size) hown (by decide +kernel) (by decide +kernel) (hts _ (List.mem_cons_of_mem _ row_lk)) (hts _ (List.mem_cons_of_mem _ row_in)) (vx_hat (fun w hw => hts _ (List.mem_cons_of_mem _ (row_good w hw))) row_rest (fun w hw => va_Nw.use (zXW_ot w hw) (hXs.1 w hw))) row_ot hXs.2.1 hXs.2.2 hS' (hl'.1.trans hml.symm) (by decide +kernel) (by decide +kernel) (by decide +kernel) (by decide +kernel) (fun y hy => (ht0 y hy).elim) (by decide) (show 81 ≤ 81 from Nat.le_refl _) (by decide) (by decide) hlocks ?_ hS'.2.2 (by decide) (by decide)
    intro t ht hsz hkp
    have hlt : ∀ (k : Nat) (q : Nat × va_E), (z_ws x ad' w)[k]? = some q → t.heap[q.1]? = H[q.1]? := fun k q hk => hkp q.1 (vx_lt hP' hk)
    exact ⟨rfl, hX, ⟨ad', hG', hP'.kept hlt, hD'⟩, Nat.le_trans hS'.1 hsz, fun q h1 h2 => (hkp q (Nat.lt_of_lt_of_le h1 hS'.1)).trans (hS'.2.1 q h1 h2)⟩
  have key := w_X11_row hsp (z_JJ p l e rm_X11_row s m (([.ref 0, .int i] : List Value).map (z_cv b ad)).toArray below meth c (vx_MQ below (z_Qc x b ad w K s.heap.size 1) (z_XC x ad w s.heap.size X) (([.ref 0, .int i] : List Value).map (z_cv b ad)).toArray s 1 6 (z_A x ad w s.heap.size)) x b (z_A x ad w s.heap.size) ad w.1.length 2)
    (fun n pc al st w' c1 c2 h => z_wp_ok E (O_X11_row l) hR n _ pc al st w' c1 c2 (z_from_sub M_X11_row.1 pc).1 (z_from_sub M_X11_row.1 pc).2 h) hthrow
  exact key (Nat.zero_le _) (Nat.zero_le _) (Nat.le_refl _) ad s.heap [] ls hLH hP hD va_S.rf ⟨fun _ _ => rfl, fun _ => rfl⟩

