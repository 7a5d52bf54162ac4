/-! the law's row, whole -/
set_option maxHeartbeats 4000000 in
theorem cx_L_row (l : Launch) (hl : l.stackTraces = false) {x : zX} {b : Nat} {ad : Nat → Nat} {w : zW} {K : Option Value → zW → Prop} {sz : Nat} {i : Int32} {r : Nat} (hsp : sp_L_row i r w K) : Met l yL_row (.codeWith yL_row cL_row 4 (some .int) [(0, 8, 11, 13)] :: zTT) rm_L_row (z_Pc2 x b ad [.ref 0, .int i, .ref r] w sz) (z_Qc x b ad w K sz 1) 1 6 (z_A x ad w sz) := by
  refine z_ofWH (cc := cL_row) (maxL := 4) (ret := some .int) (hh := [(0, 8, 11, 13)]) (by decide) rfl ?_
  intro p e s m args below meth c s₁ B hml hv
  obtain ⟨⟨rfl, hsz2, hP, hK, hD0⟩, hXs⟩ := hv
  have hex := B.exec
  have hb := B.bytes
  have hr := B.returns
  have hts := atoms_spec (ws := .codeWith yL_row cL_row 4 (some .int) [(0, 8, 11, 13)] :: zTT) B.pre
  have hown : s.vm.findClass RL = some m.cls := findClass_of_methodNamed B.named
  have hlocks := B.notSynchronized
  have htab : c.exceptionTable.toList = [] ++ (⟨0, 8, 11, 13⟩ : ExceptionTableEntry) :: [] := vx_table (x := yL_row) B (hts _ List.mem_cons_self)
  subst hsz2
  have hD : va_D (z_A x ad w s.heap.size) (z_ws x ad w) := hD0.self (sz := s.heap.size)
  have hA : ∀ q : Nat, s.heap.size ≤ q → z_A x ad w s.heap.size q := fun q h => Or.inr h
  have S : CallFix p m c cL_row 4 s (([.ref 0, .int i, .ref r] : List Value).map (z_cv b ad)).toArray (.codeWith yL_row cL_row 4 (some .int) [(0, 8, 11, 13)] :: zTT) RL := ⟨hex, hb, hml, hown, hts⟩
  have hTT : ∀ w ∈ zTT, w ∈ (.codeWith yL_row cL_row 4 (some .int) [(0, 8, 11, 13)] :: zTT : List Cond) := fun w hw => List.mem_cons_of_mem _ hw
  have E : z_En p s m (([.ref 0, .int i, .ref r] : List Value).map (z_cv b ad)).toArray meth c cL_row 4 RL (.codeWith yL_row cL_row 4 (some .int) [(0, 8, 11, 13)] :: zTT) x b (z_A x ad w s.heap.size) M_L_row := ⟨S, hTT, hK, hA, fun h => (by cases h), fun h => by cases h⟩
  have hl0 := lv_entry (([.ref 0, .int i, .ref r] : List Value).map (z_cv b ad)) (n := 4) (by rw [z_szs_eq]; exact (by decide : 3 ≤ 4))
  rw [lg_entry_eq]
  generalize (lg_sl (([.ref 0, .int i, .ref r] : List Value).map (z_cv b ad)) ++ List.replicate (4 - (lg_sl (([.ref 0, .int i, .ref r] : List Value).map (z_cv b ad))).length) Slot.unset).toArray = ls at hl0 ⊢
  have hLH : z_LH b ad ls 4 (z_arl [.ref 0, .int i, .ref r] 4) := ⟨hl0.1, hl0.2.1, Nat.le_of_eq (z_arl_len [.ref 0, .int i, .ref r] 4 (by exact (by decide : 3 ≤ 4))), fun i1 v q => by
    have := hl0.2.2 _ (z_arl_mem (b := b) (ad := ad) [.ref 0, .int i, .ref r] 4 0 i1 v q)
    simpa using this⟩
  obtain ⟨J, hJ⟩ : ∃ J : zJ, J = z_JJ p l e rm_L_row s m (([.ref 0, .int i, .ref r] : List Value).map (z_cv b ad)).toArray below meth c (MQ below (z_Qc x b ad w K s.heap.size 1) (([.ref 0, .int i, .ref r] : List Value).map (z_cv b ad)).toArray s 1 6 (z_A x ad w s.heap.size)) x b (z_A x ad w s.heap.size) ad w.1.length 4 := ⟨_, rfl⟩
  have hR : z_Rt p l e rm_L_row s m (([.ref 0, .int i, .ref r] : List Value).map (z_cv b ad)).toArray below meth c (MQ below (z_Qc x b ad w K s.heap.size 1) (([.ref 0, .int i, .ref r] : List Value).map (z_cv b ad)).toArray s 1 6 (z_A x ad w s.heap.size)) x b (z_A x ad w s.heap.size) ad w.1.length cL_row M_L_row K := by
    intro r1 w' hk ad' H locs ls' pc c1 c2 g1 g2 g3 hP' hD' hS' hG' hend
    have hq : ∀ t : State, t.heap = H → s.WarmedH t.vm → z_Qc x b ad w K s.heap.size 1 (([.ref 0, .int i, .ref r] : List Value).map (z_cv b ad)).toArray s (.returned (r1.map (z_cv b ad'))) t := fun t ht _ => ⟨⟨r1, w', ad', rfl, hk, g3, hG', by rw [ht]; exact hP', hD'⟩, hS'.F ht⟩
    refine W.widen (k := 1) (n := 6) g1 g2 ?_
    rcases hend with ⟨a, rfl, hd, hz⟩ | ⟨a, rfl, hd, hz⟩ | ⟨rfl, hd, hz⟩
    · exact W.iret hex hb hr hq hS'.2.2 hd
    · exact absurd hz (by show ¬ (1 = 3); decide)
    · exact absurd hz (by show ¬ (1 = 0); decide)
  have hs : ∀ (n pc : Nat) (al : zAL) (st : List Value) (w : zW) (c1 c2 : Nat), z_wp M_L_row K J n (z_from M_L_row.1 pc) al st w c1 c2 → J pc al st w c1 c2 := by
    rw [hJ]
    exact fun n pc al st w' c1 c2 h => z_wp_ok E (O_L_row l) hR n _ pc al st w' c1 c2 (z_from_sub M_L_row.1 pc).1 (z_from_sub M_L_row.1 pc).2 h
  obtain ⟨hout, hrow⟩ := hsp
  have hrl : r < w.1.length := by
    rw [z_nth_eq] at hout
    exact (List.getElem?_eq_some_iff.mp hout).1
  have hcall : J 4 [some (.ref 0), some (.int i), some (.ref r), none] [.int i, .ref 0, .int (nI 0), .ref r] w 0 0 := by
    have h7 : ∀ a : Int64, K (some (.int (nI 0))) (w.1, w.2.1, z_up w.2.2 r 0 a) → J 7 [some (.ref 0), some (.int i), some (.ref r), none] [.long a, .int (nI 0), .ref r] w 1 6 := fun a ha => w_L_row7 hs hout ha
    have h12 : K (some (.int (nI 1))) w → J 12 [none, none, none, none] [] w 1 6 := fun ha => w_L_row12 hs ha
    rw [hJ] at h7 h12 ⊢
    intro g1 g2 g3 ad' H locs ls' hl' hP' hD' hS' hG'
    have hg0 : 0 < w.1.length := by obtain ⟨⟨r0, h⟩, -⟩ := hrow; rw [h]; exact Nat.zero_lt_succ _
    have hrecv : ∃ cellB : Cell, H[ad' 0]? = some cellB ∧ cellB.vm.isStatics = false ∧ s.vm.findClass RX11 = some cellB.cls := by
      obtain ⟨⟨r0, h⟩, -⟩ := hrow
      exact va_recv (ci := 9) hK.1 hP' rfl (z_ws_at (x := x) (ad := ad') (w := w) (o := 0) (by rw [h]; rfl))
    have hgw := z_good_ws (y := yX11_row) (bytes := cX11_row) (maxL := 2) (ret := some .long) hTT mb_X11_row.1
    have hpre : ∀ U : State, U.heap = H → s.WarmedH U.vm → z_Pc2 x b ad' [.ref 0, .int i] w H.size (([.ref 0, .int i] : List Value).map (z_cv b ad')).toArray U := fun U hU hWu => ⟨⟨rfl, by rw [hU], by rw [hU]; exact hP', hK.moved hWu, hD'.weaken (fun _ _ _ _ => trivial)⟩, by
      rw [hU]
      exact ((hXs.kept hS'.2.1).narrow (z_aw hD' hS' hA)).moved hWu⟩
    have hM := cx_X11_row l hl (x := x) (b := b) (ad := ad') (sz := H.size) hrow
    refine z_afterX (vx_runV (n := 1) (index := 7) (C := RX11) (b := ad' 0) (As := ([.int i] : List Value).map (z_cv b ad')) (rest := ([.int (nI 0), .ref r] : List Value).map (z_cv b ad')) S hM (cwV 1 hts (z_good_app hTT (fun w hw => ?_) hgw) rfl rfl rfl ⟨rfl, mb_X11_row.2.2⟩ (by decide)) ⟨z_Pc2_blind, hrecv, hpre⟩ rfl rfl hl'.1 rfl (lv_room (by rw [z_cats_eq]; exact (by decide : 2 ≤ 8))) (by decide +kernel : decode cL_row 4 = .ok (.invokevirtual 7, 3)) ⟨by decide, by decide⟩) hD' hS' hA ?_ ?_
    · simp only [List.mem_cons, List.not_mem_nil, or_false] at hw
      rcases hw with rfl | rfl | rfl | rfl
      · exact wt_1049
      · exact wt_1050
      · exact wt_1051
      · exact mb_X11_row.2.1
    · rintro r' w' ad2 H1 locs1 ⟨a, rfl, rfl, ha⟩ hlen hag q1 q2 q3
      have hG2 : z_AG ad ad2 w'.1.length rm_L_row.cells := ⟨fun k hk => (hag.1 k hk).trans (hG'.1 k hk), fun hz => by cases hz⟩
      rw [← z_cvs_agree hag.1 (st := [.int (nI 0), .ref r]) (by simp [z_wfs, z_rlt, Nat.blt]; omega)]
      exact h7 a ha (by decide) (by decide) (Nat.le_refl _) ad2 H1 locs1 ls' (hl'.agree hag.1 (by simp [z_wfl, z_rlt, Nat.blt]; omega)) q1 q2 q3 hG2
    · intro ce q9 ad2 H1 locs1 hX hag q1 q2 q3 hce hcv hcl
      have hG2 : z_AG ad ad2 w.1.length rm_L_row.cells := ⟨fun k hk => (hag.1 k hk).trans (hG'.1 k hk), fun hz => by cases hz⟩
      refine vx_catch (own := RL) (name := nseN) (E := nseN) hown [] ⟨0, 8, 11, 13⟩ [] htab (fun z hz => by cases hz) (by decide) (by decide) (hts _ (hTT _ lrow_lk)) (va_Nw.use (zXW_ot (.castable nseN nseN) (by decide +kernel)) (hXs.1 (.castable nseN nseN) (by decide +kernel))) hce hcv hcl ?_
      refine lv_astore_n (k := 3) (i := 3) (nL := 4) (lv := []) hex hb (by decide +kernel : decode cL_row 11 = .ok (.astore_n 3, 1)) rfl ⟨hl'.1, hl'.2.1, fun q hq => by cases hq⟩ (by decide) rfl (fun ls2 h2 => ?_)
      exact h12 hX (by decide) (by decide) (Nat.le_refl _) ad2 H1 locs1 ls2 ⟨h2.1, h2.2.1, by decide, fun i1 v hv => by
        have : ([none, none, none, none] : zAL)[i1]? = some (some v) := hv
        rcases i1 with _ | _ | _ | _ | i1 <;> simp at this⟩ q1 q2 q3 hG2
  have key := w_L_row0 (i := i) (r := r) (w := w) hs hcall
  rw [hJ] at key
  exact key (Nat.zero_le _) (Nat.zero_le _) (Nat.le_refl _) ad s.heap [] ls hLH hP hD va_S.rf ⟨fun _ _ => rfl, fun _ => rfl⟩

