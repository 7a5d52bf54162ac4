/-! calls, and the whole walk -/
theorem zTT_inTs {Ts : List Cond} (hTT : ∀ w ∈ zTT, w ∈ Ts) {w : Cond} (h : w ∈ zTT) : w ∈ Ts ∧ ((w.onTables && w.keeps) = true ∨ ∃ ty, w = .arrayClass ty) := ⟨hTT _ h, good_of_word (zTT_good h)⟩
theorem z_good_ws {Ts : List Cond} (hTT : ∀ w ∈ zTT, w ∈ Ts) {y : MethodName} {bytes : ByteArray} {maxL : Nat} {ret : Option FieldType} (hc : Cond.code y bytes maxL ret ∈ zTT) : GoodIn Ts (.code y bytes maxL ret :: zTT) := by
  intro w hw
  rcases List.mem_cons.mp hw with rfl | hw
  · exact zTT_inTs hTT hc
  · exact zTT_inTs hTT hw
theorem z_good_app {Ts a ws : List Cond} (hTT : ∀ w ∈ zTT, w ∈ Ts) (h1 : ∀ w ∈ a, w ∈ zTT) (h2 : GoodIn Ts ws) : GoodIn Ts (a ++ ws) := by
  intro w hw
  rcases List.mem_append.mp hw with hw | hw
  · exact zTT_inTs hTT (h1 w hw)
  · exact h2 w hw
theorem z_Pc_blind {x : zX} {b : Nat} {ad : Nat → Nat} {av : List Value} {w : zW} {sz : Nat} : FrameBlind (z_Pc x b ad av w sz) := by
  rintro a U g mk ⟨q1, q2, q3, q4, q5⟩
  exact ⟨q1, q2, q3, q4.same rfl, q5⟩
section ZC
variable {p : Program} {l : Launch} {e : Env} {R : Room} {s : State} {m : MethodId} {args : Array Value} {below : List Frame} {meth : Method} {c : Code} {Q : State → Prop} {cc : ByteArray} {own : String} {Ts : List Cond} {x : zX} {b : Nat} {A0 : Nat → Prop} {ad0 : Nat → Nat} {n0 nL : Nat} {M : zM} {post : Option Value → zW → Prop}
/-- behind a call -/
theorem z_after {H : Heap} {locs : List Loc} {c1 c2 mc ms pc : Nat} {ls : Array Slot} {st0 rest : List Value} {a : Array Value} {ad : Nat → Nat} {w : zW} {K : Option Value → zW → Prop}
    (hr : va_Run p l e R s m args below meth c H locs c1 c2 mc ms (F0 m pc ls st0) rest (z_Qc x b ad w K H.size mc a) (z_A x ad w H.size)) (hD : va_D A0 (z_ws x ad w)) (hS : va_S A0 s.heap H locs) (hA : ∀ q : Nat, s.heap.size ≤ q → A0 q)
    (kk : ∀ (r : Option Value) (w' : zW) (ad' : Nat → Nat) (H1 : Heap) (locs1 : List Loc), K r w' → w.1.length ≤ w'.1.length → z_AG ad ad' w.1.length mc → va_P x.1 vwCl (z_ws x ad' w') H1 → va_D A0 (z_ws x ad' w') → va_S A0 s.heap H1 locs1 → W p l e R s m args below meth c H1 locs1 (c1 + mc) (c2 + ms) Q (F0 m (pc + 3) ls ((r.map (z_cv b ad')).toList ++ rest))) : W p l e R s m args below meth c H locs c1 c2 Q (F0 m pc ls st0) := by
  intro T hT X
  obtain ⟨v, st₀, t, T', L, h0, X', hL, e1, e2, ⟨⟨r, w', ad', hv, hk, hlen, hag, hP', hD'⟩, hz, hkeep⟩, st⟩ := hr T hT X
  cases hv
  rw [h0] at hz hkeep
  have hAA : ∀ q, z_A x ad w H.size q → A0 q := by
    intro q hq
    rcases hq with ⟨k, e, hq⟩ | hq
    · exact hD.2 k (q, e) hq
    · exact hA q (Nat.le_trans hS.1 hq)
  obtain ⟨t2, a1, b1⟩ := kk r w' ad' T'.heap (locs ++ L) hk hlen hag (by rw [e1]; exact hP') (hD'.weaken (fun k q _ h => hAA q.1 h))
    ⟨Nat.le_trans hS.1 (by rw [e1]; exact hz), fun q h1 h2 => by rw [e1, hkeep q (Nat.lt_of_lt_of_le h1 hS.1) (fun z => h2 (hAA q z))]; exact hS.2.1 q h1 h2, fun q hq => by
      rcases List.mem_append.mp hq with h | h
      · exact hS.2.2 q h
      · exact hAA _ (hL q h)⟩ T' rfl X'
  exact ⟨t2, st t2 a1, b1⟩
theorem z_kk_spec {ik kd : Nat} (h : z_kk ik kd = true) : (ik = 0 ∧ (kd = 0 ∨ kd = 2)) ∨ (ik = 1 ∧ (kd = 4 ∨ kd = 5)) ∨ (ik = 2 ∧ (kd = 1 ∨ kd = 3 ∨ kd = 6)) := by
  unfold z_kk at h
  split at h <;> simp at h ⊢
theorem z_rcv_obj {kd ci : Nat} {av : List Value} {w : zW} (hk : kd = 4 ∨ kd = 5) (h : z_rcv kd ci av w = true) : ∃ o as fs, av = .ref o :: as ∧ w.1[o]? = some (.inl (ci, fs)) := by
  have h' : z_hdo ci av w = true := by rcases hk with rfl | rfl <;> exact h
  unfold z_hdo at h'
  split at h'
  · rename_i o as
    split at h'
    · rename_i c' fs e
      have := Nat.eq_of_beq_eq_true h'
      subst this
      exact ⟨o, as, fs, rfl, by rw [← z_nth_eq]; exact e⟩
    · cases h'
  · cases h'
theorem z_rcv_ref {kd ci : Nat} {av : List Value} {w : zW} (hk : kd = 1 ∨ kd = 3 ∨ kd = 6) (h : z_rcv kd ci av w = true) : ∃ o as, av = .ref o :: as := by
  have h' : z_hdr av = true := by rcases hk with rfl | rfl | rfl <;> exact h
  unfold z_hdr at h'
  split at h'
  · exact ⟨_, _, rfl⟩
  · cases h'
set_option maxHeartbeats 1000000 in
theorem z_call_ok (E : z_En p s m args meth c cc nL own Ts x b A0 M) (O : z_OK l own cc R M) (J : zJ) (hJ : ∀ pc al st w c1 c2, J pc al st w c1 c2 → z_JJ p l e R s m args below meth c Q x b A0 ad0 n0 nL pc al st w c1 c2) (ik i pc : Nat) (al : zAL) (st : List Value) (w : zW) (c1 c2 : Nat) (h : z_call M J ik i (pc + 3) al st w c1 c2) (hd : (ik = 0 ∧ decode cc pc = .ok (.invokestatic i, 3)) ∨ (ik = 1 ∧ decode cc pc = .ok (.invokevirtual i, 3)) ∨ (ik = 2 ∧ decode cc pc = .ok (.invokespecial i, 3))) : z_JJ p l e R s m args below meth c Q x b A0 ad0 n0 nL pc al st w c1 c2 := by
  intro h1 h2 h3 ad H locs ls hl hP hD hS hG
  obtain ⟨⟨hx, hb, hml, hown, hts⟩, hTT, hK, hA, hI, hX⟩ := id E
  unfold z_call at h
  split at h
  case h_2 => exact h.elim
  rename_i kd ci na mc ms sp e1
  obtain ⟨av, r, rfl, hna, h0⟩ := z_pop_ok h
  clear h
  rw [List.append_nil] at h0
  split at h0
  case h_2 => exact h0.elim
  rename_i hbo
  simp only [Bool.and_eq_true] at hbo
  obtain ⟨hkk, hcats, hrcv⟩ := hbo
  have hcats : z_cats r ≤ 8 := Nat.le_of_ble_eq_true hcats
  have hW8 : ((r.map (z_cv b ad)).map fun v => v.category).sum ≤ 8 := by rw [z_cats_eq]; exact hcats
  have hcok := O.2.2.1 _ (z_look_mem e1)
  rcases hcok with ⟨hkd, w1, w2, w3, w4, w5, w6⟩ | ⟨hkd, y, bytes, maxL, n, ret, rm, hCS, hmc, hms, hroom, hcode, hinit, hnames, hkind⟩
  · dsimp only at hkd w6
    subst hkd
    have hik := z_kk_spec hkk
    have hik2 : ik = 2 := by omega
    subst hik2
    obtain ⟨o, as, rfl⟩ := z_rcv_ref (Or.inr (Or.inr rfl)) hrcv
    have has : as = [] := by
      rw [w6] at hna
      simpa using hna
    subst has
    have hd2 : decode cc pc = .ok (.invokespecial i, 3) := by
      rcases hd with ⟨q, -⟩ | ⟨q, -⟩ | ⟨-, q⟩
      · omega
      · omega
      · exact q
    refine W.objInit (g := F0 m pc ls _) (a := ad o) (rest := r.map (z_cv b ad)) hx hb hown (hts _ (hTT _ w1)) (hts _ (hTT _ w2)) (hts _ (hTT _ w3)) rfl (by rw [hml]; exact hl.1) rfl hd2 w4 ?_ ?_
    · show 2 * 0 + _ + 12 ≤ _
      omega
    · exact hJ _ _ _ _ _ _ h0 h1 h2 h3 ad H locs ls hl hP hD hS hG
  · dsimp only at hkd hCS hmc hms hkind
    have h : z_cgo M J (pc + 3) al r w c1 c2 mc ms sp av := by
      match kd, hkd, h0 with
      | 0, _, h => exact h
      | 1, _, h => exact h
      | 2, _, h => exact h
      | 3, _, h => exact h
      | 4, _, h => exact h
      | 5, _, h => exact h
      | 6, hkd, _ => exact absurd rfl hkd
      | _ + 7, _, h => exact h
    unfold z_cgo at h
    -- what the call does, whatever its kind
    have hgo : ∃ K, sp av w K ∧ (c1 + mc ≤ R.cells ∧ c2 + ms ≤ R.slots) ∧ ∀ (r' : Option Value) (w' : zW) (ad' : Nat → Nat) (H1 : Heap) (locs1 : List Loc), K r' w' → w.1.length ≤ w'.1.length → z_AG ad ad' w.1.length mc → va_P x.1 vwCl (z_ws x ad' w') H1 → va_D A0 (z_ws x ad' w') → va_S A0 s.heap H1 locs1 → W p l e R s m args below meth c H1 locs1 (c1 + mc) (c2 + ms) Q (F0 m (pc + 3) ls ((r'.map (z_cv b ad')).toList ++ r.map (z_cv b ad))) := by
      match mc, h with
      | 0, h =>
        match ms, h with
        | _ + 1, h => exact h.elim
        | 0, h =>
          refine ⟨_, h, ⟨h1, h2⟩, fun r' w' ad' H1 locs1 hk hlen hag a1 a2 a3 => ?_⟩
          have := hag.2 rfl
          subst this
          match r', hk with
          | none, hk => exact hJ _ _ _ _ _ _ hk h1 h2 (by omega) _ H1 locs1 ls hl a1 a2 a3 hG
          | some v, hk => exact hJ _ _ _ _ _ _ hk h1 h2 (by omega) _ H1 locs1 ls hl a1 a2 a3 hG
      | mc' + 1, h =>
        obtain ⟨⟨r1, r2⟩, h⟩ := h
        rw [O.2.2.2.2.2.2.2.1] at r1
        rw [O.2.2.2.2.2.2.2.2] at r2
        split at h
        case h_2 => exact h.elim
        rename_i hwf
        simp only [Bool.and_eq_true] at hwf
        refine ⟨_, h, ⟨r1, r2⟩, fun r' w' ad' H1 locs1 hk hlen hag a1 a2 a3 => ?_⟩
        have hG' : z_AG ad0 ad' n0 R.cells := ⟨fun k hk => (hag.1 k (by omega)).trans (hG.1 k hk), fun hz => by omega⟩
        rw [← z_cvs_agree hag.1 hwf.2]
        match r', hk with
        | none, hk => exact hJ _ _ _ _ _ _ hk r1 r2 (by omega) ad' H1 locs1 ls (hl.agree hag.1 hwf.1) a1 a2 a3 hG'
        | some v, hk => exact hJ _ _ _ _ _ _ hk r1 r2 (by omega) ad' H1 locs1 ls (hl.agree hag.1 hwf.1) a1 a2 a3 hG'
    obtain ⟨K, hsp, hf, kk⟩ := hgo
    have hM := hCS x b ad av w K H.size hsp
    rw [hmc, hms] at hM
    have hfree : ∀ {a : Array Value} {st0 : List Value}, va_Run p l e R s m args below meth c H locs c1 c2 mc ms (F0 m pc ls st0) (r.map (z_cv b ad)) (z_Qc x b ad w K H.size mc a) (z_A x ad w H.size) → W p l e R s m args below meth c H locs c1 c2 Q (F0 m pc ls st0) := fun hr => z_after hr hD hS hA kk
    have S : CallFix p m c cc nL s args Ts own := E.1
    have hpre : ∀ U : State, U.heap = H → s.WarmedH U.vm → z_Pc x b ad av w H.size (av.map (z_cv b ad)).toArray U := fun U hU hWu => ⟨rfl, by rw [hU], by rw [hU]; exact hP, hK.moved hWu, hD.weaken (fun _ _ _ _ => trivial)⟩
    have hcats0 : 2 * (F0 m pc ls (((av.reverse ++ r)).map (z_cv b ad))).monitorRoom + ((r.map (z_cv b ad)).map fun v => v.category).sum ≤ 8 := lv_room hW8
    have hgw := z_good_ws (y := y) (bytes := bytes) (maxL := maxL) (ret := ret) hTT hcode
    have hst : ∀ {o : Nat} {as : List Value}, av = .ref o :: as → ((av.reverse ++ r).map (z_cv b ad)) = (as.map (z_cv b ad)).reverse ++ .ref (ad o) :: r.map (z_cv b ad) := by
      intro o as h
      subst h
      simp [z_cv]
    have hrecv : ∀ {o : Nat} {fs : List (Option (Option Nat))}, w.1[o]? = some (.inl (ci, fs)) → (∃ v, vwCl[ci]? = some v ∧ v.1 = y.cls) → ∃ cellB : Cell, H[ad o]? = some cellB ∧ cellB.vm.isStatics = false ∧ s.vm.findClass y.cls = some cellB.cls := by
      rintro o fs hw ⟨v, hv, hv2⟩
      have := va_recv hK.1 hP hv (z_ws_at (x := x) (ad := ad) hw)
      rw [hv2] at this
      exact this
    have hik := z_kk_spec hkk
    rcases hkind with ⟨k0, k1, k2, k3⟩ | ⟨k0, k1, ⟨host, k2⟩, k3⟩ | ⟨k0, k1, k4, k5, k2, k3⟩ | ⟨k0, k1, k4, k5, ⟨host, k2⟩, k3⟩ | ⟨k0, k1, k4, k2, k3, k5⟩ | ⟨k0, k1, k4, ⟨host, k2⟩, k3, k5⟩
    · have hd2 : decode cc pc = .ok (.invokestatic i, 3) := by rcases hd with ⟨-, q⟩ | ⟨q, -⟩ | ⟨q, -⟩ <;> first | exact q | omega
      refine hfree (va_runS (n := n) S hM (va_cwS n hts (z_good_app hTT (fun w hw => ?_) hgw) rfl hmc hms hnames hroom) ⟨z_Pc_blind, hpre⟩ rfl (by rw [List.length_map]; omega) hl.1 (by show (av.reverse ++ r).map (z_cv b ad) = _; simp) hcats0 hd2 hf)
      simp only [List.mem_cons, List.not_mem_nil, or_false] at hw
      rcases hw with rfl | rfl | rfl
      · exact k2
      · exact k3
      · exact hinit
    · have hd2 : decode cc pc = .ok (.invokestatic i, 3) := by rcases hd with ⟨-, q⟩ | ⟨q, -⟩ | ⟨q, -⟩ <;> first | exact q | omega
      exact hfree (va_runSN (n := n) S hM ⟨va_cnB n hts hgw rfl hmc hms (hK.2 _ k2) (hts _ (hTT _ hinit)) hnames hroom, hts _ (hTT _ k3), trivial⟩ ⟨z_Pc_blind, hpre⟩ rfl (by rw [List.length_map]; omega) hl.1 (by show (av.reverse ++ r).map (z_cv b ad) = _; simp) hcats0 hd2 hf)
    · have hd2 : decode cc pc = .ok (.invokespecial i, 3) := by rcases hd with ⟨q, -⟩ | ⟨q, -⟩ | ⟨-, q⟩ <;> first | exact q | omega
      obtain ⟨o, as, rfl⟩ := z_rcv_ref (Or.inl k0) hrcv
      subst k5
      exact hfree (va_runI (n := n) (As := as.map (z_cv b ad)) S hM (cwI n hts hgw rfl hmc hms (hts _ (hTT _ hinit)) (hts _ (hTT _ k2)) (hts _ (hTT _ k3)) k4 hnames hroom) ⟨z_Pc_blind, hpre⟩ rfl (by rw [List.length_map]; simp only [List.length_cons] at hna; omega) hl.1 (hst rfl) hcats0 hd2 hf)
    · have hd2 : decode cc pc = .ok (.invokespecial i, 3) := by rcases hd with ⟨q, -⟩ | ⟨q, -⟩ | ⟨-, q⟩ <;> first | exact q | omega
      obtain ⟨o, as, rfl⟩ := z_rcv_ref (Or.inr (Or.inl k0)) hrcv
      subst k5
      exact hfree (va_runIN (n := n) (As := as.map (z_cv b ad)) S hM ⟨va_cnB n hts hgw rfl hmc hms (hK.2 _ k2) (hts _ (hTT _ hinit)) hnames hroom, k4, hts _ (hTT _ k3)⟩ ⟨z_Pc_blind, hpre⟩ rfl (by rw [List.length_map]; simp only [List.length_cons] at hna; omega) hl.1 (hst rfl) hcats0 hd2 hf)
    · have hd2 : decode cc pc = .ok (.invokevirtual i, 3) := by rcases hd with ⟨q, -⟩ | ⟨-, q⟩ | ⟨q, -⟩ <;> first | exact q | omega
      obtain ⟨o, as, fs, rfl, hw⟩ := z_rcv_obj (Or.inl k0) hrcv
      refine hfree (va_runV (n := n) (C := y.cls) (As := as.map (z_cv b ad)) S hM (cwV n hts (z_good_app hTT (fun w hw => ?_) hgw) rfl hmc hms ⟨rfl, hnames⟩ hroom) ⟨z_Pc_blind, hrecv hw k4, hpre⟩ rfl (by rw [List.length_map]; simp only [List.length_cons] at hna; omega) hl.1 (hst rfl) hcats0 hd2 hf)
      simp only [List.mem_cons, List.not_mem_nil, or_false] at hw
      rcases hw with rfl | rfl | rfl | rfl
      · exact k2
      · exact k3
      · exact k5
      · exact hinit
    · have hd2 : decode cc pc = .ok (.invokevirtual i, 3) := by rcases hd with ⟨q, -⟩ | ⟨-, q⟩ | ⟨q, -⟩ <;> first | exact q | omega
      obtain ⟨o, as, fs, rfl, hw⟩ := z_rcv_obj (Or.inr k0) hrcv
      exact hfree (va_runVN (n := n) (C := y.cls) (As := as.map (z_cv b ad)) S hM ⟨va_cnB n hts hgw rfl hmc hms (hK.2 _ k2) (hts _ (hTT _ hinit)) hnames hroom, hts _ (hTT _ k3), hts _ (hTT _ k5)⟩ ⟨z_Pc_blind, hrecv hw k4, hpre⟩ rfl (by rw [List.length_map]; simp only [List.length_cons] at hna; omega) hl.1 (hst rfl) hcats0 hd2 hf)
/-- the walk from any row of the code on -/
theorem z_from_sub : ∀ (l : List zI) (pc : Nat), (∀ e ∈ z_from l pc, e ∈ l) ∧ ∀ e l', z_from l pc = e :: l' → e.1 = pc
  | [], pc => ⟨fun e h => h, fun e l' h => by cases h⟩
  | a :: l, pc => by
    obtain ⟨i1, i2⟩ := z_from_sub l pc
    unfold z_from
    cases h : Nat.beq a.1 pc with
    | true =>
      refine ⟨fun e he => he, fun e l' he => ?_⟩
      cases he
      exact Nat.eq_of_beq_eq_true h
    | false => exact ⟨fun e he => List.mem_cons_of_mem _ (i1 e he), i2⟩
theorem z_wp_ok (E : z_En p s m args meth c cc nL own Ts x b A0 M) (O : z_OK l own cc R M) (hR : z_Rt p l e R s m args below meth c Q x b A0 ad0 n0 cc M post) : ∀ (n : Nat) (cs : List zI) (pc : Nat) (al : zAL) (st : List Value) (w : zW) (c1 c2 : Nat), (∀ e ∈ cs, e ∈ M.1) → (∀ e l', cs = e :: l' → e.1 = pc) → z_wp M post (z_JJ p l e R s m args below meth c Q x b A0 ad0 n0 nL) n cs al st w c1 c2 → z_JJ p l e R s m args below meth c Q x b A0 ad0 n0 nL pc al st w c1 c2
  | 0, cs, pc, al, st, w, c1, c2, _, _, h => h.elim
  | n + 1, [], pc, al, st, w, c1, c2, _, _, h => h.elim
  | n + 1, (pc0, nx, tg, ins) :: cl, pc, al, st, w, c1, c2, hin, hpc, h => by
    have hpc0 : pc0 = pc := hpc _ _ rfl
    subst hpc0
    refine z_step_ok E O hR (z_call_ok E O) (J := fun pc' al' st' w' c1' c2' => z_nxt M (z_JJ p l e R s m args below meth c Q x b A0 ad0 n0 nL) (z_wp M post (z_JJ p l e R s m args below meth c Q x b A0 ad0 n0 nL) n) cl pc' al' st' w' c1' c2') (fun pc' al' st' w' c1' c2' hq => ?_) (O.1 _ (hin _ List.mem_cons_self)) h
    unfold z_nxt at hq
    have hfrom : z_wp M post (z_JJ p l e R s m args below meth c Q x b A0 ad0 n0 nL) n (z_from M.1 pc') al' st' w' c1' c2' → z_JJ p l e R s m args below meth c Q x b A0 ad0 n0 nL pc' al' st' w' c1' c2' := fun hq => z_wp_ok E O hR n _ pc' al' st' w' c1' c2' (z_from_sub M.1 pc').1 (z_from_sub M.1 pc').2 hq
    split at hq
    · obtain ⟨al2, q1, q2, q3⟩ := z_msk_ok _ _ _ hq
      intro g1 g2 g3 ad H locs ls hl
      exact q1 g1 g2 g3 ad H locs ls (hl.weaken q2 q3)
    · split at hq
      · rename_i e' l'
        split at hq
        · rename_i hbe
          refine z_wp_ok E O hR n _ pc' al' st' w' c1' c2' (fun e he => hin e (List.mem_cons_of_mem _ he)) (fun e l' he => ?_) hq
          cases he
          exact Nat.eq_of_beq_eq_true hbe
        · exact hfrom hq
      · exact hfrom hq
end ZC
/-! a method's contract out of its walk -/
def z_arl : List Value → Nat → zAL
  | [], n => List.replicate n none
  | .long a :: r, n => some (.long a) :: none :: z_arl r (n - 2)
  | .double a :: r, n => some (.double a) :: none :: z_arl r (n - 2)
  | v :: r, n => some v :: z_arl r (n - 1)
theorem z_arl_mem {b : Nat} {ad : Nat → Nat} : ∀ (vs : List Value) (n i k : Nat) (v : Value), (z_arl vs n)[k]? = some (some v) → (i + k, z_cv b ad v) ∈ lv_args i (vs.map (z_cv b ad))
  | [], n, i, k, v, h => by
    unfold z_arl at h
    rw [List.getElem?_replicate] at h
    split at h <;> simp at h
  | u :: r, n, i, k, v, h => by
    have two : ∀ (w1 : Value) (h2 : w1.category = 2), (some w1 :: none :: z_arl r (n - 2))[k]? = some (some v) → (i + k, z_cv b ad v) ∈ (i, z_cv b ad w1) :: lv_args (if (z_cv b ad w1).category = 2 then i + 2 else i + 1) (r.map (z_cv b ad)) := by
      intro w1 h2 h
      rw [z_cv_cat, if_pos h2]
      match k, h with
      | 0, h => simp only [List.getElem?_cons_zero, Option.some.injEq] at h; subst h; exact List.mem_cons_self
      | 1, h => simp at h
      | k + 2, h =>
        have := z_arl_mem (b := b) (ad := ad) r (n - 2) (i + 2) k v (by simpa using h)
        rw [show i + (k + 2) = i + 2 + k by omega]
        exact List.mem_cons_of_mem _ this
    have one : ∀ (w1 : Value) (h2 : w1.category = 1), (some w1 :: z_arl r (n - 1))[k]? = some (some v) → (i + k, z_cv b ad v) ∈ (i, z_cv b ad w1) :: lv_args (if (z_cv b ad w1).category = 2 then i + 2 else i + 1) (r.map (z_cv b ad)) := by
      intro w1 h2 h
      rw [z_cv_cat, if_neg (by omega)]
      match k, h with
      | 0, h => simp only [List.getElem?_cons_zero, Option.some.injEq] at h; subst h; exact List.mem_cons_self
      | k + 1, h =>
        have := z_arl_mem (b := b) (ad := ad) r (n - 1) (i + 1) k v (by simpa using h)
        rw [show i + (k + 1) = i + 1 + k by omega]
        exact List.mem_cons_of_mem _ this
    cases u with
    | long a => exact two _ rfl h
    | double a => exact two _ rfl h
    | int a => exact one _ rfl h
    | ref a => exact one _ rfl h
    | float a => exact one _ rfl h
    | null => exact one _ rfl h
    | retAddr a => exact one _ rfl h
def z_szs : List Value → Nat
  | [] => 0
  | v :: r => v.category + z_szs r
theorem z_szs_eq (b : Nat) (ad : Nat → Nat) : ∀ (vs : List Value), (lg_sl (vs.map (z_cv b ad))).length = z_szs vs
  | [] => rfl
  | v :: r => by
    have h := z_szs_eq b ad r
    have hc := z_cv_cat b ad v
    unfold lg_sl at h ⊢
    rw [List.map_cons, List.flatMap_cons, List.length_append, h]
    rcases lv_cat v with h1 | h1
    · rw [if_neg (by omega)]; show 1 + _ = v.category + _; omega
    · rw [if_pos (by omega)]; show 2 + _ = v.category + _; omega
theorem z_arl_len : ∀ (vs : List Value) (n : Nat), z_szs vs ≤ n → (z_arl vs n).length = n
  | [], n, _ => by simp [z_arl]
  | u :: r, n, h => by
    have two : 2 + z_szs r ≤ n → (z_arl r (n - 2)).length = n - 2 := fun h => z_arl_len r (n - 2) (by omega)
    have one : 1 + z_szs r ≤ n → (z_arl r (n - 1)).length = n - 1 := fun h => z_arl_len r (n - 1) (by omega)
    cases u with
    | long a => have := two h; show (_ :: _ :: z_arl r (n - 2)).length = n; simp only [List.length_cons]; have h' : 2 + z_szs r ≤ n := h; omega
    | double a => have := two h; show (_ :: _ :: z_arl r (n - 2)).length = n; simp only [List.length_cons]; have h' : 2 + z_szs r ≤ n := h; omega
    | int a => have := one h; show (_ :: z_arl r (n - 1)).length = n; simp only [List.length_cons]; have h' : 1 + z_szs r ≤ n := h; omega
    | ref a => have := one h; show (_ :: z_arl r (n - 1)).length = n; simp only [List.length_cons]; have h' : 1 + z_szs r ≤ n := h; omega
    | float a => have := one h; show (_ :: z_arl r (n - 1)).length = n; simp only [List.length_cons]; have h' : 1 + z_szs r ≤ n := h; omega
    | null => have := one h; show (_ :: z_arl r (n - 1)).length = n; simp only [List.length_cons]; have h' : 1 + z_szs r ≤ n := h; omega
    | retAddr a => have := one h; show (_ :: z_arl r (n - 1)).length = n; simp only [List.length_cons]; have h' : 1 + z_szs r ≤ n := h; omega
/-- what a method's walk must show: for any judgement at its cuts that the walk from there gives -/
def z_PO (M : zM) (nL : Nat) (post : Option Value → zW → Prop) (av : List Value) (w : zW) : Prop :=
  z_szs av ≤ nL ∧ ∀ Jm : zJ, (∀ (n pc : Nat) (al : zAL) (st : List Value) (w : zW) (c1 c2 : Nat), z_wp M post Jm n (z_from M.1 pc) al st w c1 c2 → Jm pc al st w c1 c2) → Jm 0 (z_arl av nL) [] w 0 0
def z_rcok (rc : Nat) (ret : Option FieldType) : Prop := (rc = 0 ∧ ret = none) ∨ (rc = 1 ∧ ret = some .int) ∨ (rc = 2 ∧ ret = some .boolean) ∨ (rc = 3 ∧ ret = some .long)
theorem z_meth {l : Launch} {y : MethodName} {cc : ByteArray} {nL : Nat} {ret : Option FieldType} {rm : Room} {sp : zSp} {M : zM} (hpl : plainName y.cls = true) (hrc : z_rcok M.2.2.2.2.2.2.1 ret) (hini : M.2.2.2.2.2.2.2.1 = true → y.name = "<init>") (hscr : M.2.2.2.2.2.2.2.2.1.1 = false) (O : z_OK l y.cls cc (headSpec (.code y cc nL ret :: zTT) rm).room M)
    (hPO : ∀ (av : List Value) (w : zW) (K : Option Value → zW → Prop), sp av w K → z_PO M nL K av w) : z_CS l y cc nL ret rm sp := by
  intro x b ad av w K sz hsp
  obtain ⟨hsz, hPO⟩ := hPO av w K hsp
  refine Met.ofW (cc := cc) (maxL := nL) (ret := ret) hpl rfl ?_
  intro p e s m args below meth c s₁ B hml hv
  obtain ⟨rfl, hsz2, hP, hK, hD0⟩ := hv
  have hx := B.exec
  have hb := B.bytes
  have hr := B.returns
  have hts := atoms_spec (ws := .code y cc nL ret :: zTT) B.pre
  have hown : s.vm.findClass y.cls = some m.cls := findClass_of_methodNamed B.named
  have hlocks := B.notSynchronized
  have hname : meth.name = y.name := (name_of_methodNamed B.named B.method).1
  subst hsz2
  have hD : va_D (z_A x ad w s.heap.size) (z_ws x ad w) := hD0.self (sz := s.heap.size)
  have hA : ∀ q : Nat, s.heap.size ≤ q → z_A x ad w s.heap.size q := fun q h => Or.inr h
  have E : z_En p s m (av.map (z_cv b ad)).toArray meth c cc nL y.cls (.code y cc nL ret :: zTT) x b (z_A x ad w s.heap.size) M := ⟨⟨hx, hb, hml, hown, hts⟩, fun w hw => List.mem_cons_of_mem _ hw, hK, hA, fun h => hname.trans (hini h), fun h => by rw [hscr] at h; cases h⟩
  have hl := lv_entry (av.map (z_cv b ad)) (n := nL) (by rw [z_szs_eq]; exact hsz)
  rw [lg_entry_eq]
  generalize (lg_sl (av.map (z_cv b ad)) ++ List.replicate (nL - (lg_sl (av.map (z_cv b ad))).length) Slot.unset).toArray = ls at hl ⊢
  have hLH : z_LH b ad ls nL (z_arl av nL) := ⟨hl.1, hl.2.1, Nat.le_of_eq (z_arl_len av nL hsz), fun i v q => by
    have := hl.2.2 _ (z_arl_mem (b := b) (ad := ad) av nL 0 i v q)
    simpa using this⟩
  have hR : z_Rt p l e (headSpec (.code y cc nL ret :: zTT) rm).room s m (av.map (z_cv b ad)).toArray below meth c (MQ below (z_Qc x b ad w K s.heap.size rm.cells) (av.map (z_cv b ad)).toArray s rm.cells rm.slots (z_A x ad w s.heap.size)) x b (z_A x ad w s.heap.size) ad w.1.length cc M K := by
    intro r w' hk ad' H locs ls' pc c1 c2 g1 g2 g3 hP' hD' hS' hG' hend
    have hq : ∀ t : State, t.heap = H → s.WarmedH t.vm → z_Qc x b ad w K s.heap.size rm.cells (av.map (z_cv b ad)).toArray s (.returned (r.map (z_cv b ad'))) t := fun t ht _ => ⟨⟨r, w', ad', rfl, hk, g3, hG', by rw [ht]; exact hP', hD'⟩, hS'.F ht⟩
    refine W.widen (k := rm.cells) (n := rm.slots) g1 g2 ?_
    rcases hend with ⟨a, rfl, hd, hz⟩ | ⟨a, rfl, hd, hz⟩ | ⟨rfl, hd, hz⟩
    · rcases hrc with ⟨q1, q2⟩ | ⟨q1, q2⟩ | ⟨q1, q2⟩ | ⟨q1, q2⟩
      · rw [q1] at hz; exact hz.elim
      · exact W.iret hx hb (hr.trans q2) hq hS'.2.2 hd
      · rw [q1] at hz
        exact W.zret hx hb (hr.trans q2) (by rcases hz with rfl | rfl <;> rfl) hq hS'.2.2 hd
      · rw [q1] at hz; exact hz.elim
    · rcases hrc with ⟨q1, q2⟩ | ⟨q1, q2⟩ | ⟨q1, q2⟩ | ⟨q1, q2⟩
      · omega
      · omega
      · omega
      · exact W.lret hx hb (hr.trans q2) hq hS'.2.2 hd
    · rcases hrc with ⟨q1, q2⟩ | ⟨q1, q2⟩ | ⟨q1, q2⟩ | ⟨q1, q2⟩
      · exact W.vret hx hb (hr.trans q2) hq hS'.2.2 hd
      · omega
      · omega
      · omega
  have key := hPO (z_JJ p l e (headSpec (.code y cc nL ret :: zTT) rm).room s m (av.map (z_cv b ad)).toArray below meth c (MQ below (z_Qc x b ad w K s.heap.size rm.cells) (av.map (z_cv b ad)).toArray s rm.cells rm.slots (z_A x ad w s.heap.size)) x b (z_A x ad w s.heap.size) ad w.1.length nL)
    (fun n pc al st w' c1 c2 h => z_wp_ok E O hR n _ pc al st w' c1 c2 (z_from_sub M.1 pc).1 (z_from_sub M.1 pc).2 h)
  exact key (Nat.zero_le _) (Nat.zero_le _) (Nat.le_refl _) ad s.heap [] ls hLH hP hD va_S.rf ⟨fun _ _ => rfl, fun _ => rfl⟩
