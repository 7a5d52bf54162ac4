/-! calls, and the whole walk -/
theorem zTT_inTs {Ts : List Cond} (hTT : ∀ w ∈ zTT, w ∈ Ts) {w : Cond} (h : w ∈ zTT) : w ∈ Ts ∧ ((w.onTables && w.keeps) = true ∨ ∃ ty, w = .arrayClass ty) := ⟨hTT _ h, good_of_word (zTT_good h)⟩
theorem z_good_ws {Ts : List Cond} (hTT : ∀ w ∈ zTT, w ∈ Ts) {y : MethodName} {bytes : ByteArray} {maxL : Nat} {ret : Option FieldType} (hc : Cond.code y bytes maxL ret ∈ zTT) : GoodIn Ts (.code y bytes maxL ret :: zTT) := by
  intro w hw
  rcases List.mem_cons.mp hw with rfl | hw
  · exact zTT_inTs hTT hc
  · exact zTT_inTs hTT hw
theorem z_good_app {Ts a ws : List Cond} (hTT : ∀ w ∈ zTT, w ∈ Ts) (h1 : ∀ w ∈ a, w ∈ zTT) (h2 : GoodIn Ts ws) : GoodIn Ts (a ++ ws) := by
  intro w hw
  rcases List.mem_append.mp hw with hw | hw
  · exact zTT_inTs hTT (h1 w hw)
  · exact h2 w hw
theorem z_Pc_blind {x : zX} {b : Nat → Nat} {ad : Nat → Nat} {av : List Value} {w : zW} {sz : Nat} : FrameBlind (z_Pc x b ad av w sz) := by
  rintro a U g mk ⟨q1, q2, q3, q4, q5, q6⟩
  exact ⟨q1, q2, q3, q4.same rfl, q5, q6.same rfl⟩
theorem z_Pcs_blind {x : zX} {b : Nat → Nat} {ad : Nat → Nat} {av : List Value} {w : zW} {sz L : Nat} {xs : Nat → Int32} : FrameBlind (z_Pcs x b ad av w sz L xs) := by
  rintro a U g mk ⟨h1, h2, h3⟩
  exact ⟨z_Pc_blind _ _ _ _ h1, va_X.moved (Vm.Alike.refl _) h2, h3⟩
section ZC
variable {p : Program} {l : Launch} {e : Env} {R : Room} {s : State} {m : MethodId} {args : Array Value} {below : List Frame} {meth : Method} {c : Code} {Q : State → Prop} {cc : ByteArray} {own : String} {Ts : List Cond} {x : zX} {b : Nat → Nat} {A0 : Nat → Prop} {ad0 : Nat → Nat} {n0 nL : Nat} {M : zM} {post : Option Value → zW → Prop}
/-- behind a call -/
theorem z_after {H : Heap} {locs : List Loc} {c1 c2 mc ms pc : Nat} {ls : Array Slot} {st0 rest : List Value} {a : Array Value} {ad : Nat → Nat} {w : zW} {K : Option Value → zW → Prop}
    (hr : va_Run p l e R s m args below meth c H locs c1 c2 mc ms (F0 m pc ls st0) rest (z_Qc x b ad w K H.size mc a) (z_A x ad w H.size)) (hD : va_D A0 (z_ws x ad w)) (hS : va_S A0 s.heap H locs) (hA : ∀ q : Nat, s.heap.size ≤ q → A0 q)
    (kk : ∀ (r : Option Value) (w' : zW) (ad' : Nat → Nat) (H1 : Heap) (locs1 : List Loc), K r w' → w.1.length ≤ w'.1.length → z_AG ad ad' w.1.length mc → va_P x.1 vwCl (z_ws x ad' w') H1 → va_D A0 (z_ws x ad' w') → va_S A0 s.heap H1 locs1 → W p l e R s m args below meth c H1 locs1 (c1 + mc) (c2 + ms) Q (F0 m (pc + 3) ls ((r.map (z_cv b ad')).toList ++ rest))) : W p l e R s m args below meth c H locs c1 c2 Q (F0 m pc ls st0) := by
  intro T hT X
  obtain ⟨v, st₀, t, T', L, h0, X', hL, e1, e2, ⟨⟨r, w', ad', hv, hk, hlen, hag, hP', hD'⟩, hz, hkeep⟩, st⟩ := hr T hT X
  cases hv
  rw [h0] at hz hkeep
  have hAA : ∀ q, z_A x ad w H.size q → A0 q := by
    intro q hq
    rcases hq with ⟨k, e, hq⟩ | hq
    · exact hD.2 k (q, e) hq
    · exact hA q (Nat.le_trans hS.1 hq)
  obtain ⟨t2, a1, b1⟩ := kk r w' ad' T'.heap (locs ++ L) hk hlen hag (by rw [e1]; exact hP') (hD'.weaken (fun k q _ h => hAA q.1 h))
    ⟨Nat.le_trans hS.1 (by rw [e1]; exact hz), fun q h1 h2 => by rw [e1, hkeep q (Nat.lt_of_lt_of_le h1 hS.1) (fun z => h2 (hAA q z))]; exact hS.2.1 q h1 h2, fun q hq => by
      rcases List.mem_append.mp hq with h | h
      · exact hS.2.2 q h
      · exact hAA _ (hL q h)⟩ T' rfl X'
  exact ⟨t2, st t2 a1, b1⟩
theorem z_kk_spec {ik kd : Nat} (h : z_kk ik kd = true) : (ik = 0 ∧ (kd = 0 ∨ kd = 2 ∨ kd = 7 ∨ kd = 8)) ∨ (ik = 1 ∧ (kd = 4 ∨ kd = 5 ∨ kd = 9 ∨ kd = 10 ∨ kd = 13)) ∨ (ik = 2 ∧ (kd = 1 ∨ kd = 3 ∨ kd = 6 ∨ kd = 11)) := by
  unfold z_kk at h
  split at h <;> simp at h ⊢
theorem z_aw {H : Heap} {locs : List Loc} {ad : Nat → Nat} {w : zW} (hD : va_D A0 (z_ws x ad w)) (hS : va_S A0 s.heap H locs) (hA : ∀ q : Nat, s.heap.size ≤ q → A0 q) : ∀ q, z_A x ad w H.size q → A0 q := by
  intro q hq
  rcases hq with ⟨k, e, hq⟩ | hq
  · exact hD.2 k (q, e) hq
  · exact hA q (Nat.le_trans hS.1 hq)
/-- who gets a virtual call: an object of the world, or a String that is a constant -/
theorem z_hdo_obj {ci : Nat} {av : List Value} {w : zW} (h : z_hdo ci av w = true) : (∃ o as fs, av = .ref o :: as ∧ w.1[o]? = some (.inl (ci, fs))) ∨ ∃ k as, av = .retAddr (2 * k + 1) :: as ∧ k < 3 ∧ ci = 10 := by
  unfold z_hdo at h
  split at h
  · rename_i o as
    split at h
    · rename_i c' fs e
      have := Nat.eq_of_beq_eq_true h
      subst this
      exact Or.inl ⟨o, as, fs, rfl, by rw [← z_nth_eq]; exact e⟩
    · cases h
  · rename_i c as
    rw [Bool.and_eq_true] at h
    have h1 := Nat.eq_of_beq_eq_true h.1
    have h2 := h.2
    unfold z_cs at h2
    split at h2
    · exact Or.inr ⟨0, as, rfl, by decide, h1⟩
    · exact Or.inr ⟨1, as, rfl, by decide, h1⟩
    · exact Or.inr ⟨2, as, rfl, by decide, h1⟩
    · cases h2
  · cases h
theorem z_rcv_ref {kd ci : Nat} {av : List Value} {w : zW} (hk : kd = 1 ∨ kd = 3 ∨ kd = 6) (h : z_rcv kd ci av w = true) : ∃ o as, av = .ref o :: as := by
  have h' : z_hdr av = true := by rcases hk with rfl | rfl | rfl <;> exact h
  unfold z_hdr at h'
  split at h'
  · exact ⟨_, _, rfl⟩
  · cases h'
theorem nfw_ac : nativeFrameWords "java/lang/System" "arraycopy" 5 = 7 := by decide
set_option maxHeartbeats 1000000 in
theorem z_cpyk_ok (E : z_En p s m args meth c cc nL own Ts x b A0 M) (J : zJ) (hJ : ∀ pc al st w c1 c2, J pc al st w c1 c2 → z_JJ p l e R s m args below meth c Q x b A0 ad0 n0 nL pc al st w c1 c2) {i pc : Nat} {al : zAL} {av r : List Value} {w : zW} {c1 c2 : Nat} (h : z_cpyk M J (pc + 3) al r w c1 c2 av) (hd : decode cc pc = .ok (.invokestatic i, 3)) (hk : Cond.methodLink own i acN ∈ zTT ∧ Cond.native acN ∈ zTT ∧ Cond.static acN ∈ zTT ∧ Cond.initialized "java/lang/System" ∈ zTT ∧ 1 ≤ R.frames ∧ 26 ≤ R.locals) (hcats : z_cats r ≤ 8) : z_JJ p l e R s m args below meth c Q x b A0 ad0 n0 nL pc al (av.reverse ++ r) w c1 c2 := by
  intro h1 h2 h3 ad H locs ls hl hP hD hS hG
  obtain ⟨⟨hx, hb, hml, hown, hts⟩, hTT, hK, hA, hI, hC, hX⟩ := id E
  obtain ⟨k1, k2, k3, k4, k5, k6⟩ := hk
  have hW8 : ((r.map (z_cv b ad)).map fun v => v.category).sum ≤ 8 := by rw [z_cats_eq]; exact hcats
  have hloc : ((r.map (z_cv b ad)).map fun v => v.category).sum + (nativeFrameWords "java/lang/System" "arraycopy" 5 + 11) ≤ R.locals := by rw [nfw_ac]; omega
  have fin : ∀ (o2 N2 : Nat) (g : Nat → Int32), w.1[o2]? = some (.inr (2, N2)) → (z_ws x ad w).set o2 (ad o2, .inl (x.2.2.2.1, N2, .inl g)) = z_ws x ad (w.1, z_row w.2.1 o2 g, w.2.2) := fun o2 N2 g hG2 => z_ws_set (sh' := .inr (2, N2)) (List.getElem?_eq_some_iff.mp hG2).1 (z_set_same hG2) (fun o' ho => by funext j; simp [z_row, ho]) (fun _ _ => rfl) (by
    have : z_row w.2.1 o2 g o2 = g := by funext j; simp [z_row]
    rw [this]
    rfl)
  unfold z_cpyk at h
  split at h
  · rename_i o sp o2 dp n
    obtain ⟨t, N, hG1, h⟩ := z_arr_ok h
    obtain ⟨t2, N2, hG2, h⟩ := z_arr_ok h
    have he1 := z_ws_at (x := x) (ad := ad) hG1
    have he2 := z_ws_at (x := x) (ad := ad) hG2
    split at h
    · split at h
      · obtain ⟨⟨a1, a2, a3, a4, a5, a6⟩, q⟩ := h
        refine va_copyi hx hb (hml.trans hl.1.symm) hown (hts _ (hTT _ k1)) (hts _ (hTT _ k2)) (hts _ (hTT _ k3)) (hts _ (hTT _ k4)) hK.1 hP hD hS o o2 2 2 he1 he2 rfl rfl rfl a1 a2 a3 a4 a5 a6 k5 hloc hd (fun H1 locs1 p1 p2 p3 => ?_)
        rw [fin o2 N2 _ hG2] at p1 p2
        exact hJ _ _ _ _ _ _ q h1 h2 h3 ad H1 locs1 ls hl p1 p2 p3 hG
      · exact h.elim
    · exact h.elim
  · rename_i k sp o2 dp n
    split at h
    · rename_i hcb
      obtain ⟨t2, N2, hG2, h⟩ := z_arr_ok h
      have he2 := z_ws_at (x := x) (ad := ad) hG2
      split at h
      · obtain ⟨⟨a1, a2, a3, a4, a5⟩, q⟩ := h
        have hk3 : ∃ j, j < 3 ∧ k = 2 * j + 2 ∧ ([1, 1, 2] : List Nat).getD j 0 = (z_cl k).length ∧ ([[42], [49], [44, 49]] : List (List Int32)).getD j [] = z_cl k ∧ ∀ i, fits .byte (.int ((z_cl k).getD i 0)) = true := by
          have fz : ∀ (l : List Int32), l.all (fun v => fits .byte (.int v)) = true → ∀ i, fits .byte (.int (l.getD i 0)) = true := by
            intro l hl i
            rw [List.getD_eq_getElem?_getD]
            cases hi : l[i]? with
            | none => rfl
            | some v => exact List.all_eq_true.mp hl v (List.mem_of_getElem? hi)
          unfold z_cb at hcb
          split at hcb
          · exact ⟨0, by decide, rfl, rfl, rfl, fz _ (by decide)⟩
          · exact ⟨1, by decide, rfl, rfl, rfl, fz _ (by decide)⟩
          · exact ⟨2, by decide, rfl, rfl, rfl, fz _ (by decide)⟩
          · cases hcb
        obtain ⟨j, hj, hkj, e1, e2, e3⟩ := hk3
        have hT := (hC.1.1 j hj).2.2.2
        rw [e1, e2] at hT
        have hcv : z_cv b ad (.retAddr k) = .ref (b (2 * j + 2)) := by rw [hkj]; rfl
        show W p l e R s m args below meth c H locs c1 c2 Q (F0 m pc ls (.int n :: .int dp :: .ref (ad o2) :: .int sp :: z_cv b ad (.retAddr k) :: r.map (z_cv b ad)))
        rw [hcv]
        refine vk_copyt hx hb (hml.trans hl.1.symm) hown (hts _ (hTT _ k1)) (hts _ (hTT _ k2)) (hts _ (hTT _ k3)) (hts _ (hTT _ k4)) hK.1 hP hD hS (f := fun i => (z_cl k).getD i 0) hT o2 2 he2 rfl a1 a2 a3 a4 a5 (fun i _ => e3 _) k5 hloc hd (fun H1 locs1 p1 p2 p3 => ?_)
        rw [fin o2 N2 _ hG2] at p1 p2
        exact hJ _ _ _ _ _ _ q h1 h2 h3 ad H1 locs1 ls hl p1 p2 p3 hG
      · exact h.elim
    · exact h.elim
  · exact h.elim
set_option maxHeartbeats 1000000 in
theorem z_clnk_ok (E : z_En p s m args meth c cc nL own Ts x b A0 M) (O : z_OK l own cc R M) (J : zJ) (hJ : ∀ pc al st w c1 c2, J pc al st w c1 c2 → z_JJ p l e R s m args below meth c Q x b A0 ad0 n0 nL pc al st w c1 c2) {i pc : Nat} {al : zAL} {av r : List Value} {w : zW} {c1 c2 : Nat} (h : z_clnk M J (pc + 3) al r w c1 c2 av) (hd : decode cc pc = .ok (.invokevirtual i, 3)) (hk : Cond.methodLink own i clB ∈ zTT ∧ Cond.sameMethod "[B" "java/lang/Object" "clone" "()Ljava/lang/Object;" ∈ zTT ∧ Cond.native clO ∈ zTT ∧ Cond.instanceMethod clO ∈ zTT ∧ Cond.selects "[B" clB clO ∈ zTT ∧ 1 ≤ R.frames ∧ 22 ≤ R.locals) (hcats : z_cats r ≤ 8) : z_JJ p l e R s m args below meth c Q x b A0 ad0 n0 nL pc al (av.reverse ++ r) w c1 c2 := by
  intro h1 h2 h3 ad H locs ls hl hP hD hS hG
  obtain ⟨⟨hx, hb, hml, hown, hts⟩, hTT, hK, hA, hI, hC, hX⟩ := id E
  obtain ⟨k1, k2, k3, k4, k5, k6, k7⟩ := hk
  have hW8 : ((r.map (z_cv b ad)).map fun v => v.category).sum ≤ 8 := by rw [z_cats_eq]; exact hcats
  unfold z_clnk at h
  split at h
  · rename_i o
    obtain ⟨t, N, hG1, h⟩ := z_arr_ok h
    have he := z_ws_at (x := x) (ad := ad) hG1
    split at h
    · obtain ⟨⟨r1, r2⟩, hwf, hfit, q⟩ := h
      rw [O.2.2.2.2.2.2.2.1] at r1
      rw [O.2.2.2.2.2.2.2.2.1] at r2
      simp only [Bool.and_eq_true] at hwf
      obtain ⟨wf1, wf2, wf3⟩ := hwf
      have q := z_psh_ok q
      rw [Nat.zero_add] at q
      refine va_clone (ad := "[B") (x := (N, .inl (w.2.1 o))) (ty := .byte) hx hb (hml.trans hl.1.symm) hown (hts _ (hTT _ k1)) (hts _ (hTT _ k2)) (hts _ (hTT _ k3)) (hts _ (hTT _ k4)) (hts _ (hTT _ k5)) hC.2.2.2.2.2 hK.1 hP hD hS hA o 2 he rfl (hK.1.2 2 (x.2.2.2.1, .byte) rfl).2 (fun i v hv => ?_) k6 (Nat.le_trans (Nat.add_le_add_right hW8 14) k7) r1 r2 hd (fun qn H1 hK1 a1 a2 a3 => ?_)
      · have hv : (arrV x.2.2.2.1 N (fun j => .int (w.2.1 o j))).slots[i]? = some v := hv
        have hi : i < N := by
          have := (Array.getElem?_eq_some_iff.mp hv).1
          rwa [arrV_size] at this
        rw [arrV_read _ _ hi] at hv
        cases hv
        exact hfit i hi
      · have hag : ∀ k, k < w.1.length → (fun k => if k = w.1.length then qn else ad k) k = ad k := fun k hk => if_neg (by omega)
        have hz0 : z_row w.2.1 w.1.length (w.2.1 o) w.1.length = w.2.1 o := by funext z; simp [z_row]
        have hpush := z_ws_push (x := x) (ad := ad) (ad' := fun k => if k = w.1.length then qn else ad k) (G := w.1) (wi := w.2.1) (wi' := z_row w.2.1 w.1.length (w.2.1 o)) (wl := w.2.2) (wl' := w.2.2) (q := qn) (sh := .inr (2, N)) (E := .inl (x.2.2.2.1, N, .inl (w.2.1 o))) wf3 hag (if_pos rfl) (fun o' ho => by funext i'; simp [z_row, Nat.ne_of_lt ho]) (fun _ _ => rfl) (by rw [hz0]; rfl)
        rw [hpush] at a1 a2
        have := hJ _ _ _ _ _ _ q r1 r2 (by show n0 ≤ (w.1 ++ [_]).length; rw [List.length_append]; omega) (fun k => if k = w.1.length then qn else ad k) H1 locs ls (hl.agree hag wf1) a1 a2 a3 ⟨fun k hk => (hag k (by omega)).trans (hG.1 k hk), fun hz => by omega⟩
        rw [List.map_cons, z_cvs_agree hag wf2] at this
        have e9 : z_cv b (fun k => if k = w.1.length then qn else ad k) (Value.ref w.1.length) = Value.ref qn := by show Value.ref (if w.1.length = w.1.length then qn else ad w.1.length) = Value.ref qn; rw [if_pos rfl]
        rw [e9] at this
        exact this
    · exact h.elim
  · exact h.elim
set_option maxHeartbeats 2000000 in
theorem z_call_ok (E : z_En p s m args meth c cc nL own Ts x b A0 M) (O : z_OK l own cc R M) (J : zJ) (hJ : ∀ pc al st w c1 c2, J pc al st w c1 c2 → z_JJ p l e R s m args below meth c Q x b A0 ad0 n0 nL pc al st w c1 c2) (ik i pc : Nat) (al : zAL) (st : List Value) (w : zW) (c1 c2 : Nat) (h : z_call M J ik i (pc + 3) al st w c1 c2) (hd : (ik = 0 ∧ decode cc pc = .ok (.invokestatic i, 3)) ∨ (ik = 1 ∧ decode cc pc = .ok (.invokevirtual i, 3)) ∨ (ik = 2 ∧ decode cc pc = .ok (.invokespecial i, 3))) : z_JJ p l e R s m args below meth c Q x b A0 ad0 n0 nL pc al st w c1 c2 := by
  unfold z_call at h
  split at h
  case h_2 => exact h.elim
  rename_i kd ci na mc ms sp e1
  obtain ⟨av, r, rfl, hna, h0⟩ := z_pop_ok h
  clear h
  rw [List.append_nil] at h0
  split at h0
  case h_2 => exact h0.elim
  rename_i hbo
  simp only [Bool.and_eq_true] at hbo
  obtain ⟨hkk, hcats, hrcv⟩ := hbo
  have hcats : z_cats r ≤ 8 := Nat.le_of_ble_eq_true hcats
  have hik := z_kk_spec hkk
  have hcok := O.2.2.1 _ (z_look_mem e1)
  rcases hcok with ⟨hkd, hk⟩ | ⟨hkd, hk⟩ | ⟨hkd, hscr, y, bytes, maxL, n, ret, rm, hCS, hmc, hms, hroom, hcode, hinit, hnames, k1, k2, k3⟩ | ⟨hkd, w1, w2, w3, w4, w5, w6⟩ | ⟨hkd, hkd7, hkd8, hkd9, y, bytes, maxL, n, ret, rm, hCS, hmc, hms, hroom, hcode, hinit, hnames, hkind⟩
  · dsimp only at hkd
    subst hkd
    have hd2 : decode cc pc = .ok (.invokestatic i, 3) := by rcases hd with ⟨-, q⟩ | ⟨q, -⟩ | ⟨q, -⟩ <;> first | exact q | omega
    exact z_cpyk_ok E J hJ h0 hd2 hk hcats
  · dsimp only at hkd
    subst hkd
    have hd2 : decode cc pc = .ok (.invokevirtual i, 3) := by rcases hd with ⟨q, -⟩ | ⟨-, q⟩ | ⟨q, -⟩ <;> first | exact q | omega
    exact z_clnk_ok E O J hJ h0 hd2 hk hcats
  all_goals
    intro h1 h2 h3 ad H locs ls hl hP hD hS hG
    obtain ⟨⟨hx, hb, hml, hown, hts⟩, hTT, hK, hA, hI, hC, hX⟩ := id E
    have hW8 : ((r.map (z_cv b ad)).map fun v => v.category).sum ≤ 8 := by rw [z_cats_eq]; exact hcats
  all_goals try
    -- what the call does, whatever its kind
    have hgo : z_cgo M J (pc + 3) al r w c1 c2 mc ms sp av → ∃ K, sp av w K ∧ (c1 + mc ≤ R.cells ∧ c2 + ms ≤ R.slots) ∧ ∀ (r' : Option Value) (w' : zW) (ad' : Nat → Nat) (H1 : Heap) (locs1 : List Loc), K r' w' → w.1.length ≤ w'.1.length → z_AG ad ad' w.1.length mc → va_P x.1 vwCl (z_ws x ad' w') H1 → va_D A0 (z_ws x ad' w') → va_S A0 s.heap H1 locs1 → W p l e R s m args below meth c H1 locs1 (c1 + mc) (c2 + ms) Q (F0 m (pc + 3) ls ((r'.map (z_cv b ad')).toList ++ r.map (z_cv b ad))) := by
      intro h
      unfold z_cgo at h
      match mc, h with
      | 0, h =>
        match ms, h with
        | _ + 1, h => exact h.elim
        | 0, h =>
          refine ⟨_, h, ⟨h1, h2⟩, fun r' w' ad' H1 locs1 hk hlen hag a1 a2 a3 => ?_⟩
          have := hag.2 rfl
          subst this
          match r', hk with
          | none, hk => exact hJ _ _ _ _ _ _ hk h1 h2 (by omega) _ H1 locs1 ls hl a1 a2 a3 hG
          | some v, hk => exact hJ _ _ _ _ _ _ hk h1 h2 (by omega) _ H1 locs1 ls hl a1 a2 a3 hG
      | mc' + 1, h =>
        obtain ⟨⟨r1, r2⟩, hwf, h⟩ := h
        rw [O.2.2.2.2.2.2.2.1] at r1
        rw [O.2.2.2.2.2.2.2.2.1] at r2
        simp only [Bool.and_eq_true] at hwf
        refine ⟨_, h, ⟨r1, r2⟩, fun r' w' ad' H1 locs1 hk hlen hag a1 a2 a3 => ?_⟩
        have hG' : z_AG ad0 ad' n0 R.cells := ⟨fun k hk => (hag.1 k (by omega)).trans (hG.1 k hk), fun hz => by omega⟩
        rw [← z_cvs_agree hag.1 hwf.2]
        match r', hk with
        | none, hk => exact hJ _ _ _ _ _ _ hk r1 r2 (by omega) ad' H1 locs1 ls (hl.agree hag.1 hwf.1) a1 a2 a3 hG'
        | some v, hk => exact hJ _ _ _ _ _ _ hk r1 r2 (by omega) ad' H1 locs1 ls (hl.agree hag.1 hwf.1) a1 a2 a3 hG'
  · -- a contract that stands on the script
    dsimp only at hkd hscr hCS hmc hms k1 k2
    subst hkd
    have hd2 : decode cc pc = .ok (.invokestatic i, 3) := by rcases hd with ⟨-, q⟩ | ⟨q, -⟩ | ⟨q, -⟩ <;> first | exact q | omega
    obtain ⟨K, hsp, hf, kk⟩ := hgo h0
    have hM := hCS x b ad av w K H.size hsp
    rw [hmc, hms] at hM
    obtain ⟨hX1, hX2, hX3⟩ := hX hscr
    have hpre : ∀ U : State, U.heap = H → s.WarmedH U.vm → z_Pcs x b ad av w H.size M.2.2.2.2.2.2.2.2.1.2.1 M.2.2.2.2.2.2.2.2.1.2.2 (av.map (z_cv b ad)).toArray U := fun U hU hWu => ⟨⟨rfl, by rw [hU], by rw [hU]; exact hP, hK.moved hWu, hD.weaken (fun _ _ _ _ => trivial), by rw [hU]; exact ((hC.kept hS.2.1).narrow (z_aw hD hS hA)).moved hWu⟩, by
      rw [hU]
      exact va_X.moved hWu.alike (va_X.kept hX1 (hS.2.1 _ hX2 hX3)), Nat.lt_of_lt_of_le hX2 hS.1, fun q => hX3 (z_aw hD hS hA _ q)⟩
    have hgw := z_good_ws (y := y) (bytes := bytes) (maxL := maxL) (ret := ret) hTT hcode
    refine z_after (va_runS (n := n) E.1 hM (va_cwS n hts (z_good_app hTT (fun w hw => ?_) hgw) rfl hmc hms hnames hroom) ⟨z_Pcs_blind, hpre⟩ rfl (by rw [List.length_map]; omega) hl.1 (by show (av.reverse ++ r).map (z_cv b ad) = _; simp) (lv_room hW8) hd2 hf) hD hS hA kk
    simp only [List.mem_cons, List.not_mem_nil, or_false] at hw
    rcases hw with rfl | rfl | rfl
    · exact k2
    · exact k3
    · exact hinit
  · dsimp only at hkd w6
    subst hkd
    have hik2 : ik = 2 := by omega
    subst hik2
    obtain ⟨o, as, rfl⟩ := z_rcv_ref (Or.inr (Or.inr rfl)) hrcv
    have has : as = [] := by
      rw [w6] at hna
      simpa using hna
    subst has
    have hd2 : decode cc pc = .ok (.invokespecial i, 3) := by
      rcases hd with ⟨q, -⟩ | ⟨q, -⟩ | ⟨-, q⟩
      · omega
      · omega
      · exact q
    refine W.objInit (g := F0 m pc ls _) (a := ad o) (rest := r.map (z_cv b ad)) hx hb hown (hts _ (hTT _ w1)) (hts _ (hTT _ w2)) (hts _ (hTT _ w3)) rfl (by rw [hml]; exact hl.1) rfl hd2 w4 ?_ ?_
    · show 2 * 0 + _ + 12 ≤ _
      omega
    · exact hJ _ _ _ _ _ _ h0 h1 h2 h3 ad H locs ls hl hP hD hS hG
  · dsimp only at hkd hkd7 hkd8 hkd9 hCS hmc hms hkind
    have h : z_cgo M J (pc + 3) al r w c1 c2 mc ms sp av := by
      match kd, hkd, hkd7, hkd9, h0 with
      | 0, _, _, _, h => exact h
      | 1, _, _, _, h => exact h
      | 2, _, _, _, h => exact h
      | 3, _, _, _, h => exact h
      | 4, _, _, _, h => exact h
      | 5, _, _, _, h => exact h
      | 6, hkd, _, _, _ => exact absurd rfl hkd
      | 7, _, hkd7, _, _ => exact absurd rfl hkd7
      | 8, _, _, _, h => exact h
      | 9, _, _, hkd9, _ => exact absurd rfl hkd9
      | _ + 10, _, _, _, h => exact h
    obtain ⟨K, hsp, hf, kk⟩ := hgo h
    have hM := hCS x b ad av w K H.size hsp
    rw [hmc, hms] at hM
    have hfree : ∀ {a : Array Value} {st0 : List Value}, va_Run p l e R s m args below meth c H locs c1 c2 mc ms (F0 m pc ls st0) (r.map (z_cv b ad)) (z_Qc x b ad w K H.size mc a) (z_A x ad w H.size) → W p l e R s m args below meth c H locs c1 c2 Q (F0 m pc ls st0) := fun hr => z_after hr hD hS hA kk
    have S : CallFix p m c cc nL s args Ts own := E.1
    have hpre : ∀ U : State, U.heap = H → s.WarmedH U.vm → z_Pc x b ad av w H.size (av.map (z_cv b ad)).toArray U := fun U hU hWu => ⟨rfl, by rw [hU], by rw [hU]; exact hP, hK.moved hWu, hD.weaken (fun _ _ _ _ => trivial), by rw [hU]; exact ((hC.kept hS.2.1).narrow (z_aw hD hS hA)).moved hWu⟩
    have hcats0 : 2 * (F0 m pc ls (((av.reverse ++ r)).map (z_cv b ad))).monitorRoom + ((r.map (z_cv b ad)).map fun v => v.category).sum ≤ 8 := lv_room hW8
    have hgw := z_good_ws (y := y) (bytes := bytes) (maxL := maxL) (ret := ret) hTT hcode
    have hst : ∀ {v : Value} {a : Nat} {as : List Value}, av = v :: as → z_cv b ad v = .ref a → ((av.reverse ++ r).map (z_cv b ad)) = (as.map (z_cv b ad)).reverse ++ .ref a :: r.map (z_cv b ad) := by
      intro v a as h h2
      subst h
      simp [h2]
    have hrecv : ∀ {C : String} {o : Nat} {fs : List (Option (Option Nat))}, w.1[o]? = some (.inl (ci, fs)) → (∃ v, vwCl[ci]? = some v ∧ v.1 = C) → ∃ cellB : Cell, H[ad o]? = some cellB ∧ cellB.vm.isStatics = false ∧ s.vm.findClass C = some cellB.cls := by
      rintro C o fs hw ⟨v, hv, hv2⟩
      have := va_recv hK.1 hP hv (z_ws_at (x := x) (ad := ad) hw)
      rw [hv2] at this
      exact this
    have hrecK : ∀ {C : String} {k : Nat}, k < 3 → ci = 10 → (∃ v, vwCl[ci]? = some v ∧ v.1 = C) → ∃ cellB : Cell, H[b (2 * k + 1)]? = some cellB ∧ cellB.vm.isStatics = false ∧ s.vm.findClass C = some cellB.cls := by
      rintro C k hk hc ⟨v, hv, hv2⟩
      subst hc
      have hv : some ((RJ0, TJ0, 4) : vw_C) = some v := hv
      cases hv
      subst hv2
      have := vk_recv (i := k) hC.1 hk hS
      exact this
    rcases hkind with ⟨k0, k1, k2, k3⟩ | ⟨k0, k1, ⟨host, k2⟩, k3⟩ | ⟨k0, k1, k4, k5, k2, k3⟩ | ⟨k0, k1, k4, k5, ⟨host, k2⟩, k3⟩ | ⟨k0, k1, k4, k2, k3, k5⟩ | ⟨k0, k1, k4, ⟨host, k2⟩, k3, k5⟩ | ⟨k0, k1, ⟨v, k4, k6⟩, k2, k5, k3⟩ | ⟨k0, k1, v, z, b0, m0, r0, k4, k6, k2, k5, k9, k3, k7, k8⟩ | ⟨k0, k1, ⟨v, k4⟩, k6, k2, k5, k7, k3⟩
    · have hd2 : decode cc pc = .ok (.invokestatic i, 3) := by rcases hd with ⟨-, q⟩ | ⟨q, -⟩ | ⟨q, -⟩ <;> first | exact q | omega
      refine hfree (va_runS (n := n) S hM (va_cwS n hts (z_good_app hTT (fun w hw => ?_) hgw) rfl hmc hms hnames hroom) ⟨z_Pc_blind, hpre⟩ rfl (by rw [List.length_map]; omega) hl.1 (by show (av.reverse ++ r).map (z_cv b ad) = _; simp) hcats0 hd2 hf)
      simp only [List.mem_cons, List.not_mem_nil, or_false] at hw
      rcases hw with rfl | rfl | rfl
      · exact k2
      · exact k3
      · exact hinit
    · have hd2 : decode cc pc = .ok (.invokestatic i, 3) := by rcases hd with ⟨-, q⟩ | ⟨q, -⟩ | ⟨q, -⟩ <;> first | exact q | omega
      exact hfree (va_runSN (n := n) S hM ⟨va_cnB n hts hgw rfl hmc hms (hK.2 _ k2) (hts _ (hTT _ hinit)) hnames hroom, hts _ (hTT _ k3), trivial⟩ ⟨z_Pc_blind, hpre⟩ rfl (by rw [List.length_map]; omega) hl.1 (by show (av.reverse ++ r).map (z_cv b ad) = _; simp) hcats0 hd2 hf)
    · have hd2 : decode cc pc = .ok (.invokespecial i, 3) := by rcases hd with ⟨q, -⟩ | ⟨q, -⟩ | ⟨-, q⟩ <;> first | exact q | omega
      obtain ⟨o, as, rfl⟩ := z_rcv_ref (Or.inl k0) hrcv
      subst k5
      exact hfree (va_runI (n := n) (As := as.map (z_cv b ad)) S hM (cwI n hts hgw rfl hmc hms (hts _ (hTT _ hinit)) (hts _ (hTT _ k2)) (hts _ (hTT _ k3)) k4 hnames hroom) ⟨z_Pc_blind, hpre⟩ rfl (by rw [List.length_map]; simp only [List.length_cons] at hna; omega) hl.1 (hst rfl rfl) hcats0 hd2 hf)
    · have hd2 : decode cc pc = .ok (.invokespecial i, 3) := by rcases hd with ⟨q, -⟩ | ⟨q, -⟩ | ⟨-, q⟩ <;> first | exact q | omega
      obtain ⟨o, as, rfl⟩ := z_rcv_ref (Or.inr (Or.inl k0)) hrcv
      subst k5
      exact hfree (va_runIN (n := n) (As := as.map (z_cv b ad)) S hM ⟨va_cnB n hts hgw rfl hmc hms (hK.2 _ k2) (hts _ (hTT _ hinit)) hnames hroom, k4, hts _ (hTT _ k3)⟩ ⟨z_Pc_blind, hpre⟩ rfl (by rw [List.length_map]; simp only [List.length_cons] at hna; omega) hl.1 (hst rfl rfl) hcats0 hd2 hf)
    · have hd2 : decode cc pc = .ok (.invokevirtual i, 3) := by rcases hd with ⟨q, -⟩ | ⟨-, q⟩ | ⟨q, -⟩ <;> first | exact q | omega
      subst k0
      have hcw := cwV (C := y.cls) n hts (z_good_app hTT (a := [.methodLink own i y, .instanceMethod y, .selects y.cls y y, .initialized y.cls]) (fun w hw => by
        simp only [List.mem_cons, List.not_mem_nil, or_false] at hw
        rcases hw with rfl | rfl | rfl | rfl
        · exact k2
        · exact k3
        · exact k5
        · exact hinit) hgw) rfl hmc hms ⟨rfl, hnames⟩ hroom
      rcases z_hdo_obj hrcv with ⟨o, as, fs, rfl, hw⟩ | ⟨k, as, rfl, hk3, hci⟩
      · exact hfree (va_runV (n := n) (C := y.cls) (As := as.map (z_cv b ad)) S hM hcw ⟨z_Pc_blind, hrecv hw k4, hpre⟩ rfl (by rw [List.length_map]; simp only [List.length_cons] at hna; omega) hl.1 (hst rfl rfl) hcats0 hd2 hf)
      · exact hfree (va_runV (n := n) (C := y.cls) (As := as.map (z_cv b ad)) S hM hcw ⟨z_Pc_blind, hrecK hk3 hci k4, hpre⟩ rfl (by rw [List.length_map]; simp only [List.length_cons] at hna; omega) hl.1 (hst rfl rfl) hcats0 hd2 hf)
    · have hd2 : decode cc pc = .ok (.invokevirtual i, 3) := by rcases hd with ⟨q, -⟩ | ⟨-, q⟩ | ⟨q, -⟩ <;> first | exact q | omega
      subst k0
      have hcw : va_CN R s args own i y host bytes maxL ret (Cond.code y bytes maxL ret :: zTT) rm mc ms n ∧ (Cond.instanceMethod y).before args s = true ∧ (Cond.selects y.cls y y).before args s = true := ⟨va_cnB n hts hgw rfl hmc hms (hK.2 _ k2) (hts _ (hTT _ hinit)) hnames hroom, hts _ (hTT _ k3), hts _ (hTT _ k5)⟩
      rcases z_hdo_obj hrcv with ⟨o, as, fs, rfl, hw⟩ | ⟨k, as, rfl, hk3, hci⟩
      · exact hfree (va_runVN (n := n) (C := y.cls) (As := as.map (z_cv b ad)) S hM hcw ⟨z_Pc_blind, hrecv hw k4, hpre⟩ rfl (by rw [List.length_map]; simp only [List.length_cons] at hna; omega) hl.1 (hst rfl rfl) hcats0 hd2 hf)
      · exact hfree (va_runVN (n := n) (C := y.cls) (As := as.map (z_cv b ad)) S hM hcw ⟨z_Pc_blind, hrecK hk3 hci k4, hpre⟩ rfl (by rw [List.length_map]; simp only [List.length_cons] at hna; omega) hl.1 (hst rfl rfl) hcats0 hd2 hf)
    · have hd2 : decode cc pc = .ok (.invokevirtual i, 3) := by rcases hd with ⟨q, -⟩ | ⟨-, q⟩ | ⟨q, -⟩ <;> first | exact q | omega
      subst k0
      have hcw := va_cwU (C := v.1) (owner := y.cls) (x := y) (y := y) (own := own) (index := i) n hts (z_good_app hTT (a := [.methodLink own i y, .sameMethod y.cls y.cls y.name y.desc, .selects v.1 y y, .instanceMethod y, .initialized y.cls]) (fun w hw => by
        simp only [List.mem_cons, List.not_mem_nil, or_false] at hw
        rcases hw with rfl | rfl | rfl | rfl | rfl
        · exact k2
        · exact k5
        · exact k6
        · exact k3
        · exact hinit) hgw) rfl hmc hms rfl hnames hroom
      rcases z_hdo_obj hrcv with ⟨o, as, fs, rfl, hw⟩ | ⟨k, as, rfl, hk3, hci⟩
      · exact hfree (va_runU (n := n) (As := as.map (z_cv b ad)) S hM hcw ⟨z_Pc_blind, hrecv hw ⟨v, k4, rfl⟩, hpre⟩ rfl (by rw [List.length_map]; simp only [List.length_cons] at hna; omega) hl.1 (hst rfl rfl) hcats0 hd2 hf)
      · exact hfree (va_runU (n := n) (As := as.map (z_cv b ad)) S hM hcw ⟨z_Pc_blind, hrecK hk3 hci ⟨v, k4, rfl⟩, hpre⟩ rfl (by rw [List.length_map]; simp only [List.length_cons] at hna; omega) hl.1 (hst rfl rfl) hcats0 hd2 hf)
    · have hd2 : decode cc pc = .ok (.invokevirtual i, 3) := by rcases hd with ⟨q, -⟩ | ⟨-, q⟩ | ⟨q, -⟩ <;> first | exact q | omega
      subst k0
      have hcw := va_cwO (C := v.1) (owner := z.cls) (x := z) (y := y) (own := own) (index := i) (b0 := b0) (m0 := m0) (r0 := r0) n hts (z_good_app hTT (a := [.methodLink own i z, .sameMethod z.cls z.cls z.name z.desc, .instanceMethod z, .selects v.1 z y, .instanceMethod y, .initialized y.cls]) (fun w hw => by
        simp only [List.mem_cons, List.not_mem_nil, or_false] at hw
        rcases hw with rfl | rfl | rfl | rfl | rfl | rfl
        · exact k2
        · exact k5
        · exact k9
        · exact k6
        · exact k3
        · exact hinit) hgw) rfl hmc hms (hTT _ k7) k8 hroom
      rcases z_hdo_obj hrcv with ⟨o, as, fs, rfl, hw⟩ | ⟨k, as, rfl, hk3, hci⟩
      · exact hfree (va_runU (n := n) (As := as.map (z_cv b ad)) S hM hcw ⟨z_Pc_blind, hrecv hw ⟨v, k4, rfl⟩, hpre⟩ rfl (by rw [List.length_map]; simp only [List.length_cons] at hna; omega) hl.1 (hst rfl rfl) hcats0 hd2 hf)
      · exact hfree (va_runU (n := n) (As := as.map (z_cv b ad)) S hM hcw ⟨z_Pc_blind, hrecK hk3 hci ⟨v, k4, rfl⟩, hpre⟩ rfl (by rw [List.length_map]; simp only [List.length_cons] at hna; omega) hl.1 (hst rfl rfl) hcats0 hd2 hf)
    · have hd2 : decode cc pc = .ok (.invokespecial i, 3) := by rcases hd with ⟨q, -⟩ | ⟨q, -⟩ | ⟨-, q⟩ <;> first | exact q | omega
      subst k0
      have hcw := va_cwSU (y := y) (own := own) (index := i) n hts (z_good_app hTT (a := [.methodLink own i y, .sameMethod y.cls y.cls y.name y.desc, .superclass own y.cls, .instanceMethod y, .initialized y.cls]) (fun w hw => by
        simp only [List.mem_cons, List.not_mem_nil, or_false] at hw
        rcases hw with rfl | rfl | rfl | rfl | rfl
        · exact k2
        · exact k5
        · exact k7
        · exact k3
        · exact hinit) hgw) rfl hmc hms ⟨k6, hnames.2.2⟩ hroom
      have hat := (hK.1.1 ci v k4).2
      rcases z_hdo_obj hrcv with ⟨o, as, fs, rfl, hw⟩ | ⟨k, as, rfl, hk3, hci⟩
      · exact hfree (va_runSU (n := n) (C := v.1) (As := as.map (z_cv b ad)) hat S hM hcw ⟨z_Pc_blind, hrecv hw ⟨v, k4, rfl⟩, hpre⟩ rfl (by rw [List.length_map]; simp only [List.length_cons] at hna; omega) hl.1 (hst rfl rfl) hcats0 hd2 hf)
      · exact hfree (va_runSU (n := n) (C := v.1) (As := as.map (z_cv b ad)) hat S hM hcw ⟨z_Pc_blind, hrecK hk3 hci ⟨v, k4, rfl⟩, hpre⟩ rfl (by rw [List.length_map]; simp only [List.length_cons] at hna; omega) hl.1 (hst rfl rfl) hcats0 hd2 hf)
/-- the walk from any row of the code on -/
theorem z_from_sub : ∀ (l : List zI) (pc : Nat), (∀ e ∈ z_from l pc, e ∈ l) ∧ ∀ e l', z_from l pc = e :: l' → e.1 = pc
  | [], pc => ⟨fun e h => h, fun e l' h => by cases h⟩
  | a :: l, pc => by
    obtain ⟨i1, i2⟩ := z_from_sub l pc
    unfold z_from
    cases h : Nat.beq a.1 pc with
    | true =>
      refine ⟨fun e he => he, fun e l' he => ?_⟩
      cases he
      exact Nat.eq_of_beq_eq_true h
    | false => exact ⟨fun e he => List.mem_cons_of_mem _ (i1 e he), i2⟩
theorem z_wp_ok (E : z_En p s m args meth c cc nL own Ts x b A0 M) (O : z_OK l own cc R M) (hR : z_Rt p l e R s m args below meth c Q x b A0 ad0 n0 cc M post) : ∀ (n : Nat) (cs : List zI) (pc : Nat) (al : zAL) (st : List Value) (w : zW) (c1 c2 : Nat), (∀ e ∈ cs, e ∈ M.1) → (∀ e l', cs = e :: l' → e.1 = pc) → z_wp M post (z_JJ p l e R s m args below meth c Q x b A0 ad0 n0 nL) n cs al st w c1 c2 → z_JJ p l e R s m args below meth c Q x b A0 ad0 n0 nL pc al st w c1 c2
  | 0, cs, pc, al, st, w, c1, c2, _, _, h => h.elim
  | n + 1, [], pc, al, st, w, c1, c2, _, _, h => h.elim
  | n + 1, (pc0, nx, tg, ins) :: cl, pc, al, st, w, c1, c2, hin, hpc, h => by
    have hpc0 : pc0 = pc := hpc _ _ rfl
    subst hpc0
    refine z_step_ok E O hR (z_call_ok E O) (J := fun pc' al' st' w' c1' c2' => z_nxt M (z_JJ p l e R s m args below meth c Q x b A0 ad0 n0 nL) (z_wp M post (z_JJ p l e R s m args below meth c Q x b A0 ad0 n0 nL) n) cl pc' al' st' w' c1' c2') (fun pc' al' st' w' c1' c2' hq => ?_) (O.1 _ (hin _ List.mem_cons_self)) h
    unfold z_nxt at hq
    have hfrom : z_wp M post (z_JJ p l e R s m args below meth c Q x b A0 ad0 n0 nL) n (z_from M.1 pc') al' st' w' c1' c2' → z_JJ p l e R s m args below meth c Q x b A0 ad0 n0 nL pc' al' st' w' c1' c2' := fun hq => z_wp_ok E O hR n _ pc' al' st' w' c1' c2' (z_from_sub M.1 pc').1 (z_from_sub M.1 pc').2 hq
    split at hq
    · obtain ⟨al2, q1, q2, q3⟩ := z_msk_ok _ _ _ hq
      intro g1 g2 g3 ad H locs ls hl
      exact q1 g1 g2 g3 ad H locs ls (hl.weaken q2 q3)
    · split at hq
      · rename_i e' l'
        split at hq
        · rename_i hbe
          refine z_wp_ok E O hR n _ pc' al' st' w' c1' c2' (fun e he => hin e (List.mem_cons_of_mem _ he)) (fun e l' he => ?_) hq
          cases he
          exact Nat.eq_of_beq_eq_true hbe
        · exact hfrom hq
      · exact hfrom hq
end ZC
/-! a method's contract out of its walk -/
def z_arl : List Value → Nat → zAL
  | [], n => List.replicate n none
  | .long a :: r, n => some (.long a) :: none :: z_arl r (n - 2)
  | .double a :: r, n => some (.double a) :: none :: z_arl r (n - 2)
  | v :: r, n => some v :: z_arl r (n - 1)
theorem z_arl_mem {b : Nat → Nat} {ad : Nat → Nat} : ∀ (vs : List Value) (n i k : Nat) (v : Value), (z_arl vs n)[k]? = some (some v) → (i + k, z_cv b ad v) ∈ lv_args i (vs.map (z_cv b ad))
  | [], n, i, k, v, h => by
    unfold z_arl at h
    rw [List.getElem?_replicate] at h
    split at h <;> simp at h
  | u :: r, n, i, k, v, h => by
    have two : ∀ (w1 : Value) (h2 : w1.category = 2), (some w1 :: none :: z_arl r (n - 2))[k]? = some (some v) → (i + k, z_cv b ad v) ∈ (i, z_cv b ad w1) :: lv_args (if (z_cv b ad w1).category = 2 then i + 2 else i + 1) (r.map (z_cv b ad)) := by
      intro w1 h2 h
      rw [z_cv_cat, if_pos h2]
      match k, h with
      | 0, h => simp only [List.getElem?_cons_zero, Option.some.injEq] at h; subst h; exact List.mem_cons_self
      | 1, h => simp at h
      | k + 2, h =>
        have := z_arl_mem (b := b) (ad := ad) r (n - 2) (i + 2) k v (by simpa using h)
        rw [show i + (k + 2) = i + 2 + k by omega]
        exact List.mem_cons_of_mem _ this
    have one : ∀ (w1 : Value) (h2 : w1.category = 1), (some w1 :: z_arl r (n - 1))[k]? = some (some v) → (i + k, z_cv b ad v) ∈ (i, z_cv b ad w1) :: lv_args (if (z_cv b ad w1).category = 2 then i + 2 else i + 1) (r.map (z_cv b ad)) := by
      intro w1 h2 h
      rw [z_cv_cat, if_neg (by omega)]
      match k, h with
      | 0, h => simp only [List.getElem?_cons_zero, Option.some.injEq] at h; subst h; exact List.mem_cons_self
      | k + 1, h =>
        have := z_arl_mem (b := b) (ad := ad) r (n - 1) (i + 1) k v (by simpa using h)
        rw [show i + (k + 1) = i + 1 + k by omega]
        exact List.mem_cons_of_mem _ this
    cases u with
    | long a => exact two _ rfl h
    | double a => exact two _ rfl h
    | int a => exact one _ rfl h
    | ref a => exact one _ rfl h
    | float a => exact one _ rfl h
    | null => exact one _ rfl h
    | retAddr a => exact one _ rfl h
def z_szs : List Value → Nat
  | [] => 0
  | v :: r => v.category + z_szs r
theorem z_szs_eq (b : Nat → Nat) (ad : Nat → Nat) : ∀ (vs : List Value), (lg_sl (vs.map (z_cv b ad))).length = z_szs vs
  | [] => rfl
  | v :: r => by
    have h := z_szs_eq b ad r
    have hc := z_cv_cat b ad v
    unfold lg_sl at h ⊢
    rw [List.map_cons, List.flatMap_cons, List.length_append, h]
    rcases lv_cat v with h1 | h1
    · rw [if_neg (by omega)]; show 1 + _ = v.category + _; omega
    · rw [if_pos (by omega)]; show 2 + _ = v.category + _; omega
theorem z_arl_len : ∀ (vs : List Value) (n : Nat), z_szs vs ≤ n → (z_arl vs n).length = n
  | [], n, _ => by simp [z_arl]
  | u :: r, n, h => by
    have two : 2 + z_szs r ≤ n → (z_arl r (n - 2)).length = n - 2 := fun h => z_arl_len r (n - 2) (by omega)
    have one : 1 + z_szs r ≤ n → (z_arl r (n - 1)).length = n - 1 := fun h => z_arl_len r (n - 1) (by omega)
    cases u with
    | long a => have := two h; show (_ :: _ :: z_arl r (n - 2)).length = n; simp only [List.length_cons]; have h' : 2 + z_szs r ≤ n := h; omega
    | double a => have := two h; show (_ :: _ :: z_arl r (n - 2)).length = n; simp only [List.length_cons]; have h' : 2 + z_szs r ≤ n := h; omega
    | int a => have := one h; show (_ :: z_arl r (n - 1)).length = n; simp only [List.length_cons]; have h' : 1 + z_szs r ≤ n := h; omega
    | ref a => have := one h; show (_ :: z_arl r (n - 1)).length = n; simp only [List.length_cons]; have h' : 1 + z_szs r ≤ n := h; omega
    | float a => have := one h; show (_ :: z_arl r (n - 1)).length = n; simp only [List.length_cons]; have h' : 1 + z_szs r ≤ n := h; omega
    | null => have := one h; show (_ :: z_arl r (n - 1)).length = n; simp only [List.length_cons]; have h' : 1 + z_szs r ≤ n := h; omega
    | retAddr a => have := one h; show (_ :: z_arl r (n - 1)).length = n; simp only [List.length_cons]; have h' : 1 + z_szs r ≤ n := h; omega
/-- what a method's walk must show: for any judgement at its cuts that the walk from there gives -/
def z_PO (M : zM) (nL : Nat) (post : Option Value → zW → Prop) (av : List Value) (w : zW) : Prop :=
  z_szs av ≤ nL ∧ ∀ Jm : zJ, (∀ (n pc : Nat) (al : zAL) (st : List Value) (w : zW) (c1 c2 : Nat), z_wp M post Jm n (z_from M.1 pc) al st w c1 c2 → Jm pc al st w c1 c2) → Jm 0 (z_arl av nL) [] w 0 0
def z_rcok (rc : Nat) (ret : Option FieldType) : Prop := (rc = 0 ∧ ret = none) ∨ (rc = 1 ∧ ret = some .int) ∨ (rc = 2 ∧ ret = some .boolean) ∨ (rc = 3 ∧ ret = some .long) ∨ (rc = 4 ∧ ∃ rt, ret = some rt ∧ ((∃ n, rt = .object n) ∨ ∃ t, rt = .array t)) ∨ (rc = 5 ∧ ret = some .byte) ∨ (rc = 6 ∧ ret = some .char)
/-- the end of a method, whatever it answers -/
theorem z_ends {p : Program} {l : Launch} {e : Env} {s : State} {m : MethodId} {args : Array Value} {below : List Frame} {meth : Method} {c : Code} {cc : ByteArray} {R : Room} {x : zX} {b : Nat → Nat} {A0 : Nat → Prop} {ad : Nat → Nat} {w : zW} {K : Option Value → zW → Prop} {rm : Room} {ret : Option FieldType} {M : zM} {sz : Nat} (hx : p.tables.exec = Jvm.exec) (hb : c.code = cc) (hr : meth.sig.returnType = ret) (hlocks : meth.locks = false) (hsz : s.heap.size = sz) (hA0 : A0 = z_A x ad w sz) (hR1 : R.cells = rm.cells) (hR2 : R.slots = rm.slots) (hrc : z_rcok M.2.2.2.2.2.2.1 ret) : z_Rt p l e R s m args below meth c (MQ below (z_Qc x b ad w K sz rm.cells) args s rm.cells rm.slots (z_A x ad w sz)) x b A0 ad w.1.length cc M K := by
  subst hA0
  intro r w' hk ad' H locs ls' pc c1 c2 g1 g2 g3 hP' hD' hS' hG' hend
  rw [hR1] at g1 hG'
  rw [hR2] at g2
  have hq : ∀ t : State, t.heap = H → s.WarmedH t.vm → z_Qc x b ad w K sz rm.cells args s (.returned (r.map (z_cv b ad'))) t := fun t ht _ => ⟨⟨r, w', ad', rfl, hk, g3, hG', by rw [ht]; exact hP', hD'⟩, hS'.F ht⟩
  refine W.widen (k := rm.cells) (n := rm.slots) g1 g2 ?_
  rcases hend with ⟨a, rfl, hd, hz⟩ | ⟨a, rfl, hd, hz⟩ | ⟨rfl, hd, hz⟩ | ⟨o, rfl, hd, hz⟩
  · rcases hrc with ⟨q1, q2⟩ | ⟨q1, q2⟩ | ⟨q1, q2⟩ | ⟨q1, q2⟩ | ⟨q1, q2⟩ | ⟨q1, q2⟩ | ⟨q1, q2⟩
    · rw [q1] at hz; exact hz.elim
    · exact W.iret hx hb (hr.trans q2) hq hS'.2.2 hd
    · rw [q1] at hz
      exact W.zret hx hb (hr.trans q2) (by rcases hz with rfl | rfl <;> rfl) hq hS'.2.2 hd
    · rw [q1] at hz; exact hz.elim
    · rw [q1] at hz; exact hz.elim
    · rw [q1] at hz
      exact W.zret hx hb (hr.trans q2) (congrArg Value.int hz) hq hS'.2.2 hd
    · rw [q1] at hz
      exact W.zret hx hb (hr.trans q2) (congrArg Value.int hz) hq hS'.2.2 hd
  · rcases hrc with ⟨q1, q2⟩ | ⟨q1, q2⟩ | ⟨q1, q2⟩ | ⟨q1, q2⟩ | ⟨q1, q2⟩ | ⟨q1, q2⟩ | ⟨q1, q2⟩
    · omega
    · omega
    · omega
    · exact W.lret hx hb (hr.trans q2) hq hS'.2.2 hd
    · omega
    · omega
    · omega
  · rcases hrc with ⟨q1, q2⟩ | ⟨q1, q2⟩ | ⟨q1, q2⟩ | ⟨q1, q2⟩ | ⟨q1, q2⟩ | ⟨q1, q2⟩ | ⟨q1, q2⟩
    · exact W.vret hx hb (hr.trans q2) hq hS'.2.2 hd
    · omega
    · omega
    · omega
    · omega
    · omega
    · omega
  · rcases hrc with ⟨q1, q2⟩ | ⟨q1, q2⟩ | ⟨q1, q2⟩ | ⟨q1, q2⟩ | ⟨q1, rt, q2, q3⟩ | ⟨q1, q2⟩ | ⟨q1, q2⟩
    · omega
    · omega
    · omega
    · omega
    · exact W.aret hx hb (hr.trans q2) q3 (Or.inr ⟨_, rfl⟩) hq hS'.2.2 hd
    · omega
    · omega
theorem z_meth {l : Launch} {y : MethodName} {cc : ByteArray} {nL : Nat} {ret : Option FieldType} {rm : Room} {sp : zSp} {M : zM} (hpl : plainName y.cls = true) (hrc : z_rcok M.2.2.2.2.2.2.1 ret) (hini : M.2.2.2.2.2.2.2.1 = true → y.name = "<init>") (hscr : M.2.2.2.2.2.2.2.2.1.1 = false) (O : z_OK l y.cls cc (headSpec (.code y cc nL ret :: zTT) rm).room M)
    (hPO : ∀ (av : List Value) (w : zW) (K : Option Value → zW → Prop), sp av w K → z_PO M nL K av w) : z_CS l y cc nL ret rm sp := by
  intro x b ad av w K sz hsp
  obtain ⟨hsz, hPO⟩ := hPO av w K hsp
  refine Met.ofW (cc := cc) (maxL := nL) (ret := ret) hpl rfl ?_
  intro p e s m args below meth c s₁ B hml hv
  obtain ⟨rfl, hsz2, hP, hK, hD0, hC⟩ := hv
  have hx := B.exec
  have hb := B.bytes
  have hr := B.returns
  have hts := atoms_spec (ws := .code y cc nL ret :: zTT) B.pre
  have hown : s.vm.findClass y.cls = some m.cls := findClass_of_methodNamed B.named
  have hlocks := B.notSynchronized
  have hname : meth.name = y.name := (name_of_methodNamed B.named B.method).1
  subst hsz2
  have hD : va_D (z_A x ad w s.heap.size) (z_ws x ad w) := hD0.self (sz := s.heap.size)
  have hA : ∀ q : Nat, s.heap.size ≤ q → z_A x ad w s.heap.size q := fun q h => Or.inr h
  have E : z_En p s m (av.map (z_cv b ad)).toArray meth c cc nL y.cls (.code y cc nL ret :: zTT) x b (z_A x ad w s.heap.size) M := ⟨⟨hx, hb, hml, hown, hts⟩, fun w hw => List.mem_cons_of_mem _ hw, hK, hA, fun h => hname.trans (hini h), hC, fun h => by rw [hscr] at h; cases h⟩
  have hl := lv_entry (av.map (z_cv b ad)) (n := nL) (by rw [z_szs_eq]; exact hsz)
  rw [lg_entry_eq]
  generalize (lg_sl (av.map (z_cv b ad)) ++ List.replicate (nL - (lg_sl (av.map (z_cv b ad))).length) Slot.unset).toArray = ls at hl ⊢
  have hLH : z_LH b ad ls nL (z_arl av nL) := ⟨hl.1, hl.2.1, Nat.le_of_eq (z_arl_len av nL hsz), fun i v q => by
    have := hl.2.2 _ (z_arl_mem (b := b) (ad := ad) av nL 0 i v q)
    simpa using this⟩
  have hR := z_ends (p := p) (l := l) (e := e) (s := s) (m := m) (args := (av.map (z_cv b ad)).toArray) (below := below) (R := (headSpec (.code y cc nL ret :: zTT) rm).room) (x := x) (b := b) (ad := ad) (w := w) (K := K) (rm := rm) (M := M) hx hb hr hlocks rfl rfl rfl rfl hrc
  have key := hPO (z_JJ p l e (headSpec (.code y cc nL ret :: zTT) rm).room s m (av.map (z_cv b ad)).toArray below meth c (MQ below (z_Qc x b ad w K s.heap.size rm.cells) (av.map (z_cv b ad)).toArray s rm.cells rm.slots (z_A x ad w s.heap.size)) x b (z_A x ad w s.heap.size) ad w.1.length nL)
    (fun n pc al st w' c1 c2 h => z_wp_ok E O hR n _ pc al st w' c1 c2 (z_from_sub M.1 pc).1 (z_from_sub M.1 pc).2 h)
  exact key (Nat.zero_le _) (Nat.zero_le _) (Nat.le_refl _) ad s.heap [] ls hLH hP hD va_S.rf ⟨fun _ _ => rfl, fun _ => rfl⟩
theorem z_methS {l : Launch} {y : MethodName} {cc : ByteArray} {nL L : Nat} {xs : Nat → Int32} {ret : Option FieldType} {rm : Room} {sp : zSp} {M : zM} (hpl : plainName y.cls = true) (hrc : z_rcok M.2.2.2.2.2.2.1 ret) (hini : M.2.2.2.2.2.2.2.1 = true → y.name = "<init>") (hscr : M.2.2.2.2.2.2.2.2.1 = (true, L, xs)) (O : z_OK l y.cls cc (headSpec (.code y cc nL ret :: zTT) rm).room M)
    (hPO : ∀ (av : List Value) (w : zW) (K : Option Value → zW → Prop), sp av w K → z_PO M nL K av w) : z_CSs l y cc nL ret rm L xs sp := by
  intro x b ad av w K sz hsp
  obtain ⟨hsz, hPO⟩ := hPO av w K hsp
  refine Met.ofW (cc := cc) (maxL := nL) (ret := ret) hpl rfl ?_
  intro p e s m args below meth c s₁ B hml hv
  obtain ⟨⟨rfl, hsz2, hP, hK, hD0, hC⟩, hX1, hX2, hX3⟩ := hv
  have hx := B.exec
  have hb := B.bytes
  have hr := B.returns
  have hts := atoms_spec (ws := .code y cc nL ret :: zTT) B.pre
  have hown : s.vm.findClass y.cls = some m.cls := findClass_of_methodNamed B.named
  have hlocks := B.notSynchronized
  have hname : meth.name = y.name := (name_of_methodNamed B.named B.method).1
  subst hsz2
  have hD : va_D (z_A x ad w s.heap.size) (z_ws x ad w) := hD0.self (sz := s.heap.size)
  have hA : ∀ q : Nat, s.heap.size ≤ q → z_A x ad w s.heap.size q := fun q h => Or.inr h
  have E : z_En p s m (av.map (z_cv b ad)).toArray meth c cc nL y.cls (.code y cc nL ret :: zTT) x b (z_A x ad w s.heap.size) M := ⟨⟨hx, hb, hml, hown, hts⟩, fun w hw => List.mem_cons_of_mem _ hw, hK, hA, fun h => hname.trans (hini h), hC, fun _ => by rw [hscr]; exact ⟨hX1, hX2, hX3⟩⟩
  have hl := lv_entry (av.map (z_cv b ad)) (n := nL) (by rw [z_szs_eq]; exact hsz)
  rw [lg_entry_eq]
  generalize (lg_sl (av.map (z_cv b ad)) ++ List.replicate (nL - (lg_sl (av.map (z_cv b ad))).length) Slot.unset).toArray = ls at hl ⊢
  have hLH : z_LH b ad ls nL (z_arl av nL) := ⟨hl.1, hl.2.1, Nat.le_of_eq (z_arl_len av nL hsz), fun i v q => by
    have := hl.2.2 _ (z_arl_mem (b := b) (ad := ad) av nL 0 i v q)
    simpa using this⟩
  have hR := z_ends (p := p) (l := l) (e := e) (s := s) (m := m) (args := (av.map (z_cv b ad)).toArray) (below := below) (R := (headSpec (.code y cc nL ret :: zTT) rm).room) (x := x) (b := b) (ad := ad) (w := w) (K := K) (rm := rm) (M := M) hx hb hr hlocks rfl rfl rfl rfl hrc
  have key := hPO (z_JJ p l e (headSpec (.code y cc nL ret :: zTT) rm).room s m (av.map (z_cv b ad)).toArray below meth c (MQ below (z_Qc x b ad w K s.heap.size rm.cells) (av.map (z_cv b ad)).toArray s rm.cells rm.slots (z_A x ad w s.heap.size)) x b (z_A x ad w s.heap.size) ad w.1.length nL)
    (fun n pc al st w' c1 c2 h => z_wp_ok E O hR n _ pc al st w' c1 c2 (z_from_sub M.1 pc).1 (z_from_sub M.1 pc).2 h)
  exact key (Nat.zero_le _) (Nat.zero_le _) (Nat.le_refl _) ad s.heap [] ls hLH hP hD va_S.rf ⟨fun _ _ => rfl, fun _ => rfl⟩
