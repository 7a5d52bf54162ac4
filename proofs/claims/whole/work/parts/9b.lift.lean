/-! columns taken, rows taken: as many; what is right by both -/
def spnC (S : zLs) (W : zV → Prop) : Prop := ∀ p, p < 729 → S.1 p = true → W (S.2.1 p)
theorem cl_vx {N : Nat} {W : zV → Prop} (hW : clN N W) {u v : zV} (hu : W u) : W v ↔ W (vxor v u) := by
  constructor
  · exact fun h => hW.2.1 v u h hu
  · intro h
    have k := hW.2.1 _ u h hu
    refine hW.2.2 _ v (fun e _ => ?_) k
    show ((v e ^^ u e) ^^ u e) = v e
    cases v e <;> cases u e <;> rfl
theorem rd_W {N : Nat} {W : zV → Prop} (hW : clN N W) {S : zLs} (hS : spnC S W) : ∀ (m e : Nat) (v : zV), e + m ≤ 729 → (W v ↔ W (rdV S m e v).2.2)
  | 0, _, _, _ => Iff.rfl
  | m + 1, e, v, hm => by
    rw [rdV]
    by_cases h1 : v e = true
    · rw [if_pos h1]
      by_cases h2 : S.1 e = true
      · rw [if_pos h2, ← rd_W hW hS m (e + 1) _ (by omega)]
        exact cl_vx hW (hS e (by omega) h2)
      · rw [if_neg h2]
    · rw [if_neg h1]
      exact rd_W hW hS m (e + 1) v (by omega)
theorem rdV_none {S : zLs} (hS : PS S) : ∀ (m e : Nat) (v : zV), e + m ≤ 729 → (∀ k, k < e → v k = false) → (rdV S m e v).1 = false → ∀ k, k < e + m → (rdV S m e v).2.2 k = false
  | 0, e, v, _, hv, _, k, hk => hv k hk
  | m + 1, e, v, hm, hv, h, k, hk => by
    rw [rdV] at h ⊢
    by_cases h1 : v e = true
    · rw [if_pos h1] at h ⊢
      by_cases h2 : S.1 e = true
      · rw [if_pos h2] at h ⊢
        have ke := hS e (by omega) h2
        refine rdV_none hS m (e + 1) (vxor v (S.2.1 e)) (by omega) (fun j hj => ?_) h k (by omega)
        show (v j ^^ S.2.1 e j) = false
        rcases Nat.lt_or_ge j e with g | g
        · rw [hv j g, ke.1 j g]
          rfl
        · rw [show j = e by omega, h1, ke.2]
          rfl
      · rw [if_neg h2] at h
        cases h
    · rw [if_neg h1] at h ⊢
      refine rdV_none hS m (e + 1) v (by omega) (fun j hj => ?_) h k (by omega)
      rcases Nat.lt_or_ge j e with g | g
      · exact hv j g
      · rw [show j = e by omega]
        simpa using h1
theorem ct_more1 {P : Nat → Bool} {n j : Nat} (hj : j < n) (h : P j = false) : fb_ct (fun i => P i || i == j) n = fb_ct P n + 1 := by
  have u := fb_ct_upd P true hj
  rw [h] at u
  have e : fb_ct (fun i => P i || i == j) n = fb_ct (fun k => if k = j then true else P k) n := fb_ct_cong (fun k _ => by
    by_cases g : k = j
    · simp [g]
    · simp [g])
  rw [e]
  simpa using u
/-- what is known of the columns taken -/
def CI (E : Nat) (S : zLs) (C : zV → Prop) : Prop := PS S ∧ ((∀ p, S.1 p = true → p < E) ∧ S.2.2 = fb_ct S.1 E) ∧ ∀ W, clN E W → (spnC S W ↔ ∀ v, C v → W v)
theorem CI_0 (E : Nat) : CI E LS0 (fun _ => False) := by
  refine ⟨fun p _ h => absurd h Bool.false_ne_true, ⟨fun p h => absurd h Bool.false_ne_true, (fb_ct_zero.mpr (fun _ _ => rfl)).symm⟩, fun W _ => ⟨fun _ v h => h.elim, fun _ p _ h => absurd h Bool.false_ne_true⟩⟩
theorem CI_c {E : Nat} {S : zLs} {C C' : zV → Prop} (h : CI E S C) (e : ∀ v, C v ↔ C' v) : CI E S C' := ⟨h.1, h.2.1, fun W hW => (h.2.2 W hW).trans ⟨fun k v hv => k v ((e v).mpr hv), fun k v hv => k v ((e v).mp hv)⟩⟩
theorem CI_tk {E : Nat} (hE : E ≤ 729) {S : zLs} {C : zV → Prop} (h : CI E S C) (v : zV) : CI E (tkV E S v) (fun u => C u ∨ u = v) := by
  obtain ⟨hP, ⟨hl, hc⟩, hW⟩ := h
  unfold tkV
  by_cases hr : (rdV S E 0 v).1 = true
  · have sp := rdV_spec hP E 0 v (by omega) (fun k hk => absurd hk (Nat.not_lt_zero k)) hr
    have rw0 := fun (W : zV → Prop) (k1 : clN E W) (k2 : spnC S W) => rd_W k1 k2 E 0 v (by omega)
    rw [if_pos hr]
    generalize (rdV S E 0 v).2.2 = R at *
    generalize (rdV S E 0 v).2.1 = pos at *
    have vs : ∀ p, vset S.1 pos p = (S.1 p || p == pos) := fun _ => rfl
    refine ⟨fun p hp hs => ?_, ⟨fun p hs => ?_, ?_⟩, fun W k1 => ?_⟩
    · dsimp only at hs ⊢
      rw [vs] at hs
      by_cases e : p = pos
      · rw [if_pos e, e]
        exact ⟨sp.2.2.2.2, sp.2.2.2.1⟩
      · rw [if_neg e]
        exact hP p hp (by simpa [e] using hs)
    · dsimp only at hs
      rw [vs] at hs
      by_cases e : p = pos
      · omega
      · exact hl p (by simpa [e] using hs)
    · show S.2.2 + 1 = fb_ct (fun x => S.1 x || x == pos) E
      rw [ct_more1 (by omega) sp.2.2.1, hc]
    · constructor
      · intro k
        have s1 : spnC S W := fun p hp hs => by
          have := k p hp (by show (S.1 p || p == pos) = true; rw [hs]; rfl)
          dsimp only at this
          rw [if_neg (fun z => by rw [z, sp.2.2.1] at hs; cases hs)] at this
          exact this
        have s2 : W R := by
          have := k pos (by omega) (by show (S.1 pos || pos == pos) = true; simp)
          dsimp only at this
          rw [if_pos rfl] at this
          exact this
        intro u hu
        rcases hu with hu | rfl
        · exact (hW W k1).mp s1 u hu
        · exact (rw0 W k1 s1).mpr s2
      · intro k
        have s1 : spnC S W := (hW W k1).mpr (fun u hu => k u (Or.inl hu))
        have s2 : W R := (rw0 W k1 s1).mp (k v (Or.inr rfl))
        intro p hp hs
        have hs : (S.1 p || p == pos) = true := hs
        dsimp only
        by_cases e : p = pos
        · rw [if_pos e]
          exact s2
        · rw [if_neg e]
          exact s1 p hp (by simpa [e] using hs)
  · have nn := rdV_none hP E 0 v (by omega) (fun k hk => absurd hk (Nat.not_lt_zero k)) (by simpa using hr)
    rw [if_neg hr]
    refine ⟨hP, ⟨hl, hc⟩, fun W k1 => ⟨fun k u hu => ?_, fun k => (hW W k1).mpr (fun u hu => k u (Or.inl hu))⟩⟩
    rcases hu with hu | rfl
    · exact (hW W k1).mp k u hu
    · exact (rd_W k1 k E 0 u (by omega)).mpr (k1.2.2 _ _ (fun e he => (nn e (by omega)).symm) k1.1)
/-! rows -/
abbrev zRs : Type := Nat × (Nat → Nat) × (Nat → zV)
def rdR (Z : zRs) (v : zV) : Nat → zV
  | 0 => v
  | k + 1 => if rdR Z v k (Z.2.1 k) = true then vxor (rdR Z v k) (Z.2.2 k) else rdR Z v k
def fnR (Z : zRs) (v : zV) : zV := rdR Z v Z.1
def ldR (U : Nat) (Z : zRs) (v : zV) : Nat := fi (fnR Z v) U
def tkR (U : Nat) (Z : zRs) (v : zV) : zRs := if ldR U Z v < U then (Z.1 + 1, setp Z.2.1 Z.1 (ldR U Z v), fun k => if k = Z.1 then fnR Z v else Z.2.2 k) else Z
def okR (U : Nat) (Z : zRs) (v : zV) : Bool := decide (ldR U Z v < U) || !fnR Z v U
def RS (U : Nat) (Z : zRs) : Prop := ∀ k, k < Z.1 → Z.2.1 k < U ∧ Z.2.2 k (Z.2.1 k) = true ∧ ∀ j, j < k → Z.2.2 k (Z.2.1 j) = false
def spnR (Z : zRs) (W : zV → Prop) : Prop := ∀ k, k < Z.1 → W (Z.2.2 k)
theorem rdR_ld {U : Nat} {Z : zRs} (hZ : RS U Z) (v : zV) : ∀ k, k ≤ Z.1 → ∀ j, j < k → rdR Z v k (Z.2.1 j) = false
  | 0, _, j, hj => absurd hj (Nat.not_lt_zero j)
  | k + 1, hk, j, hj => by
    have ih := rdR_ld hZ v k (by omega)
    have zk := hZ k (by omega)
    rw [rdR]
    by_cases e : j = k
    · rw [e]
      split
      · rename_i g
        show (rdR Z v k (Z.2.1 k) ^^ Z.2.2 k (Z.2.1 k)) = false
        rw [g, zk.2.1]
        rfl
      · rename_i g
        simpa using g
    · have i := ih j (by omega)
      split
      · show (rdR Z v k (Z.2.1 j) ^^ Z.2.2 k (Z.2.1 j)) = false
        rw [i, zk.2.2 j (by omega)]
        rfl
      · exact i
theorem rdR_W {N : Nat} {W : zV → Prop} (hW : clN N W) {Z : zRs} (hS : spnR Z W) (v : zV) : ∀ k, k ≤ Z.1 → (W v ↔ W (rdR Z v k))
  | 0, _ => Iff.rfl
  | k + 1, hk => by
    have ih := rdR_W hW hS v k (by omega)
    rw [rdR]
    split
    · exact ih.trans (cl_vx hW (hS k (by omega)))
    · exact ih
theorem tkR_RS {U : Nat} {Z : zRs} (hZ : RS U Z) (v : zV) : RS U (tkR U Z v) := by
  unfold tkR
  split
  · rename_i h
    have l : fnR Z v (ldR U Z v) = true := (fi_lt h).1
    intro k hk
    have hk : k < Z.1 + 1 := hk
    dsimp only
    by_cases e : k = Z.1
    · rw [if_pos e, e, setp_at]
      exact ⟨h, l, fun j hj => by
        rw [setp_ne (by omega)]
        exact rdR_ld hZ v Z.1 (Nat.le_refl _) j hj⟩
    · rw [if_neg e, setp_ne e]
      have b := hZ k (by omega)
      exact ⟨b.1, b.2.1, fun j hj => by rw [setp_ne (by omega)]; exact b.2.2 j hj⟩
  · exact hZ
theorem tkR_in {N U : Nat} {W : zV → Prop} (hW : clN N W) {Z : zRs} (hS : spnR Z W) {v : zV} (hv : W v) : spnR (tkR U Z v) W := by
  unfold tkR
  split
  · intro k hk
    have hk : k < Z.1 + 1 := hk
    dsimp only
    by_cases e : k = Z.1
    · rw [if_pos e]
      exact (rdR_W hW hS v Z.1 (Nat.le_refl _)).mp hv
    · rw [if_neg e]
      exact hS k (by omega)
  · exact hS
theorem tkR_out {N U : Nat} {W : zV → Prop} (hW : clN N W) {Z : zRs} {v : zV} (hN : N = U ∨ (N = U + 1 ∧ okR U Z v = true)) (h : spnR (tkR U Z v) W) : spnR Z W ∧ W v := by
  unfold tkR at h
  by_cases g : ldR U Z v < U
  · rw [if_pos g] at h
    have s1 : spnR Z W := fun k hk => by
      have := h k (show k < Z.1 + 1 by omega)
      dsimp only at this
      rw [if_neg (by omega)] at this
      exact this
    refine ⟨s1, (rdR_W hW s1 v Z.1 (Nat.le_refl _)).mpr ?_⟩
    have := h Z.1 (Nat.lt_succ_self _)
    dsimp only at this
    rw [if_pos rfl] at this
    exact this
  · rw [if_neg g] at h
    refine ⟨h, (rdR_W hW h v Z.1 (Nat.le_refl _)).mpr (hW.2.2 _ _ (fun e he => ?_) hW.1)⟩
    have z : ∀ j, j < U → ¬ fnR Z v j = true := fi_ge g
    show false = fnR Z v e
    rcases Nat.lt_or_ge e U with y | y
    · have := z e y
      simp at this
      exact this.symm
    · rcases hN with rfl | ⟨rfl, ho⟩
      · omega
      · rw [show e = U by omega]
        unfold okR at ho
        simp [g] at ho
        exact ho.symm
def stR (U : Nat) (r : Nat → zV) : Nat → zRs
  | 0 => (0, fun _ => 0, fun _ _ => false)
  | n + 1 => tkR U (stR U r n) (r n)
def okA (U : Nat) (r : Nat → zV) : Nat → Bool
  | 0 => true
  | n + 1 => okR U (stR U r n) (r n) && okA U r n
theorem stR_RS (U : Nat) (r : Nat → zV) : ∀ n, RS U (stR U r n)
  | 0 => fun k hk => absurd hk (Nat.not_lt_zero k)
  | n + 1 => tkR_RS (stR_RS U r n) (r n)
theorem stR_in {N U : Nat} {W : zV → Prop} (hW : clN N W) {r : Nat → zV} : ∀ n, (∀ e, e < n → W (r e)) → spnR (stR U r n) W
  | 0, _ => fun k hk => absurd hk (Nat.not_lt_zero k)
  | n + 1, h => tkR_in hW (stR_in hW n (fun e he => h e (by omega))) (h n (Nat.lt_succ_self n))
theorem stR_out {N U : Nat} {W : zV → Prop} (hW : clN N W) {r : Nat → zV} : ∀ n, (N = U ∨ (N = U + 1 ∧ okA U r n = true)) → spnR (stR U r n) W → ∀ e, e < n → W (r e)
  | 0, _, _, e, he => absurd he (Nat.not_lt_zero e)
  | n + 1, hN, h, e, he => by
    have k := tkR_out (U := U) (Z := stR U r n) (v := r n) hW (by
      rcases hN with g | ⟨g, g2⟩
      · exact Or.inl g
      · have g2 : (okR U (stR U r n) (r n) && okA U r n) = true := g2
        rw [Bool.and_eq_true] at g2
        exact Or.inr ⟨g, g2.1⟩) h
    by_cases z : e = n
    · rw [z]
      exact k.2
    · refine stR_out hW n ?_ k.1 e (by omega)
      rcases hN with g | ⟨g, g2⟩
      · exact Or.inl g
      · have g2 : (okR U (stR U r n) (r n) && okA U r n) = true := g2
        rw [Bool.and_eq_true] at g2
        exact Or.inr ⟨g, g2.2⟩
theorem rows_le {E U n : Nat} {Q : Nat → Bool} {V : Nat → zV} {r : Nat → zV} {g : Nat → zV} {K : Nat → Nat} (hK : ∀ k, k < n → K k < U ∧ g k (K k) = true ∧ ∀ j, j < k → g k (K j) = false) (hg : ∀ k, k < n → ∃ a : Nat → Bool, ∀ u, u < U → g k u = xs (fun e => a e && r e u) E) (hC : ∀ W : zV → Prop, clN E W → (∀ p, p < E → Q p = true → W (V p)) → ∀ u, u < U → W (fun e => r e u)) : n ≤ fb_ct Q E := by
  refine Nat.le_of_not_lt (fun hlt => ?_)
  have ha : ∀ k, ∃ a : Nat → Bool, k < n → ∀ u, u < U → g k u = xs (fun e => a e && r e u) E := fun k => by
    by_cases z : k < n
    · obtain ⟨a, ha⟩ := hg k z
      exact ⟨a, fun _ => ha⟩
    · exact ⟨fun _ => false, fun z2 => absurd z2 z⟩
  obtain ⟨a, ha⟩ := Classical.axiomOfChoice ha
  have hall : fb_ct (fun _ => true) n = n := fb_ct_all.mpr (fun _ _ => rfl)
  obtain ⟨l, l1, l2, l3⟩ := dep (Q := Q) (n := n) E (fun _ => true) (fun k p => xs (fun e => a k e && V p e) E) (by rw [hall]; exact hlt)
  have W := hC _ (cl_dot E (fun e => xs (fun k => l k && a k e) n)) (fun p hp hq => by
    rw [← xs_fub]
    exact l3 p hp hq)
  obtain ⟨i, i1, i2, i3⟩ := indep (n := n) (P := fun _ => true) (V := g) (K := K) (fun k hk _ => (hK k hk).2.1) (fun k j hkj hj _ _ => (hK j hj).2.2 k hkj) l1 l2
  have w := W (K i) (hK i i1).1
  rw [← xs_fub] at w
  have e : xs (fun k => l k && xs (fun e => a k e && r e (K i)) E) n = xs (fun k => l k && g k (K i)) n := xs_cong (fun k hk => by rw [ha k hk (K i) (hK i i1).1])
  rw [e, i3] at w
  cases w
/-- both take as many, and say alike whether there are such numbers -/
theorem both {E U : Nat} (hE : E ≤ 729) {S : zLs} {C : zV → Prop} (h : CI E S C) {r : Nat → zV} (h1 : ∀ u, u < U → ∃ v, C v ∧ ∀ e, e < E → v e = r e u) (h2 : ∀ v, C v → ∃ u, u < U ∧ ∀ e, e < E → v e = r e u) {b : zV} (hb : ∀ e, e < E → b e = r e U) : (stR U r E).1 = S.2.2 ∧ (okA U r E = true ↔ (rdV S E 0 b).1 = false) := by
  obtain ⟨hP, ⟨hl, hc⟩, hW⟩ := h
  have zz : ∀ k, k < 0 → b k = false := fun k hk => absurd hk (Nat.not_lt_zero k)
  have cols : ∀ n, U ≤ n → ∀ v, C v → ∃ a : Nat → Bool, ∀ e, e < E → v e = xs (fun u => a u && r e u) n := fun n hn v hv => by
    obtain ⟨u, u1, u2⟩ := h2 v hv
    exact ⟨fun k => k == u, fun e he => by rw [xs_un (by omega)]; exact u2 e he⟩
  have sv : ∀ n, U ≤ n → spnC S (fun v => ∃ a : Nat → Bool, ∀ e, e < E → v e = xs (fun u => a u && r e u) n) := fun n hn => (hW _ (cl_sum E r n)).mpr (cols n hn)
  have a1 : fb_ct S.1 E ≤ (stR U r E).1 := rank_le (E := E) (N := U) (P := S.1) (V := S.2.1) (M := r) (g := (stR U r E).2.2) (fun p hp hs => (hP p (by omega) hs).2) (fun p hp hs => (hP p (by omega) hs).1) (fun p hp hs => sv U (Nat.le_refl U) p (by omega) hs) (fun W k1 k2 => stR_out k1 E (Or.inl rfl) k2)
  have a2 : (stR U r E).1 ≤ fb_ct S.1 E := by
    have rs := stR_RS U r E
    refine rows_le (E := E) (U := U) (V := S.2.1) (r := r) (g := (stR U r E).2.2) (K := (stR U r E).2.1) rs (fun k hk => ?_) (fun W k1 k2 u hu => ?_)
    · exact stR_in (U := U) (r := r) (cl_sum U (fun u e => r e u) E) E (fun e he => ⟨fun k => k == e, fun u _ => by rw [xs_un he]⟩) k hk
    · obtain ⟨v, v1, v2⟩ := h1 u hu
      have s1 : spnC S W := fun p hp hs => k2 p (hl p hs) hs
      exact k1.2.2 v _ v2 ((hW W k1).mp s1 v v1)
  refine ⟨by omega, ?_, ?_⟩
  · intro ok
    cases hr : (rdV S E 0 b).1 with
    | false => rfl
    | true =>
      have sp := rdV_spec hP E 0 b (by omega) zz hr
      have cS := cl_sum E r (U + 1)
      have wR := (rd_W cS (sv (U + 1) (by omega)) E 0 b (by omega)).mp ⟨fun k => k == U, fun e he => by rw [xs_un (Nat.lt_succ_self U)]; exact hb e he⟩
      generalize (rdV S E 0 b).2.2 = R at *
      generalize (rdV S E 0 b).2.1 = pos at *
      have lt : fb_ct (fun x => S.1 x || x == pos) E ≤ (stR U r E).1 := rank_le (E := E) (N := U + 1) (P := fun x => S.1 x || x == pos) (V := fun p => if p = pos then R else S.2.1 p) (M := r) (g := (stR U r E).2.2) (fun p hp hs => by
          by_cases e : p = pos
          · rw [if_pos e, e]
            exact sp.2.2.2.1
          · rw [if_neg e]
            exact (hP p (by omega) (by simpa [e] using hs)).2) (fun p hp hs => by
          by_cases e : p = pos
          · rw [if_pos e, e]
            exact sp.2.2.2.2
          · rw [if_neg e]
            exact (hP p (by omega) (by simpa [e] using hs)).1) (fun p hp hs => by
          by_cases e : p = pos
          · rw [if_pos e]
            exact wR
          · rw [if_neg e]
            exact sv (U + 1) (by omega) p (by omega) (by simpa [e] using hs)) (fun W k1 k2 => stR_out k1 E (Or.inr ⟨rfl, ok⟩) k2)
      rw [ct_more1 (by omega) sp.2.2.1] at lt
      omega
  · intro hr
    have nn := rdV_none hP E 0 b (by omega) zz hr
    have cS := cl_sum E r U
    obtain ⟨x, hx⟩ := (rd_W cS (sv U (Nat.le_refl U)) E 0 b (by omega)).mpr (cS.2.2 _ _ (fun e he => (nn e (by omega)).symm) cS.1)
    have cD := cl_dot (U + 1) (fun u => x u && decide (u < U) || u == U)
    have split : ∀ v : zV, xs (fun u => (x u && decide (u < U) || u == U) && v u) (U + 1) = (xs (fun u => x u && v u) U ^^ v U) := fun v => by
      show (xs (fun u => (x u && decide (u < U) || u == U) && v u) U ^^ ((x U && decide (U < U) || U == U) && v U)) = _
      have e1 : xs (fun u => (x u && decide (u < U) || u == U) && v u) U = xs (fun u => x u && v u) U := xs_cong (fun k hk => by
        rw [decide_eq_true hk, show (k == U) = false by simp; omega, Bool.and_true, Bool.or_false])
      rw [e1]
      simp
    have all : ∀ e, e < E → xs (fun u => (x u && decide (u < U) || u == U) && r e u) (U + 1) = false := fun e he => by
      rw [split, ← hx e he, hb e he]
      cases r e U <;> rfl
    have main : ∀ n, n ≤ E → okA U r n = true := fun n => by
      induction n with
      | zero => exact fun _ => rfl
      | succ n ih =>
        intro hn
        show (okR U (stR U r n) (r n) && okA U r n) = true
        rw [ih (by omega), Bool.and_true]
        have s1 := stR_in (U := U) cD n (fun e he => all e (by omega))
        have w := (rdR_W cD s1 (r n) _ (Nat.le_refl _)).mp (all n (by omega))
        have w : xs (fun u => (x u && decide (u < U) || u == U) && fnR (stR U r n) (r n) u) (U + 1) = false := w
        rw [split] at w
        unfold okR
        by_cases g : ldR U (stR U r n) (r n) < U
        · simp [g]
        · have z : ∀ j, j < U → ¬ fnR (stR U r n) (r n) j = true := fi_ge g
          rw [xs_0 (fun k hk => by
            have := z k hk
            simp at this
            rw [this, Bool.and_false]), Bool.false_xor] at w
          rw [w]
          simp
    exact main E (Nat.le_refl E)

