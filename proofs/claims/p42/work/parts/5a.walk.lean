/-! walks give what there was -/
section
variable {q c k : Nat} {A : Nat → Nat → Nat}
theorem lt3q (hq : q = 2 ∨ q = 3) (hA : Bd q c A) : ∀ k, k < 3 * c → ∀ p, p < 9 → A k p < 3 := fun k hk p hp => by
  have := hA k hk p hp
  omega
theorem kt_ok (hq : q = 2 ∨ q = 3) (hc : c ≤ 40) (hA : Bd q c A) {t : Nat} (ht : t < 3) (hk : k < flN q A t c) : Bd q c (ktA q A c t k) ∧ eqG q A c (ktA q A c t k) c := by
  have hk2 : k < fb_ct (pfB q A t c) 1600 := by rw [pf_count hc (fun i hi p hp => lt3q hq hA _ (by omega) p hp)]; exact hk
  obtain ⟨h1, h2, -⟩ := kt_spec hk2
  unfold pfB at h2
  simp only [Bool.and_eq_true, decide_eq_true_eq, Bool.not_eq_true', beq_eq_false_iff_ne, ne_eq] at h2
  obtain ⟨⟨⟨g1, g2⟩, g3⟩, g4⟩ := h2
  unfold ktA
  exact ⟨tf_bd hq hA g2 ht, tf_eqG hq hA g2 g3 g1 ht (lk_ne g4)⟩
theorem df_ok (hq : q = 2 ∨ q = 3) (hc : c ≤ 40) (hA : Bd q c A) (hk : k < flAll q A c) : Bd q c (dfA q A c k) ∧ eqG q A c (dfA q A c k) c := by
  unfold flAll at hk
  unfold dfA
  split
  · exact kt_ok hq hc hA (by decide) (by assumption)
  · split
    · exact kt_ok hq hc hA (by decide) (by omega)
    · exact kt_ok hq hc hA (by decide) (by omega)
end
theorem wk_ok {q c : Nat} {A : Nat → Nat → Nat} (hq : q = 2 ∨ q = 3) (hc : c ≤ 40) (hA : Bd q c A) (x y : Nat) : ∀ n, (wkS q (c, A, x, y) n).1 ≤ c ∧ Bd q (wkS q (c, A, x, y) n).1 (wkS q (c, A, x, y) n).2.1 ∧ eqG q A c (wkS q (c, A, x, y) n).2.1 (wkS q (c, A, x, y) n).1
  | 0 => ⟨Nat.le_refl _, hA, eqG_refl _ _ _⟩
  | n + 1 => by
    obtain ⟨i1, i2, i3⟩ := wk_ok hq hc hA x y n
    rw [wkS]
    split
    · exact ⟨i1, i2, i3⟩
    · rename_i h0
      obtain ⟨d1, d2⟩ := df_ok hq (show (wkS q (c, A, x, y) n).1 ≤ 40 by omega) i2 (Nat.mod_lt (wkN (wkS q (c, A, x, y) n).2.2.1) (show flAll q (wkS q (c, A, x, y) n).2.1 (wkS q (c, A, x, y) n).1 > 0 by omega))
      obtain ⟨j1, j2, j3, -⟩ := jAll_ok hq 40 _ _ 0 0 d1
      exact ⟨by dsimp only; omega, j1, eqG_trans i3 (eqG_trans d2 j2)⟩
/-! one split gives what there was -/
theorem sm_ex {f g : Nat → Nat} {i n : Nat} (hi : i < n) (h : ∀ k, k < n → k ≠ i → f k = g k) : fb_sm f n + g i = fb_sm g n + f i := by
  have h1 := fb_sm_upd f (g i) hi
  have e : fb_sm (fun k => if k = i then g i else f k) n = fb_sm g n := fb_sm_cong (fun k hk => by
    by_cases h2 : k = i
    · rw [if_pos h2, h2]
    · rw [if_neg h2]; exact h k hk h2)
  omega
def ns (q : Nat) : Bool := al q (fun s => al q (fun a => al q (fun b => al q (fun e => (s * b * e + ((a + (q - s)) % q) * b * e) % q == (a * b * e) % q))))
theorem ns_2 : ns 2 = true := by decide +kernel
theorem ns_3 : ns 3 = true := by decide +kernel
theorem nu_split {q : Nat} (hq : q = 2 ∨ q = 3) {s a b e : Nat} (hs : s < q) (ha : a < q) (hb : b < q) (he : e < q) : (s * b * e + ((a + (q - s)) % q) * b * e) % q = (a * b * e) % q := by
  have h : ns q = true := by rcases hq with rfl | rfl; exact ns_2; exact ns_3
  have h := al_ok (al_ok (al_ok (al_ok h hs) ha) hb) he
  simpa using h
theorem md_in {q P Q u v t : Nat} (hq : q = 2 ∨ q = 3) (h : P + v = Q + u) (e : (v + t) % q = u % q) : P % q = (Q + t) % q := by
  rcases hq with rfl | rfl <;> omega
section
variable {q c i j w : Nat} {A : Nat → Nat → Nat} {a : Nat → Nat}
theorem sp_bd (hq : q = 2 ∨ q = 3) (hA : Bd q c A) (hi : i < c) (ha : ∀ p, p < 9 → a p < q) : Bd q (c + 1) (spA q A c i w a) := by
  unfold spA
  exact bd_up (bd_up (bd_ad hA hA hi) (fun p _ => fSub_lt hq _ _ p)) ha
theorem sp_eqG (hq : q = 2 ∨ q = 3) (hA : Bd q c A) (hi : i < c) (hw : w < 3) (ha : ∀ p, p < 9 → a p < q) : eqG q A c (spA q A c i w a) (c + 1) := by
  intro X hX
  obtain ⟨n1, n2, n3, n4, n5⟩ := nxx hw
  have hic : i ≠ c := by omega
  have ad_k : ∀ {k t : Nat}, k < c → t < 3 → adA A c A i (3 * k + t) = A (3 * k + t) := fun hk ht => if_pos (by omega)
  have ad_c : ∀ {t : Nat}, t < 3 → adA A c A i (3 * c + t) = A (3 * i + t) := fun {t} ht => by
    unfold adA
    rw [if_neg (by omega), show 3 * c + t - 3 * c = t by omega]
  have e1 : gX (spA q A c i w a) (c + 1) X = gX (spA q A c i w a) c X + tm (spA q A c i w a) c X := rfl
  rw [e1]
  refine md_in hq (sm_ex (f := fun k => tm A k X) (g := fun k => tm (spA q A c i w a) k X) hi (fun k hk hki => tm_cong (fun t ht => ?_))) ?_
  · unfold spA
    rw [upA_ot hki hw ht, upA_ot (by omega) hw ht, ad_k hk ht]
  · rw [tm_w (A := spA q A c i w a) hw, tm_w (A := spA q A c i w a) (i := c) hw, tm_w (A := A) hw]
    unfold spA
    rw [upA_eq, upA_tt n3, upA_tt n4, upA_ot hic hw n1, upA_ot hic hw n2, ad_k hi n1, ad_k hi n2, upA_ot (Ne.symm hic) hw hw, upA_eq, upA_ot (Ne.symm hic) hw n1, upA_ot (Ne.symm hic) hw n2, upA_tt n3, upA_tt n4, ad_c n1, ad_c n2]
    exact nu_split hq (ha _ (hX w hw)) (bd_at hA hi hw _ (hX w hw)) (bd_at hA hi n1 _ (hX _ n1)) (bd_at hA hi n2 _ (hX _ n2))
end
/-! a product of two told by three -/
def np (q : Nat) : Bool := al q (fun a => al q (fun b => al q (fun e => al q (fun a2 => al q (fun b2 => al q (fun e2 => (a * ((b + b2) % q) * e + a * b2 * ((e2 + (q - e)) % q) + ((a2 + (q - a)) % q) * b2 * e2) % q == (a * b * e + a2 * b2 * e2) % q))))))
theorem np_2 : np 2 = true := by decide +kernel
theorem np_3 : np 3 = true := by decide +kernel
theorem nu_plus {q : Nat} (hq : q = 2 ∨ q = 3) {a b e a2 b2 e2 : Nat} (ha : a < q) (hb : b < q) (he : e < q) (ha2 : a2 < q) (hb2 : b2 < q) (he2 : e2 < q) : (a * ((b + b2) % q) * e + a * b2 * ((e2 + (q - e)) % q) + ((a2 + (q - a)) % q) * b2 * e2) % q = (a * b * e + a2 * b2 * e2) % q := by
  have h : np q = true := by rcases hq with rfl | rfl; exact np_2; exact np_3
  have h := al_ok (al_ok (al_ok (al_ok (al_ok (al_ok h ha) hb) he) ha2) hb2) he2
  simpa using h
theorem md_in2 {q P Q R u v t : Nat} (hq : q = 2 ∨ q = 3) (h : P = R + u) (h2 : Q = R + v) (e : (v + t) % q = u % q) : P % q = (Q + t) % q := by
  rcases hq with rfl | rfl <;> omega
section
variable {q c i j w : Nat} {A : Nat → Nat → Nat}
theorem px_bd (hq : q = 2 ∨ q = 3) (hA : Bd q c A) (hi : i < c) (hj : j < c) (hw : w < 3) : Bd q (c + 1) (plX q A c i j w) := by
  have b1 := bd_ad hA hA hj
  have b2 := bd_up (k := 3 * c + w) (a := fSub q (adA A c A j (3 * j + w)) (adA A c A j (3 * i + w))) b1 (fun p _ => fSub_lt hq _ _ p)
  exact bd_up (bd_up (bd_up b2 (bd_at b2 (show i < c + 1 by omega) hw)) (fun p _ => fSub_lt hq _ _ p)) (fun p _ => fAdd_lt hq _ _ p)
theorem px_eqG (hq : q = 2 ∨ q = 3) (hA : Bd q c A) (hi : i < c) (hj : j < c) (hij : i ≠ j) (hw : w < 3) : eqG q A c (plX q A c i j w) (c + 1) := by
  intro X hX
  obtain ⟨n1, n2, n3, n4, n5⟩ := nxx hw
  have hic : i ≠ c := by omega
  have hjc : j ≠ c := by omega
  have hji : j ≠ i := Ne.symm hij
  have ad_k : ∀ {k t : Nat}, k < c → t < 3 → adA A c A j (3 * k + t) = A (3 * k + t) := fun hk ht => if_pos (by omega)
  have ad_c : ∀ {t : Nat}, t < 3 → adA A c A j (3 * c + t) = A (3 * j + t) := fun {t} ht => by
    unfold adA
    rw [if_neg (by omega), show 3 * c + t - 3 * c = t by omega]
  have v_i : plX q A c i j w (3 * i + w) = A (3 * i + w) ∧ plX q A c i j w (3 * i + nx w) = fAdd q (A (3 * i + nx w)) (A (3 * j + nx w)) ∧ plX q A c i j w (3 * i + nx (nx w)) = A (3 * i + nx (nx w)) := by
    unfold plX
    refine ⟨?_, ?_, ?_⟩
    · rw [upA_tt (Ne.symm n3), upA_ot hij n2 hw, upA_ot hij hw hw, upA_ot hic hw hw, ad_k hi hw]
    · rw [upA_eq, upA_ot hij n2 n1, upA_ot hij hw n1, upA_ot hic hw n1, ad_k hi n1, upA_tt (Ne.symm n5), upA_tt n3, upA_ot hjc hw n1, ad_k hj n1]
    · rw [upA_tt n5, upA_ot hij n2 n2, upA_ot hij hw n2, upA_ot hic hw n2, ad_k hi n2]
  have v_j : plX q A c i j w (3 * j + w) = A (3 * i + w) ∧ plX q A c i j w (3 * j + nx w) = A (3 * j + nx w) ∧ plX q A c i j w (3 * j + nx (nx w)) = fSub q (A (3 * j + nx (nx w))) (A (3 * i + nx (nx w))) := by
    unfold plX
    refine ⟨?_, ?_, ?_⟩
    · rw [upA_ot hji n1 hw, upA_tt (Ne.symm n4), upA_eq, upA_ot hic hw hw, ad_k hi hw]
    · rw [upA_ot hji n1 n1, upA_tt (Ne.symm n5), upA_tt n3, upA_ot hjc hw n1, ad_k hj n1]
    · rw [upA_ot hji n1 n2, upA_eq, upA_tt n4, upA_ot hjc hw n2, ad_k hj n2, upA_ot hij hw n2, upA_ot hic hw n2, ad_k hi n2]
  have v_c : plX q A c i j w (3 * c + w) = fSub q (A (3 * j + w)) (A (3 * i + w)) ∧ plX q A c i j w (3 * c + nx w) = A (3 * j + nx w) ∧ plX q A c i j w (3 * c + nx (nx w)) = A (3 * j + nx (nx w)) := by
    unfold plX
    refine ⟨?_, ?_, ?_⟩
    · rw [upA_ot (Ne.symm hic) n1 hw, upA_ot (Ne.symm hjc) n2 hw, upA_ot (Ne.symm hjc) hw hw, upA_eq, ad_k hj hw, ad_k hi hw]
    · rw [upA_ot (Ne.symm hic) n1 n1, upA_ot (Ne.symm hjc) n2 n1, upA_ot (Ne.symm hjc) hw n1, upA_tt n3, ad_c n1]
    · rw [upA_ot (Ne.symm hic) n1 n2, upA_ot (Ne.symm hjc) n2 n2, upA_ot (Ne.symm hjc) hw n2, upA_tt n4, ad_c n2]
  have v_k : ∀ {k t : Nat}, k < c → t < 3 → k ≠ i → k ≠ j → plX q A c i j w (3 * k + t) = A (3 * k + t) := by
    intro k t hk ht k1 k2
    unfold plX
    rw [upA_ot k1 n1 ht, upA_ot k2 n2 ht, upA_ot k2 hw ht, upA_ot (by omega) hw ht, ad_k hk ht]
  have e1 : gX (plX q A c i j w) (c + 1) X = gX (plX q A c i j w) c X + tm (plX q A c i j w) c X := rfl
  rw [e1]
  have s1 : gX A c X = _ := sm_pull (f := fun i => tm A i X) hi hj hij
  have s2 : gX (plX q A c i j w) c X = _ := sm_pull (f := fun k => tm (plX q A c i j w) k X) hi hj hij
  have s3 : fb_sm (fun k => if k = j then 0 else if k = i then 0 else tm (plX q A c i j w) k X) c = fb_sm (fun k => if k = j then 0 else if k = i then 0 else tm A k X) c := fb_sm_cong (fun k hk => by
    by_cases k1 : k = j
    · rw [if_pos k1, if_pos k1]
    · rw [if_neg k1, if_neg k1]
      by_cases k2 : k = i
      · rw [if_pos k2, if_pos k2]
      · rw [if_neg k2, if_neg k2]
        exact tm_cong (fun t ht => v_k hk ht k2 k1))
  rw [s3] at s2
  refine md_in2 hq s1 s2 ?_
  rw [tm_w (A := plX q A c i j w) hw, tm_w (A := plX q A c i j w) (i := j) hw, tm_w (A := plX q A c i j w) (i := c) hw, tm_w (A := A) hw, tm_w (A := A) (i := j) hw, v_i.1, v_i.2.1, v_i.2.2, v_j.1, v_j.2.1, v_j.2.2, v_c.1, v_c.2.1, v_c.2.2]
  exact nu_plus hq (bd_at hA hi hw _ (hX w hw)) (bd_at hA hi n1 _ (hX _ n1)) (bd_at hA hi n2 _ (hX _ n2)) (bd_at hA hj hw _ (hX w hw)) (bd_at hA hj n1 _ (hX _ n1)) (bd_at hA hj n2 _ (hX _ n2))
end
