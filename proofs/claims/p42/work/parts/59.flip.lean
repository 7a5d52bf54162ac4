/-! a flip gives what there was -/
def nf (q : Nat) : Bool := al q (fun f => al q (fun a => al q (fun bi => al q (fun bj => al q (fun ci => al q (fun cj => f == 0 || (a * bi * ci + (f * a % q) * bj * cj) % q == (a * ((bi + f * bj % q) % q) * ci + a * (f * bj % q) * ((cj + (q - ci)) % q)) % q))))))
theorem nf_2 : nf 2 = true := by decide +kernel
theorem nf_3 : nf 3 = true := by decide +kernel
theorem nu_flip {q : Nat} (hq : q = 2 ∨ q = 3) {f a bi bj ci cj : Nat} (hf : f < q) (ha : a < q) (hbi : bi < q) (hbj : bj < q) (hci : ci < q) (hcj : cj < q) (h0 : f ≠ 0) : (a * bi * ci + (f * a % q) * bj * cj) % q = (a * ((bi + f * bj % q) % q) * ci + a * (f * bj % q) * ((cj + (q - ci)) % q)) % q := by
  have h : nf q = true := by rcases hq with rfl | rfl; exact nf_2; exact nf_3
  have h := al_ok (al_ok (al_ok (al_ok (al_ok (al_ok h hf) ha) hbi) hbj) hci) hcj
  simpa [h0] using h
section
variable {q c i j w : Nat} {A : Nat → Nat → Nat}
theorem tf_ot {m u : Nat} (hw : w < 3) (hu : u < 3) (h1 : m ≠ i) (h2 : m ≠ j) : tfA q A i j w (3 * m + u) = A (3 * m + u) := by
  obtain ⟨n1, n2, n3, n4, n5⟩ := nxx hw
  unfold tfA tf4 tf3 tf2 tf1
  rw [upA_ot h2 n2 hu, upA_ot h1 n1 hu, upA_ot h2 n1 hu, upA_ot h2 hw hu]
theorem tf_i (hw : w < 3) (hij : i ≠ j) : tfA q A i j w (3 * i + w) = A (3 * i + w) ∧ tfA q A i j w (3 * i + nx w) = fAdd q (A (3 * i + nx w)) (fMul q (likeN q (A (3 * i + w)) (A (3 * j + w))) (A (3 * j + nx w))) ∧ tfA q A i j w (3 * i + nx (nx w)) = A (3 * i + nx (nx w)) := by
  obtain ⟨n1, n2, n3, n4, n5⟩ := nxx hw
  unfold tfA tf4 tf3 tf2 tf1
  refine ⟨?_, ?_, ?_⟩
  · rw [upA_ot hij n2 hw, upA_tt (Ne.symm n3), upA_ot hij n1 hw, upA_ot hij hw hw]
  · rw [upA_ot hij n2 n1, upA_eq, upA_ot hij n1 n1, upA_ot hij hw n1, upA_eq, upA_tt n3]
  · rw [upA_ot hij n2 n2, upA_tt n5, upA_ot hij n1 n2, upA_ot hij hw n2]
theorem tf_j (hw : w < 3) (hij : i ≠ j) : tfA q A i j w (3 * j + w) = A (3 * i + w) ∧ tfA q A i j w (3 * j + nx w) = fMul q (likeN q (A (3 * i + w)) (A (3 * j + w))) (A (3 * j + nx w)) ∧ tfA q A i j w (3 * j + nx (nx w)) = fSub q (A (3 * j + nx (nx w))) (A (3 * i + nx (nx w))) := by
  obtain ⟨n1, n2, n3, n4, n5⟩ := nxx hw
  have hji : j ≠ i := Ne.symm hij
  unfold tfA tf4 tf3 tf2 tf1
  refine ⟨?_, ?_, ?_⟩
  · rw [upA_tt (Ne.symm n4), upA_ot hji n1 hw, upA_tt (Ne.symm n3), upA_eq]
  · rw [upA_tt (Ne.symm n5), upA_ot hji n1 n1, upA_eq, upA_tt n3]
  · rw [upA_eq, upA_ot hji n1 n2, upA_tt n5, upA_tt n4, upA_tt n5, upA_ot hij n1 n2, upA_ot hij hw n2]
theorem tf_bd (hq : q = 2 ∨ q = 3) (hA : Bd q c A) (hi : i < c) (hw : w < 3) : Bd q c (tfA q A i j w) := by
  unfold tfA tf4 tf3 tf2 tf1
  exact bd_up (bd_up (bd_up (bd_up hA (bd_at hA hi hw)) (fun p _ => fMul_lt hq _ _ p)) (fun p _ => fAdd_lt hq _ _ p)) (fun p _ => fSub_lt hq _ _ p)
theorem tf_eqG (hq : q = 2 ∨ q = 3) (hA : Bd q c A) (hi : i < c) (hj : j < c) (hij : i ≠ j) (hw : w < 3) (hl : likeN q (A (3 * i + w)) (A (3 * j + w)) ≠ 0) : eqG q A c (tfA q A i j w) c := by
  intro X hX
  obtain ⟨n1, n2, n3, n4, n5⟩ := nxx hw
  refine sm_two hi hj hij (fun k _ h1 h2 => ?_) ?_
  · rw [tm_cong (A := A) (B := tfA q A i j w) (fun t ht => (tf_ot hw ht h1 h2).symm)]
  · have e := like_mul hq (bd_at hA hi hw) hl (X w) (hX w hw)
    rw [tm_w hw, tm_w (i := j) hw, tm_w (A := tfA q A i j w) hw, tm_w (A := tfA q A i j w) (i := j) hw, (tf_i hw hij).1, (tf_i hw hij).2.1, (tf_i hw hij).2.2, (tf_j hw hij).1, (tf_j hw hij).2.1, (tf_j hw hij).2.2, e]
    exact nu_flip hq (likeN_lt_q hq _ _) (bd_at hA hi hw _ (hX w hw)) (bd_at hA hi n1 _ (hX _ n1)) (bd_at hA hj n1 _ (hX _ n1)) (bd_at hA hi n2 _ (hX _ n2)) (bd_at hA hj n2 _ (hX _ n2)) hl
end
/-! what is joined gives what there was -/
def nj (q : Nat) : Bool := al q (fun f => al q (fun g => al q (fun a => al q (fun a2 => al q (fun b => al q (fun e => f == 0 || (g == 0 || (a * b * e + a2 * (f * b % q) * (g * e % q)) % q == ((a + (if f = g then 1 else 2) * a2 % q) % q * b * e) % q)))))))
theorem nj_2 : nj 2 = true := by decide +kernel
theorem nj_3 : nj 3 = true := by decide +kernel
theorem nu_join {q : Nat} (hq : q = 2 ∨ q = 3) {f g a a2 b e : Nat} (hf : f < q) (hg : g < q) (ha : a < q) (ha2 : a2 < q) (hb : b < q) (he : e < q) (h0 : f ≠ 0) (h1 : g ≠ 0) : (a * b * e + a2 * (f * b % q) * (g * e % q)) % q = ((a + (if f = g then 1 else 2) * a2 % q) % q * b * e) % q := by
  have h : nj q = true := by rcases hq with rfl | rfl; exact nj_2; exact nj_3
  have h := al_ok (al_ok (al_ok (al_ok (al_ok (al_ok h hf) hg) ha) ha2) hb) he
  simpa [h0, h1] using h
section
variable {q c i j w : Nat} {A : Nat → Nat → Nat}
theorem rm_eqG {m : Nat} (hm : m < c) (hz : hzB A m = true) : eqG q A c (rmA A m) (c - 1) := by
  intro X hX
  have h := gX_rm (A := A) (X := X) hm
  rw [hz_tm hz hX, Nat.add_zero] at h
  rw [h]
theorem jn_bd (hq : q = 2 ∨ q = 3) (hA : Bd q c A) : Bd q (c - 1) (jnA q A i j w) := bd_rm (bd_up hA (fun p _ => fAdd_lt hq _ _ p))
theorem jn_eqG (hq : q = 2 ∨ q = 3) (hA : Bd q c A) (hi : i < c) (hj : j < c) (hij : i ≠ j) (hw : w < 3) (hl : jB q A i j w = true) : eqG q A c (jnA q A i j w) (c - 1) := by
  intro X hX
  obtain ⟨n1, n2, n3, n4, n5⟩ := nxx hw
  unfold jB at hl
  rw [Bool.and_eq_true] at hl
  have l1 := lk_ne hl.1
  have l2 := lk_ne hl.2
  have e1 := like_mul hq (bd_at hA hi n1) l1 (X (nx w)) (hX _ n1)
  have e2 := like_mul hq (bd_at hA hi n2) l2 (X (nx (nx w))) (hX _ n2)
  have h := gX_rm (A := upA A (3 * i + w) (fAdd q (A (3 * i + w)) (fMul q (bothN q A i j w) (A (3 * j + w))))) (X := X) hj
  have s1 : gX A c X = _ := sm_pull (f := fun i => tm A i X) hi hj hij
  have s2 : gX (upA A (3 * i + w) (fAdd q (A (3 * i + w)) (fMul q (bothN q A i j w) (A (3 * j + w))))) c X = _ := sm_pull (f := fun k => tm (upA A (3 * i + w) (fAdd q (A (3 * i + w)) (fMul q (bothN q A i j w) (A (3 * j + w))))) k X) hi hj hij
  have s3 : fb_sm (fun k => if k = j then 0 else if k = i then 0 else tm (upA A (3 * i + w) (fAdd q (A (3 * i + w)) (fMul q (bothN q A i j w) (A (3 * j + w))))) k X) c = fb_sm (fun k => if k = j then 0 else if k = i then 0 else tm A k X) c := fb_sm_cong (fun k _ => by
    by_cases k1 : k = j
    · rw [if_pos k1, if_pos k1]
    · rw [if_neg k1, if_neg k1]
      by_cases k2 : k = i
      · rw [if_pos k2, if_pos k2]
      · rw [if_neg k2, if_neg k2]
        exact tm_cong (fun t ht => upA_ot k2 hw ht))
  rw [s3] at s2
  rw [s2] at h
  have h2 : gX (jnA q A i j w) (c - 1) X = fb_sm (fun k => if k = j then 0 else if k = i then 0 else tm A k X) c + tm (upA A (3 * i + w) (fAdd q (A (3 * i + w)) (fMul q (bothN q A i j w) (A (3 * j + w))))) i X := by
    unfold jnA
    omega
  rw [s1, h2, Nat.add_mod, Nat.add_mod _ (tm _ i X)]
  congr 2
  rw [tm_w hw, tm_w (i := j) hw, tm_w (A := upA _ _ _) hw, upA_eq, upA_tt n3, upA_tt n4, e1, e2]
  exact nu_join hq (likeN_lt_q hq _ _) (likeN_lt_q hq _ _) (bd_at hA hi hw _ (hX w hw)) (bd_at hA hj hw _ (hX w hw)) (bd_at hA hi n1 _ (hX _ n1)) (bd_at hA hi n2 _ (hX _ n2)) l1 l2
theorem jf_spec (hs : jf q A c < 4800) : jf q A c / 120 < jf q A c / 3 % 40 ∧ jf q A c / 3 % 40 < c ∧ jB q A (jf q A c / 120) (jf q A c / 3 % 40) (jf q A c % 3) = true := by
  have h := (fi_lt (f := jfB q A c) hs).1
  rw [show fi (jfB q A c) 4800 = jf q A c from rfl] at h
  unfold jfB at h
  simp only [Bool.and_eq_true, decide_eq_true_eq] at h
  exact ⟨h.1.1, h.1.2, h.2⟩
theorem jfA_eqG (hq : q = 2 ∨ q = 3) (hA : Bd q c A) (hs : jf q A c < 4800) : eqG q A c (jfA q A c) (c - 1) := by
  obtain ⟨h1, h2, h3⟩ := jf_spec hs
  exact jn_eqG hq hA (by omega) h2 (by omega) (Nat.mod_lt _ (by decide)) h3
theorem jAll_ok (hq : q = 2 ∨ q = 3) : ∀ (n c : Nat) (A : Nat → Nat → Nat) (z l : Nat), Bd q c A → Bd q (jAll q n (c, A, z, l)).1 (jAll q n (c, A, z, l)).2.1 ∧ eqG q A c (jAll q n (c, A, z, l)).2.1 (jAll q n (c, A, z, l)).1 ∧ (jAll q n (c, A, z, l)).1 + ((jAll q n (c, A, z, l)).2.2.1 + (jAll q n (c, A, z, l)).2.2.2) = c + (z + l) ∧ (c ≤ n → ¬ fi (hzB (jAll q n (c, A, z, l)).2.1) (jAll q n (c, A, z, l)).1 < (jAll q n (c, A, z, l)).1 ∧ ¬ jf q (jAll q n (c, A, z, l)).2.1 (jAll q n (c, A, z, l)).1 < 4800)
  | 0, c, A, z, l, h => ⟨h, eqG_refl _ _ _, rfl, fun hc => ⟨by show ¬ fi (hzB A) c < c; omega, fun hs => by
    have hs : jf q A c < 4800 := hs
    have := (jf_spec hs).2.1
    omega⟩⟩
  | n + 1, c, A, z, l, h => by
    unfold jAll
    split
    · rename_i hz
      obtain ⟨i1, i2, i3, i4⟩ := jAll_ok hq n (c - 1) (rmA A (fi (hzB A) c)) (z + 1) l (bd_rm h)
      exact ⟨i1, eqG_trans (rm_eqG hz (fi_lt hz).1) i2, by omega, fun hc => i4 (by omega)⟩
    · rename_i hz
      split
      · rename_i hs
        have hc0 := (jf_spec hs).2.1
        obtain ⟨i1, i2, i3, i4⟩ := jAll_ok hq n (c - 1) (jfA q A c) z (l + 1) (jn_bd hq h)
        exact ⟨i1, eqG_trans (jfA_eqG hq h hs) i2, by omega, fun hc => i4 (by omega)⟩
      · rename_i hs
        exact ⟨h, eqG_refl _ _ _, rfl, fun _ => ⟨hz, hs⟩⟩
/-- where nothing can be joined, nothing is -/
theorem jAll_fix {z l : Nat} (h1 : ¬ fi (hzB A) c < c) (h2 : ¬ jf q A c < 4800) : ∀ n, jAll q n (c, A, z, l) = (c, A, z, l)
  | 0 => rfl
  | n + 1 => by rw [jAll, if_neg h1, if_neg h2]
theorem no_zero (h : ¬ fi (hzB A) c < c) : fb_ct (hzB A) c = 0 := fb_ct_zero.mpr (fun k hk => by
  have := fi_ge h k hk
  simpa using this)
end
