theorem flt_ne : ∀ p, p < 200 → (-20 - nI p : Int32) ≠ 0 := by decide +kernel
section PUB
variable {fu o L : Nat} {t : Nat → Nat}
theorem isfig_sg {q : Nat} (ht : ∀ j, j < L → 32 ≤ t j ∧ t j ≤ 126) : f_X5_isFigure (sg t L q) = some (if q < L ∧ 48 ≤ t q ∧ t q < 48 + 10 then 1 else 0) := by
  unfold f_X5_isFigure
  rw [li_48, li_10, isb_sg ht (by omega) (by omega), bd_s]
  split
  · rw [gd_t isZ1]
  · rw [gd_t isZ0]
theorem flt_e {M : Mem} {q : Nat} (h : AT o L t M q) : f_X5_faultAt (M (o + 158) 4) = some (-20 - nI q) := by
  rw [h.2.1]; rfl
theorem WD.fr {M M1 : Mem} {w len pay : Nat} {tx : Nat → Nat} (h : WD M w len pay tx) (h1 : M1 w = M w) (h2 : M1 (w + 1) = M (w + 1)) : WD M1 w len pay tx := ⟨by rw [h1]; exact h.1, by rw [h1]; exact h.2.1, fun j hj => by rw [h2]; exact h.2.2 j hj⟩
theorem readPay_ {M : Mem} {p w len py : Nat} {tx : Nat → Nat} (hf : 100 ≤ fu) (hL : L ≤ 80) (ht : ∀ j, j < L → 32 ≤ t j ∧ t j ≤ 126) (hw : o + 159 < w) (hp : p ≤ L) (h : AT o L t M p) (hd : WD M w len py tx) : ∃ v M', f_X5_readPay fu M (o + 158) w = some (v, M') ∧ (∀ q, payx t L p = .inl q → v = -20 - nI q) ∧ (∀ z, payx t L p = .inr z → v = 0 ∧ AT o L t M' z.1 ∧ WD M' w len z.2 tx) ∧ (∃ p', AT o L t M' p') ∧ ∀ a, a ≠ o + 158 → a ≠ w → a ≠ w + 1 → M' a = M a := by
  unfold f_X5_readPay
  obtain ⟨M1, e1, a1, a2⟩ := nextSign_ hf hL ht hp h
  have hs := sk_le (t := t) hp
  rw [e1, bd_s]
  simp only [lt]
  rw [isfig_sg ht, bd_s]
  unfold payx
  by_cases z : sk t L p < L ∧ 48 ≤ t (sk t L p) ∧ t (sk t L p) < 48 + 10
  · rw [if_pos z, if_pos z, if_neg one0, a1.2.1]
    obtain ⟨M2, e2, b0, b1, b2⟩ := numb_ (fu := fu) (o := o) (w := w) (b := nI (sk t L p)) (K := fun v10 M11 => (if v10 ≤ (99 : Int32) then some ((0 : Int32), up M11 w 1 v10) else (f_X5_faultAt (nI (sk t L p))).bind (fun u13 => some (u13, up M11 w 1 v10)))) hL ht (L - sk t L p) (sk t L p) 0 M1 fu (by omega) (by omega) (by omega) a1
    have e2' := e2
    rw [← li_0] at e2'
    generalize numb t (L - sk t L p) (sk t L p) 0 = r at *
    have hat : AT o L t (up M2 w 1 (nI r.2)) r.1 := ⟨by rw [up_k (by omega)]; exact b1.1, by rw [up_k (by omega)]; exact b1.2.1, fun j hj => by rw [up_k (by omega)]; exact b1.2.2 j hj⟩
    by_cases y : r.2 ≤ 99
    · refine ⟨0, up M2 w 1 (nI r.2), ?_, ?_, ?_, ⟨_, hat⟩, ?_⟩
      · rw [e2']
        exact if_pos (by rw [li_99, q_le (by omega) (by omega)]; exact y)
      · intro q e
        rw [if_pos y] at e
        exact absurd e (by simp)
      · intro z e
        rw [if_pos y] at e
        rw [← Sum.inr.inj e]
        exact ⟨rfl, hat, by rw [up_j (by omega), b2 w (by omega), a2 w (by omega)]; exact hd.1, up_at, fun j hj => by rw [up_k (by omega), b2 _ (by omega), a2 _ (by omega)]; exact hd.2.2 j hj⟩
      · intro a h1 h2 _
        rw [up_k h2, b2 a h1, a2 a h1]
    · refine ⟨-20 - nI (sk t L p), up M2 w 1 (nI r.2), ?_, ?_, ?_, ⟨_, hat⟩, ?_⟩
      · rw [e2']
        have ef : f_X5_faultAt (nI (sk t L p)) = some (-20 - nI (sk t L p)) := rfl
        show (if _ then _ else _) = _
        rw [if_neg (by rw [li_99, q_le (by omega) (by omega)]; exact y), ef, bd_s]
      · intro q e
        rw [if_neg y] at e
        rw [Sum.inl.inj e]
      · intro z e
        rw [if_neg y] at e
        exact absurd e (by simp)
      · intro a h1 h2 _
        rw [up_k h2, b2 a h1, a2 a h1]
  · rw [if_neg z, if_neg z, if_pos rfl, flt_e a1, bd_s]
    refine ⟨-20 - nI (sk t L p), M1, rfl, ?_, ?_, ⟨_, a1⟩, fun a h1 _ _ => a2 a h1⟩
    · intro q e
      rw [Sum.inl.inj e]
    · intro z e
      exact absurd e (by simp)
theorem sg58 {q : Nat} (ht : ∀ j, j < L → 32 ≤ t j ∧ t j ≤ 126) {c : Nat} (hc : c < 1000) : sg t L q = nI c ↔ q < L ∧ t q = c := by
  unfold sg
  by_cases z : q < L
  · have := ht q z
    rw [if_pos z, q_eq (by omega) (by omega)]
    exact ⟨fun e => ⟨z, e⟩, fun e => e.2⟩
  · rw [if_neg z]
    refine ⟨fun e => ?_, fun e => absurd e.1 z⟩
    have := congrArg Int32.toInt e
    rw [nI_toInt (by omega)] at this
    have e2 : (-1 : Int32).toInt = -1 := by decide
    omega
theorem readWord_ {M : Mem} {p w : Nat} (hf : 100 ≤ fu) (hL : L ≤ 80) (ht : ∀ j, j < L → 32 ≤ t j ∧ t j ≤ 126) (hw : o + 159 < w) (hp : p ≤ L) (h : AT o L t M p) : ∃ v M', f_X5_readWord fu M (o + 158) w = some (v, M') ∧ (∀ q, wrd t L p = .inl q → v = -20 - nI q) ∧ (∀ z, wrd t L p = .inr z → v = 0 ∧ AT o L t M' z.1 ∧ WD M' w z.2.1 z.2.2.1 z.2.2.2) ∧ (∃ p', AT o L t M' p') ∧ ∀ a, a ≠ o + 158 → a ≠ w → a ≠ w + 1 → M' a = M a := by
  unfold f_X5_readWord
  simp only [lt]
  have h0 : AT o L t (up (up M w 0 (0 : Int32)) w 1 (10 : Int32)) p := ⟨by rw [up_k (by omega), up_k (by omega)]; exact h.1, by rw [up_k (by omega), up_k (by omega)]; exact h.2.1, fun j hj => by rw [up_k (by omega), up_k (by omega)]; exact h.2.2 j hj⟩
  have d0 : WD (up (up M w 0 (0 : Int32)) w 1 (10 : Int32)) w 0 10 (fun _ => 0) := ⟨by rw [up_j (by omega), up_at]; rfl, by rw [up_at]; rfl, fun j hj => absurd hj (Nat.not_lt_zero j)⟩
  obtain ⟨M1, e1, a1, a2, a3⟩ := lets_ (fu := fu) (K := fun M10 => (if (M10 w 0) = 0 then (f_X5_faultAt (M10 (o + 158) 4)).bind (fun u11 => some (u11, M10)) else (f_X5_nextSign fu M10 (o + 158)).bind (fun u12 => (if u12.1 = (58 : Int32) then (f_X5_readPay fu (up u12.2 (o + 158) 4 ((u12.2 (o + 158) 4) + (1 : Int32))) (o + 158) w).bind (fun u14 => some (u14.1, u14.2)) else some ((0 : Int32), u12.2))))) hf hL ht hw 6 p 0 (fun _ => 0) _ fu (by omega) hp (by omega) h0 d0
  obtain ⟨l1, l2, -⟩ := lets_ok (t := t) (L := L) 6 p 0 (fun _ => 0) hp (fun i hi => by omega)
  rw [e1]
  clear e1
  unfold wrd
  have hfr : ∀ a, a ≠ o + 158 → a ≠ w → a ≠ w + 1 → M1 a = M a := fun a h1 h2 h3 => by rw [a3 a h1 h2 h3, up_k h2, up_k h2]
  generalize lets t L 6 p 0 (fun _ => 0) = r at *
  rw [a2.1]
  by_cases z : r.2.1 = 0
  · rw [if_pos (by rw [z]; rfl), if_pos z, flt_e a1, bd_s]
    refine ⟨-20 - nI r.1, M1, rfl, ?_, ?_, ⟨_, a1⟩, hfr⟩
    · intro q e; rw [Sum.inl.inj e]
    · intro z e; exact absurd e (by simp)
  · obtain ⟨M2, e2, b1, b2⟩ := nextSign_ hf hL ht l1 a1
    have hs := sk_le (t := t) l1
    have hd2 : WD M2 w r.2.1 10 r.2.2 := a2.fr (b2 w (by omega)) (b2 _ (by omega))
    rw [li_0, if_neg (by rw [q_eq (by omega) (by omega)]; exact z), if_neg z, e2, bd_s]
    by_cases y : sk t L r.1 < L ∧ t (sk t L r.1) = 58
    · rw [if_pos y]
      obtain ⟨v, M3, e3, c1, c2, c3, c4⟩ := readPay_ (M := up M2 (o + 158) 4 (nI (sk t L r.1 + 1))) (p := sk t L r.1 + 1) hf hL ht hw (by omega) ⟨by rw [up_j (by omega)]; exact b1.1, up_at, fun j hj => by rw [up_k (by omega)]; exact b1.2.2 j hj⟩ (hd2.fr (M1 := up M2 (o + 158) 4 (nI (sk t L r.1 + 1))) (up_k (by omega)) (up_k (by omega)))
      refine ⟨v, M3, ?_, ?_, ?_, c3, fun a h1 h2 h3 => by rw [c4 a h1 h2 h3, up_k h1, b2 a h1, hfr a h1 h2 h3]⟩
      · have hs58 : sg t L (sk t L r.1) = 58 := by rw [li_58]; exact (sg58 ht (by omega)).mpr y
        simp only []
        rw [if_pos hs58, b1.2.1, nI_1, e3, bd_s]
      · intro q e
        apply c1
        revert e
        cases payx t L (sk t L r.1 + 1) with
        | inl q2 => intro e; exact congrArg Sum.inl (Sum.inl.inj e)
        | inr z2 => intro e; exact absurd e (by simp)
      · intro z e
        revert e c2
        cases payx t L (sk t L r.1 + 1) with
        | inl q2 => intro _ e; exact absurd e (by simp)
        | inr z2 =>
          intro c2 e
          have e3 : (Sum.inr (z2.1, r.2.1, z2.2, r.2.2) : Nat ⊕ (Nat × Nat × Nat × (Nat → Nat))) = .inr z := e
          rw [← Sum.inr.inj e3]
          exact c2 z2 rfl
    · rw [if_neg y]
      refine ⟨0, M2, ?_, ?_, ?_, ⟨_, b1⟩, fun a h1 h2 h3 => by rw [b2 a h1, hfr a h1 h2 h3]⟩
      · have hs58 : ¬ sg t L (sk t L r.1) = 58 := by rw [li_58, sg58 ht (by omega)]; exact y
        simp only []
        rw [if_neg hs58]
        rfl
      · intro q e; exact absurd e (by simp)
      · intro z e
        rw [← Sum.inr.inj e]
        exact ⟨rfl, b1, hd2⟩
end PUB
