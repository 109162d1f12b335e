section PUB
variable {fu o : Nat}
/-- the tape o+105 with the reading place p, the bytes t -/
def AT (o L : Nat) (t : Nat → Nat) (M : Mem) (p : Nat) : Prop := M (o + 158) 1 = nI L ∧ M (o + 158) 4 = nI p ∧ ∀ j, j < L → M (o + 159) j = nI (t j)
theorem ns_lp {K : Mem → Option (Int32 × Mem)} {L : Nat} {t : Nat → Nat} (hL : L ≤ 80) (ht : ∀ j, j < L → 32 ≤ t j ∧ t j ≤ 126) : ∀ k p M n, L = p + k → k < n → AT o L t M p → ∃ M', lp_X5_nextSign_0 fu (o + 158) K n M = K M' ∧ AT o L t M' (skp t k p) ∧ ∀ a, a ≠ o + 158 → M' a = M a := by
  intro k
  induction k with
  | zero =>
    intro p M n hp hn h
    obtain ⟨n, rfl⟩ : ∃ q, n = q + 1 := ⟨n - 1, by omega⟩
    obtain ⟨h1, h2, h3⟩ := id h
    rw [lp_X5_nextSign_0, h1, h2, if_pos (by rw [q_le (by omega) (by omega)]; omega)]
    exact ⟨M, rfl, h, fun _ _ => rfl⟩
  | succ k ih =>
    intro p M n hp hn h
    obtain ⟨n, rfl⟩ : ∃ q, n = q + 1 := ⟨n - 1, by omega⟩
    obtain ⟨h1, h2, h3⟩ := id h
    have h4 : M (o + 158 + 1) p = nI (t p) := h3 p (by omega)
    have := ht p (by omega)
    rw [lp_X5_nextSign_0, h1, h2, if_neg (by rw [q_le (by omega) (by omega)]; omega), gd_t (q_ib (by omega) (by omega)), q_cl (by omega), h4, li_32, nI_1]
    simp only [lt]
    unfold skp
    by_cases z : t p = 32
    · rw [if_pos (by rw [q_eq (by omega) (by omega)]; exact z), if_pos z]
      obtain ⟨M', e, i1, i2⟩ := ih (p + 1) (up M (o + 158) 4 (nI (p + 1))) n (by omega) (by omega) ⟨by rw [up_j (by omega)]; exact h1, up_at, fun j hj => by rw [up_k (by omega)]; exact h3 j hj⟩
      exact ⟨M', e, i1, fun a ha => by rw [i2 a ha, up_k ha]⟩
    · rw [if_neg (by rw [q_eq (by omega) (by omega)]; exact z), if_neg z]
      exact ⟨M, rfl, h, fun _ _ => rfl⟩
variable {L : Nat} {t : Nat → Nat}
theorem nextSign_ {M : Mem} {p : Nat} (hf : 100 ≤ fu) (hL : L ≤ 80) (ht : ∀ j, j < L → 32 ≤ t j ∧ t j ≤ 126) (hp : p ≤ L) (h : AT o L t M p) : ∃ M', f_X5_nextSign fu M (o + 158) = some (sg t L (sk t L p), M') ∧ AT o L t M' (sk t L p) ∧ ∀ a, a ≠ o + 158 → M' a = M a := by
  unfold f_X5_nextSign
  obtain ⟨M', e, i1, i2⟩ := ns_lp (fu := fu) (K := fun M3 => (if (M3 (o + 158) 1) ≤ (M3 (o + 158) 4) then some ((-1 : Int32), M3) else gd (inb (M3 (o + 158) 4) 80) (some ((M3 (o + 158 + 1) (M3 (o + 158) 4).toNatClampNeg), M3)))) hL ht (L - p) p M fu (by omega) (by omega) h
  refine ⟨M', e.trans ?_, i1, i2⟩
  obtain ⟨j1, j2, j3⟩ := i1
  have hs : sk t L p ≤ L := sk_le hp
  show (if _ then _ else _) = _
  have j2' : M' (o + 158) 4 = nI (sk t L p) := j2
  rw [j1, j2']
  unfold sg
  by_cases z : sk t L p < L
  · have j4 : M' (o + 158 + 1) (sk t L p) = nI (t (sk t L p)) := j3 _ z
    rw [if_neg (by rw [q_le (by omega) (by omega)]; omega), if_pos z, gd_t (q_ib (by omega) (by omega)), q_cl (by omega), j4]
  · rw [if_pos (by rw [q_le (by omega) (by omega)]; omega), if_neg z]
theorem isb_sg {q c n : Nat} (ht : ∀ j, j < L → 32 ≤ t j ∧ t j ≤ 126) (hc : c < 1000) (hn : n < 1000) : f_X7_isBelow (sg t L q - nI c) (nI n) = some (if q < L ∧ c ≤ t q ∧ t q < c + n then 1 else 0) := by
  unfold sg
  by_cases z : q < L
  · have := ht q z
    rw [if_pos z, isb_sub (by omega) hc hn]
    congr 1
    by_cases y : c ≤ t q ∧ t q < c + n
    · rw [if_pos y, if_pos ⟨z, y⟩]
    · rw [if_neg y, if_neg (fun w => y w.2)]
  · rw [if_neg z, if_neg (fun w => z w.1), isb_f (by omega)]
    intro j hj e
    have := congrArg Int32.toInt e
    have e1 : (-1 - nI c : Int32) = nI 0 - nI (c + 1) := by
      rw [← nI_add, ← li_0, ← li_1, Int32.sub_eq_add_neg, Int32.sub_eq_add_neg, Int32.neg_add, Int32.zero_add, Int32.add_comm, Int32.sub_eq_add_neg]
    rw [e1, pk_sub_toInt (by omega) (by omega), nI_toInt (by omega)] at this
    omega
/-- a told word's cells -/
def WD (M : Mem) (w len pay : Nat) (tx : Nat → Nat) : Prop := M w 0 = nI len ∧ M w 1 = nI pay ∧ ∀ j, j < len → M (w + 1) j = nI (tx j)
theorem lets_ {K : Mem → Option (Int32 × Mem)} {w : Nat} (hf : 100 ≤ fu) (hL : L ≤ 80) (ht : ∀ j, j < L → 32 ≤ t j ∧ t j ≤ 126) (hw : o + 159 < w) : ∀ k p j tx M n, k + j = 6 → p ≤ L → k < n → AT o L t M p → WD M w j 10 tx → ∃ M', lp_X5_readWord_11 fu (o + 158) w K n M = K M' ∧ AT o L t M' (lets t L k p j tx).1 ∧ WD M' w (lets t L k p j tx).2.1 10 (lets t L k p j tx).2.2 ∧ ∀ a, a ≠ o + 158 → a ≠ w → a ≠ w + 1 → M' a = M a := by
  intro k
  induction k with
  | zero =>
    intro p j tx M n hk hp hn h hd
    obtain ⟨n, rfl⟩ : ∃ q, n = q + 1 := ⟨n - 1, by omega⟩
    obtain rfl : j = 6 := by omega
    rw [lp_X5_readWord_11, hd.1, if_pos (by decide)]
    exact ⟨M, rfl, h, hd, fun _ _ _ _ => rfl⟩
  | succ k ih =>
    intro p j tx M n hk hp hn h hd
    obtain ⟨n, rfl⟩ : ∃ q, n = q + 1 := ⟨n - 1, by omega⟩
    obtain ⟨M1, e1, a1, a2⟩ := nextSign_ hf hL ht hp h
    obtain ⟨d1, d2, d3⟩ := hd
    have hs := sk_le (t := t) hp
    rw [lp_X5_readWord_11, d1, li_6, if_neg (by rw [q_le (by omega) (by omega)]; omega), e1, bd_s, li_97, li_26, isb_sg ht (by omega) (by omega), bd_s]
    unfold lets
    by_cases z : sk t L p < L ∧ 97 ≤ t (sk t L p) ∧ t (sk t L p) < 97 + 26
    · have b1 : M1 w 0 = nI j := by rw [a2 w (by omega)]; exact d1
      have b2 : M1 (o + 158 + 1) (sk t L p) = nI (t (sk t L p)) := a1.2.2 _ z.1
      rw [if_pos z, if_pos z, if_neg one0]
      simp only [lt]
      rw [a1.2.1, b1, gd_t (q_ib (by omega) (by omega)), gd_t (q_ib (by omega) (by omega)), q_cl (by omega), q_cl (by omega), b2, q_sb z.2.1]
      rw [up_k (by omega), b1, nI_1, up_k (by omega), up_k (by omega), a1.2.1, nI_1]
      obtain ⟨M', e, c1, c2, c3⟩ := ih (sk t L p + 1) (j + 1) (updN tx j (t (sk t L p) - 97)) (up (up (up M1 (w + 1) j (nI (t (sk t L p) - 97))) w 0 (nI (j + 1))) (o + 158) 4 (nI (sk t L p + 1))) n (by omega) (by omega) (by omega) ⟨by rw [up_j (by omega), up_k (by omega), up_k (by omega)]; exact a1.1, up_at, fun i hi => by rw [up_k (by omega), up_k (by omega), up_k (by omega)]; exact a1.2.2 i hi⟩ ⟨by rw [up_k (by omega), up_at], by rw [up_k (by omega), up_j (by omega), up_k (by omega), a2 w (by omega)]; exact d2, fun i hi => by
        rw [up_k (by omega), up_k (by omega)]
        unfold updN
        by_cases y : i = j
        · subst y; rw [if_pos rfl, up_at]
        · rw [if_neg y, up_j y, a2 _ (by omega)]; exact d3 i (by omega)⟩
      exact ⟨M', e, c1, c2, fun a h1 h2 h3 => by rw [c3 a h1 h2 h3, up_k h1, up_k h2, up_k h3, a2 a h1]⟩
    · rw [if_neg z, if_neg z, if_pos rfl]
      exact ⟨M1, rfl, a1, ⟨by rw [a2 w (by omega)]; exact d1, by rw [a2 w (by omega)]; exact d2, fun i hi => by rw [a2 _ (by omega)]; exact d3 i hi⟩, fun a h1 _ _ => a2 a h1⟩
theorem isfig {c : Nat} (hc : c < 1000) : f_X5_isFigure (nI c) = some (if 48 ≤ c ∧ c < 48 + 10 then 1 else 0) := by
  unfold f_X5_isFigure
  rw [li_48, li_10, isb_sub hc (by omega) (by omega), bd_s]
  split
  · rw [gd_t isZ1]
  · rw [gd_t isZ0]
theorem numb_ {K : Int32 → Mem → Option (Int32 × Mem)} {w : Nat} {b : Int32} (hL : L ≤ 80) (ht : ∀ j, j < L → 32 ≤ t j ∧ t j ≤ 126) : ∀ k p v M n, L = p + k → k < n → v ≤ 100 → AT o L t M p → ∃ M', lp_X5_readPay_25 fu (o + 158) w b K n (nI v) M = K (nI (numb t k p v).2) M' ∧ (numb t k p v).2 ≤ 100 ∧ AT o L t M' (numb t k p v).1 ∧ ∀ a, a ≠ o + 158 → M' a = M a := by
  intro k
  induction k with
  | zero =>
    intro p v M n hp hn hv h
    obtain ⟨n, rfl⟩ : ∃ q, n = q + 1 := ⟨n - 1, by omega⟩
    rw [lp_X5_readPay_25, h.1, h.2.1, if_pos (by rw [q_le (by omega) (by omega)]; omega)]
    exact ⟨M, rfl, hv, h, fun _ _ => rfl⟩
  | succ k ih =>
    intro p v M n hp hn hv h
    obtain ⟨n, rfl⟩ : ∃ q, n = q + 1 := ⟨n - 1, by omega⟩
    obtain ⟨h1, h2, h3⟩ := id h
    have h4 : M (o + 158 + 1) p = nI (t p) := h3 p (by omega)
    have := ht p (by omega)
    rw [lp_X5_readPay_25, h1, h2, if_neg (by rw [q_le (by omega) (by omega)]; omega), gd_t (q_ib (by omega) (by omega)), q_cl (by omega), h4, isfig (by omega), bd_s]
    unfold numb
    by_cases z : 48 ≤ t p ∧ t p < 48 + 10
    · rw [if_pos z, if_pos z, if_neg one0, gd_t (q_ib (by omega) (by omega))]
      simp only [lt]
      have ev : (if (((10 : Int32) * nI v) + nI (t p)) - 48 < (100 : Int32) then (((10 : Int32) * nI v) + nI (t p)) - 48 else (100 : Int32)) = nI (min 100 (10 * v + (t p - 48))) := by
        rw [li_10, li_48, li_100, q_mu, q_ad, q_sb (by omega)]
        by_cases y : 10 * v + t p - 48 < 100
        · rw [if_pos (by rw [q_lt (by omega) (by omega)]; exact y)]
          congr 1
          omega
        · rw [if_neg (by rw [q_lt (by omega) (by omega)]; exact y)]
          congr 1
          omega
      rw [ev, nI_1]
      obtain ⟨M', e, c0, c1, c2⟩ := ih (p + 1) (min 100 (10 * v + (t p - 48))) (up M (o + 158) 4 (nI (p + 1))) n (by omega) (by omega) (by omega) ⟨by rw [up_j (by omega)]; exact h1, up_at, fun j hj => by rw [up_k (by omega)]; exact h3 j hj⟩
      exact ⟨M', e, c0, c1, fun a ha => by rw [c2 a ha, up_k ha]⟩
    · rw [if_neg z, if_neg z, if_pos rfl]
      exact ⟨M, rfl, hv, h, fun _ _ => rfl⟩
end PUB
