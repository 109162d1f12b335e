section PUB
variable {fu b L : Nat} {t : Nat → Nat}
/-- what reading words leaves as it was: all but the tape's place, the count read, the row read -/
def FrW (b : Nat) (M M1 : Mem) : Prop := (∀ a, a ≠ b → a ≠ b + 9 → M1 a = M a) ∧ ∀ j, j ≠ 11 → M1 b j = M b j
theorem FrW.tr {M M1 M2 : Mem} (h : FrW b M M1) (h2 : FrW b M1 M2) : FrW b M M2 := ⟨fun a x y => (h2.1 a x y).trans (h.1 a x y), fun j x => (h2.2 j x).trans (h.2 j x)⟩
theorem FrB.w {M M1 : Mem} (h : FrB b M M1) : FrW b M M1 := ⟨fun a x _ => h.1 a x, h.2⟩
theorem FrW.u9 {M M1 : Mem} {j : Nat} {v : Int32} (h : FrW b M M1) : FrW b M (up M1 (b + 9) j v) := ⟨fun a x y => by rw [up_k y]; exact h.1 a x y, fun j x => by rw [up_k (by omega)]; exact h.2 j x⟩
theorem FrW.u11 {M M1 : Mem} {v : Int32} (h : FrW b M M1) : FrW b M (up M1 b 11 v) := ⟨fun a x y => by rw [up_k x]; exact h.1 a x y, fun j x => by rw [up_j x]; exact h.2 j x⟩
theorem FrW.rf {M : Mem} : FrW b M M := ⟨fun _ _ _ => rfl, fun _ _ => rfl⟩
/-- the row read changes between lo and hi only -/
def R9 (b lo hi : Nat) (M M1 : Mem) : Prop := ∀ x, (x < lo ∨ hi ≤ x) → M1 (b + 9) x = M (b + 9) x
theorem ATM.u9 {M : Mem} {p j : Nat} {v : Int32} (h : ATM b L t M p) : ATM b L t (up M (b + 9) j v) p := ⟨by rw [up_k (by omega)]; exact h.1, by rw [up_k (by omega)]; exact h.2.1, fun q hq => by rw [up_k (by omega)]; exact h.2.2 q hq⟩
theorem ATM.u11 {M : Mem} {p q : Nat} (h : ATM b L t M p) : ATM b L t (up M b 11 (nI q)) q := ⟨by rw [up_j (by omega)]; exact h.1, up_at, fun j hj => by rw [up_k (by omega)]; exact h.2.2 j hj⟩
theorem Mlets_ {w : Nat} (hf : 100 ≤ fu) (hL : L ≤ 80) (ht : ∀ j, j < L → 32 ≤ t j ∧ t j ≤ 126) (hw : w + 8 ≤ 40) : ∀ k p j tx M n, k + j = 6 → p ≤ L → k < n → ATM b L t M p → (∀ i, i < j → M (b + 9) (w + 2 + i) = nI (tx i)) → ∃ M', (∀ K, lp_X8_readWord_2 fu b (nI w) K n (nI j) M = K (nI (lets t L k p j tx).2.1) M') ∧ ATM b L t M' (lets t L k p j tx).1 ∧ (∀ i, i < (lets t L k p j tx).2.1 → M' (b + 9) (w + 2 + i) = nI ((lets t L k p j tx).2.2 i)) ∧ FrW b M M' ∧ R9 b (w + 2) (w + 8) M M' := by
  intro k
  induction k with
  | zero =>
    intro p j tx M n hk hp hn h hd
    obtain ⟨n, rfl⟩ : ∃ q, n = q + 1 := ⟨n - 1, by omega⟩
    obtain rfl : j = 6 := by omega
    exact ⟨M, fun K => by rw [lp_X8_readWord_2, if_pos (by decide)]; rfl, h, hd, FrW.rf, fun _ _ => rfl⟩
  | succ k ih =>
    intro p j tx M n hk hp hn h hd
    obtain ⟨n, rfl⟩ : ∃ q, n = q + 1 := ⟨n - 1, by omega⟩
    obtain ⟨M1, e1, a1, a2⟩ := nextByte_ hf hL ht hp h
    have hs := sk_le (t := t) hp
    by_cases z : sk t L p < L ∧ 97 ≤ t (sk t L p) ∧ t (sk t L p) < 97 + 26
    · obtain ⟨M2, e2, b1, b2⟩ := nextByte_ hf hL ht hs a1
      rw [sk_sk hp] at e2 b1
      have hsg : sg t L (sk t L p) = nI (t (sk t L p)) := by unfold sg; rw [if_pos z.1]
      have er : lets t L (k + 1) p j tx = lets t L k (sk t L p + 1) (j + 1) (updN tx j (t (sk t L p) - 97)) := by rw [lets, if_pos z]
      obtain ⟨M', e, g1, g2, g3, g4⟩ := ih (sk t L p + 1) (j + 1) (updN tx j (t (sk t L p) - 97)) (up (up M2 (b + 9) (w + 2 + j) (nI (t (sk t L p) - 97))) b 11 (nI (sk t L p + 1))) n (by omega) (by omega) (by omega) (ATM.u11 b1.u9) (fun i hi => by
        rw [up_k (by omega)]
        unfold updN
        by_cases y : i = j
        · subst y; rw [if_pos rfl, up_at]
        · rw [if_neg y, up_j (by omega), b2.1 _ (by omega), a2.1 _ (by omega)]; exact hd i (by omega))
      rw [er]
      refine ⟨M', fun K => ?_, g1, g2, ((a2.w.tr b2.w).u9.u11).tr g3, fun x hx => by rw [g4 x hx, up_k (by omega), up_j (by omega), b2.1 _ (by omega), a2.1 _ (by omega)]⟩
      rw [lp_X8_readWord_2, li_6, if_neg (by rw [q_le (by omega) (by omega)]; omega), e1, bd_s, in_sg (c := 97) (d := 26) ht (by decide) (by decide), bd_s, if_pos z, if_neg one0, e2, bd_s, li_2, q_ad, q_ad, gd_t (q_ib (by omega) (by omega))]
      simp only [lt]
      rw [q_cl (by omega), hsg, li_97, q_sb z.2.1, nI_1, up_k (a := b) (by omega), b1.2.1, nI_1]
      exact e K
    · have er : lets t L (k + 1) p j tx = (sk t L p, j, tx) := by rw [lets, if_neg z]
      rw [er]
      refine ⟨M1, fun K => ?_, a1, fun i hi => by rw [a2.1 _ (by omega)]; exact hd i hi, a2.w, fun x _ => by rw [a2.1 _ (by omega)]⟩
      rw [lp_X8_readWord_2, li_6, if_neg (by rw [q_le (by omega) (by omega)]; omega), e1, bd_s, in_sg (c := 97) (d := 26) ht (by decide) (by decide), bd_s, if_neg z, if_pos rfl]
theorem Mnumb_ {a1 a2 a3 : Int32} (hL : L ≤ 80) (ht : ∀ j, j < L → 32 ≤ t j ∧ t j ≤ 126) : ∀ k p v V M n, L = p + k → k < n → v = min 100 V → V ≤ 9999 → ATM b L t M p → ∃ W M', (∀ K, lp_X8_readNumber_13 fu b a1 a2 a3 K n (nI V) M = K (nI W) M') ∧ (numb t k p v).2 = min 100 W ∧ W ≤ 9999 ∧ ATM b L t M' (numb t k p v).1 ∧ FrB b M M' := by
  intro k
  induction k with
  | zero =>
    intro p v V M n hp hn hv hV h
    obtain ⟨n, rfl⟩ : ∃ q, n = q + 1 := ⟨n - 1, by omega⟩
    exact ⟨V, M, fun K => by rw [lp_X8_readNumber_13, h.1, h.2.1, if_pos (by rw [q_le (by omega) (by omega)]; omega)], hv, hV, h, fun _ _ => rfl, fun _ _ => rfl⟩
  | succ k ih =>
    intro p v V M n hp hn hv hV h
    obtain ⟨n, rfl⟩ : ∃ q, n = q + 1 := ⟨n - 1, by omega⟩
    obtain ⟨h1, h2, h3⟩ := id h
    have h4 : M (b + 8) p = nI (t p) := h3 p (by omega)
    have htp := ht p (by omega)
    have e48 : (48 : Int64).toInt = 48 := by decide
    have e57 : (57 : Int64).toInt = 57 := by decide
    by_cases z : 48 ≤ t p ∧ t p < 48 + 10
    · have er : numb t (k + 1) p v = numb t k (p + 1) (min 100 (10 * v + (t p - 48))) := by rw [numb, if_pos z]
      obtain ⟨W, M', e, g1, g2, g3, g4⟩ := ih (p + 1) (min 100 (10 * v + (t p - 48))) (if V ≤ 999 then 10 * V + (t p - 48) else V) (up M b 11 (nI (p + 1))) n (by omega) (by omega) (by split <;> omega) (by split <;> omega) h.u11
      rw [er]
      refine ⟨W, M', fun K => ?_, g1, g2, g3, fun a ha => by rw [g4.1 a ha, up_k ha], fun j hj => by rw [g4.2 j hj, up_j hj]⟩
      rw [lp_X8_readNumber_13, h1, h2, if_neg (by rw [q_le (by omega) (by omega)]; omega), gd_t (q_ib (by omega) (by omega)), q_cl (by omega), h4, in_t (by rw [e48, nI_toInt (by omega)]; omega) (by rw [e57, nI_toInt (by omega)]; omega), bd_s, if_neg one0, li_999]
      by_cases y : V ≤ 999
      · rw [if_pos (by rw [q_le (by omega) (by omega)]; exact y), gd_t (q_ib (by omega) (by omega)), li_10, li_48, q_mu, q_ad, q_sb (by omega), bd_s, nI_1]
        rw [if_pos y] at e
        rw [show 10 * V + t p - 48 = 10 * V + (t p - 48) by omega]
        exact e K
      · rw [if_neg (by rw [q_le (by omega) (by omega)]; exact y), bd_s, nI_1]
        rw [if_neg y] at e
        exact e K
    · have er : numb t (k + 1) p v = (p, v) := by rw [numb, if_neg z]
      rw [er]
      refine ⟨V, M, fun K => ?_, hv, hV, h, fun _ _ => rfl, fun _ _ => rfl⟩
      rw [lp_X8_readNumber_13, h1, h2, if_neg (by rw [q_le (by omega) (by omega)]; omega), gd_t (q_ib (by omega) (by omega)), q_cl (by omega), h4, in_f (by rw [e48, e57, nI_toInt (by omega)]; omega), bd_s, if_pos rfl]
theorem numb_mv {t : Nat → Nat} {k p v : Nat} (h : (numb t (k + 1) p v).1 = p) : ¬ (48 ≤ t p ∧ t p < 48 + 10) := by
  intro z
  rw [numb, if_pos z] at h
  have := (numb_ok (t := t) k (p + 1) (min 100 (10 * v + (t p - 48)))).1
  omega
theorem readNumber_ {M : Mem} {p : Nat} (hf : 100 ≤ fu) (hL : L ≤ 80) (ht : ∀ j, j < L → 32 ≤ t j ∧ t j ≤ 126) (hp : p ≤ L) (h : ATM b L t M p) : ∃ v M', f_X8_readNumber fu M b (0 : Int32) (99 : Int32) = some (v, M') ∧ (∀ q, payx t L p = .inl q → v = -1 ∧ ATM b L t M' q) ∧ (∀ z, payx t L p = .inr z → v = nI z.2 ∧ ATM b L t M' z.1) ∧ FrB b M M' := by
  unfold f_X8_readNumber
  obtain ⟨M1, e1, a1, a2⟩ := nextByte_ hf hL ht hp h
  have hs := sk_le (t := t) hp
  rw [e1, bd_s]
  simp only [lt]
  obtain ⟨W, M2, e2, b0, b1, b2, b3⟩ := Mnumb_ (fu := fu) (b := b) (a1 := (0 : Int32)) (a2 := (99 : Int32)) (a3 := M1 b 11) hL ht (L - sk t L p) (sk t L p) 0 0 M1 fu (by omega) (by omega) rfl (by omega) a1
  rw [← li_0] at e2
  rw [e2]
  have c1 : M1 b 11 = nI (sk t L p) := a1.2.1
  have c2 := b2.2.1
  have hfr : FrB b M M2 := ⟨fun a x => by rw [b3.1 a x, a2.1 a x], fun j x => by rw [b3.2 j x, a2.2 j x]⟩
  have hnk := numb_ok (t := t) (L - sk t L p) (sk t L p) 0
  by_cases z : sk t L p < L ∧ 48 ≤ t (sk t L p) ∧ t (sk t L p) < 48 + 10
  · have hne : ¬ (numb t (L - sk t L p) (sk t L p) 0).1 = sk t L p := fun e => by
      rw [show L - sk t L p = (L - sk t L p - 1) + 1 by omega] at e
      exact numb_mv e z.2
    have ep : payx t L p = if (numb t (L - sk t L p) (sk t L p) 0).2 ≤ 99 then .inr (numb t (L - sk t L p) (sk t L p) 0) else .inl (sk t L p) := by unfold payx; rw [if_pos z]
    rw [if_neg (by rw [c1, c2, q_eq (by omega) (by omega)]; exact hne), ep]
    generalize numb t (L - sk t L p) (sk t L p) 0 = r at *
    by_cases y : r.2 ≤ 99
    · rw [in_t (by rw [t64, nI_toInt (by omega)]; show (0 : Int) ≤ _; omega) (by rw [t64, nI_toInt (by omega), show (99 : Int32).toInt = 99 by decide]; omega), bd_s, if_neg one0, if_pos y]
      refine ⟨nI W, M2, rfl, fun q e => absurd e (by simp), fun x e => ?_, hfr⟩
      rw [← Sum.inr.inj e]
      exact ⟨by congr 1; omega, b2⟩
    · rw [in_f (by rw [t64, t64, nI_toInt (by omega), show (99 : Int32).toInt = 99 by decide]; omega), bd_s, if_pos rfl, if_neg y, c1]
      refine ⟨-1, up M2 b 11 (nI (sk t L p)), rfl, fun q e => ?_, fun x e => absurd e (by simp), fun a x => by rw [up_k x]; exact hfr.1 a x, fun j x => by rw [up_j x]; exact hfr.2 j x⟩
      rw [← Sum.inl.inj e]
      exact ⟨rfl, b2.u11⟩
  · have ep : payx t L p = .inl (sk t L p) := by unfold payx; rw [if_neg z]
    have heq : (numb t (L - sk t L p) (sk t L p) 0).1 = sk t L p := by
      by_cases y : sk t L p < L
      · rw [show L - sk t L p = (L - sk t L p - 1) + 1 by omega, numb, if_neg (fun w => z ⟨y, w⟩)]
      · rw [show L - sk t L p = 0 by omega]; rfl
    rw [if_pos (by rw [c1, c2, heq]), ep]
    refine ⟨-1, M2, rfl, fun q e => ?_, fun x e => absurd e (by simp), hfr⟩
    rw [← Sum.inl.inj e]
    rw [heq] at b2
    exact ⟨rfl, b2⟩
end PUB
