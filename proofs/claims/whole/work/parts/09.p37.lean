section PUB
variable {fu b L : Nat} {t : Nat → Nat}
/-- a word in the row read, at w -/
def WR (b : Nat) (M : Mem) (w : Nat) (z : Nat × Nat × (Nat → Nat)) : Prop := M (b + 9) w = nI z.1 ∧ M (b + 9) (w + 1) = nI z.2.1 ∧ ∀ j, j < z.1 → M (b + 9) (w + 2 + j) = nI (z.2.2 j)
theorem MreadWord_ {M : Mem} {p w : Nat} (hf : 100 ≤ fu) (hL : L ≤ 80) (ht : ∀ j, j < L → 32 ≤ t j ∧ t j ≤ 126) (hw : w + 8 ≤ 40) (hp : p ≤ L) (h : ATM b L t M p) : ∃ v M', f_X8_readWord fu M b (nI w) = some (v, M') ∧ (∀ q, wrd t L p = .inl q → v = 0 ∧ ATM b L t M' q) ∧ (∀ z, wrd t L p = .inr z → v = 1 ∧ ATM b L t M' z.1 ∧ WR b M' w z.2) ∧ FrW b M M' ∧ R9 b w (w + 8) M M' := by
  unfold f_X8_readWord
  obtain ⟨M1, e1, a1, a2, a3, a4⟩ := Mlets_ (fu := fu) hf hL ht hw 6 p 0 (fun _ => 0) M fu (by omega) hp (by omega) h (fun i hi => absurd hi (Nat.not_lt_zero i))
  obtain ⟨l1, l2, -⟩ := lets_ok (t := t) (L := L) 6 p 0 (fun _ => 0) hp (fun i hi => by omega)
  rw [← li_0] at e1
  rw [e1]
  clear e1
  unfold wrd
  generalize lets t L 6 p 0 (fun _ => 0) = r at *
  have ew1 : nI w + (1 : Int32) = nI (w + 1) := nI_1 w
  rw [gd_t (q_ib (by omega) (by omega)), ew1]
  simp only [lt]
  rw [gd_t (q_ib (by omega) (by omega)), q_cl (by omega), q_cl (by omega)]
  generalize eM2 : up (up M1 (b + 9) w (nI r.2.1)) (b + 9) (w + 1) (10 : Int32) = M2
  have c1 : ATM b L t M2 r.1 := by rw [← eM2]; exact a1.u9.u9
  have c2 : M2 (b + 9) w = nI r.2.1 := by rw [← eM2, up_j (by omega), up_at]
  have c3 : M2 (b + 9) (w + 1) = nI 10 := by rw [← eM2, up_at]; rfl
  have c4 : ∀ j, j < r.2.1 → M2 (b + 9) (w + 2 + j) = nI (r.2.2 j) := fun j hj => by rw [← eM2, up_j (by omega), up_j (by omega)]; exact a2 j hj
  have c5 : FrW b M M2 := by rw [← eM2]; exact a3.u9.u9
  have c6 : R9 b w (w + 8) M M2 := fun x hx => by rw [← eM2, up_j (by omega), up_j (by omega)]; exact a4 x (by omega)
  clear eM2
  by_cases z : r.2.1 = 0
  · rw [if_pos (by rw [z]; rfl), if_pos z]
    refine ⟨0, M2, rfl, fun q e => ?_, fun x e => absurd e (by simp), c5, c6⟩
    rw [← Sum.inl.inj e]
    exact ⟨rfl, c1⟩
  · obtain ⟨M3, e3, b1, b2⟩ := nextByte_ hf hL ht l1 c1
    have hs := sk_le (t := t) l1
    rw [if_neg (by rw [li_0, q_eq (by omega) (by omega)]; exact z), if_neg z, e3, bd_s]
    simp only []
    by_cases y : sk t L r.1 < L ∧ t (sk t L r.1) = 58
    · have hs58 : sg t L (sk t L r.1) = 58 := by rw [li_58]; exact (sg58 ht (by omega)).mpr y
      obtain ⟨v, M4, e4, d1, d2, d3⟩ := readNumber_ (M := up M3 b 11 (nI (sk t L r.1 + 1))) (p := sk t L r.1 + 1) hf hL ht (by omega) b1.u11
      have hfr : FrW b M M4 := (((c5.tr b2.w).u11).tr d3.w)
      have h9 : M4 (b + 9) = M2 (b + 9) := by rw [d3.1 _ (by omega), up_k (by omega), b2.1 _ (by omega)]
      rw [if_pos y, if_pos hs58, b1.2.1, nI_1, e4, bd_s, gd_t (q_ib (by omega) (by omega)), gd_t (q_ib (by omega) (by omega))]
      simp only []
      rw [up_at]
      have hR : R9 b w (w + 8) M (up M4 (b + 9) (w + 1) v) := fun x hx => by rw [up_j (by omega), h9]; exact c6 x hx
      have hN : FrW b M (up M4 (b + 9) (w + 1) v) := hfr.u9
      cases ep : payx t L (sk t L r.1 + 1) with
      | inl q =>
        obtain ⟨hv, hat⟩ := d1 q ep
        subst hv
        rw [if_pos (by decide)]
        refine ⟨0, _, rfl, fun q2 e => ?_, fun x e => absurd e (by simp), hN, hR⟩
        have e3 : (Sum.inl q : Nat ⊕ (Nat × Nat × Nat × (Nat → Nat))) = .inl q2 := e
        rw [← Sum.inl.inj e3]
        exact ⟨rfl, hat.u9⟩
      | inr x =>
        obtain ⟨hv, hat⟩ := d2 x ep
        obtain ⟨-, x99⟩ := payx_r (by omega) ep
        subst hv
        rw [if_neg (nI_pos (by omega))]
        refine ⟨1, _, rfl, fun q2 e => absurd e (by simp), fun x2 e => ?_, hN, hR⟩
        have e3 : (Sum.inr (x.1, r.2.1, x.2, r.2.2) : Nat ⊕ (Nat × Nat × Nat × (Nat → Nat))) = .inr x2 := e
        rw [← Sum.inr.inj e3]
        exact ⟨rfl, hat.u9, by rw [up_j (by omega), h9]; exact c2, up_at, fun j hj => by rw [up_j (by omega), h9]; exact c4 j hj⟩
    · have hs58 : ¬ sg t L (sk t L r.1) = 58 := by rw [li_58, sg58 ht (by omega)]; exact y
      have h9 : M3 (b + 9) = M2 (b + 9) := b2.1 _ (by omega)
      rw [if_neg y, if_neg hs58, gd_t (q_ib (by omega) (by omega)), h9, c3, if_neg (nI_pos (by omega))]
      refine ⟨1, M3, rfl, fun q e => absurd e (by simp), fun x e => ?_, c5.tr b2.w, fun x hx => by rw [h9]; exact c6 x hx⟩
      rw [← Sum.inr.inj e]
      exact ⟨rfl, b1, by rw [h9]; exact c2, by rw [h9]; exact c3, fun j hj => by rw [h9]; exact c4 j hj⟩
/-- what reading words leaves as it was -/
def FrV (b : Nat) (M M1 : Mem) : Prop := (∀ a, a ≠ b → a ≠ b + 9 → M1 a = M a) ∧ ∀ j, j ≠ 11 → j ≠ 12 → M1 b j = M b j
theorem Mrws_ {K : Mem → Option (Int32 × Mem)} (hf : 100 ≤ fu) (hL : L ≤ 80) (ht : ∀ j, j < L → 32 ≤ t j ∧ t j ≤ 126) : ∀ k p i ws M n, k + i = 4 → k ≠ 0 → p ≤ L → k < n → ATM b L t M p → (∀ j, j < i → (ws j).1 ≤ 6 ∧ WR b M (8 * j) (ws j)) → ∃ v M', lp_X8_readWords_7 fu b K n (nI i) M = some (v, M') ∧ (∀ q, rws t L k p i ws = .inl q → v = 0 ∧ ATM b L t M' q) ∧ (∀ m ws', rws t L k p i ws = .inr (m, ws') → v = 1 ∧ M' b 12 = nI m ∧ (∃ p', ATM b L t M' p') ∧ ∀ j, j < m → WR b M' (8 * j) (ws' j)) ∧ FrV b M M' := by
  intro k
  induction k with
  | zero => intro p i ws M n hk h0; omega
  | succ k ih =>
    intro p i ws M n hk h0 hp hn h hd
    obtain ⟨n, rfl⟩ : ∃ q, n = q + 1 := ⟨n - 1, by omega⟩
    obtain ⟨v, M1, e1, b1, b2, b3, b4⟩ := MreadWord_ (fu := fu) (w := 8 * i) hf hL ht (by omega) hp h
    rw [lp_X8_readWords_7, li_4, if_neg (by rw [q_le (by omega) (by omega)]; omega), li_8, q_mu, e1, bd_s]
    unfold rws
    cases e : wrd t L p with
    | inl q =>
      obtain ⟨hv, hat⟩ := b1 q e
      subst hv
      rw [if_pos rfl]
      refine ⟨0, M1, rfl, fun q2 e2 => ?_, fun m ws' e2 => absurd e2 (by simp), fun a x y => b3.1 a x y, fun j x _ => b3.2 j x⟩
      have e3 : (Sum.inl q : Nat ⊕ (Nat × (Nat → Nat × Nat × (Nat → Nat)))) = .inl q2 := e2
      rw [← Sum.inl.inj e3]; exact ⟨rfl, hat⟩
    | inr z =>
      obtain ⟨hv, hat, hwd⟩ := b2 z e
      obtain ⟨hz, hg⟩ := wrd_r hp e
      subst hv
      have hat2 : ATM b L t (up M1 b 12 (nI (i + 1))) z.1 := ⟨by rw [up_j (by omega)]; exact hat.1, by rw [up_j (by omega)]; exact hat.2.1, fun j hj => by rw [up_k (by omega)]; exact hat.2.2 j hj⟩
      obtain ⟨M2, e2, c1, c2⟩ := nextByte_ hf hL ht hz hat2
      have hs := sk_le (t := t) hz
      have h9 : M2 (b + 9) = M1 (b + 9) := by rw [c2.1 _ (by omega), up_k (by omega)]
      have h12 : M2 b 12 = nI (i + 1) := by rw [c2.2 12 (by omega), up_at]
      have hwd2 : ∀ j, j < i + 1 → (updW ws i z.2 j).1 ≤ 6 ∧ WR b M2 (8 * j) (updW ws i z.2 j) := fun j hj => by
        unfold updW WR
        rw [h9]
        by_cases y : j = i
        · subst y; rw [if_pos rfl]; exact ⟨hg.2.1, hwd⟩
        · rw [if_neg y]
          obtain ⟨g0, g1, g2, g3⟩ := hd j (by omega)
          exact ⟨g0, by rw [b4 _ (by omega)]; exact g1, by rw [b4 _ (by omega)]; exact g2, fun q hq => by rw [b4 _ (by omega)]; exact g3 q hq⟩
      have hfr : FrV b M M2 := ⟨fun a x y => by rw [c2.1 a x, up_k x]; exact b3.1 a x y, fun j x y => by rw [c2.2 j x, up_j y]; exact b3.2 j x⟩
      rw [if_neg one0]
      simp only [lt]
      rw [nI_1, e2, bd_s]
      simp only []
      by_cases y : L ≤ sk t L z.1
      · have hsg : sg t L (sk t L z.1) = -1 := by unfold sg; rw [if_neg (by omega)]
        rw [hsg, if_neg (by decide), if_pos y]
        refine ⟨1, M2, rfl, fun q e3 => absurd e3 (by simp), fun m ws' e3 => ?_, hfr⟩
        obtain ⟨rfl, rfl⟩ := Prod.mk.inj (Sum.inr.inj e3)
        exact ⟨rfl, h12, ⟨_, c1⟩, fun j hj => (hwd2 j hj).2⟩
      · have hsg : sg t L (sk t L z.1) = nI (t (sk t L z.1)) := by unfold sg; rw [if_pos (by omega)]
        have := ht (sk t L z.1) (by omega)
        rw [if_neg y, hsg, if_pos (nI_pos' (by omega)), li_44, li_3]
        by_cases x : t (sk t L z.1) = 44
        · rw [if_pos (by rw [x])]
          by_cases k0 : k = 0
          · rw [if_pos (by rw [q_eq (by omega) (by omega)]; omega), if_neg (fun w => w.2 k0)]
            refine ⟨0, M2, rfl, fun q e3 => ?_, fun m ws' e3 => absurd e3 (by simp), hfr⟩
            rw [← Sum.inl.inj e3]; exact ⟨rfl, c1⟩
          · rw [if_neg (by rw [q_eq (by omega) (by omega)]; omega), if_pos ⟨x, k0⟩, c1.2.1, nI_1]
            obtain ⟨v3, M3, e3, d1, d2, d3⟩ := ih (sk t L z.1 + 1) (i + 1) (updW ws i z.2) (up M2 b 11 (nI (sk t L z.1 + 1))) n (by omega) k0 (by omega) (by omega) c1.u11 (fun j hj => by
              unfold WR
              rw [up_k (by omega)]
              exact hwd2 j hj)
            exact ⟨v3, M3, e3, d1, d2, fun a x y => by rw [d3.1 a x y, up_k x]; exact hfr.1 a x y, fun j x y => by rw [d3.2 j x y, up_j x]; exact hfr.2 j x y⟩
        · rw [if_neg (by rw [q_eq (by omega) (by omega)]; exact x), if_neg (fun w => x w.1)]
          refine ⟨0, M2, rfl, fun q e3 => ?_, fun m ws' e3 => absurd e3 (by simp), hfr⟩
          rw [← Sum.inl.inj e3]; exact ⟨rfl, c1⟩
end PUB
