section PUB
variable {fu b : Nat} {M : Mem} {s : Sg}
theorem MaddWords_ {σ : Md} {n : Nat} {ws : Nat → Nat × Nat × (Nat → Nat)} (hf : 100 ≤ fu) (hw : Wf σ) (h : MdM b M σ) (hn : mW σ + n ≤ 10) (hn4 : n ≤ 4) (h12 : M b 12 = nI n) (hr : ∀ j, j < n → WR b M (8 * j) (ws j)) (hg : ∀ j, j < n → gw (ws j)) : ∃ M', (∀ K, lp_X8_words_41 fu b K fu 0 M = K M') ∧ MdM b (up M' b 8 (nI (mW σ + n))) (adW σ n ws) ∧ (∀ a, a ≠ b + 7 → M' a = M a) := by
  obtain ⟨h1, h3, h4, h5, h6, h7, h8⟩ := id h
  have h8' : M b 8 = nI (mW σ) := h1.2
  have lp : ∀ n2 x Mx, x ≤ 8 * n → 8 * n - x < n2 → ((∀ a, a ≠ b + 7 → Mx a = M a) ∧ ∀ q, Mx (b + 7) q = if 8 * mW σ ≤ q ∧ q < 8 * mW σ + x then M (b + 9) (q - 8 * mW σ) else M (b + 7) q) → ∃ M', (∀ K, lp_X8_words_41 fu b K n2 (nI x) Mx = K M') ∧ ((∀ a, a ≠ b + 7 → M' a = M a) ∧ ∀ q, M' (b + 7) q = if 8 * mW σ ≤ q ∧ q < 8 * mW σ + 8 * n then M (b + 9) (q - 8 * mW σ) else M (b + 7) q) := by
    intro n2
    induction n2 with
    | zero => intro x Mx _ hh; omega
    | succ n2 ih =>
      intro x Mx hx hn2 hI
      obtain ⟨i1, i2⟩ := hI
      have e12 : Mx b 12 = nI n := by rw [i1 b (by omega)]; exact h12
      have e8 : Mx b 8 = nI (mW σ) := by rw [i1 b (by omega)]; exact h8'
      by_cases z : x = 8 * n
      · subst z
        refine ⟨Mx, fun K => ?_, i1, i2⟩
        rw [lp_X8_words_41, e12, li_8, q_mu, if_pos (by rw [q_le (by omega) (by omega)]; omega)]
      · obtain ⟨M', e, g⟩ := ih (x + 1) (up Mx (b + 7) (8 * mW σ + x) (M (b + 9) x)) (by omega) (by omega) ⟨fun a ha => by rw [up_k ha]; exact i1 a ha, fun q => by
          by_cases y : q = 8 * mW σ + x
          · subst y
            rw [up_at, if_pos ⟨by omega, by omega⟩, Nat.add_sub_cancel_left]
          · rw [up_j y, i2 q]
            by_cases v : 8 * mW σ ≤ q ∧ q < 8 * mW σ + x
            · rw [if_pos v, if_pos ⟨v.1, by omega⟩]
            · rw [if_neg v, if_neg (by omega)]⟩
        refine ⟨M', fun K => ?_, g⟩
        rw [lp_X8_words_41, e12, li_8, q_mu, if_neg (by rw [q_le (by omega) (by omega)]; omega), gd_t (q_ib (by omega) (by omega)), e8, q_mu, q_ad, gd_t (q_ib (by omega) (by omega)), q_cl (by omega), q_cl (by omega), i1 (b + 9) (by omega), nI_1]
        simp only [lt]
        exact e K
  obtain ⟨M', e, g1, g2⟩ := lp fu 0 M (by omega) (by omega) ⟨fun _ _ => rfl, fun q => by rw [if_neg (by omega)]⟩
  refine ⟨M', e, ⟨⟨by rw [up_j (by omega), g1 b (by omega)]; exact h1.1, by rw [up_at]; rfl⟩, by rw [up_k (by omega), g1 _ (by omega)]; exact h3, by rw [up_k (by omega), up_k (by omega), g1 _ (by omega), g1 _ (by omega)]; exact h4, by rw [up_k (by omega), g1 _ (by omega)]; exact h5, by rw [up_k (by omega), g1 _ (by omega)]; exact h6, by rw [up_k (by omega), g1 _ (by omega)]; exact h7, fun w hw' => ?_⟩, g1⟩
  have hw2 : w < mW σ + n := hw'
  rw [up_k (by omega)]
  show _ = nI (if mW σ ≤ w ∧ w < mW σ + n then (ws (w - mW σ)).1 else mL σ w) ∧ _ = nI (if mW σ ≤ w ∧ w < mW σ + n then (ws (w - mW σ)).2.1 else mP σ w) ∧ ∀ j, j < (if mW σ ≤ w ∧ w < mW σ + n then (ws (w - mW σ)).1 else mL σ w) → _ = nI ((if mW σ ≤ w ∧ w < mW σ + n then (ws (w - mW σ)).2.2 else mT σ w) j)
  by_cases z : mW σ ≤ w
  · obtain ⟨r1, r2, r3⟩ := hr (w - mW σ) (by omega)
    have l6 := (hg (w - mW σ) (by omega)).2.1
    rw [if_pos ⟨z, hw2⟩, if_pos ⟨z, hw2⟩, if_pos ⟨z, hw2⟩]
    refine ⟨?_, ?_, fun j hj => ?_⟩
    · rw [g2, if_pos ⟨by omega, by omega⟩, ← r1]; congr 1; omega
    · rw [g2, if_pos ⟨by omega, by omega⟩, ← r2]; congr 1; omega
    · rw [g2, if_pos ⟨by omega, by omega⟩, ← r3 j hj]; congr 1; omega
  · obtain ⟨r1, r2, r3⟩ := h8 w (by omega)
    have l6 := (hw.2.2.2.1 w (by omega)).2.1
    rw [if_neg (fun y => z y.1), if_neg (fun y => z y.1), if_neg (fun y => z y.1)]
    refine ⟨?_, ?_, fun j hj => ?_⟩
    · rw [g2, if_neg (by omega)]; exact r1
    · rw [g2, if_neg (by omega)]; exact r2
    · rw [g2, if_neg (by omega)]; exact r3 j hj
theorem X8_words_ (hf : 100 ≤ fu) (h : RM b M s) : ∃ M', f_X8_words fu M b = some ((sp_words s).1, M') ∧ RM b M' (sp_words s).2 := by
  obtain ⟨t80, tOk⟩ := h.1.2.2.1
  obtain ⟨u1, u2⟩ := h.2.2.2.1
  have hmd := h.1.1
  have hwd := hmd.2.1.2
  unfold f_X8_words f_X8_readWords
  simp only [lt]
  obtain ⟨v, M1, e1, b1, b2, b3⟩ := Mrws_ (fu := fu) (b := b) (K := fun M8 => some ((0 : Int32), M8)) hf t80 tOk 4 0 0 (fun _ => (0, 0, fun _ => 0)) (up M b 11 (0 : Int32)) fu (by omega) (by omega) (by omega) (by omega) ⟨by rw [up_j (by omega)]; exact u1, up_at, fun j hj => by rw [up_k (by omega)]; exact u2 j hj⟩ (fun j hj => absurd hj (Nat.not_lt_zero j))
  rw [← li_0] at e1
  rw [e1, bd_s]
  simp only []
  have hF : ∀ a, b + 1 ≤ a → a ≠ b + 8 → a ≠ b + 9 → M1 a = M a := fun a x y z => by rw [b3.1 a (by omega) z, up_k (by omega)]
  have hB : ∀ j, j ≠ 10 → j ≠ 11 → j ≠ 12 → M1 b j = M b j := fun j x y z => by rw [b3.2 j y z, up_j y]
  have hc : RM b (up M1 b 10 (0 : Int32)) (clT s) := McL h (fun a x y z => by rw [up_k (by omega)]; exact hF a x y z) (fun j x y z => by rw [up_j x]; exact hB j x y z) (by rw [up_at]; rfl)
  cases e : rws s.2.2.1.2 s.2.2.1.1 4 0 0 (fun _ => (0, 0, fun _ => 0)) with
  | inl p =>
    obtain ⟨hv, hat⟩ := b1 p e
    have e3 : (up M1 b 10 (0 : Int32)) b 11 = nI p := by rw [up_j (by omega)]; exact hat.2.1
    subst hv
    rw [if_pos rfl, e3, spwd_l e]
    generalize (-20 - nI p : Int32) = v
    exact ⟨_, rfl, hc⟩
  | inr q =>
    obtain ⟨n, ws⟩ := q
    obtain ⟨n1, n4, hg⟩ := rws_r _ _ _ _ (Nat.zero_le _) (fun j hj => absurd hj (Nat.not_lt_zero j)) e
    obtain ⟨hv, h12, -, hd⟩ := b2 n ws e
    have e12 : (up M1 b 10 (0 : Int32)) b 12 = nI n := by rw [up_j (by omega)]; exact h12
    have e8 : (up M1 b 10 (0 : Int32)) b 8 = nI (mW s.1) := hc.2.1.1.2
    subst hv
    rw [if_neg one0, e12, e8, q_ad, li_10, spwd_r e]
    by_cases z : mW s.1 + n ≤ 10
    · rw [if_pos z, if_pos (by rw [q_le (by omega) (by omega)]; omega)]
      obtain ⟨M2, e2, g1, g2⟩ := MaddWords_ (fu := fu) (n := n) (ws := ws) hf hmd hc.2.1 z (by omega) e12 (fun j hj => by
        unfold WR
        rw [up_k (by omega)]
        exact hd j hj) hg
      have k12 : M2 b 12 = nI n := by rw [g2 b (by omega)]; exact e12
      have k8 : M2 b 8 = nI (mW s.1) := by rw [g2 b (by omega)]; exact e8
      refine ⟨up M2 b 8 (nI (mW s.1 + n)), ?_, hc.md g1 (adW_wf hmd z hg) ⟨fun q hq => by rw [up_k (by omega), g2 q (by omega)], by rw [up_j (by omega), g2 b (by omega)], by rw [up_j (by omega), g2 b (by omega)]⟩⟩
      rw [e2, k8, k12, q_ad, up_j (by omega), k12]
    · rw [if_neg z, if_neg (by rw [q_le (by omega) (by omega)]; omega)]
      exact ⟨_, rfl, hc⟩
end PUB
