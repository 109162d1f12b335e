section PUB
variable {fu o : Nat}
theorem rws_ {K : Mem → Option (Int32 × Mem)} {L : Nat} {t : Nat → Nat} (hf : 100 ≤ fu) (hL : L ≤ 80) (ht : ∀ j, j < L → 32 ≤ t j ∧ t j ≤ 126) : ∀ k p i ws M n, k + i = 4 → k ≠ 0 → p ≤ L → k < n → AT o L t M p → (∀ j, j < i → WD M (o + 158 + 3 + 1 + 2 * j) (ws j).1 (ws j).2.1 (ws j).2.2) → ∃ v M', lp_X5_readWords_7 fu (o + 158) K n (nI i) M = some (v, M') ∧ (∀ q, rws t L k p i ws = .inl q → v = -20 - nI q) ∧ (∀ m ws', rws t L k p i ws = .inr (m, ws') → v = nI m ∧ ∀ j, j < m → WD M' (o + 158 + 3 + 1 + 2 * j) (ws' j).1 (ws' j).2.1 (ws' j).2.2) ∧ (∃ p', AT o L t M' p') ∧ ∀ a, a ≠ o + 158 → (a < o + 162 ∨ o + 170 ≤ a) → M' a = M a := by
  intro k
  induction k with
  | zero => intro p i ws M n hk h0; omega
  | succ k ih =>
    intro p i ws M n hk h0 hp hn h hd
    obtain ⟨n, rfl⟩ : ∃ q, n = q + 1 := ⟨n - 1, by omega⟩
    obtain ⟨v, M1, e1, b1, b2, ⟨p1, b3⟩, b4⟩ := readWord_ (w := o + 158 + 3 + 1 + 2 * i) hf hL ht (by omega) hp h
    rw [lp_X5_readWords_7, li_4, if_neg (by rw [q_le (by omega) (by omega)]; omega), gd_t (q_ib (by omega) (by omega)), q_cl (by omega), e1, bd_s]
    simp only [lt]
    unfold rws
    cases e : wrd t L p with
    | inl q =>
      have hv := b1 q e
      have hq := wrd_l hp e
      have hne := flt_ne q (by omega)
      rw [if_neg (by rw [hv]; exact hne)]
      refine ⟨v, M1, rfl, ?_, ?_, ⟨_, b3⟩, fun a h1 h2 => b4 a h1 (by omega) (by omega)⟩
      · intro q2 e2
        have e3 : (Sum.inl q : Nat ⊕ (Nat × (Nat → Nat × Nat × (Nat → Nat)))) = .inl q2 := e2
        rw [← Sum.inl.inj e3]; exact hv
      · intro m ws' e2; exact absurd e2 (by simp)
    | inr z =>
      obtain ⟨hv, hat, hwd⟩ := b2 z e
      obtain ⟨hz, hg⟩ := wrd_r hp e
      subst hv
      obtain ⟨M2, e2, c1, c2⟩ := nextSign_ hf hL ht hz hat
      have hs := sk_le (t := t) hz
      have hwd2 : ∀ j, j < i + 1 → WD M2 (o + 158 + 3 + 1 + 2 * j) (updW ws i z.2 j).1 (updW ws i z.2 j).2.1 (updW ws i z.2 j).2.2 := fun j hj => by
        unfold updW
        by_cases y : j = i
        · subst y; rw [if_pos rfl]
          exact hwd.fr (c2 _ (by omega)) (c2 _ (by omega))
        · rw [if_neg y]
          exact (hd j (by omega)).fr (by rw [c2 _ (by omega), b4 _ (by omega) (by omega) (by omega)]) (by rw [c2 _ (by omega), b4 _ (by omega) (by omega) (by omega)])
      have hfr : ∀ a, a ≠ o + 158 → (a < o + 162 ∨ o + 170 ≤ a) → M2 a = M a := fun a h1 h2 => by rw [c2 a h1, b4 a h1 (by omega) (by omega)]
      rw [if_pos rfl, e2, bd_s]
      simp only []
      by_cases y : L ≤ sk t L z.1
      · have hsg : sg t L (sk t L z.1) = -1 := by unfold sg; rw [if_neg (by omega)]
        rw [if_pos hsg, if_pos y]
        refine ⟨nI i + 1, M2, rfl, ?_, ?_, ⟨_, c1⟩, hfr⟩
        · intro q e3; exact absurd e3 (by simp)
        · intro m ws' e3
          obtain ⟨rfl, rfl⟩ := Prod.mk.inj (Sum.inr.inj e3)
          exact ⟨nI_1 _, hwd2⟩
      · have hsg : sg t L (sk t L z.1) = nI (t (sk t L z.1)) := by unfold sg; rw [if_pos (by omega)]
        have := ht (sk t L z.1) (by omega)
        rw [if_neg y, hsg, if_neg (by intro e4; exact nI_pos (n := t (sk t L z.1)) (by omega) (by rw [e4]; decide))]
        by_cases x : t (sk t L z.1) = 44
        · rw [li_44, if_pos (by rw [x])]
          by_cases k0 : k = 0
          · rw [if_pos (by rw [nI_1, q_eq (by omega) (by omega)]; omega), if_neg (fun w => w.2 k0), flt_e c1, bd_s]
            refine ⟨-20 - nI (sk t L z.1), M2, rfl, ?_, ?_, ⟨_, c1⟩, hfr⟩
            · intro q e3; rw [Sum.inl.inj e3]
            · intro m ws' e3; exact absurd e3 (by simp)
          · rw [if_neg (by rw [nI_1, q_eq (by omega) (by omega)]; omega), if_pos ⟨x, k0⟩, c1.2.1, nI_1, nI_1]
            obtain ⟨v3, M3, e3, d1, d2, d3, d4⟩ := ih (sk t L z.1 + 1) (i + 1) (updW ws i z.2) (up M2 (o + 158) 4 (nI (sk t L z.1 + 1))) n (by omega) k0 (by omega) (by omega) ⟨by rw [up_j (by omega)]; exact c1.1, up_at, fun j hj => by rw [up_k (by omega)]; exact c1.2.2 j hj⟩ (fun j hj => (hwd2 j hj).fr (up_k (by omega)) (up_k (by omega)))
            exact ⟨v3, M3, e3, d1, d2, d3, fun a h1 h2 => by rw [d4 a h1 h2, up_k h1, hfr a h1 h2]⟩
        · rw [li_44, if_neg (by rw [q_eq (by omega) (by omega)]; exact x), if_neg (fun w => x w.1), flt_e c1, bd_s]
          refine ⟨-20 - nI (sk t L z.1), M2, rfl, ?_, ?_, ⟨_, c1⟩, hfr⟩
          · intro q e3; rw [Sum.inl.inj e3]
          · intro m ws' e3; exact absurd e3 (by simp)
theorem addWords_ {k n : Nat} {M : Mem} {σ : Md} {ws : Nat → Nat × Nat × (Nat → Nat)} {K : Mem → Option (Int32 × Mem)} {b : Nat} (hf : 50 ≤ fu) (hb : b + 1 = k) (hw : Wf σ) (h : MdC k M σ) (hn : mW σ + n ≤ 10) (hn4 : n ≤ 4) (hr : ∀ j, j < n → WD M (b + 158 + 3 + 1 + 2 * j) (ws j).1 (ws j).2.1 (ws j).2.2) (hg : ∀ j, j < n → gw (ws j)) : ∃ M', lp_X7_words_35 fu b (nI n) K fu 0 M = K M' ∧ MdC k M' (adW σ n ws) ∧ Fr k M M' := by
  obtain ⟨M', e, h1, h2⟩ := cntM (fun m i Mx => lp_X7_words_35 fu b (nI n) K m (nI i) Mx) (fun i Mx => MdC k Mx (adW σ i ws) ∧ Fr k M Mx) K n (fun m Mx _ => by
    show lp_X7_words_35 _ _ _ _ (m + 1) _ _ = _
    rw [lp_X7_words_35, if_pos (by rw [q_le (by omega) (by omega)]; omega)]) (fun m i Mx hi hI => by
    obtain ⟨i1, i2⟩ := hI
    obtain ⟨⟨a0, a1⟩, a2, a3, a4, a5, a6⟩ := i1
    have a1' : Mx k 4 = nI (mW σ + i) := a1
    obtain ⟨M2, e2, c1, c2⟩ := wcopy (M := Mx) (a := k + 3 + 21 + 2 * (mW σ + i)) (b := b + 158 + 3 + 1 + 2 * i) (by omega) (by omega) (by omega)
    have hm : M2 k = Mx k := c2 k (by omega) (by omega)
    refine ⟨up M2 k 4 (nI (mW σ + (i + 1))), ?_, ?_, fun a ha => by rw [up_k (by omega), c2 a (by omega) (by omega)]; exact i2 a ha⟩
    · show lp_X7_words_35 _ _ _ _ (m + 1) _ _ = lp_X7_words_35 _ _ _ _ m _ _
      rw [lp_X7_words_35, if_neg (by rw [q_le (by omega) (by omega)]; omega), gd_t (q_ib (by omega) (by omega)), q_cl (by omega), hb]
      unfold f_X0_addWord
      rw [a1', li_10, if_neg (by rw [q_le (by omega) (by omega)]; omega), gd_t (q_ib (by omega) (by omega)), q_cl (by omega), e2, bd_s, hm, a1']
      simp only [lt]
      rw [bd_s]
      rw [nI_1, nI_1]
      rfl
    · refine ⟨⟨by rw [up_j (by omega), hm]; exact a0, by rw [up_at]; rfl⟩, fun j hj => by rw [up_k (by omega), c2 _ (by omega) (by omega)]; exact a2 j hj, fun j hj => by rw [up_k (by omega), c2 _ (by omega) (by omega)]; exact a3 j hj, fun j hj => by rw [up_k (by omega), c2 _ (by omega) (by omega)]; exact a4 j hj, fun q hq => ?_, fun w hw' => ?_⟩
      · have hq' : q < mN σ := hq
        have := hw.2.1.1
        unfold Rw
        rw [up_k (by omega), up_k (by omega), c2 _ (by omega) (by omega), c2 _ (by omega) (by omega)]
        exact a5 q hq
      · have hw2 : w < mW σ + (i + 1) := hw'
        rw [up_k (by omega), up_k (by omega)]
        show _ = nI (if mW σ ≤ w ∧ w < mW σ + (i + 1) then (ws (w - mW σ)).1 else mL σ w) ∧ _ = nI (if mW σ ≤ w ∧ w < mW σ + (i + 1) then (ws (w - mW σ)).2.1 else mP σ w) ∧ ∀ j, j < (if mW σ ≤ w ∧ w < mW σ + (i + 1) then (ws (w - mW σ)).1 else mL σ w) → _ = nI ((if mW σ ≤ w ∧ w < mW σ + (i + 1) then (ws (w - mW σ)).2.2 else mT σ w) j)
        by_cases z : w = mW σ + i
        · have hr0 := hr i hi
          have hr1 : WD Mx (b + 158 + 3 + 1 + 2 * i) (ws i).1 (ws i).2.1 (ws i).2.2 := hr0.fr (i2 _ (by omega)) (i2 _ (by omega))
          have e5 : w - mW σ = i := by omega
          have g6 : (ws i).1 ≤ 6 := (hg i hi).2.1
          rw [if_pos ⟨by omega, by omega⟩, if_pos ⟨by omega, by omega⟩, if_pos ⟨by omega, by omega⟩, e5, z]
          refine ⟨c1.1.trans hr1.1, c1.2.1.trans hr1.2.1, fun j hj => (c1.2.2 j (by omega)).trans (hr1.2.2 j hj)⟩
        · have e6 := a6 w (by show w < mW σ + i; omega)
          have e7 : M2 (k + 3 + 21 + 2 * w) = Mx (k + 3 + 21 + 2 * w) := c2 _ (by omega) (by omega)
          have e8 : M2 (k + 3 + 21 + 2 * w + 1) = Mx (k + 3 + 21 + 2 * w + 1) := c2 _ (by omega) (by omega)
          rw [e7, e8]
          have hif : ∀ {α : Type} (x y : α), (if mW σ ≤ w ∧ w < mW σ + (i + 1) then x else y) = (if mW σ ≤ w ∧ w < mW σ + i then x else y) := fun x y => by
            by_cases u : mW σ ≤ w ∧ w < mW σ + i
            · rw [if_pos u, if_pos ⟨u.1, by omega⟩]
            · rw [if_neg u, if_neg (by omega)]
          rw [hif, hif, hif]
          exact e6) fu 0 M (by omega) (by omega) (by
    obtain ⟨a1, a2, a3, a4, a5, a6⟩ := h
    refine ⟨⟨a1, a2, a3, a4, a5, fun w hw' => ?_⟩, fun _ _ => rfl⟩
    have hw2 : w < mW σ := hw'
    show _ = nI (if _ then _ else _) ∧ _ = nI (if _ then _ else _) ∧ ∀ j, j < (if mW σ ≤ w ∧ w < mW σ + 0 then (ws (w - mW σ)).1 else mL σ w) → _ = nI ((if mW σ ≤ w ∧ w < mW σ + 0 then (ws (w - mW σ)).2.2 else mT σ w) j)
    rw [if_neg (by omega), if_neg (by omega), if_neg (by omega)]
    exact a6 w hw2)
  exact ⟨M', e, h1, h2⟩
variable {M : Mem} {s : Sg}
theorem spwd_l {p : Nat} (e : rws s.2.2.1.2 s.2.2.1.1 4 0 0 (fun _ => (0, 0, fun _ => 0)) = .inl p) : sp_words s = (-20 - nI p, clT s) := by
  unfold sp_words
  rw [e]
theorem spwd_r {n : Nat} {ws : Nat → Nat × Nat × (Nat → Nat)} (e : rws s.2.2.1.2 s.2.2.1.1 4 0 0 (fun _ => (0, 0, fun _ => 0)) = .inr (n, ws)) : sp_words s = if mW s.1 + n ≤ 10 then (nI n, (adW s.1 n ws, (clT s).2)) else (-3, clT s) := by
  unfold sp_words
  rw [e]
theorem X7_words_ (hf : 100 ≤ fu) (h : RC o M s) : ∃ M', f_X7_words fu M o = some ((sp_words s).1, M') ∧ RC o M' (sp_words s).2 := by
  obtain ⟨t80, tOk⟩ := h.1.2.2.1
  obtain ⟨u1, u2⟩ := h.2.2.2.1
  have hmd := h.1.1
  unfold f_X7_words f_X5_readWords
  simp only [lt]
  obtain ⟨v, M1, e1, b1, b2, ⟨p1, b3⟩, b4⟩ := rws_ (fu := fu) (o := o) (K := fun M11 => (f_X5_faultAt (M11 (o + 158) 4)).bind (fun u12 => some (u12, M11))) hf t80 tOk 4 0 0 (fun _ => (0, 0, fun _ => 0)) (up M (o + 158) 4 (0 : Int32)) fu (by omega) (by omega) (by omega) (by omega) ⟨by rw [up_j (by omega)]; exact u1, up_at, fun j hj => by rw [up_k (by omega)]; exact u2 j hj⟩ (fun j hj => absurd hj (Nat.not_lt_zero j))
  rw [← li_0] at e1
  rw [e1, bd_s]
  simp only []
  have hc : RC o (up M1 (o + 158) 1 (nI 0)) (clT s) := clT_ h (fun a ha => by rw [up_k (by omega), b4 a (by omega) (by omega), up_k (by omega)]) up_at
  have hw4 : (up M1 (o + 158) 1 (nI 0)) (o + 1) 4 = nI (mW s.1) := hc.2.1.1.2
  have hwd := hmd.2.1.2
  rw [li_0, hw4, li_10, q_sb (by omega)]
  cases e : rws s.2.2.1.2 s.2.2.1.1 4 0 0 (fun _ => (0, 0, fun _ => 0)) with
  | inl p =>
    have hp := rws_l _ _ _ _ (Nat.zero_le _) e
    have hv := b1 p e
    have hn := flt_neg p (by omega)
    rw [spwd_l e]
    rw [← hv] at hn ⊢
    have h1 : v ≤ nI 0 := hn
    have h2 : v ≤ nI (10 - mW s.1) := by
      refine Int32.le_trans h1 ?_
      rw [q_le (by omega) (by omega)]; omega
    obtain ⟨n, hn2⟩ : ∃ q, fu = q + 1 := ⟨fu - 1, by omega⟩
    refine ⟨up M1 (o + 158) 1 (nI 0), ?_, hc⟩
    rw [if_pos h2]
    have e9 : ∀ m, lp_X7_words_35 fu o v (fun M7 => some (v, M7)) (m + 1) (nI 0) (up M1 (o + 158) 1 (nI 0)) = some (v, up M1 (o + 158) 1 (nI 0)) := fun m => by
      rw [lp_X7_words_35, if_pos h1]
    have e10 := e9 n
    rw [← hn2] at e10
    exact e10
  | inr q =>
    obtain ⟨n, ws⟩ := q
    obtain ⟨n1, n4, hg⟩ := rws_r _ _ _ _ (Nat.zero_le _) (fun j hj => absurd hj (Nat.not_lt_zero j)) e
    obtain ⟨hv, hd⟩ := b2 n ws e
    subst hv
    rw [spwd_r e]
    by_cases z : mW s.1 + n ≤ 10
    · rw [if_pos z, if_pos (by rw [q_le (by omega) (by omega)]; omega)]
      obtain ⟨M2, e2, g1, g2⟩ := addWords_ (fu := fu) (K := fun M7 => some (nI n, M7)) (b := o) (n := n) (ws := ws) (by omega) rfl hmd hc.2.1 z (by omega) (fun j hj => (hd j hj).fr (up_k (by omega)) (up_k (by omega))) hg
      exact ⟨M2, e2, hc.md g1 (adW_wf hmd z hg) g2⟩
    · rw [if_neg z, if_neg (by rw [q_le (by omega) (by omega)]; omega)]
      exact ⟨_, rfl, hc⟩
end PUB
