theorem dcd {n m : Nat} (h : n ≤ m) (hn : n < 100) : decide (¬ (nI 0) < nI 0 ∧ ¬ (nI 0) < nI 0 ∧ ¬ (nI n) < nI 0 ∧ 0 + n ≤ m ∧ 0 + n ≤ m) = true := by
  apply decide_eq_true
  refine ⟨?_, ?_, ?_, by omega, by omega⟩
  · rw [q_lt (by omega) (by omega)]; omega
  · rw [q_lt (by omega) (by omega)]; omega
  · rw [q_lt (by omega) (by omega)]; omega
/-- a word's cells as they were at the other word -/
def eqW (M M1 : Mem) (a b : Nat) : Prop := M1 a 0 = M b 0 ∧ M1 a 1 = M b 1 ∧ ∀ j, j < 6 → M1 (a + 1) j = M (b + 1) j
def eqS (M M1 : Mem) (a b : Nat) : Prop := M1 a 0 = M b 0 ∧ ∀ j, j < 15 → M1 (a + 1) j = M (b + 1) j
theorem wcopy {M : Mem} {a b : Nat} (h1 : a ≠ b) (h2 : a + 1 ≠ b) (h3 : a ≠ b + 1) : ∃ M', f_X6_copyFrom M a b = some M' ∧ eqW M M' a b ∧ ∀ q, q ≠ a → q ≠ a + 1 → M' q = M q := by
  refine ⟨upR (up (up M a 0 (M b 0)) a 1 (M b 1)) (a + 1) (va_cpy (M (b + 1)) (M (a + 1)) 0 0 6), ?_, ⟨?_, ?_, ?_⟩, ?_⟩
  · unfold f_X6_copyFrom
    simp only [lt]
    rw [gd_t (by decide), li_0, li_6, q_cl (by omega), q_cl (by omega), up_k (a := b) (by omega), up_k (a := b + 1) (by omega), up_k (a := b + 1) (by omega), up_k (a := a + 1) (by omega), up_k (a := a + 1) (by omega)]
  · rw [upR_k (by omega), up_j (by omega), up_at]
  · rw [upR_k (by omega), up_at]
  · intro j hj
    rw [upR_at, cpy0, if_pos hj]
  · intro q hq hq1
    rw [upR_k hq1, up_k hq, up_k hq]
theorem scopy {M : Mem} {a b : Nat} (h1 : a ≠ b) (h2 : a + 1 ≠ b) (h3 : a ≠ b + 1) : ∃ M', f_X4_copyFrom M a b = some M' ∧ eqS M M' a b ∧ ∀ q, q ≠ a → q ≠ a + 1 → M' q = M q := by
  refine ⟨upR (up M a 0 (M b 0)) (a + 1) (va_cpy (M (b + 1)) (M (a + 1)) 0 0 15), ?_, ⟨?_, ?_⟩, ?_⟩
  · unfold f_X4_copyFrom
    simp only [lt]
    rw [gd_t (by decide), li_0, li_15, q_cl (by omega), q_cl (by omega), up_k (a := b + 1) (by omega), up_k (a := a + 1) (by omega)]
  · rw [upR_k (by omega), up_at]
  · intro j hj
    rw [upR_at, cpy0, if_pos hj]
  · intro q hq hq1
    rw [upR_k hq1, up_k hq]
theorem mcopy {fu k0 k1 : Nat} {M : Mem} {σ : Md} (hf : 50 ≤ fu) (hw : Wf σ) (h : MdC k1 M σ) (hd : k0 + 44 ≤ k1 ∨ k1 + 44 ≤ k0) : ∃ M', f_X0_copyFrom fu M k0 k1 = some M' ∧ MdC k0 M' σ ∧ Fr k0 M M' := by
  obtain ⟨⟨h1, h2⟩, h3, h4, h5, h6, h7⟩ := id h
  unfold f_X0_copyFrom
  simp only [lt]
  rw [gd_t (by decide), gd_t (by decide), gd_t (by decide), li_0, li_4, li_6, q_cl (by omega), q_cl (by omega), q_cl (by omega)]
  generalize eM3 : upR (upR (upR M (k0 + 1) (va_cpy (M (k1 + 1)) (M (k0 + 1)) 0 0 4)) (k0 + 4) (va_cpy (upR M (k0 + 1) (va_cpy (M (k1 + 1)) (M (k0 + 1)) 0 0 4) (k1 + 4)) (upR M (k0 + 1) (va_cpy (M (k1 + 1)) (M (k0 + 1)) 0 0 4) (k0 + 4)) 0 0 6)) (k0 + 5) (va_cpy (upR (upR M (k0 + 1) (va_cpy (M (k1 + 1)) (M (k0 + 1)) 0 0 4)) (k0 + 4) (va_cpy (upR M (k0 + 1) (va_cpy (M (k1 + 1)) (M (k0 + 1)) 0 0 4) (k1 + 4)) (upR M (k0 + 1) (va_cpy (M (k1 + 1)) (M (k0 + 1)) 0 0 4) (k0 + 4)) 0 0 6) (k1 + 5)) (upR (upR M (k0 + 1) (va_cpy (M (k1 + 1)) (M (k0 + 1)) 0 0 4)) (k0 + 4) (va_cpy (upR M (k0 + 1) (va_cpy (M (k1 + 1)) (M (k0 + 1)) 0 0 4) (k1 + 4)) (upR M (k0 + 1) (va_cpy (M (k1 + 1)) (M (k0 + 1)) 0 0 4) (k0 + 4)) 0 0 6) (k0 + 5)) 0 0 6) = M3
  have g1 : ∀ j, j < 4 → M3 (k0 + 1) j = M (k1 + 1) j := fun j hj => by rw [← eM3, upR_k (by omega), upR_k (by omega), upR_at, cpy0, if_pos hj]
  have g2 : ∀ j, j < 6 → M3 (k0 + 4) j = M (k1 + 4) j := fun j hj => by rw [← eM3, upR_k (by omega), upR_at, cpy0, if_pos hj, upR_k (by omega)]
  have g3 : ∀ j, j < 6 → M3 (k0 + 5) j = M (k1 + 5) j := fun j hj => by rw [← eM3, upR_at, cpy0, if_pos hj, upR_k (by omega), upR_k (by omega)]
  have g4 : ∀ q, q ≠ k0 + 1 → q ≠ k0 + 4 → q ≠ k0 + 5 → M3 q = M q := fun q a b c => by rw [← eM3, upR_k c, upR_k b, upR_k a]
  clear eM3
  generalize eM4 : up M3 k0 2 (M3 k1 2) = M4
  have q1 : M4 k0 2 = M k1 2 := by rw [← eM4, up_at, g4 k1 (by omega) (by omega) (by omega)]
  have q2 : ∀ q, q ≠ k0 → M4 q = M3 q := fun q hq => by rw [← eM4, up_k hq]
  clear eM4
  obtain ⟨M5, e5, i5⟩ := cntM (fun n i Mx => lp_X0_copyFrom_57 fu k0 k1 (fun M13 => (lp_X0_copyFrom_94 fu k0 k1 (fun M19 => some M19) fu (nI 0) (up M13 k0 4 (M13 k1 4)))) n (nI i) Mx) (fun i Mx => (∀ q, (q < k0 + 6 ∨ k0 + 24 ≤ q) → Mx q = M4 q) ∧ ∀ s, s < i → eqS M Mx (k0 + 2 + 4 + 2 * s) (k1 + 2 + 4 + 2 * s)) (fun Mx => lp_X0_copyFrom_94 fu k0 k1 (fun M19 => some M19) fu (nI 0) (up Mx k0 4 (Mx k1 4))) 9 (fun n Mx _ => by
    show lp_X0_copyFrom_57 _ _ _ _ (n + 1) _ _ = _
    rw [lp_X0_copyFrom_57, li_9, if_pos (by rw [q_le (by omega) (by omega)]; omega)]) (fun n i Mx hi hI => by
    obtain ⟨a1, a2⟩ := hI
    obtain ⟨M', e, b1, b2⟩ := scopy (M := Mx) (a := k0 + 2 + 4 + 2 * i) (b := k1 + 2 + 4 + 2 * i) (by omega) (by omega) (by omega)
    refine ⟨M', ?_, fun q hq => by rw [b2 q (by omega) (by omega)]; exact a1 q hq, fun s hs => ?_⟩
    · show lp_X0_copyFrom_57 _ _ _ _ (n + 1) _ _ = lp_X0_copyFrom_57 _ _ _ _ n _ _
      rw [lp_X0_copyFrom_57, li_9, if_neg (by rw [q_le (by omega) (by omega)]; omega), gd_t (q_ib (by omega) hi), gd_t (q_ib (by omega) hi), q_cl (by omega), e, bd_s]
      simp only [lt]
      rw [li_1, q_ad]
    · unfold eqS
      by_cases z : s = i
      · subst z
        refine ⟨?_, fun j hj => ?_⟩
        · rw [b1.1, a1 _ (by omega), q2 _ (by omega), g4 _ (by omega) (by omega) (by omega)]
        · rw [b1.2 j hj, a1 _ (by omega), q2 _ (by omega), g4 _ (by omega) (by omega) (by omega)]
      · rw [b2 _ (by omega) (by omega), b2 _ (by omega) (by omega)]
        exact a2 s (by omega)) fu 0 M4 (by omega) (by omega) ⟨fun _ _ => rfl, fun s hs => by omega⟩
  obtain ⟨a1, a2⟩ := i5
  generalize eM6 : up M5 k0 4 (M5 k1 4) = M6 at e5
  have p1 : M6 k0 4 = M k1 4 := by rw [← eM6, up_at, a1 k1 (by omega), q2 _ (by omega), g4 k1 (by omega) (by omega) (by omega)]
  have p0 : M6 k0 2 = M k1 2 := by rw [← eM6, up_j (by omega), a1 k0 (by omega)]; exact q1
  have p2 : ∀ q, q ≠ k0 → M6 q = M5 q := fun q hq => by rw [← eM6, up_k hq]
  clear eM6
  obtain ⟨M7, e7, i7⟩ := cntM (fun n i Mx => lp_X0_copyFrom_94 fu k0 k1 (fun M19 => some M19) n (nI i) Mx) (fun i Mx => (∀ q, (q < k0 + 24 ∨ k0 + 44 ≤ q) → Mx q = M6 q) ∧ ∀ s, s < i → eqW M Mx (k0 + 3 + 21 + 2 * s) (k1 + 3 + 21 + 2 * s)) (fun Mx => some Mx) 10 (fun n Mx _ => by
    show lp_X0_copyFrom_94 _ _ _ _ (n + 1) _ _ = _
    rw [lp_X0_copyFrom_94, li_10, if_pos (by rw [q_le (by omega) (by omega)]; omega)]) (fun n i Mx hi hI => by
    obtain ⟨c1, c2⟩ := hI
    obtain ⟨M', e, b1, b2⟩ := wcopy (M := Mx) (a := k0 + 3 + 21 + 2 * i) (b := k1 + 3 + 21 + 2 * i) (by omega) (by omega) (by omega)
    refine ⟨M', ?_, fun q hq => by rw [b2 q (by omega) (by omega)]; exact c1 q hq, fun s hs => ?_⟩
    · show lp_X0_copyFrom_94 _ _ _ _ (n + 1) _ _ = lp_X0_copyFrom_94 _ _ _ _ n _ _
      rw [lp_X0_copyFrom_94, li_10, if_neg (by rw [q_le (by omega) (by omega)]; omega), gd_t (q_ib (by omega) hi), gd_t (q_ib (by omega) hi), q_cl (by omega), e, bd_s]
      simp only [lt]
      rw [li_1, q_ad]
    · unfold eqW
      by_cases z : s = i
      · subst z
        refine ⟨?_, ?_, fun j hj => ?_⟩
        · rw [b1.1, c1 _ (by omega), p2 _ (by omega), a1 _ (by omega), q2 _ (by omega), g4 _ (by omega) (by omega) (by omega)]
        · rw [b1.2.1, c1 _ (by omega), p2 _ (by omega), a1 _ (by omega), q2 _ (by omega), g4 _ (by omega) (by omega) (by omega)]
        · rw [b1.2.2 j hj, c1 _ (by omega), p2 _ (by omega), a1 _ (by omega), q2 _ (by omega), g4 _ (by omega) (by omega) (by omega)]
      · rw [b2 _ (by omega) (by omega), b2 _ (by omega) (by omega)]
        exact c2 s (by omega)) fu 0 M6 (by omega) (by omega) ⟨fun _ _ => rfl, fun s hs => by omega⟩
  obtain ⟨c1, c2⟩ := i7
  obtain ⟨-, ⟨w1, w2⟩, w3, w4, -⟩ := hw
  refine ⟨M7, e5.trans e7, ⟨⟨?_, ?_⟩, fun j hj => ?_, fun a ha => ?_, fun a ha => ?_, fun i hi => ⟨?_, fun c hc => ?_⟩, fun w hwo => ⟨?_, ?_, fun j hj => ?_⟩⟩, fun q hq => ?_⟩
  · rw [c1 _ (by omega), p0]; exact h1
  · rw [c1 _ (by omega), p1]; exact h2
  · rw [c1 _ (by omega), p2 _ (by omega), a1 _ (by omega), q2 _ (by omega), g1 j hj]; exact h3 j hj
  · rw [c1 _ (by omega), p2 _ (by omega), a1 _ (by omega), q2 _ (by omega), g2 a ha]; exact h4 a ha
  · rw [c1 _ (by omega), p2 _ (by omega), a1 _ (by omega), q2 _ (by omega), g3 a ha]; exact h5 a ha
  · rw [c1 _ (by omega), p2 _ (by omega), (a2 i (by omega)).1]; exact (h6 i hi).1
  · rw [c1 _ (by omega), p2 _ (by omega), (a2 i (by omega)).2 c hc]; exact (h6 i hi).2 c hc
  · rw [(c2 w (by omega)).1]; exact (h7 w hwo).1
  · rw [(c2 w (by omega)).2.1]; exact (h7 w hwo).2.1
  · have := (w4 w hwo).2.1
    rw [(c2 w (by omega)).2.2 j (by omega)]; exact (h7 w hwo).2.2 j hj
  · rw [c1 q (by omega), p2 q (by omega), a1 q (by omega), q2 q (by omega), g4 q (by omega) (by omega) (by omega)]
