/-! the model's odds -/
theorem li_32768 : (32768 : Int32) = nI 32768 := by decide +kernel
section ODM
variable {fu b : Nat} {M : Mem} {L : MemL} {σ : Md}
theorem power_ {v n : Nat} (hf : 50 ≤ fu) (hv : v < 100) (hn : n ≤ 15) : f_X8_power fu (nI v) (nI n) = some (pw (lN v) n) := by
  unfold f_X8_power
  have key := cnt (fun m i => lp_X8_power_5 fu (nI v) (nI n) (fun v3 => some v3) m (pw (lN v) i) (nI i)) (some (pw (lN v) n)) n (fun m => by
    show lp_X8_power_5 _ _ _ _ (m + 1) _ _ = _
    rw [lp_X8_power_5, if_pos (by rw [q_le (by omega) (by omega)]; omega)]) (fun m i hi => by
    show lp_X8_power_5 _ _ _ _ (m + 1) _ _ = lp_X8_power_5 _ _ _ _ m _ _
    rw [lp_X8_power_5, if_neg (by rw [q_le (by omega) (by omega)]; omega), nI_l (by omega)]
    simp only [lt]
    rw [nI_1]
    rfl) fu 0 (by omega) (by omega)
  exact key
/-- the part of the set t in the odds of r -/
def gto (l f c r t : Nat) : Int64 := if rd f (shp l ^^^ t) = nI r then wl c (pop t) else 0
theorem fo2 {l c : Nat} {K : MemL → Option MemL} (hf : 50 ≤ fu) : ∀ n i (Lx : MemL), i ≤ 26 → 26 - i < n → (∀ r, r < i → Lx (b + 14) r = 0) → (∀ a, a ≠ b + 14 → Lx a = L a) → ∃ L', lp_X8_findOdds_2 fu M b (nI l) (nI c) K n (nI i) Lx = K L' ∧ (∀ r, r < 26 → L' (b + 14) r = 0) ∧ ∀ a, a ≠ b + 14 → L' a = L a := by
  intro n
  induction n with
  | zero => intro i _ _ h; omega
  | succ n ih =>
    intro i Lx hi hn h1 h2
    rw [lp_X8_findOdds_2]
    by_cases q : i = 26
    · subst q
      rw [if_pos (by rw [li_26, q_le (by omega) (by omega)]; omega)]
      exact ⟨Lx, rfl, h1, h2⟩
    · rw [if_neg (by rw [li_26, q_le (by omega) (by omega)]; omega), gd_t (q_ib (by omega) (by omega)), q_cl (by omega)]
      simp only [lt]
      rw [nI_1]
      refine ih (i + 1) _ (by omega) (by omega) (fun r hr => ?_) (fun a ha => by rw [upL_k ha]; exact h2 a ha)
      by_cases z : r = i
      · subst z; rw [upL_at]
      · rw [upL_j z]; exact h1 r (by omega)
theorem fo23 {l c : Nat} (hf : 50 ≤ fu) (hw : Wf σ) (h : MdM b M σ) (hl : l < 26) (hc : c ≤ 8) : ∀ n t (Lx : MemL), t ≤ 32768 → 32768 - t < n → (∀ r, r < 26 → Lx (b + 14) r = sumL (gto l (mS σ 2) c r) t) → (∀ a, a ≠ b + 14 → Lx a = L a) → ∃ L', lp_X8_findOdds_23 fu M b (nI l) (nI c) (fun L18 => some L18) n (nI t) Lx = some L' ∧ (∀ r, r < 26 → L' (b + 14) r = sumL (gto l (mS σ 2) c r) 32768) ∧ ∀ a, a ≠ b + 14 → L' a = L a := by
  intro n
  induction n with
  | zero => intro t _ _ h; omega
  | succ n ih =>
    intro t Lx ht hn h1 h2
    rw [lp_X8_findOdds_23]
    by_cases q : t = 32768
    · subst q
      rw [if_pos (by rw [li_32768, q_le (by omega) (by omega)]; omega)]
      exact ⟨Lx, rfl, h1, h2⟩
    · have ht' : t < 32768 := by omega
      have hp := pop_le t
      rw [if_neg (by rw [li_32768, q_le (by omega) (by omega)]; omega), ones_ (by omega) ht', bd_s, power_ hf (by omega) hp, bd_s, li_16, q_sb (by omega), li_15, q_sb hp, power_ hf (by omega) (by omega), bd_s]
      simp only [lt]
      have ew : pw (lN c) (pop t) * pw (lN (16 - c)) (15 - pop t) = wl c (pop t) := rfl
      rw [ew]
      have hs : ∀ r, sumL (gto l (mS σ 2) c r) (t + 1) = sumL (gto l (mS σ 2) c r) t + gto l (mS σ 2) c r t := fun _ => rfl
      have skip : (∀ r, r < 26 → gto l (mS σ 2) c r t = 0) → ∃ L', lp_X8_findOdds_23 fu M b (nI l) (nI c) (fun L18 => some L18) n (nI t + 1) Lx = some L' ∧ (∀ r, r < 26 → L' (b + 14) r = sumL (gto l (mS σ 2) c r) 32768) ∧ ∀ a, a ≠ b + 14 → L' a = L a := by
        intro hz
        rw [nI_1]
        exact ih (t + 1) Lx (by omega) (by omega) (fun r hr => by rw [h1 r hr, hs, hz r hr, Int64.add_zero]) h2
      by_cases z0 : wl c (pop t) = 0
      · rw [if_pos ((lg_cmp_eq _ _).mpr z0), bd_s, if_pos (by decide)]
        exact skip (fun r _ => by unfold gto; rw [z0]; split <;> rfl)
      · rw [if_neg (fun y => z0 ((lg_cmp_eq _ _).mp y)), gd_t (q_ib (by omega) hl), q_cl (a := l) (by omega), h.2.1 l hl, i_xor, MreadsAs_ hf hw h (by rw [Nat.xor_comm]; exact xs_lt ht' l), bd_s, bd_s]
        have hn2 := near_lt (shp l ^^^ t)
        by_cases y : offx (shp l ^^^ t) ≤ mS σ 2
        · have er : rd (mS σ 2) (shp l ^^^ t) = nI (near (shp l ^^^ t)) := if_pos y
          rw [er, if_neg (nI_pos (by omega)), gd_t (q_ib (by omega) hn2), gd_t (q_ib (by omega) hn2), q_cl (by omega), nI_1]
          refine ih (t + 1) _ (by omega) (by omega) (fun r hr => ?_) (fun a ha => by rw [upL_k ha]; exact h2 a ha)
          rw [hs]
          by_cases e : r = near (shp l ^^^ t)
          · rw [e, upL_at, ← e, h1 r hr]
            have eg : gto l (mS σ 2) c r t = wl c (pop t) := by unfold gto; rw [er, e, if_pos rfl]
            rw [eg]
          · have eg : gto l (mS σ 2) c r t = 0 := by unfold gto; rw [er, if_neg (by rw [q_eq (by omega) (by omega)]; omega)]
            rw [upL_j e, h1 r hr, eg, Int64.add_zero]
        · have er : rd (mS σ 2) (shp l ^^^ t) = -4 := if_neg y
          rw [er, if_pos (by decide)]
          exact skip (fun r hr => by
            unfold gto
            rw [er, if_neg (fun e => n4 (by omega) e.symm)])
theorem findOdds_ {l c : Nat} (hf : 40000 ≤ fu) (hw : Wf σ) (h : MdM b M σ) (hl : l < 26) (hc : c ≤ 8) : ∃ L', f_X8_findOdds fu M L b (nI l) (nI c) = some L' ∧ (∀ r, r < 26 → L' (b + 14) r = od l (mS σ 2) c r) ∧ ∀ a, a ≠ b + 14 → L' a = L a := by
  unfold f_X8_findOdds
  obtain ⟨L1, a1, a2, a3⟩ := fo2 (fu := fu) (b := b) (M := M) (L := L) (l := l) (c := c) (K := fun L4 => lp_X8_findOdds_23 fu M b (nI l) (nI c) (fun L18 => some L18) fu (0 : Int32) L4) (by omega) fu 0 L (by omega) (by omega) (fun r hr => by omega) (fun _ _ => rfl)
  obtain ⟨L2, b1, b2, b3⟩ := fo23 (fu := fu) (L := L) (l := l) (c := c) (by omega) hw h hl hc fu 0 L1 (by omega) (by omega) (fun r hr => a2 r hr) a3
  refine ⟨L2, a1.trans b1, fun r hr => ?_, b3⟩
  rw [b2 r hr, ← od_turn hr, show (32768 : Nat) = 2 ^ 15 by decide]
  rfl
end ODM
section PUB
variable {fu b : Nat} {M : Mem} {L : MemL} {s : Sg}
theorem X8_sure_ (hf : 40000 ≤ fu) (h : RM b M s) (a d : Int32) : ∃ L', f_X8_sure fu M L b a d = some (sp_sure s a d, L') ∧ ∀ c, c ≠ b + 14 → L' c = L c := by
  unfold f_X8_sure sp_sure
  rcases rg a 26 (by omega) with ⟨l, hl, rfl⟩ | ha
  · rw [ifr_t hl (by omega), MisLetter_t hl, bd_s, if_neg one0]
    rcases rg d 9 (by omega) with ⟨c, hc, rfl⟩ | hd
    · obtain ⟨L', e, e1, e2⟩ := findOdds_ (L := L) (l := l) (c := c) hf h.1.1 h.2.1 hl (by omega)
      rw [ifr_t hc (by omega), in0_t (n := 9) (by omega) (by decide) hc, bd_s, if_neg one0, e, bd_s, gd_t (q_ib (by omega) hl), q_cl (by omega), e1 l hl]
      simp only [lt]
      rw [gd_t (q_ib (by omega) hl)]
      exact ⟨L', rfl, e2⟩
    · rw [ifr_f (by omega) hd, in0_f (n := 9) (by omega) (by decide) hd, bd_s, if_pos rfl]
      exact ⟨L, rfl, fun _ _ => rfl⟩
  · rw [ifr_f (by omega) ha, MisLetter_f ha, bd_s, if_pos rfl]
    exact ⟨L, rfl, fun _ _ => rfl⟩
theorem X8_taken_ (hf : 40000 ≤ fu) (h : RM b M s) (a d : Int32) : ∃ L', f_X8_taken fu M L b a d = some (sp_taken s a d, L') ∧ ∀ c, c ≠ b + 14 → L' c = L c := by
  unfold f_X8_taken sp_taken
  rcases rg a 26 (by omega) with ⟨l, hl, rfl⟩ | ha
  · rw [ifr_t hl (by omega), MisLetter_t hl, bd_s, if_neg one0]
    rcases rg d 9 (by omega) with ⟨c, hc, rfl⟩ | hd
    · obtain ⟨L', e, e1, e2⟩ := findOdds_ (L := L) (l := l) (c := c) hf h.1.1 h.2.1 hl (by omega)
      rw [ifr_t hc (by omega), in0_t (n := 9) (by omega) (by decide) hc, bd_s, if_neg one0, e, bd_s]
      refine ⟨L', ?_, e2⟩
      generalize eg : (fun r => od l (mS s.1 2) c r) = g
      have hg : ∀ r, r < 26 → L' (b + 14) r = g r := fun r hr => by rw [e1 r hr, ← eg]
      have key := cnt (fun n i => lp_X8_taken_36 fu M L' b (nI l) (fun v10 => some (v10, L')) n (tk g l i).1 (tk g l i).2 (nI i)) (some ((tk g l 26).1, L')) 26 (fun n => by
        show lp_X8_taken_36 _ _ _ _ _ _ (n + 1) _ _ _ = _
        rw [lp_X8_taken_36, if_pos (by rw [li_26, q_le (by omega) (by omega)]; omega)]) (fun n i hi => by
        show lp_X8_taken_36 _ _ _ _ _ _ (n + 1) _ _ _ = lp_X8_taken_36 _ _ _ _ _ _ n _ _ _
        rw [lp_X8_taken_36, if_neg (by rw [li_26, q_le (by omega) (by omega)]; omega)]
        simp only [lt]
        by_cases q : i = l
        · subst q
          rw [if_pos rfl, nI_1]
          simp only [tk]
          rw [if_pos trivial]
        · rw [if_neg (by rw [q_eq (by omega) (by omega)]; exact q), gd_t (q_ib (by omega) hi), q_cl (by omega), hg i hi, gd_t (q_ib (by omega) hi), nI_1]
          simp only [tk]
          rw [if_neg q]
          by_cases z : (tk g l i).2 < g i
          · rw [if_neg (fun y => by
              rw [lg_cmp_le, Int64.le_iff_toInt_le] at y
              rw [Int64.lt_iff_toInt_lt] at z
              omega), if_pos z]
          · rw [if_pos ((lg_cmp_le _ _).mpr (by
              rw [Int64.lt_iff_toInt_lt] at z
              rw [Int64.le_iff_toInt_le]
              omega)), if_neg z]) fu 0 (by omega) (by omega)
      exact key
    · rw [ifr_f (by omega) hd, in0_f (n := 9) (by omega) (by decide) hd, bd_s, if_pos rfl]
      exact ⟨L, rfl, fun _ _ => rfl⟩
  · rw [ifr_f (by omega) ha, MisLetter_f ha, bd_s, if_pos rfl]
    exact ⟨L, rfl, fun _ _ => rfl⟩
end PUB
