theorem seen_cap {g : Nat → Nat} {low m : Nat} (hl : low ≤ 8) : seenx (capx g m) low = bs (fun c => decide (g c + m ≤ low)) 15 := by
  unfold seenx
  apply bs_congr
  intro c _
  apply decide_eq_decide.mpr
  unfold capx
  split <;> omega
theorem wri_grP {σ : Md} {k w i : Nat} (hw : Wf σ) (hwo : w < mW σ) : wri (grP σ (k * mS σ 0) (mN σ)) w i = wrk σ k w i := by
  have hl := hw.1.2.1
  unfold wri wrk wrG
  show (room σ w i && alf (fun j => decide (rd (mS σ 2) (seenx (if i + j < mN σ then capx (mG σ (i + j)) (k * mS σ 0) else mG σ (i + j)) (mS σ 1)) = nI (mT σ w j))) (mL σ w) 0) = _
  cases q : room σ w i with
  | false => rw [Bool.false_and, Bool.false_and]
  | true =>
    have hr : i + mL σ w ≤ mN σ := of_decide_eq_true q
    rw [Bool.true_and, Bool.true_and]
    apply alf_congr
    intro j _ hj
    show decide (rd (mS σ 2) (seenx (if i + j < mN σ then capx (mG σ (i + j)) (k * mS σ 0) else mG σ (i + j)) (mS σ 1)) = nI (mT σ w j)) = decide (rd (mS σ 2) (seenW (mG σ (i + j)) (mS σ 1) (mS σ 0) k) = nI (mT σ w j))
    rw [if_pos (by omega), seen_cap hl]
    rfl
section PUB
variable {fu b : Nat} {M : Mem} {s : Sg}
theorem fad63 {σ : Md} {w i : Nat} (hf : 200 ≤ fu) (hw : Wf σ) (hwo : w < mW σ) (hi : i < mN σ) : ∀ n k Mx, k ≤ 30 → 32 - k < n → MdM b Mx (grP σ (k * mS σ 0) (mN σ)) → ∃ M', (∀ K, lp_X8_fades_63 fu b (nI w) (nI i) K n (-4) (nI (k + 1)) Mx = K (pbv (fnw σ w i (30 - k) (k + 1))) M') ∧ ∀ a, a ≠ b + 3 → M' a = Mx a := by
  intro n
  induction n with
  | zero => intro k Mx _ h; omega
  | succ n ih =>
    intro k Mx hk hn h
    by_cases z : k = 30
    · subst z
      refine ⟨Mx, fun K => ?_, fun _ _ => rfl⟩
      rw [lp_X8_fades_63, li_30, if_pos (by rw [q_lt (by omega) (by omega)]; omega)]
      rfl
    · obtain ⟨M2, e2, j1, -, j2⟩ := MgoWeek_ hf hw h
      rw [← Nat.succ_mul] at j1
      have e3 := MisWritten_ (fu := fu) (w := w) (i := i) (by omega) (grP_wf hw) j1 hwo hi
      rw [wri_grP hw hwo] at e3
      have en : fnw σ w i (30 - k) (k + 1) = if wrk σ (k + 1) w i = true then fnw σ w i (30 - (k + 1)) (k + 1 + 1) else some (k + 1) := by
        rw [show 30 - k = (30 - (k + 1)) + 1 by omega]; rfl
      rw [en]
      cases y : wrk σ (k + 1) w i with
      | true =>
        obtain ⟨M', e, g⟩ := ih (k + 1) M2 (by omega) (by omega) j1
        refine ⟨M', fun K => ?_, fun a ha => by rw [g a ha, j2 a ha]⟩
        rw [y] at e3
        rw [lp_X8_fades_63, li_30, if_neg (by rw [q_lt (by omega) (by omega)]; omega), if_neg (by decide), e2, bd_s, e3, bd_s, if_neg (by rw [fl1]; exact one0), bd_s, if_pos rfl]
        simp only [lt]
        rw [nI_1]
        exact e K
      | false =>
        refine ⟨M2, fun K => ?_, j2⟩
        rw [y] at e3
        obtain ⟨m, rfl⟩ : ∃ m, n = m + 1 := ⟨n - 1, by omega⟩
        rw [lp_X8_fades_63, li_30, if_neg (by rw [q_lt (by omega) (by omega)]; omega), if_neg (by decide), e2, bd_s, e3, bd_s, if_pos fl0, bd_s, if_neg Bool.false_ne_true]
        simp only [lt]
        rw [nI_1, lp_X8_fades_63]
        by_cases x : k + 1 = 30
        · rw [li_30, if_pos (by rw [q_lt (by omega) (by omega)]; omega)]
          rfl
        · rw [li_30, if_neg (by rw [q_lt (by omega) (by omega)]; omega), if_pos (nI_pos' (by omega))]
          rfl
theorem X8_fades_ (hf : 200 ≤ fu) (h : RM b M s) (a d : Int32) : ∃ M', f_X8_fades fu M b a d = some (sp_fades s a d, M') ∧ RM b M' s := by
  unfold f_X8_fades sp_fades
  have hN := h.1.1.2.1.1
  have hW := h.1.1.2.1.2
  rcases rg a (mW s.1) (by omega) with ⟨w, hw, rfl⟩ | ha
  · rw [ifr_t hw (by omega), MisWord_t h hw, bd_s, if_neg one0]
    rcases rg d (mN s.1) (by omega) with ⟨i, hi, rfl⟩ | hb
    · rw [ifr_t hi (by omega), MisStrip_t h hi, bd_s, if_neg one0, MisWritten_ (by omega) h.1.1 h.2.1 hw hi, bd_s]
      cases q : wri s.1 w i with
      | false =>
        rw [if_pos fl0, if_neg Bool.false_ne_true]
        exact ⟨M, rfl, h⟩
      | true =>
        rw [if_neg (by rw [fl1]; exact one0), if_pos rfl]
        have c1 : ∀ K : Mem → Option (Int32 × Mem), ∃ M1, lp_X8_fades_32 fu b (nI w) (nI i) K fu 0 M = K M1 ∧ (∀ a, a ≠ b + 15 → M1 a = M a) ∧ ∀ j, j < 135 → M1 (b + 15) j = M (b + 3) j := fun K => by
          obtain ⟨M1, e, i1, i2⟩ := cntM (fun n x Mx => lp_X8_fades_32 fu b (nI w) (nI i) K n (nI x) Mx) (fun x Mx => (∀ a, a ≠ b + 15 → Mx a = M a) ∧ ∀ j, j < x → Mx (b + 15) j = M (b + 3) j) K 135 (fun n Mx _ => by
            show lp_X8_fades_32 _ _ _ _ _ (n + 1) _ _ = _
            rw [lp_X8_fades_32, li_135, if_pos (by rw [q_le (by omega) (by omega)]; omega)]) (fun n x Mx hx hI => by
            obtain ⟨i1, i2⟩ := hI
            refine ⟨up Mx (b + 15) x (M (b + 3) x), ?_, fun a ha => by rw [up_k ha]; exact i1 a ha, fun j hj => ?_⟩
            · show lp_X8_fades_32 _ _ _ _ _ (n + 1) _ _ = lp_X8_fades_32 _ _ _ _ _ n _ _
              rw [lp_X8_fades_32, li_135, if_neg (by rw [q_le (by omega) (by omega)]; omega), gd_t (q_ib (by omega) hx), gd_t (q_ib (by omega) hx), q_cl (by omega), i1 (b + 3) (by omega)]
              simp only [lt]
              rw [nI_1]
            · by_cases e : j = x
              · subst e; rw [up_at]
              · rw [up_j e]; exact i2 j (by omega)) fu 0 M (by omega) (by omega) ⟨fun _ _ => rfl, fun j hj => absurd hj (Nat.not_lt_zero j)⟩
          exact ⟨M1, e, i1, i2⟩
        obtain ⟨M1, e1, p1, p2⟩ := c1 (fun (M8 : Mem) => (lp_X8_fades_63 fu b (nI w) (nI i) (fun (v14 : Int32) (M15 : Mem) => (lp_X8_fades_104 fu b v14 (fun (M20 : Mem) => some (v14, M20)) fu (0 : Int32) M15)) fu (-4 : Int32) (1 : Int32) M8))
        have m1 : MdM b M1 s.1 := h.2.1.frame (by rw [p1 b (by omega)]) (by rw [p1 b (by omega)]) (fun a _ _ => p1 a (by omega))
        obtain ⟨M2, e2, g2⟩ := fad63 (fu := fu) (b := b) hf h.1.1 hw hi fu 0 M1 (by omega) (by omega) (by rw [Nat.zero_mul]; exact grP0 h.1.1 m1)
        have e3 := e2 (fun (v14 : Int32) (M15 : Mem) => (lp_X8_fades_104 fu b v14 (fun (M20 : Mem) => some (v14, M20)) fu (0 : Int32) M15))
        obtain ⟨M3, e4, i1, i2⟩ := cntM (fun n x Mx => lp_X8_fades_104 fu b (pbv (fnw s.1 w i 30 1)) (fun (M20 : Mem) => some (pbv (fnw s.1 w i 30 1), M20)) n (nI x) Mx) (fun x Mx => (∀ a, a ≠ b + 3 → Mx a = M2 a) ∧ ∀ j, j < x → Mx (b + 3) j = M2 (b + 15) j) (fun M20 => some (pbv (fnw s.1 w i 30 1), M20)) 135 (fun n Mx _ => by
          show lp_X8_fades_104 _ _ _ _ (n + 1) _ _ = _
          rw [lp_X8_fades_104, li_135, if_pos (by rw [q_le (by omega) (by omega)]; omega)]) (fun n x Mx hx hI => by
          obtain ⟨i1, i2⟩ := hI
          refine ⟨up Mx (b + 3) x (M2 (b + 15) x), ?_, fun a ha => by rw [up_k ha]; exact i1 a ha, fun j hj => ?_⟩
          · show lp_X8_fades_104 _ _ _ _ (n + 1) _ _ = lp_X8_fades_104 _ _ _ _ n _ _
            rw [lp_X8_fades_104, li_135, if_neg (by rw [q_le (by omega) (by omega)]; omega), gd_t (q_ib (by omega) hx), gd_t (q_ib (by omega) hx), q_cl (by omega), i1 (b + 15) (by omega)]
            simp only [lt]
            rw [nI_1]
          · by_cases e : j = x
            · subst e; rw [up_at]
            · rw [up_j e]; exact i2 j (by omega)) fu 0 M2 (by omega) (by omega) ⟨fun _ _ => rfl, fun j hj => absurd hj (Nat.not_lt_zero j)⟩
        have hA : ∀ a, a ≠ b + 3 → a ≠ b + 15 → M3 a = M a := fun a x y => by rw [i1 a x, g2 a x, p1 a y]
        have hG : ∀ j, j < 135 → M3 (b + 3) j = M (b + 3) j := fun j hj => by rw [i2 j hj, g2 _ (by omega), p2 j hj]
        refine ⟨M3, e1.trans (e3.trans e4), ?_⟩
        obtain ⟨h1, h3, h4, h5, h6, h7, h8⟩ := id h.2.1
        exact h.md (σ' := s.1) ⟨by rw [hA b (by omega) (by omega)]; exact h1, by rw [hA _ (by omega) (by omega)]; exact h3, fun p hp => ⟨by rw [hA _ (by omega) (by omega)]; exact (h4 p hp).1, fun c hc => by rw [hG _ (by omega)]; exact (h4 p hp).2 c hc⟩, by rw [hA _ (by omega) (by omega)]; exact h5, by rw [hA _ (by omega) (by omega)]; exact h6, by rw [hA _ (by omega) (by omega)]; exact h7, by rw [hA _ (by omega) (by omega)]; exact h8⟩ h.1.1 ⟨fun a ha => hA a (by omega) (by omega), by rw [hA b (by omega) (by omega)], by rw [hA b (by omega) (by omega)]⟩
    · rw [ifr_f (by omega) hb, MisStrip_f h hb, bd_s, if_pos rfl]
      exact ⟨M, rfl, h⟩
  · rw [ifr_f (by omega) ha, MisWord_f h ha, bd_s, if_pos rfl]
    exact ⟨M, rfl, h⟩
end PUB
