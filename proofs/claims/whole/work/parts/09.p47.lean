section PUB
variable {fu b : Nat} {M : Mem} {s : Sg} {σ : Md}
theorem areLike_ {u v : Nat} (hf : 50 ≤ fu) (hw : Wf σ) (h : MdM b M σ) (hu : u < mW σ) (hv : v < mW σ) : f_X8_areLike fu M b (nI u) (nI v) = some (fl (likx σ u v)) := by
  obtain ⟨l1, l6, -, l26⟩ := hw.2.2.2.1 u hu
  obtain ⟨k1, k6, -, k26⟩ := hw.2.2.2.1 v hv
  have es := sizeOf_ hw h hu
  unfold f_X8_areLike likx
  rw [es, bd_s, sizeOf_ hw h hv, bd_s]
  by_cases q : mL σ u = mL σ v
  · rw [if_pos (by rw [q]), bd_s, decide_eq_true q]
    have key := cntf (fun n a j => lp_X8_areLike_22 fu M b (nI u) (nI v) (fun v11 => gd (isZ v11) (some v11)) n (fl a) (nI j)) (fun j => decide (mT σ u j = mT σ v j)) (fun a => some (fl a)) (mL σ u) (fun n a => by
      show lp_X8_areLike_22 _ _ _ _ _ _ (n + 1) _ _ = _
      rw [lp_X8_areLike_22, es, bd_s, if_pos (by rw [q_le (by omega) (by omega)]; omega), gfl]) (fun n j hj => by
      show lp_X8_areLike_22 _ _ _ _ _ _ (n + 1) _ _ = _
      rw [lp_X8_areLike_22, es, bd_s, if_neg (by rw [q_le (by omega) (by omega)]; omega), if_pos fl0, gfl]) (fun n j hj => by
      have a1 := l26 j hj
      have a2 := k26 j (by omega)
      show lp_X8_areLike_22 _ _ _ _ _ _ (n + 1) _ _ = lp_X8_areLike_22 _ _ _ _ _ _ n _ _
      rw [lp_X8_areLike_22, es, bd_s, if_neg (by rw [q_le (by omega) (by omega)]; omega), if_neg (by rw [fl1]; exact one0), letterOf_ hw h hu hj, bd_s, letterOf_ hw h hv (by omega), bd_s]
      by_cases z : mT σ u j = mT σ v j
      · rw [if_pos (by rw [z]), bd_s, decide_eq_true z]
        simp only [lt]
        rw [nI_1]; rfl
      · rw [if_neg (by rw [q_eq (by omega) (by omega)]; exact z), bd_s, decide_eq_false z]
        simp only [lt]
        rw [nI_1]; rfl) fu true 0 (by omega) (by omega)
    rw [Nat.sub_zero] at key
    exact key
  · rw [if_neg (by rw [q_eq (by omega) (by omega)]; exact q), bd_s, decide_eq_false q, Bool.false_and]
    obtain ⟨m, rfl⟩ : ∃ m, fu = m + 1 := ⟨fu - 1, by omega⟩
    rw [lp_X8_areLike_22, es, bd_s, if_neg (by rw [li_0, q_le (by omega) (by omega)]; omega), if_pos (show (0 : Int32) = 0 from rfl), show (0 : Int32) = fl false from rfl, gfl]
theorem in25 {w v i : Nat} {c2 : Int32} {K : Int32 → Option Int32} (hw : Wf σ) (h : MdM b M σ) (hwo : w < mW σ) (hv : v < mW σ) (hi : i < mL σ w) : ∀ k p n, p + k = mL σ v → k < n → lp_X8_isIn_25 fu M b (nI w) c2 (nI v) (nI i) K n (nI p) = K (nI (match fnd (mT σ v) (mT σ w i) k p with | none => mL σ v | some q => q - 1)) := by
  obtain ⟨l1, l6, -, l26⟩ := hw.2.2.2.1 w hwo
  obtain ⟨k1, k6, -, k26⟩ := hw.2.2.2.1 v hv
  have es := sizeOf_ hw h hv
  have a1 := l26 i hi
  intro k
  induction k with
  | zero =>
    intro p n hp hn
    obtain ⟨n, rfl⟩ : ∃ m, n = m + 1 := ⟨n - 1, by omega⟩
    obtain rfl : p = mL σ v := by omega
    rw [lp_X8_isIn_25, es, bd_s, if_pos (by rw [q_le (by omega) (by omega)]; omega)]
    rfl
  | succ k ih =>
    intro p n hp hn
    obtain ⟨n, rfl⟩ : ∃ m, n = m + 1 := ⟨n - 1, by omega⟩
    have a2 := k26 p (by omega)
    rw [lp_X8_isIn_25, es, bd_s, if_neg (by rw [q_le (by omega) (by omega)]; omega), letterOf_ hw h hv (by omega), bd_s, letterOf_ hw h hwo hi, bd_s]
    unfold fnd
    by_cases z : mT σ v p = mT σ w i
    · rw [if_pos (by rw [z]), if_pos z]
      rfl
    · rw [if_neg (by rw [q_eq (by omega) (by omega)]; exact z), if_neg z]
      simp only [lt]
      rw [nI_1]
      exact ih (p + 1) n (by omega) (by omega)
theorem in6 {w v x : Nat} {K : Unit → Option Int32} (hf : 50 ≤ fu) (hw : Wf σ) (h : MdM b M σ) (hwo : w < mW σ) (hv : v < mW σ) (hx : x < 64) (hK : K () = some 1) : ∀ k i p n, i + k = mL σ w → p ≤ mL σ v → k < n → lp_X8_isIn_6 fu M b (nI w) (nI x) (nI v) K n (nI p) (nI i) = some (fl (hfx (mT σ w) (mT σ v) (mL σ v) x k i p)) := by
  obtain ⟨l1, l6, -, l26⟩ := hw.2.2.2.1 w hwo
  obtain ⟨k1, k6, -, k26⟩ := hw.2.2.2.1 v hv
  have es := sizeOf_ hw h hwo
  have ev := sizeOf_ hw h hv
  intro k
  induction k with
  | zero =>
    intro i p n hi hp hn
    obtain ⟨n, rfl⟩ : ∃ m, n = m + 1 := ⟨n - 1, by omega⟩
    rw [lp_X8_isIn_6, es, bd_s, if_pos (by rw [q_le (by omega) (by omega)]; omega), hK]
    rfl
  | succ k ih =>
    intro i p n hi hp hn
    obtain ⟨n, rfl⟩ : ∃ m, n = m + 1 := ⟨n - 1, by omega⟩
    rw [lp_X8_isIn_6, es, bd_s, if_neg (by rw [q_le (by omega) (by omega)]; omega), has_ (by omega) (by omega), bd_s]
    unfold hfx
    by_cases z : x.testBit i = true
    · rw [if_pos z, if_neg one0, if_pos z, in25 hw h hwo hv (by omega) (mL σ v - p) p fu (by omega) (by omega), ev, bd_s]
      cases e : fnd (mT σ v) (mT σ w i) (mL σ v - p) p with
      | none => exact if_pos rfl
      | some q =>
        have hq := fnd_le _ _ _ e
        show (if nI (q - 1) = nI (mL σ v) then _ else _) = _
        rw [if_neg (by rw [q_eq (by omega) (by omega)]; omega)]
        simp only [lt]
        rw [nI_1, nI_1, show q - 1 + 1 = q by omega]
        exact ih (i + 1) q n (by omega) (by omega) (by omega)
    · rw [if_neg z, if_pos rfl, if_neg z]
      simp only [lt]
      rw [nI_1]
      exact ih (i + 1) p n (by omega) hp (by omega)
theorem br32 {w x : Nat} {c2 : Int32} {K : Int32 → Option Int32} (hf : 100 ≤ fu) (hw : Wf σ) (h : MdM b M σ) (hwo : w < mW σ) (hx : x < 64) : lp_X8_brief_32 fu M b (nI w) c2 (nI x) K fu 1 0 = K (fl (ownx σ w x)) := by
  have hW := hw.2.1.2
  have key := cntg (fun n a v => lp_X8_brief_32 fu M b (nI w) c2 (nI x) K n (fl a) (nI v)) (fun v => likx σ w v || !(hfx (mT σ w) (mT σ v) (mL σ v) x (mL σ w) 0 0)) (fun a => K (fl a)) (mW σ) (fun n a => by
    show lp_X8_brief_32 _ _ _ _ _ _ _ (n + 1) _ _ = _
    rw [lp_X8_brief_32, h.1.2, if_pos (by rw [q_le (by omega) (by omega)]; omega)]) (fun n a v hv => by
    show lp_X8_brief_32 _ _ _ _ _ _ _ (n + 1) _ _ = lp_X8_brief_32 _ _ _ _ _ _ _ n _ _
    have e6 : f_X8_isIn fu M b (nI w) (nI x) (nI v) = some (fl (hfx (mT σ w) (mT σ v) (mL σ v) x (mL σ w) 0 0)) := in6 (by omega) hw h hwo hv hx rfl (mL σ w) 0 0 fu (by omega) (by omega) (by have := (hw.2.2.2.1 w hwo).2.1; omega)
    rw [lp_X8_brief_32, h.1.2, if_neg (by rw [q_le (by omega) (by omega)]; omega), areLike_ (by omega) hw h hwo hv, e6]
    cases a with
    | false =>
      rw [if_pos fl0, bd_s, Bool.false_and]
      simp only [lt]
      rw [nI_1]; rfl
    | true =>
      rw [if_neg (by rw [fl1]; exact one0), bd_s, Bool.true_and]
      cases likx σ w v with
      | true =>
        rw [if_neg (by rw [fl1]; exact one0), bd_s, Bool.true_or]
        simp only [lt]
        rw [nI_1]; rfl
      | false =>
        rw [if_pos fl0, bd_s, Bool.false_or]
        cases hfx (mT σ w) (mT σ v) (mL σ v) x (mL σ w) 0 0 with
        | true =>
          rw [if_neg (by rw [fl1]; exact one0), bd_s]
          simp only [lt]
          rw [nI_1]; rfl
        | false =>
          rw [if_pos fl0, bd_s]
          simp only [lt]
          rw [nI_1]; rfl) fu true 0 (by omega) (by omega)
  rw [Nat.sub_zero, Bool.true_and] at key
  exact key
theorem X8_brief_ (hf : 100 ≤ fu) (h : RM b M s) (a : Int32) : f_X8_brief fu M b a = some (sp_brief s a) := by
  unfold f_X8_brief sp_brief
  have hW := h.1.1.2.1.2
  rcases rg a (mW s.1) (by omega) with ⟨w, hw, rfl⟩ | ha
  · obtain ⟨l1, l2, l3, l4⟩ := h.1.1.2.2.2.1 w hw
    have hp : 2 ^ mL s.1 w ≤ 2 ^ 6 := Nat.pow_le_pow_right (by omega) l2
    have hp1 : 0 < 2 ^ mL s.1 w := Nat.two_pow_pos _
    have es := sizeOf_ h.1.1 h.2.1 hw
    have s1 : (1 : Int32) <<< (nI (mL s.1 w) &&& 31) = nI (2 ^ mL s.1 w) := sh1 _ (by omega)
    rw [ifr_t hw (by omega), MisWord_t h hw, bd_s, if_neg one0]
    have key := cnt (fun n j => lp_X8_brief_15 fu M b (nI w) (fun v14 => some v14) n (pbv (brf s.1 w j)) (nI (j + 1))) (some (pbv (brf s.1 w (2 ^ mL s.1 w - 1)))) (2 ^ mL s.1 w - 1) (fun n => by
      show lp_X8_brief_15 _ _ _ _ _ (n + 1) _ _ = _
      rw [lp_X8_brief_15, es, bd_s, s1, if_pos (by rw [q_le (by omega) (by omega)]; omega)]) (fun n j hj => by
      show lp_X8_brief_15 _ _ _ _ _ (n + 1) _ _ = lp_X8_brief_15 _ _ _ _ _ n _ _
      have hx : j + 1 < 64 := by omega
      rw [lp_X8_brief_15, es, bd_s, s1, if_neg (by rw [q_le (by omega) (by omega)]; omega), br32 hf h.1.1 h.2.1 hw hx]
      have en : brf s.1 w (j + 1) = if (ownx s.1 w (j + 1) && ltb (brf s.1 w j) (j + 1)) = true then some (j + 1) else brf s.1 w j := rfl
      rw [en]
      cases ownx s.1 w (j + 1) with
      | false =>
        rw [if_pos fl0, bd_s, Bool.false_and, if_neg Bool.false_ne_true]
        simp only [lt]
        rw [nI_1]
      | true =>
        rw [if_neg (by rw [fl1]; exact one0), Bool.true_and]
        cases er : brf s.1 w j with
        | none =>
          rw [if_pos (show pbv none < 0 by decide), bd_s]
          simp only [lt]
          rw [nI_1]
          rfl
        | some c =>
          have hb := brf_le j c er
          have p1 := pop6_le (j + 1) hx
          have p2 := pop6_le c (by omega)
          rw [if_neg (show ¬ pbv (some c) < 0 from nI_pos (by omega)), ones_ (by omega) (by omega), bd_s, show f_X8_ones fu (pbv (some c)) = some (nI (pop c)) from ones_ (by omega) (by omega), bd_s]
          by_cases z : pop c ≤ pop (j + 1)
          · rw [if_pos (by rw [q_le (by omega) (by omega)]; exact z), bd_s, if_neg (show ¬ ltb (some c) (j + 1) = true by unfold ltb; simp; exact z)]
            simp only [lt]
            rw [nI_1]
          · rw [if_neg (by rw [q_le (by omega) (by omega)]; exact z), bd_s, if_pos (show ltb (some c) (j + 1) = true by unfold ltb; simp; omega)]
            simp only [lt]
            rw [nI_1]
            rfl) fu 0 (by omega) (by omega)
    exact key
  · rw [ifr_f (by omega) ha, MisWord_f h ha, bd_s, if_pos rfl]
end PUB
