/-! the model's row for most -/
theorem chs_skip {W : Nat} {B : Nat → Nat → Bool} {V : Nat → Nat → Int32} {L : Nat → Nat} {T : Nat → Int32} : ∀ d k s nx acc, d ≤ k → s + d ≤ nx → chs W B V L T k s nx acc = chs W B V L T (k - d) (s + d) nx acc
  | 0, k, s, nx, acc, _, _ => rfl
  | d + 1, k, s, nx, acc, h1, h2 => by
    obtain ⟨k', rfl⟩ : ∃ k', k = k' + 1 := ⟨k - 1, by omega⟩
    rw [show k' + 1 - (d + 1) = k' - d by omega, show s + (d + 1) = (s + 1) + d by omega, ← chs_skip d k' (s + 1) nx acc (by omega) (by omega)]
    conv => lhs; unfold chs
    rw [if_pos (by omega)]
section ROW
variable {fu b : Nat} {M : Mem} {σ : Md} {B : Nat → Nat → Bool} {V : Nat → Nat → Int32}
def WoM (b : Nat) (M : Mem) (σ : Md) (B : Nat → Nat → Bool) (V : Nat → Nat → Int32) : Prop := MdM b M σ ∧ ∀ s, s < mN σ → ∀ w, w < mW σ → M (b + 12) (10 * s + w) = fl (B s w) ∧ (B s w = true → M (b + 13) (10 * s + w) = V s w)
theorem WoM.frame {M1 : Mem} (h : WoM b M σ B V) (he : ∀ a, a ≠ b → a ≠ b + 10 → a ≠ b + 11 → M1 a = M a) (h7 : M1 b 7 = M b 7) (h8 : M1 b 8 = M b 8) : WoM b M1 σ B V :=
  ⟨h.1.frame h7 h8 (fun a h1 h2 => he a (by omega) (by omega) (by omega)), fun s hs w hw => by rw [he (b + 12) (by omega) (by omega) (by omega), he (b + 13) (by omega) (by omega) (by omega)]; exact h.2 s hs w hw⟩
theorem fl_t {x : Bool} (h : x = true) : fl x = 1 := by rw [h]; rfl
theorem fl_f {x : Bool} (h : ¬ x = true) : fl x = 0 := by unfold fl; rw [if_neg h]
theorem Mbest_ (hf : 50 ≤ fu) (hw : Wf σ) (h : WoM b M σ B V) (hok : okV (mN σ) (mW σ) B V (mL σ)) (hl : ∀ w, w < mW σ → 1 ≤ mL σ w) {K : Mem → Option Mem} : ∃ M', lp_X8_findRow_17 fu b K fu (nI (mN σ) - nI 1) (up M (b + 10) (mN σ) 0) = K M' ∧ (∀ q, q ≤ mN σ → M' (b + 10) q = tb (mN σ) (mW σ) B V (mL σ) (mN σ) q) ∧ ∀ a, a ≠ b + 10 → M' a = M a := by
  obtain ⟨-, ⟨w1, w2⟩, -⟩ := id hw
  obtain ⟨M', e, hI⟩ := cntM (fun n k Mx => lp_X8_findRow_17 fu b K n (nI (mN σ - k) - nI 1) Mx) (fun k Mx => (∀ q, mN σ - k ≤ q → q ≤ mN σ → Mx (b + 10) q = tb (mN σ) (mW σ) B V (mL σ) k q) ∧ ∀ a, a ≠ b + 10 → Mx a = M a) (fun Mx => K Mx) (mN σ) (fun n Mx hI => by
    show lp_X8_findRow_17 _ _ _ (n + 1) _ _ = _
    rw [lp_X8_findRow_17, Nat.sub_self, if_pos (by decide)]) (fun n k Mx hk hI => by
    obtain ⟨i1, i2⟩ := hI
    show ∃ M', lp_X8_findRow_17 _ _ _ (n + 1) _ _ = lp_X8_findRow_17 _ _ _ n _ _ ∧ _
    generalize hs : mN σ - (k + 1) = s
    have hs1 : mN σ - k = s + 1 := by omega
    have hsN : s < mN σ := by omega
    rw [hs1, q_sb (by omega), Nat.add_sub_cancel]
    obtain ⟨M2, e2, j1, j2, j3⟩ := cntM (fun n2 w My => lp_X8_findRow_37 fu b (nI s) (fun M20 => lt (nI s + (-1)) (fun v21 => lp_X8_findRow_17 fu b K n v21 M20)) n2 (nI w) My) (fun w My => My (b + 10) s = mx B V (mL σ) (tb (mN σ) (mW σ) B V (mL σ) k) s w ∧ (∀ q, s + 1 ≤ q → q ≤ mN σ → My (b + 10) q = tb (mN σ) (mW σ) B V (mL σ) k q) ∧ ∀ a, a ≠ b + 10 → My a = M a) (fun My => lt (nI s + (-1)) (fun v21 => lp_X8_findRow_17 fu b K n v21 My)) (mW σ) (fun n2 My hJ => by
      have hWy : WoM b My σ B V := h.frame (fun a h1 h2 h3 => hJ.2.2 a h2) (by rw [hJ.2.2 b (by omega)]) (by rw [hJ.2.2 b (by omega)])
      show lp_X8_findRow_37 _ _ _ _ (n2 + 1) _ _ = _
      rw [lp_X8_findRow_37, hWy.1.1.2, if_pos (by rw [q_le (by omega) (by omega)]; omega)]) (fun n2 w My hwo hJ => by
      obtain ⟨j1, j2, j3⟩ := hJ
      have hWy : WoM b My σ B V := h.frame (fun a h1 h2 h3 => j3 a h2) (by rw [j3 b (by omega)]) (by rw [j3 b (by omega)])
      show ∃ M', lp_X8_findRow_37 _ _ _ _ (n2 + 1) _ _ = lp_X8_findRow_37 _ _ _ _ n2 _ _ ∧ _
      generalize (fun M20 => lt (nI s + (-1)) (fun v21 => lp_X8_findRow_17 fu b K n v21 M20)) = K2
      rw [lp_X8_findRow_37, hWy.1.1.2, if_neg (by rw [q_le (by omega) (by omega)]; omega), li_10, q_mu, q_ad, gd_t (q_ib (by omega) (by omega)), q_cl (a := 10 * s + w) (by omega), (hWy.2 s hsN w hwo).1]
      by_cases hB : B s w = true
      · have hv := hok s hsN w hwo hB
        have hlw := hl w hwo
        have hlw2 := (hw.2.2.2.1 w hwo).2.1
        rw [fl_t hB, if_pos rfl, gd_t (q_ib (by omega) (by omega)), sizeOf_ hw hWy.1 hwo, bd_s, q_ad, gd_t (q_ib (by omega) (by omega)), q_cl (a := s + mL σ w) (by omega), (hWy.2 s hsN w hwo).2 hB, j2 _ (by omega) hv.2]
        simp only [lt]
        rw [gd_t (q_ib (by omega) (by omega)), q_cl (a := s) (by omega), j1, gd_t (q_ib (by omega) (by omega))]
        have e9 : (if V s w + tb (mN σ) (mW σ) B V (mL σ) k (s + mL σ w) ≤ mx B V (mL σ) (tb (mN σ) (mW σ) B V (mL σ) k) s w then some (mx B V (mL σ) (tb (mN σ) (mW σ) B V (mL σ) k) s w) else some (V s w + tb (mN σ) (mW σ) B V (mL σ) k (s + mL σ w))) = some (mx B V (mL σ) (tb (mN σ) (mW σ) B V (mL σ) k) s (w + 1)) := by
          have e10 : mx B V (mL σ) (tb (mN σ) (mW σ) B V (mL σ) k) s (w + 1) = (if B s w = true then (if mx B V (mL σ) (tb (mN σ) (mW σ) B V (mL σ) k) s w < V s w + tb (mN σ) (mW σ) B V (mL σ) k (s + mL σ w) then V s w + tb (mN σ) (mW σ) B V (mL σ) k (s + mL σ w) else mx B V (mL σ) (tb (mN σ) (mW σ) B V (mL σ) k) s w) else mx B V (mL σ) (tb (mN σ) (mW σ) B V (mL σ) k) s w) := rfl
          rw [e10, if_pos hB]
          by_cases y : V s w + tb (mN σ) (mW σ) B V (mL σ) k (s + mL σ w) ≤ mx B V (mL σ) (tb (mN σ) (mW σ) B V (mL σ) k) s w
          · rw [if_pos y, if_neg (Int32.not_lt.mpr y)]
          · rw [if_neg y, if_pos (Int32.not_le.mp y)]
        rw [e9, bd_s, gd_t (q_ib (by omega) (by omega)), nI_1]
        exact ⟨_, rfl, up_at, fun q h1 h2 => by rw [up_j (by omega)]; exact j2 q h1 h2, fun a ha => by rw [up_k ha]; exact j3 a ha⟩
      · rw [fl_f hB, if_neg (show ¬ (0 : Int32) = 1 by decide)]
        simp only [lt]
        rw [nI_1]
        refine ⟨My, rfl, ?_, j2, j3⟩
        rw [j1]
        show _ = (if B s w = true then _ else _)
        rw [if_neg hB]) fu 0 (up Mx (b + 10) s (Mx (b + 10) (s + 1))) (by omega) (by omega) ⟨by rw [up_at, i1 (s + 1) (by omega) (by omega)]; rfl, fun q h1 h2 => by rw [up_j (by omega)]; exact i1 q (by omega) h2, fun a ha => by rw [up_k ha]; exact i2 a ha⟩
    refine ⟨M2, ?_, fun q h1 h2 => ?_, j3⟩
    · rw [lp_X8_findRow_17, if_neg (nI_pos (by omega)), nI_1, gd_t (q_ib (by omega) (by omega)), gd_t (q_ib (by omega) (by omega)), q_cl (by omega), q_cl (by omega)]
      refine Eq.trans e2 ?_
      simp only [lt]
      rw [Int32.sub_eq_add_neg]
      rfl
    · by_cases z : q = s
      · subst z
        rw [j1]
        show _ = (if q = mN σ - (k + 1) then _ else _)
        rw [if_pos hs.symm, hs]
      · rw [j2 q (by omega) h2, tb_stay _ _ _ _ _ _ _ (by omega) hk]) fu 0 (up M (b + 10) (mN σ) 0) (by omega) (by omega) ⟨fun q h1 h2 => by
      have : q = mN σ := by omega
      subst this
      rw [up_at]; rfl, fun a ha => up_k ha⟩
  refine ⟨M', e, fun q hq => hI.1 q (by omega) hq, hI.2⟩
/-- the least word that is on the way to the most, sought from the last one down -/
theorem Mfirst_ {T : Nat → Int32} {s : Nat} {K : Int32 → Option Mem} (hf : 50 ≤ fu) (hw : Wf σ) (h : WoM b M σ B V) (hok : okV (mN σ) (mW σ) B V (mL σ)) (hs : s < mN σ) (hT : ∀ q, q ≤ mN σ → M (b + 10) q = T q) : lp_X8_findRow_148 fu M b (nI s) K fu (-4) (nI (mW σ) - 1) = K (pbv (fm B V (mL σ) T s (mW σ) 0)) := by
  obtain ⟨-, ⟨w1, w2⟩, -⟩ := id hw
  have key : ∀ n j, j ≤ mW σ → mW σ - j < n → lp_X8_findRow_148 fu M b (nI s) K n (pbv (fm B V (mL σ) T s j (mW σ - j))) (nI (mW σ - j) - 1) = K (pbv (fm B V (mL σ) T s (mW σ) 0)) := by
    intro n
    induction n with
    | zero => intro j _ h; omega
    | succ n ih =>
      intro j hj hn
      rw [lp_X8_findRow_148]
      by_cases z : j = mW σ
      · rw [z, Nat.sub_self, if_pos (by decide)]
      · obtain ⟨w, hwe⟩ : ∃ w, mW σ - j = w + 1 := ⟨mW σ - j - 1, by omega⟩
        have hwo : w < mW σ := by omega
        have hj1 : mW σ - (j + 1) = w := by omega
        rw [hwe, nI_pred, if_neg (nI_pos (by omega)), li_10, q_mu, q_ad, gd_t (q_ib (by omega) (by omega)), q_cl (a := 10 * s + w) (by omega), (h.2 s hs w hwo).1]
        have hnext : nI w + (-1) = nI w - 1 := by rw [Int32.sub_eq_add_neg]
        have hstep : fm B V (mL σ) T s (j + 1) w = if (B s w && decide (V s w + T (s + mL σ w) = T s)) = true then some w else fm B V (mL σ) T s j (w + 1) := rfl
        have ih2 := ih (j + 1) (by omega) (by omega)
        rw [hj1, hstep] at ih2
        by_cases hB : B s w = true
        · have hv := hok s hs w hwo hB
          rw [fl_t hB, if_pos rfl, gd_t (q_ib (by omega) (by omega)), sizeOf_ hw h.1 hwo, bd_s, q_ad, gd_t (q_ib (by omega) (by omega)), gd_t (q_ib (by omega) (by omega)), q_cl (a := s + mL σ w) (by omega), q_cl (a := s) (by omega), (h.2 s hs w hwo).2 hB, hT _ hv.2, hT s (by omega)]
          rw [hB, Bool.true_and] at ih2
          by_cases y : V s w + T (s + mL σ w) = T s
          · rw [decide_eq_true y, if_pos rfl] at ih2
            rw [if_pos y, bd_s, if_neg one0, bd_s]
            simp only [lt]
            rw [hnext]
            exact ih2
          · rw [decide_eq_false y, if_neg Bool.false_ne_true] at ih2
            rw [if_neg y, bd_s, if_pos rfl, bd_s]
            simp only [lt]
            rw [hnext]
            exact ih2
        · have hB2 : B s w = false := by simpa using hB
          rw [hB2, Bool.false_and, if_neg Bool.false_ne_true] at ih2
          rw [fl_f hB, if_neg (show ¬ (0 : Int32) = 1 by decide), bd_s, if_pos rfl, bd_s]
          simp only [lt]
          rw [hnext]
          exact ih2
  have := key fu 0 (by omega) (by omega)
  rw [Nat.sub_zero] at this
  exact this
/-- nothing changes but the model's row -/
def FrX (b : Nat) (M M1 : Mem) : Prop := (∀ a, a ≠ b → a ≠ b + 10 → a ≠ b + 11 → a ≠ b + 12 → a ≠ b + 13 → M1 a = M a) ∧ ∀ j, j ≠ 16 → M1 b j = M b j
theorem Mchoose_ {T : Nat → Int32} (hf : 50 ≤ fu) (hw : Wf σ) (hok : okV (mN σ) (mW σ) B V (mL σ)) (hl : ∀ w, w < mW σ → 1 ≤ mL σ w) : ∀ n s acc nx (Mx : Mem), s ≤ mN σ → nx ≤ s → mN σ - s < n → acc.length ≤ s → WoM b Mx σ B V → (∀ q, q ≤ mN σ → Mx (b + 10) q = T q) → Lst Mx b 16 (b + 11) acc → ∃ M', lp_X8_findRow_130 fu b (fun M47 => some M47) n (nI s) Mx = some M' ∧ Lst M' b 16 (b + 11) (chs (mW σ) B V (mL σ) T (mN σ - s) s nx acc) ∧ (∀ q, q ≤ mN σ → M' (b + 10) q = T q) ∧ (chs (mW σ) B V (mL σ) T (mN σ - s) s nx acc).length ≤ mN σ ∧ (∀ a, a ≠ b → a ≠ b + 11 → M' a = Mx a) ∧ ∀ j, j ≠ 16 → M' b j = Mx b j := by
  obtain ⟨-, ⟨w1, w2⟩, -⟩ := id hw
  intro n
  induction n with
  | zero => intro s acc nx Mx _ _ h; omega
  | succ n ih =>
    intro s acc nx Mx hs hnx hn hacc hW hT hL
    rw [lp_X8_findRow_130, hW.1.1.1]
    by_cases z : mN σ ≤ s
    · rw [if_pos (by rw [q_le (by omega) (by omega)]; exact z), show mN σ - s = 0 by omega]
      exact ⟨Mx, rfl, hL, hT, by show acc.length ≤ _; omega, fun _ _ _ => rfl, fun _ _ => rfl⟩
    · rw [if_neg (by rw [q_le (by omega) (by omega)]; exact z), hW.1.1.2]
      simp only [lt]
      rw [Mfirst_ hf hw hW hok (by omega) hT, show mN σ - s = (mN σ - (s + 1)) + 1 by omega]
      unfold chs
      rw [if_neg (show ¬ s < nx by omega)]
      cases e : fm B V (mL σ) T s (mW σ) 0 with
      | none =>
        show ∃ M', (if (-4 : Int32) < 0 then (if (0 : Int32) ≤ -4 then _ else some (1 : Int32)).bind _ else _) = _ ∧ _
        rw [if_pos (by decide), if_neg (by decide), bd_s, nI_1]
        exact ih (s + 1) acc nx Mx (by omega) (by omega) (by omega) (by omega) hW hT hL
      | some w =>
        obtain ⟨-, f1, f2⟩ := fm_some _ _ _ e
        have hwo : w < mW σ := by omega
        have f3 := (hok s (by omega) w hwo f2).2
        have hlw := hl w hwo
        have ep : pbv (some w) = nI w := rfl
        rw [ep, if_neg (nI_pos (by omega)), hL.1, gd_t (q_ib (by omega) (by omega)), q_cl (by omega), up_k (a := b) (by omega), hL.1, nI_1, li_10, q_mu, q_ad]
        generalize eM2 : up (up Mx (b + 11) acc.length (nI (10 * s + w))) b 16 (nI (acc.length + 1)) = M2
        have g1 : ∀ a, a ≠ b → a ≠ b + 11 → M2 a = Mx a := fun a h1 h2 => by rw [← eM2, up_k h1, up_k h2]
        have g2 : ∀ j, j ≠ 16 → M2 b j = Mx b j := fun j hj => by rw [← eM2, up_j hj, up_k (by omega)]
        have hW2 : WoM b M2 σ B V := hW.frame (fun a h1 h2 h3 => g1 a h1 h3) (g2 7 (by omega)) (g2 8 (by omega))
        have hT2 : ∀ q, q ≤ mN σ → M2 (b + 10) q = T q := fun q hq => by rw [g1 _ (by omega) (by omega)]; exact hT q hq
        have hL2 : Lst M2 b 16 (b + 11) (acc ++ [10 * s + w]) := by
          refine ⟨by rw [← eM2, up_at, List.length_append]; rfl, fun j hj => ?_⟩
          rw [List.length_append] at hj
          have hj' : j < acc.length + 1 := hj
          by_cases q : j = acc.length
          · subst q; rw [← eM2, up_k (by omega), up_at, snoc_eq]
          · rw [← eM2, up_k (by omega), up_j q, hL.2 j (by omega), snoc_lt (by omega)]
        rw [if_pos (nI_pos' (by omega)), sizeOf_ hw hW2.1 hwo, bd_s, bd_s, q_ad]
        obtain ⟨M', e1, e2, e3, e4, e5, e6⟩ := ih (s + mL σ w) (acc ++ [10 * s + w]) (s + mL σ w) M2 f3 (Nat.le_refl _) (by omega) (by rw [List.length_append]; show acc.length + 1 ≤ _; omega) hW2 hT2 hL2
        have es := chs_skip (W := mW σ) (B := B) (V := V) (L := mL σ) (T := T) (mL σ w - 1) (mN σ - (s + 1)) (s + 1) (s + mL σ w) (acc ++ [10 * s + w]) (by omega) (by omega)
        rw [show mN σ - (s + 1) - (mL σ w - 1) = mN σ - (s + mL σ w) by omega, show s + 1 + (mL σ w - 1) = s + mL σ w by omega] at es
        rw [← es] at e2 e4
        exact ⟨M', e1, e2, e3, e4, fun a h1 h2 => by rw [e5 a h1 h2, g1 a h1 h2], fun j hj => by rw [e6 j hj, g2 j hj]⟩
theorem MtellRow_ {l : List Nat} {a : Int32} {T : Nat → Int32} (h8 : ¬ a < -2) (hl : l.length ≤ 9) (hT : M (b + 10) 0 = T 0) (hL : Lst M b 16 (b + 11) l) : f_X8_tellRow M b a = some (tellx (T 0, l) a) := by
  unfold f_X8_tellRow tellx
  by_cases a1 : a = -1
  · rw [if_pos a1, if_pos a1, gd_t (by decide)]
    show some (M (b + 10) 0) = _
    rw [hT]
  · rw [if_neg a1, if_neg a1]
    by_cases a2 : a = -2
    · rw [if_pos a2, if_pos a2, hL.1]
    · rw [if_neg a2, if_neg a2, hL.1]
      rcases rg a l.length (by omega) with ⟨j, hj, rfl⟩ | ha
      · rw [if_neg (by rw [q_le (by omega) (by omega)]; omega), gd_t (q_ib (by omega) (by omega)), q_cl (by omega), hL.2 j hj]
        show _ = some (ifr (nI j) l.length _ _)
        rw [ifr_t hj (by omega)]
      · have hn := rg_no (by omega) ha
        have a3 : a.toInt ≠ (-1 : Int32).toInt := fun z => a1 (Int32.toInt_inj.mp z)
        have a4 : a.toInt ≠ (-2 : Int32).toInt := fun z => a2 (Int32.toInt_inj.mp z)
        rw [Int32.lt_iff_toInt_lt] at h8
        rw [show (-1 : Int32).toInt = -1 by decide] at a3
        rw [show (-2 : Int32).toInt = -2 by decide] at a4 h8
        rw [if_pos (by rw [Int32.le_iff_toInt_le, nI_toInt (by omega)]; omega)]
        show _ = some (ifr a l.length _ _)
        rw [ifr_f (by omega) ha]
theorem MfindRow_ (hf : 50 ≤ fu) (hw : Wf σ) (h : WoM b M σ B V) (hok : okV (mN σ) (mW σ) B V (mL σ)) (hl : ∀ w, w < mW σ → 1 ≤ mL σ w) : ∃ M', f_X8_findRow fu M b = some M' ∧ (∀ a, ¬ a < -2 → f_X8_tellRow M' b a = some (tellx (rowx (mN σ) (mW σ) B V (mL σ)) a)) ∧ (∀ a, a ≠ b → a ≠ b + 10 → a ≠ b + 11 → M' a = M a) ∧ ∀ j, j ≠ 16 → M' b j = M b j := by
  have hN := hw.2.1.1
  unfold f_X8_findRow
  rw [h.1.1.1, gd_t (q_ib (by omega) (by omega)), q_cl (by omega)]
  simp only [lt]
  rw [up_k (a := b) (by omega), h.1.1.1, li_1]
  obtain ⟨M1, e1, s1, s2⟩ := Mbest_ (K := fun M22 => lp_X8_findRow_130 fu b (fun M47 => some M47) fu (0 : Int32) (up M22 b 16 (0 : Int32))) hf hw h hok hl
  have hW1 : WoM b (up M1 b 16 0) σ B V := h.frame (fun a h1 h2 h3 => by rw [up_k h1]; exact s2 a h2) (by rw [up_j (by omega), s2 b (by omega)]) (by rw [up_j (by omega), s2 b (by omega)])
  obtain ⟨M2, e2, c1, c2, c3, c4, c5⟩ := Mchoose_ (b := b) (T := tb (mN σ) (mW σ) B V (mL σ) (mN σ)) hf hw hok hl fu 0 [] 0 (up M1 b 16 0) (by omega) (Nat.le_refl _) (by omega) (Nat.le_refl _) hW1 (fun q hq => by rw [up_k (by omega)]; exact s1 q hq) ⟨up_at, fun j hj => by cases hj⟩
  refine ⟨M2, e1.trans e2, fun a ha => ?_, fun a h1 h2 h3 => by rw [c4 a h1 h3, up_k h1, s2 a h2], fun j hj => by rw [c5 j hj, up_j hj, s2 b (by omega)]⟩
  rw [Nat.sub_zero] at c1 c3
  exact MtellRow_ ha (by omega) (c2 0 (by omega)) c1
end ROW
