theorem snoc_lt {l : List Nat} {x j : Nat} (h : j < l.length) : (l ++ [x]).getD j 0 = l.getD j 0 := by
  rw [List.getD_eq_getElem?_getD, List.getD_eq_getElem?_getD, List.getElem?_append_left h]
theorem snoc_eq {l : List Nat} {x : Nat} : (l ++ [x]).getD l.length 0 = x := by
  rw [List.getD_eq_getElem?_getD, List.getElem?_append_right (Nat.le_refl _), Nat.sub_self]
  rfl
theorem n4 {w : Nat} (h : w < 100) : ¬ nI w = -4 := fun z => by
  have z2 : (nI w).toInt = (-4 : Int32).toInt := congrArg Int32.toInt z
  rw [nI_toInt (by omega), show (-4 : Int32).toInt = -4 by decide] at z2
  omega
/-- the row stands in the cells r, c: how many, and which -/
def Lst (M : Mem) (r f c : Nat) (l : List Nat) : Prop := M r f = nI l.length ∧ ∀ j, j < l.length → M c j = nI (l.getD j 0)
section ROW
variable {fu o : Nat} {M : Mem} {σ : Md} {B : Nat → Nat → Bool} {V : Nat → Nat → Int32} {T : Nat → Int32}
theorem firstForMost_ {s : Nat} (hf : 50 ≤ fu) (hw : Wf σ) (h : Wo o M σ B V) (hok : okV (mN σ) (mW σ) B V (mL σ)) (hs : s < mN σ) (hT : ∀ q, q ≤ mN σ → M (o + 89 + 11) q = T q) : f_X2_firstForMost fu M (o + 89) (o + 1) (nI s) = some (pbv (fm B V (mL σ) T s (mW σ) 0)) := by
  obtain ⟨-, ⟨w1, w2⟩, -⟩ := id hw
  unfold f_X2_firstForMost
  have key : ∀ n w, w ≤ mW σ → mW σ - w < n → lp_X2_firstForMost_2 fu M (o + 89) (o + 1) (nI s) (fun _ => some (-4)) n (nI w) = some (pbv (fm B V (mL σ) T s (mW σ - w) w)) := by
    intro n
    induction n with
    | zero => intro w _ h; omega
    | succ n ih =>
      intro w h1 h2
      rw [lp_X2_firstForMost_2, h.1.1.2]
      by_cases z : mW σ ≤ w
      · rw [if_pos (by rw [q_le (by omega) (by omega)]; exact z), show mW σ - w = 0 by omega]
        rfl
      · rw [if_neg (by rw [q_le (by omega) (by omega)]; exact z), gd_t (q_ib (by omega) (by omega)), gd_t (q_ib (by omega) (by omega)), q_cl (by omega), q_cl (by omega), h.2 s hs w (by omega), show mW σ - w = (mW σ - (w + 1)) + 1 by omega]
        unfold fm
        by_cases hB : B s w = true
        · have hv := hok s hs w (by omega) hB
          have h3 : wv B V s w = V s w := by unfold wv; rw [if_pos hB]
          rw [h3, if_neg hv.1, mostBy_ (T := T) hw h hs (by omega) hB hok (hT _ hv.2), bd_s, gd_t (q_ib (by omega) (by omega)), hT s (by omega), hB, Bool.true_and]
          by_cases y : V s w + T (s + mL σ w) = T s
          · rw [if_pos y, decide_eq_true y, if_pos rfl]
            rfl
          · rw [if_neg y, decide_eq_false y, if_neg Bool.false_ne_true]
            simp only [lt]
            rw [nI_1]
            exact ih (w + 1) (by omega) (by omega)
        · have h3 : wv B V s w = -1000000 := by unfold wv; rw [if_neg hB]
          have hB2 : B s w = false := by simpa using hB
          rw [h3, if_pos rfl, hB2, Bool.false_and, if_neg Bool.false_ne_true]
          simp only [lt]
          rw [nI_1]
          exact ih (w + 1) (by omega) (by omega)
  have := key fu 0 (by omega) (by omega)
  rw [Nat.sub_zero] at this
  exact this
theorem choose_lp (hf : 50 ≤ fu) (hw : Wf σ) (hok : okV (mN σ) (mW σ) B V (mL σ)) : ∀ n k s nx acc Mx, s + k = mN σ → k < n → nx ≤ mN σ → acc.length ≤ s → Wo o Mx σ B V → (∀ q, q ≤ mN σ → Mx (o + 89 + 11) q = T q) → Lst Mx (o + 89) 3 (o + 89 + 12) acc → ∃ M', lp_X2_choose_14 fu (o + 89) (o + 1) (fun M13 => some M13) n (nI nx) (nI s) Mx = some M' ∧ Lst M' (o + 89) 3 (o + 89 + 12) (chs (mW σ) B V (mL σ) T k s nx acc) ∧ (∀ q, q ≤ mN σ → M' (o + 89 + 11) q = T q) ∧ FrR o Mx M' ∧ (chs (mW σ) B V (mL σ) T k s nx acc).length ≤ mN σ := by
  obtain ⟨-, ⟨w1, w2⟩, -⟩ := id hw
  intro n
  induction n with
  | zero => intro k s nx acc Mx _ h; omega
  | succ n ih =>
    intro k s nx acc Mx hk hn hnx hacc hW hT hL
    rw [lp_X2_choose_14, hW.1.1.1]
    by_cases z : mN σ ≤ s
    · have k0 : k = 0 := by omega
      subst k0
      rw [if_pos (by rw [q_le (by omega) (by omega)]; exact z)]
      exact ⟨Mx, rfl, hL, hT, fun _ _ => rfl, by show acc.length ≤ _; omega⟩
    · rw [if_neg (by rw [q_le (by omega) (by omega)]; exact z)]
      obtain ⟨k', rfl⟩ : ∃ k', k = k' + 1 := ⟨k - 1, by omega⟩
      unfold chs
      by_cases y : s < nx
      · rw [if_neg (by rw [q_le (by omega) (by omega)]; omega), bd_s, if_pos rfl, if_pos y]
        simp only [lt]
        rw [nI_1]
        exact ih k' (s + 1) nx acc Mx (by omega) (by omega) hnx (by omega) hW hT hL
      · rw [if_pos (by rw [q_le (by omega) (by omega)]; omega), if_neg y, firstForMost_ hf hw hW hok (by omega) hT, bd_s, bd_s]
        cases e : fm B V (mL σ) T s (mW σ) 0 with
        | none =>
          show ∃ M', (if (-4 : Int32) = -4 then _ else _) = _ ∧ _
          rw [if_pos rfl]
          simp only [lt]
          rw [nI_1]
          exact ih k' (s + 1) nx acc Mx (by omega) (by omega) hnx (by omega) hW hT hL
        | some w =>
          obtain ⟨-, f1, f2⟩ := fm_some _ _ _ e
          have f3 := (hok s (by omega) w (by omega) f2).2
          have ep : pbv (some w) = nI w := rfl
          rw [ep, if_neg (n4 (by omega)), hL.1, gd_t (q_ib (by omega) (by omega)), q_cl (by omega)]
          simp only [lt]
          rw [gd_t (q_ib (by omega) (by omega)), q_cl (by omega), up_k (a := o + 89) (by omega), hL.1, nI_1, nI_1, li_10, q_mu, q_ad]
          generalize eM2 : up (up Mx (o + 89 + 12) acc.length (nI (10 * s + w))) (o + 89) 3 (nI (acc.length + 1)) = M2
          have g1 : ∀ a, a ≠ o + 89 → a ≠ o + 89 + 12 → M2 a = Mx a := fun a h1 h2 => by rw [← eM2, up_k h1, up_k h2]
          have hW2 : Wo o M2 σ B V := hW.frame hw (fun a ha => g1 a (by omega) (by omega))
          have hT2 : ∀ q, q ≤ mN σ → M2 (o + 89 + 11) q = T q := fun q hq => by rw [g1 _ (by omega) (by omega)]; exact hT q hq
          have hL2 : Lst M2 (o + 89) 3 (o + 89 + 12) (acc ++ [10 * s + w]) := by
            refine ⟨by rw [← eM2, up_at, List.length_append]; rfl, fun j hj => ?_⟩
            rw [List.length_append] at hj
            have hj' : j < acc.length + 1 := hj
            by_cases q : j = acc.length
            · subst q; rw [← eM2, up_k (by omega), up_at, snoc_eq]
            · rw [← eM2, up_k (by omega), up_j q, hL.2 j (by omega), snoc_lt (by omega)]
          rw [(hW2.1.2.2.2.2.2 w (by omega)).1, q_ad]
          obtain ⟨M', e1, e2, e3, e4, e5⟩ := ih k' (s + 1) (s + mL σ w) (acc ++ [10 * s + w]) M2 (by omega) (by omega) f3 (by rw [List.length_append]; show acc.length + 1 ≤ _; omega) hW2 hT2 hL2
          exact ⟨M', e1, e2, e3, fun a ha => by rw [e4 a ha, g1 a (by omega) (by omega)], e5⟩
theorem answer_ {l : List Nat} {a : Int32} (hl : l.length ≤ 9) (hT : M (o + 89 + 11) 0 = T 0) (hL : Lst M (o + 89) 3 (o + 89 + 12) l) : f_X2_answer M (o + 89) a = some (tellx (T 0, l) a) := by
  unfold f_X2_answer tellx
  by_cases a1 : a = -1
  · rw [if_pos a1, if_pos a1, gd_t (by decide)]
    show some (M (o + 89 + 11) 0) = _
    rw [hT]
  · rw [if_neg a1, if_neg a1]
    by_cases a2 : a = -2
    · rw [if_pos a2, if_pos a2, hL.1]
    · rw [if_neg a2, if_neg a2, hL.1]
      rcases rg a l.length (by omega) with ⟨j, hj, rfl⟩ | ha
      · rw [isb_t hj (by omega), bd_s, if_neg one0, gd_t (q_ib (by omega) (by omega)), q_cl (by omega), hL.2 j hj]
        show _ = some (ifr (nI j) l.length _ _)
        rw [ifr_t hj (by omega)]
      · rw [isb_f (by omega) ha, bd_s, if_pos rfl]
        show _ = some (ifr a l.length _ _)
        rw [ifr_f (by omega) ha]
theorem choose_ (hf : 50 ≤ fu) (hw : Wf σ) (h : Wo o M σ B V) (hok : okV (mN σ) (mW σ) B V (mL σ)) (hl : ∀ w, w < mW σ → 1 ≤ mL σ w) : ∃ M', f_X2_choose fu M (o + 89) (o + 1) = some M' ∧ FrR o M M' ∧ ∀ a, f_X2_answer M' (o + 89) a = some (tellx (rowx (mN σ) (mW σ) B V (mL σ)) a) := by
  have hN := hw.2.1.1
  obtain ⟨M1, e1, s1, s2⟩ := sumUp_ hf hw h hok hl
  unfold f_X2_choose
  rw [e1, bd_s]
  simp only [lt]
  obtain ⟨M2, e2, c1, c2, c3, c4⟩ := choose_lp (o := o) (T := tb (mN σ) (mW σ) B V (mL σ) (mN σ)) hf hw hok fu (mN σ) 0 0 [] (up M1 (o + 89) 3 0) (by omega) (by omega) (by omega) (Nat.le_refl _) (h.frame hw (fun a ha => by rw [up_k (by omega), s2 a (by omega)])) (fun q hq => by rw [up_k (by omega)]; exact s1 q hq) ⟨up_at, fun j hj => by cases hj⟩
  refine ⟨M2, e2, fun a ha => by rw [c3 a ha, up_k (by omega), s2 a (by omega)], fun a => ?_⟩
  exact answer_ (by omega) (c2 0 (by omega)) c1
end ROW
def vR (σ : Md) : Nat → Nat → Int32 := fun _ w => nI (mP σ w)
def vP (σ : Md) : Nat → Nat → Int32 := fun s w => nI (mP σ w) - nI (losw σ w s)
def sp_read (s : Sg) (a : Int32) : Int32 × Sg := (if a < -2 then -1 else if 9 ≤ a then -1 else tellx (rowx (mN s.1) (mW s.1) (fun i w => wri s.1 w i) (vR s.1) (mL s.1)) a, s)
def sp_plan (s : Sg) (a : Int32) : Int32 × Sg := (if a < -2 then -1 else if 9 ≤ a then -1 else tellx (rowx (mN s.1) (mW s.1) (fun i w => alw s.1 w i) (vP s.1) (mL s.1)) a, s)
theorem okR {σ : Md} (hw : Wf σ) : okV (mN σ) (mW σ) (fun i w => wri σ w i) (vR σ) (mL σ) := by
  intro s hs w hwo hB
  refine ⟨fun z => ?_, ?_⟩
  · have l := (hw.2.2.2.1 w hwo).2.2.1
    have z2 : (nI (mP σ w)).toInt = (-1000000 : Int32).toInt := congrArg Int32.toInt z
    rw [nI_toInt (by omega), show (-1000000 : Int32).toInt = -1000000 by decide] at z2
    omega
  · have hB' : wri σ w s = true := hB
    unfold wri wrG at hB'
    rw [Bool.and_eq_true] at hB'
    exact of_decide_eq_true hB'.1
theorem alw_room {σ : Md} {w i : Nat} (h : alw σ w i = true) : i + mL σ w ≤ mN σ := by
  unfold alw at h
  rw [Bool.and_eq_true] at h
  exact of_decide_eq_true h.1
theorem okP {σ : Md} (hw : Wf σ) : okV (mN σ) (mW σ) (fun i w => alw σ w i) (vP σ) (mL σ) := by
  intro s hs w hwo hB
  have hr := alw_room hB
  refine ⟨fun z => ?_, hr⟩
  have l := (hw.2.2.2.1 w hwo).2.2.1
  have l2 := losw_le hw hwo hr
  have z2 : (nI (mP σ w) - nI (losw σ w s)).toInt = (-1000000 : Int32).toInt := congrArg Int32.toInt z
  rw [pk_sub_toInt (by omega) (by omega), show (-1000000 : Int32).toInt = -1000000 by decide] at z2
  omega

section PUB
variable {fu o : Nat} {M : Mem} {s : Sg}
theorem weighW (hf : 50 ≤ fu) (h : RC o M s) : ∃ M', f_X2_weighWritten fu M (o + 89) (o + 1) = some M' ∧ Wo o M' s.1 (fun i w => wri s.1 w i) (vR s.1) ∧ FrR o M M' := by
  obtain ⟨w, m, -⟩ := id h
  obtain ⟨w1, w2⟩ := w.1.2.1
  unfold f_X2_weighWritten
  obtain ⟨M', e, i1, i2⟩ := cntM (fun n i Mx => lp_X2_weighWritten_2 fu (o + 89) (o + 1) (fun M12 => some M12) n (nI i) Mx) (fun i Mx => (∀ q, q < i → ∀ u, u < mW s.1 → Mx (o + 89 + 1 + 1 + q) u = wv (fun i w => wri s.1 w i) (vR s.1) q u) ∧ FrR o M Mx) (fun Mx => some Mx) (mN s.1) (fun n Mx hI => by
    have mm := m.frame (fun a h1 h2 => hI.2 a (by omega)) w.1
    show lp_X2_weighWritten_2 _ _ _ _ (n + 1) _ _ = _
    rw [lp_X2_weighWritten_2, mm.1.1, if_pos (by rw [q_le (by omega) (by omega)]; omega)]) (fun n i Mx hi hI => by
    obtain ⟨g1, g2⟩ := hI
    have mm := m.frame (fun a h1 h2 => g2 a (by omega)) w.1
    show ∃ M', lp_X2_weighWritten_2 _ _ _ _ (n + 1) _ _ = lp_X2_weighWritten_2 _ _ _ _ n _ _ ∧ _
    obtain ⟨M2, e2, j1, j2, j3⟩ := cntM (fun n2 u My => lp_X2_weighWritten_12 fu (o + 89) (o + 1) (nI i) (fun M10 => lt (nI i + 1) (fun v11 => lp_X2_weighWritten_2 fu (o + 89) (o + 1) (fun M12 => some M12) n v11 M10)) n2 (nI u) My) (fun u My => (∀ q, q < i → ∀ u, u < mW s.1 → My (o + 89 + 1 + 1 + q) u = wv (fun i w => wri s.1 w i) (vR s.1) q u) ∧ FrR o M My ∧ ∀ v, v < u → My (o + 89 + 1 + 1 + i) v = wv (fun i w => wri s.1 w i) (vR s.1) i v) (fun My => lt (nI i + 1) (fun v11 => lp_X2_weighWritten_2 fu (o + 89) (o + 1) (fun M12 => some M12) n v11 My)) (mW s.1) (fun n2 My hJ => by
      have my := m.frame (fun a h1 h2 => hJ.2.1 a (by omega)) w.1
      show lp_X2_weighWritten_12 _ _ _ _ _ (n2 + 1) _ _ = _
      rw [lp_X2_weighWritten_12, my.1.2, if_pos (by rw [q_le (by omega) (by omega)]; omega)]) (fun n2 u My hu hJ => by
      obtain ⟨j1, j2, j3⟩ := hJ
      have my := m.frame (fun a h1 h2 => j2 a (by omega)) w.1
      have ew := isWritten_ (w := u) (i := i) (wk := 0) hf w.1 my hu hi (by omega)
      show ∃ M', lp_X2_weighWritten_12 _ _ _ _ _ (n2 + 1) _ _ = lp_X2_weighWritten_12 _ _ _ _ _ n2 _ _ ∧ _
      generalize (fun M10 => lt (nI i + 1) (fun v11 => lp_X2_weighWritten_2 fu (o + 89) (o + 1) (fun M12 => some M12) n v11 M10)) = K
      rw [lp_X2_weighWritten_12, my.1.2, if_neg (by rw [q_le (by omega) (by omega)]; omega), gd_t (q_ib (by omega) (by omega)), q_cl (by omega)]
      simp only [lt]
      rw [gd_t (q_ib (by omega) (by omega)), li_0, ew, bd_s, (my.2.2.2.2.2 u hu).2.1, nI_1]
      have e9 : (if (if wrG (mS s.1 2) s.1 (fun q => seenW (mG s.1 q) (mS s.1 1) (mS s.1 0) 0) u i = true then (1 : Int32) else 0) = nI 0 then some (-1000000 : Int32) else some (nI (mP s.1 u))) = some (wv (fun i w => wri s.1 w i) (vR s.1) i u) := by
        show (if (if wrk s.1 0 u i = true then (1 : Int32) else 0) = nI 0 then _ else _) = _
        rw [wrk_0]
        unfold wv
        by_cases q : wri s.1 u i = true
        · rw [if_pos q, if_neg (show ¬ (1 : Int32) = nI 0 by decide), if_pos q]
          rfl
        · rw [if_neg q, if_pos (show (0 : Int32) = nI 0 from rfl), if_neg q]
      rw [e9, bd_s, gd_t (q_ib (by omega) (by omega)), q_cl (by omega)]
      refine ⟨_, rfl, fun q hq v hv => by rw [up_k (by omega)]; exact j1 q hq v hv, fun a ha => by rw [up_k (by omega)]; exact j2 a ha, fun v hv => ?_⟩
      by_cases z : v = u
      · subst z; rw [up_at]
      · rw [up_j z]; exact j3 v (by omega)) fu 0 Mx (by omega) (by omega) ⟨g1, g2, fun v hv => by omega⟩
    refine ⟨M2, ?_, fun q hq v hv => ?_, j2⟩
    · rw [lp_X2_weighWritten_2, mm.1.1, if_neg (by rw [q_le (by omega) (by omega)]; omega)]
      refine Eq.trans e2 ?_
      simp only [lt]
      rw [nI_1]
    · by_cases z : q = i
      · subst z; exact j3 v hv
      · exact j1 q (by omega) v hv) fu 0 M (by omega) (by omega) ⟨fun q hq => by omega, fun _ _ => rfl⟩
  exact ⟨M', e, ⟨m.frame (fun a h1 h2 => i2 a (by omega)) w.1, i1⟩, i2⟩
theorem weighA (hf : 50 ≤ fu) (h : RC o M s) : ∃ M', f_X2_weighAllowed fu M (o + 89) (o + 1) = some M' ∧ Wo o M' s.1 (fun i w => alw s.1 w i) (vP s.1) ∧ FrR o M M' := by
  obtain ⟨w, m, -⟩ := id h
  obtain ⟨w1, w2⟩ := w.1.2.1
  unfold f_X2_weighAllowed
  obtain ⟨M', e, i1, i2⟩ := cntM (fun n i Mx => lp_X2_weighAllowed_2 fu (o + 89) (o + 1) (fun M12 => some M12) n (nI i) Mx) (fun i Mx => (∀ q, q < i → ∀ u, u < mW s.1 → Mx (o + 89 + 1 + 1 + q) u = wv (fun i w => alw s.1 w i) (vP s.1) q u) ∧ FrR o M Mx) (fun Mx => some Mx) (mN s.1) (fun n Mx hI => by
    have mm := m.frame (fun a h1 h2 => hI.2 a (by omega)) w.1
    show lp_X2_weighAllowed_2 _ _ _ _ (n + 1) _ _ = _
    rw [lp_X2_weighAllowed_2, mm.1.1, if_pos (by rw [q_le (by omega) (by omega)]; omega)]) (fun n i Mx hi hI => by
    obtain ⟨g1, g2⟩ := hI
    have mm := m.frame (fun a h1 h2 => g2 a (by omega)) w.1
    show ∃ M', lp_X2_weighAllowed_2 _ _ _ _ (n + 1) _ _ = lp_X2_weighAllowed_2 _ _ _ _ n _ _ ∧ _
    obtain ⟨M2, e2, j1, j2, j3⟩ := cntM (fun n2 u My => lp_X2_weighAllowed_12 fu (o + 89) (o + 1) (nI i) (fun M10 => lt (nI i + 1) (fun v11 => lp_X2_weighAllowed_2 fu (o + 89) (o + 1) (fun M12 => some M12) n v11 M10)) n2 (nI u) My) (fun u My => (∀ q, q < i → ∀ u, u < mW s.1 → My (o + 89 + 1 + 1 + q) u = wv (fun i w => alw s.1 w i) (vP s.1) q u) ∧ FrR o M My ∧ ∀ v, v < u → My (o + 89 + 1 + 1 + i) v = wv (fun i w => alw s.1 w i) (vP s.1) i v) (fun My => lt (nI i + 1) (fun v11 => lp_X2_weighAllowed_2 fu (o + 89) (o + 1) (fun M12 => some M12) n v11 My)) (mW s.1) (fun n2 My hJ => by
      have my := m.frame (fun a h1 h2 => hJ.2.1 a (by omega)) w.1
      show lp_X2_weighAllowed_12 _ _ _ _ _ (n2 + 1) _ _ = _
      rw [lp_X2_weighAllowed_12, my.1.2, if_pos (by rw [q_le (by omega) (by omega)]; omega)]) (fun n2 u My hu hJ => by
      obtain ⟨j1, j2, j3⟩ := hJ
      have my := m.frame (fun a h1 h2 => j2 a (by omega)) w.1
      have ew := isAllowed_ (w := u) (i := i) hf w.1 my hu hi
      show ∃ M', lp_X2_weighAllowed_12 _ _ _ _ _ (n2 + 1) _ _ = lp_X2_weighAllowed_12 _ _ _ _ _ n2 _ _ ∧ _
      generalize (fun M10 => lt (nI i + 1) (fun v11 => lp_X2_weighAllowed_2 fu (o + 89) (o + 1) (fun M12 => some M12) n v11 M10)) = K
      rw [lp_X2_weighAllowed_12, my.1.2, if_neg (by rw [q_le (by omega) (by omega)]; omega), gd_t (q_ib (by omega) (by omega)), q_cl (by omega)]
      simp only [lt]
      rw [gd_t (q_ib (by omega) (by omega)), ew, bd_s, (my.2.2.2.2.2 u hu).2.1, nI_1]
      have e9 : (if (if alw s.1 u i = true then (1 : Int32) else 0) = 0 then some (-1000000 : Int32) else (f_X0_lossBy fu My (o + 1) (o + 1 + 3 + 21 + 2 * u) (nI i)).bind (fun u7 => some (nI (mP s.1 u) - u7))) = some (wv (fun i w => alw s.1 w i) (vP s.1) i u) := by
        unfold wv
        by_cases q : alw s.1 u i = true
        · rw [if_pos q, if_neg one0, if_pos q, lossBy_ hf w.1 my hu (alw_room q), bd_s]
          rfl
        · rw [if_neg q, if_pos rfl, if_neg q]
      rw [e9, bd_s, gd_t (q_ib (by omega) (by omega)), q_cl (by omega)]
      refine ⟨_, rfl, fun q hq v hv => by rw [up_k (by omega)]; exact j1 q hq v hv, fun a ha => by rw [up_k (by omega)]; exact j2 a ha, fun v hv => ?_⟩
      by_cases z : v = u
      · subst z; rw [up_at]
      · rw [up_j z]; exact j3 v (by omega)) fu 0 Mx (by omega) (by omega) ⟨g1, g2, fun v hv => by omega⟩
    refine ⟨M2, ?_, fun q hq v hv => ?_, j2⟩
    · rw [lp_X2_weighAllowed_2, mm.1.1, if_neg (by rw [q_le (by omega) (by omega)]; omega)]
      refine Eq.trans e2 ?_
      simp only [lt]
      rw [nI_1]
    · by_cases z : q = i
      · subst z; exact j3 v hv
      · exact j1 q (by omega) v hv) fu 0 M (by omega) (by omega) ⟨fun q hq => by omega, fun _ _ => rfl⟩
  exact ⟨M', e, ⟨m.frame (fun a h1 h2 => i2 a (by omega)) w.1, i1⟩, i2⟩
theorem RC.row {M1 : Mem} (h : RC o M s) (hF : FrR o M M1) : RC o M1 s := h.frame (fun a ha => hF a (by omega)) ⟨by rw [hF _ (by omega)]; exact h.2.2.2.1.1, fun j hj => by rw [hF _ (by omega)]; exact h.2.2.2.1.2 j hj⟩
theorem X7_read_ (hf : 50 ≤ fu) (h : RC o M s) (a : Int32) : ∃ M', f_X7_read fu M o a = some ((sp_read s a).1, M') ∧ RC o M' (sp_read s a).2 := by
  unfold f_X7_read sp_read f_X7_isRowPlace
  by_cases a1 : a < -2
  · rw [if_pos a1, bd_s, if_pos rfl, if_pos a1]
    exact ⟨M, rfl, h⟩
  · rw [if_neg a1, if_neg a1]
    by_cases a2 : 9 ≤ a
    · rw [if_pos a2, bd_s, if_pos rfl, if_pos a2]
      exact ⟨M, rfl, h⟩
    · obtain ⟨M1, e1, w1, f1⟩ := weighW hf h
      obtain ⟨M2, e2, f2, a3⟩ := choose_ hf h.1.1 w1 (okR h.1.1) (fun w hw => (h.1.1.2.2.2.1 w hw).1)
      rw [if_neg a2, bd_s, if_neg one0, if_neg a2, e1, bd_s, e2, bd_s, a3 a, bd_s]
      exact ⟨M2, rfl, h.row (fun b hb => by rw [f2 b hb, f1 b hb])⟩
theorem X7_plan_ (hf : 50 ≤ fu) (h : RC o M s) (a : Int32) : ∃ M', f_X7_plan fu M o a = some ((sp_plan s a).1, M') ∧ RC o M' (sp_plan s a).2 := by
  unfold f_X7_plan sp_plan f_X7_isRowPlace
  by_cases a1 : a < -2
  · rw [if_pos a1, bd_s, if_pos rfl, if_pos a1]
    exact ⟨M, rfl, h⟩
  · rw [if_neg a1, if_neg a1]
    by_cases a2 : 9 ≤ a
    · rw [if_pos a2, bd_s, if_pos rfl, if_pos a2]
      exact ⟨M, rfl, h⟩
    · obtain ⟨M1, e1, w1, f1⟩ := weighA hf h
      obtain ⟨M2, e2, f2, a3⟩ := choose_ hf h.1.1 w1 (okP h.1.1) (fun w hw => (h.1.1.2.2.2.1 w hw).1)
      rw [if_neg a2, bd_s, if_neg one0, if_neg a2, e1, bd_s, e2, bd_s, a3 a, bd_s]
      exact ⟨M2, rfl, h.row (fun b hb => by rw [f2 b hb, f1 b hb])⟩
end PUB
