theorem pop6 : ∀ x, x < 64 → pop x = sumf (fun c => if x.testBit c = true then 1 else 0) 6 := by decide +kernel
theorem pop_bs (p : Nat → Bool) : pop (bs p 6) = sumf (fun c => if p c = true then 1 else 0) 6 := by
  rw [pop6 _ (bs_lt p 6)]
  apply sumf_congr
  intro c hc
  rw [bs_tb]
  simp [hc]
theorem fdS_wf {σ : Md} {x y : Nat} {v : Bool} (hw : Wf σ) (hxy : x ≠ y) : Wf (fdS σ x y v) := by
  obtain ⟨h1, h2, h3, h4, h5, h6⟩ := hw
  refine ⟨h1, h2, h3, h4, fun p q => ?_, fun p => ?_⟩
  · show (if (p = x ∧ q = y) ∨ (p = y ∧ q = x) then v else mF σ p q) = (if (q = x ∧ p = y) ∨ (q = y ∧ p = x) then v else mF σ q p)
    have e : ((p = x ∧ q = y) ∨ (p = y ∧ q = x)) ↔ ((q = x ∧ p = y) ∨ (q = y ∧ p = x)) := by
      constructor
      · rintro (⟨a, b⟩ | ⟨a, b⟩)
        · exact Or.inr ⟨b, a⟩
        · exact Or.inl ⟨b, a⟩
      · rintro (⟨a, b⟩ | ⟨a, b⟩)
        · exact Or.inr ⟨b, a⟩
        · exact Or.inl ⟨b, a⟩
    by_cases z : (p = x ∧ q = y) ∨ (p = y ∧ q = x)
    · rw [if_pos z, if_pos (e.mp z)]
    · rw [if_neg z, if_neg (fun y => z (e.mpr y)), h5]
  · show (if (p = x ∧ p = y) ∨ (p = y ∧ p = x) then v else mF σ p p) = false
    rw [if_neg (by rintro (⟨a, b⟩ | ⟨a, b⟩) <;> exact hxy (by omega)), h6]
/-- a bit set, or cleared, of a row of bits -/
theorem setbit {p : Nat → Bool} {y : Nat} (hy : y < 6) (d : Int32) : (if d = 0 then nI (bs p 6) &&& (((1 : Int32) <<< (nI y &&& 31)) ^^^ (-1 : Int32)) else nI (bs p 6) ||| ((1 : Int32) <<< (nI y &&& 31))) = nI (bs (fun q => if q = y then decide (¬ d = 0) else p q) 6) := by
  rw [sh1 y (by omega)]
  by_cases hd : d = 0
  · rw [if_pos hd, m1, i_xor, i_and]
    congr 1
    apply Nat.eq_of_testBit_eq
    intro b
    rw [Nat.testBit_and, Nat.testBit_xor, bs_tb, bs_tb, Nat.testBit_two_pow]
    by_cases hb : b < 6
    · rw [tb_big b (by omega)]
      by_cases e : b = y
      · subst e; simp [hb, hd]
      · have e' : ¬ y = b := fun z => e z.symm
        simp [hb, e, e']
    · simp [hb]
  · rw [if_neg hd, i_or]
    congr 1
    apply Nat.eq_of_testBit_eq
    intro b
    rw [Nat.testBit_or, bs_tb, bs_tb, Nat.testBit_two_pow]
    by_cases e : b = y
    · subst e; simp [hd, hy]
    · have e' : ¬ y = b := fun z => e z.symm
      simp [e, e']
theorem setFoe_ {k x y : Nat} {M : Mem} {p : Nat → Bool} {d : Int32} (hx : x < 6) (hy : y < 6) (h : M (k + 4) x = nI (bs p 6)) : f_X0_setFoe M k (nI x) (nI y) d = some (up M (k + 4) x (nI (bs (fun q => if q = y then decide (¬ d = 0) else p q) 6))) := by
  unfold f_X0_setFoe
  rw [gd_t (q_ib (by omega) hx), gd_t (q_ib (by omega) hx), q_cl (by omega), h, ← setbit hy d]
  by_cases hd : d = 0
  · rw [if_pos hd, if_pos hd, bd_s, gd_t (q_ib (by omega) hx)]
    rfl
  · rw [if_neg hd, if_neg hd, bd_s, gd_t (q_ib (by omega) hx)]
    rfl
theorem wrS_set (σ : Md) (w i : Nat) : ∀ n, mN (wrS σ w i n).1 = mN σ ∧ mL (wrS σ w i n).1 = mL σ ∧ mT (wrS σ w i n).1 = mT σ ∧ mW (wrS σ w i n).1 = mW σ ∧ ∀ a, i + n ≤ a → mG (wrS σ w i n).1 a = mG σ a
  | 0 => ⟨rfl, rfl, rfl, rfl, fun _ _ => rfl⟩
  | n + 1 => by
    obtain ⟨h1, h2, h3, h4, h5⟩ := wrS_set σ w i n
    refine ⟨h1, h2, h3, h4, fun a ha => ?_⟩
    funext c
    show (if a = i + n ∧ _ then 0 else mG (wrS σ w i n).1 a c) = mG σ a c
    rw [if_neg (fun z => by omega), h5 a (by omega)]
theorem wrS_wf {σ : Md} {w i : Nat} (hw : Wf σ) : ∀ n, Wf (wrS σ w i n).1
  | 0 => hw
  | n + 1 => hvS_wf (wrS_wf hw n)
theorem wrS_le {σ : Md} {w i : Nat} (hw : Wf σ) (hr : i + mL σ w ≤ mN σ) : ∀ n, n ≤ mL σ w → (wrS σ w i n).2 ≤ 135 * n
  | 0, _ => Nat.le_refl _
  | n + 1, h => by
    have h1 := wrS_le hw hr n (by omega)
    obtain ⟨e1, -, -, -, e5⟩ := wrS_set σ w i n
    have h2 := sm_le (p := fun c => (shp (mT σ w n)).testBit c) (g := mG (wrS σ w i n).1 (i + n)) 15 ((wrS_wf (w := w) (i := i) hw n).2.2.1 (i + n) (by rw [e1]; omega)).2
    show (wrS σ w i n).2 + sm _ _ 15 ≤ _
    omega
section PUB
variable {fu o : Nat} {M : Mem} {s : Sg}
theorem X7_feud_ (h : RC o M s) (a b d : Int32) : ∃ M', f_X7_feud M o a b d = some ((sp_feud s a b d).1, M') ∧ RC o M' (sp_feud s a b d).2 := by
  unfold f_X7_feud sp_feud
  rw [li_6]
  rcases rg a 6 (by omega) with ⟨x, hx, rfl⟩ | ha
  · rw [ifr_t hx (by omega), isb_t hx (by omega), bd_s, if_neg one0]
    rcases rg b 6 (by omega) with ⟨y, hy, rfl⟩ | hb
    · rw [ifr_t hy (by omega), isb_t hy (by omega), bd_s, if_neg one0]
      by_cases hxy : x = y
      · rw [if_pos (by rw [hxy]), if_pos hxy]
        exact ⟨M, rfl, h⟩
      · rw [if_neg (by rw [q_eq (by omega) (by omega)]; exact hxy), if_neg hxy, gd_t (q_ib (by omega) hx), q_cl (by omega)]
        simp only [lt]
        obtain ⟨⟨h1, h2⟩, h3, h4, h5, h6, h7⟩ := id h.2.1
        obtain ⟨-, ⟨w1, w2⟩, -, -, hsym, -⟩ := id h.1.1
        have hl := bs_lt (mF s.1 x) 6
        rw [setFoe_ hx hy (h4 x hx), bd_s, setFoe_ (p := mF s.1 y) hy hx (by rw [up_j (by omega)]; exact h4 y hy), bd_s, h4 x hx, tbit (by omega) (by omega)]
        refine ⟨_, by
          have e := Nat.testBit_eq_decide_div_mod_eq (x := bs (mF s.1 x) 6) (i := y)
          rw [bs_tb, decide_eq_true hy, Bool.true_and] at e
          have e2 : bs (mF s.1 x) 6 / 2 ^ y % 2 = if mF s.1 x y = true then 1 else 0 := by
            rw [e]
            by_cases z : bs (mF s.1 x) 6 / 2 ^ y % 2 = 1
            · rw [decide_eq_true z, if_pos rfl, z]
            · rw [decide_eq_false z, if_neg (by decide)]; omega
          rw [e2], h.md ⟨⟨?_, ?_⟩, fun q hq => ?_, fun q hq => ?_, fun q hq => ?_, fun q hq => ?_, fun q hq => ?_⟩ (fdS_wf h.1.1 hxy) (fun q hq => by rw [up_k (by omega), up_k (by omega)])⟩
        · rw [up_k (by omega), up_k (by omega)]; exact h1
        · rw [up_k (by omega), up_k (by omega)]; exact h2
        · rw [up_k (by omega), up_k (by omega)]; exact h3 q hq
        · show _ = nI (bs (fun c => if (q = x ∧ c = y) ∨ (q = y ∧ c = x) then decide (¬ d = 0) else mF s.1 q c) 6)
          by_cases e1 : q = y
          · subst e1
            rw [up_at]
            congr 1
            apply bs_congr
            intro c hc
            by_cases e3 : c = x
            · subst e3; simp
            · have hx2 : ¬ q = x := fun z => hxy z.symm
              simp [e3, hx2]
          · rw [up_j e1]
            by_cases e2 : q = x
            · subst e2
              rw [up_at]
              congr 1
              apply bs_congr
              intro c hc
              by_cases e3 : c = y
              · subst e3; simp
              · simp [e3, e1]
            · rw [up_j e2, h4 q hq]
              congr 1
              apply bs_congr
              intro c hc
              simp [e1, e2]
        · rw [up_k (by omega), up_k (by omega)]; exact h5 q hq
        · have hq' : q < mN s.1 := hq
          exact ⟨by rw [up_k (by omega), up_k (by omega)]; exact (h6 q hq).1, fun c hc => by rw [up_k (by omega), up_k (by omega)]; exact (h6 q hq).2 c hc⟩
        · have hq' : q < mW s.1 := hq
          refine ⟨by rw [up_k (by omega), up_k (by omega)]; exact (h7 q hq).1, by rw [up_k (by omega), up_k (by omega)]; exact (h7 q hq).2.1, fun j hj => by rw [up_k (by omega), up_k (by omega)]; exact (h7 q hq).2.2 j hj⟩
    · rw [ifr_f (by omega) hb, isb_f (by omega) hb, bd_s, if_pos rfl]
      exact ⟨M, rfl, h⟩
  · rw [ifr_f (by omega) ha, isb_f (by omega) ha, bd_s, if_pos rfl]
    exact ⟨M, rfl, h⟩
theorem X7_count_ (hf : 50 ≤ fu) (h : RC o M s) (a : Int32) : f_X7_count fu M o a = some (sp_count s a) := by
  obtain ⟨⟨h1, h2⟩, h3, h4, h5, h6, h7⟩ := id h.2.1
  unfold f_X7_count sp_count
  by_cases a0 : a = 0
  · rw [if_pos a0, if_pos a0, h1]
  · rw [if_neg a0, if_neg a0]
    by_cases a1 : a = 1
    · rw [if_pos a1, if_pos a1, h2]
    · rw [if_neg a1, if_neg a1]
      by_cases a2 : a = 2
      · rw [if_pos a2, if_pos a2]
        unfold f_X0_feudCount
        have key := cnt (fun n i => lp_X0_feudCount_4 fu M (o + 1) (fun v5 => gd (decide (¬ (2 : Int32) = 0)) (some (v5 / (2 : Int32)))) n (nI (sumf (fun a => sumf (fun c => if mF s.1 a c = true then 1 else 0) 6) i)) (nI i)) (some (nI (fcn s.1 / 2))) 6 (fun n => by
          show lp_X0_feudCount_4 _ _ _ _ (n + 1) _ _ = _
          have hb := sumf_le (f := fun a => sumf (fun c => if mF s.1 a c = true then 1 else 0) 6) (B := 6) 6 (fun j _ => by
            have := sumf_le (f := fun c => if mF s.1 j c = true then 1 else 0) (B := 1) 6 (fun c _ => by split <;> omega)
            omega)
          rw [lp_X0_feudCount_4, li_6, if_pos (by rw [q_le (by omega) (by omega)]; omega), gd_t (by decide), li_2, pk_div (by omega) (by omega) (by omega)]
          rfl) (fun n i hi => by
          show lp_X0_feudCount_4 _ _ _ _ (n + 1) _ _ = lp_X0_feudCount_4 _ _ _ _ n _ _
          have hl := bs_lt (mF s.1 i) 6
          rw [lp_X0_feudCount_4, li_6, if_neg (by rw [q_le (by omega) (by omega)]; omega), gd_t (q_ib (by omega) hi), q_cl (by omega), h4 i hi, bc (by omega), bd_s, pop_bs]
          simp only [lt]
          rw [q_ad, li_1, q_ad]
          rfl) fu 0 (by omega) (by omega)
        rw [show lp_X0_feudCount_4 fu M (o + 1) (fun v5 => gd (decide (¬ (2 : Int32) = 0)) (some (v5 / (2 : Int32)))) fu 0 0 = some (nI (fcn s.1 / 2)) from key, bd_s]
      · rw [if_neg a2, if_neg a2]
        by_cases a3 : a = 3
        · rw [if_pos a3, if_pos a3]
          unfold f_X0_allHay
          have key := cnt (fun n i => lp_X0_allHay_4 fu M (o + 1) (fun v4 => some v4) n (hsm (mH s.1) i) (nI i)) (some (hsm (mH s.1) 6)) 6 (fun n => by
            show lp_X0_allHay_4 _ _ _ _ (n + 1) _ _ = _
            rw [lp_X0_allHay_4, li_6, if_pos (by rw [q_le (by omega) (by omega)]; omega)]) (fun n i hi => by
            show lp_X0_allHay_4 _ _ _ _ (n + 1) _ _ = lp_X0_allHay_4 _ _ _ _ n _ _
            rw [lp_X0_allHay_4, li_6, if_neg (by rw [q_le (by omega) (by omega)]; omega), gd_t (q_ib (by omega) hi), q_cl (by omega), h5 i hi]
            simp only [lt]
            rw [li_1, q_ad]
            rfl) fu 0 (by omega) (by omega)
          rw [show lp_X0_allHay_4 fu M (o + 1) (fun v4 => some v4) fu 0 0 = some (hsm (mH s.1) 6) from key, bd_s]
        · rw [if_neg a3, if_neg a3]
theorem X7_write_ (hf : 50 ≤ fu) (h : RC o M s) (a b : Int32) : ∃ M', f_X7_write fu M o a b = some ((sp_write s a b).1, M') ∧ RC o M' (sp_write s a b).2 := by
  unfold f_X7_write sp_write
  have hN := h.1.1.2.1.1
  have hW := h.1.1.2.1.2
  rcases rg a (mW s.1) (by omega) with ⟨w, hw, rfl⟩ | ha
  · rw [ifr_t hw (by omega), isWord_t h hw, bd_s, if_neg one0]
    rcases rg b (mN s.1) (by omega) with ⟨i, hi, rfl⟩ | hb
    · rw [ifr_t hi (by omega), isStrip_t h hi, bd_s, if_neg one0, gd_t (q_ib (by omega) (by omega)), q_cl (by omega)]
      simp only [lt]
      rw [isAllowed_ hf h.1.1 h.2.1 hw hi, bd_s]
      by_cases q : alw s.1 w i = true
      · rw [if_pos q, if_neg one0, if_pos q]
        have hr : i + mL s.1 w ≤ mN s.1 := by
          have q' := q
          unfold alw at q'
          rw [Bool.and_eq_true] at q'
          exact of_decide_eq_true q'.1
        obtain ⟨l1, l2, l3, l4⟩ := h.1.1.2.2.2.1 w hw
        obtain ⟨M', e, hI⟩ := cntM (fun n j Mx => lp_X7_write_49 fu o (nI i) (o + 1 + 3 + 21 + 2 * w) (fun v12 M13 => some (v12, M13)) n (nI (wrS s.1 w i j).2) (nI j) Mx) (fun j Mx => MdC (o + 1) Mx (wrS s.1 w i j).1 ∧ Fr (o + 1) M Mx) (fun Mx => some (nI (wrS s.1 w i (mL s.1 w)).2, Mx)) (mL s.1 w) (fun n Mx hI => by
          obtain ⟨e1, e2, e3, e4, e5⟩ := wrS_set s.1 w i (mL s.1 w)
          have g1 := (hI.1.2.2.2.2.2 w (by rw [e4]; exact hw)).1
          rw [e2] at g1
          show lp_X7_write_49 _ _ _ _ _ (n + 1) _ _ _ = _
          rw [lp_X7_write_49, g1, if_pos (by rw [q_le (by omega) (by omega)]; omega)]) (fun n j Mx hj hI => by
          obtain ⟨e1, e2, e3, e4, e5⟩ := wrS_set s.1 w i j
          obtain ⟨g1, g2, g3⟩ := hI.1.2.2.2.2.2 w (by rw [e4]; exact hw)
          rw [e2] at g1
          have g4 := g3 j (by rw [e2]; exact hj)
          rw [e3] at g4
          obtain ⟨M2, e6, i1, i2⟩ := harvest_ (i := i + j) (x := shp (mT s.1 w j)) hf (wrS_wf h.1.1 j) hI.1 (by rw [e1]; omega) (shp_lt _)
          have ht := l4 j hj
          refine ⟨M2, ?_, i1, hI.2.tr i2⟩
          show lp_X7_write_49 _ _ _ _ _ (n + 1) _ _ _ = lp_X7_write_49 _ _ _ _ _ n _ _ _
          rw [lp_X7_write_49, g1, if_neg (by rw [q_le (by omega) (by omega)]; omega), gd_t (q_ib (by omega) (by omega)), q_cl (by omega), g4, gd_t (q_ib (by omega) ht), q_cl (by omega), v26_ _ ht, q_ad, e6, bd_s]
          simp only [lt]
          rw [q_ad, li_1, q_ad]
          rfl) fu 0 M (by omega) (by omega) ⟨h.2.1, Fr.rf⟩
        exact ⟨M', e, h.md hI.1 (wrS_wf h.1.1 _) hI.2⟩
      · rw [if_neg q, if_pos rfl, if_neg q]
        exact ⟨M, rfl, h⟩
    · rw [ifr_f (by omega) hb, isStrip_f h hb, bd_s, if_pos rfl]
      exact ⟨M, rfl, h⟩
  · rw [ifr_f (by omega) ha, isWord_f h ha, bd_s, if_pos rfl]
    exact ⟨M, rfl, h⟩
end PUB
