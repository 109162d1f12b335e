def hgn (g : Nat → Nat) (x n : Nat) : Bool := (List.range n).all (fun c => !(x.testBit c) || decide (2 < g c))
theorem hgn_s {g : Nat → Nat} {x n : Nat} : hgn g x (n + 1) = (hgn g x n && (!(x.testBit n) || decide (2 < g n))) := by
  unfold hgn
  rw [List.range_succ, List.all_append]
  simp
section PUB
variable {fu b : Nat} {M : Mem}
theorem MseenOf_ {σ : Md} {i : Nat} (hf : 50 ≤ fu) (hw : Wf σ) (h : MdM b M σ) (hi : i < mN σ) : f_X8_seenOf fu M b (nI i) = some (nI (seenx (mG σ i) (mS σ 1))) := by
  obtain ⟨⟨h1, h2⟩, h3, h4, h5, h6, -⟩ := h
  obtain ⟨⟨-, w1, -⟩, ⟨w2, -⟩, w3, -⟩ := hw
  unfold f_X8_seenOf
  have key := cnt (fun n c => lp_X8_seenOf_4 fu M b (nI i) (fun v7 => some v7) n (nI (bs (fun c => decide (mG σ i c ≤ mS σ 1)) c)) (nI c)) (some (nI (bs (fun c => decide (mG σ i c ≤ mS σ 1)) 15))) 15 (fun n => by
    show lp_X8_seenOf_4 _ _ _ _ _ (n + 1) _ _ = _
    rw [lp_X8_seenOf_4, if_pos (by decide)]) (fun n c hc => by
    show lp_X8_seenOf_4 _ _ _ _ _ (n + 1) _ _ = lp_X8_seenOf_4 _ _ _ _ _ n _ _
    have hl := bs_lt (fun c => decide (mG σ i c ≤ mS σ 1)) c
    have hg := (w3 i hi).2 c hc
    rw [lp_X8_seenOf_4, li_15, if_neg (by rw [q_le (by omega) (by omega)]; omega), q_mu, q_ad, gd_t (q_ib (by omega) (by omega)), gd_t (by decide), q_cl (by omega), (h4 i hi).2 c hc, li_1, q_cl (by omega), h6 1 (by omega)]
    by_cases q : mG σ i c ≤ mS σ 1
    · rw [if_neg (by rw [q_lt (by omega) (by omega)]; omega), bd_s]
      simp only [lt, bs, decide_eq_true q, if_true]
      rw [← li_1, i_or1 hl (by omega), nI_1]
    · rw [if_pos (by rw [q_lt (by omega) (by omega)]; omega), bd_s]
      simp only [lt, bs, decide_eq_false q]
      rw [if_neg Bool.false_ne_true, Nat.add_zero, li_0, i_or, Nat.or_zero, ← li_1, nI_1]) fu 0 (by omega) (by omega)
  exact key
theorem Mnear_ {σ : Md} {x : Nat} (hf : 50 ≤ fu) (h : MdM b M σ) (hx : x < 32768) : f_X8_nearestForm fu M b (nI x) = some (nI (near x)) := by
  obtain ⟨-, h3, -⟩ := h
  unfold f_X8_nearestForm
  have key := cnt (fun n c => lp_X8_nearestForm_4 fu M b (nI x) (fun v7 => some v7) n (nI (nb x c)) (nI (c + 1))) (some (nI (nb x 25))) 25 (fun n => by
    show lp_X8_nearestForm_4 _ _ _ _ _ (n + 1) _ _ = _
    rw [lp_X8_nearestForm_4, if_pos (by decide)]) (fun n c hc => by
    show lp_X8_nearestForm_4 _ _ _ _ _ (n + 1) _ _ = lp_X8_nearestForm_4 _ _ _ _ _ n _ _
    have hn := nb_le x c
    have d1 := dist_le x (c + 1)
    have d2 := dist_le x (nb x c)
    rw [lp_X8_nearestForm_4, li_26, if_neg (by rw [q_le (by omega) (by omega)]; omega), gd_t (q_ib (by omega) (by omega)), q_cl (by omega), h3 (c + 1) (by omega), i_xor, ones_ (by omega) (xs_lt hx _), bd_s, gd_t (q_ib (by omega) (by omega)), q_cl (by omega), h3 (nb x c) (by omega), i_xor, ones_ (by omega) (xs_lt hx _), bd_s]
    have e : nb x (c + 1) = if dist x (c + 1) < dist x (nb x c) then c + 1 else nb x c := rfl
    have e1 : pop (x ^^^ shp (c + 1)) = dist x (c + 1) := rfl
    have e2 : pop (x ^^^ shp (nb x c)) = dist x (nb x c) := rfl
    rw [e, e1, e2]
    by_cases q : dist x (c + 1) < dist x (nb x c)
    · rw [if_neg (by rw [q_le (by omega) (by omega)]; omega), if_pos q, bd_s]
      simp only [lt]
      rw [nI_1]
    · rw [if_pos (by rw [q_le (by omega) (by omega)]; omega), if_neg q, bd_s]
      simp only [lt]
      rw [nI_1]) fu 0 (by omega) (by omega)
  exact key
theorem MreadsAs_ {σ : Md} {x : Nat} (hf : 50 ≤ fu) (hw : Wf σ) (h : MdM b M σ) (hx : x < 32768) : f_X8_readsAs fu M b (nI x) = some (rd (mS σ 2) x) := by
  have hn := near_lt x
  have ho := offx_le x
  have hs := hw.1.2.2.1
  unfold f_X8_readsAs
  rw [Mnear_ hf h hx, bd_s, gd_t (q_ib (by omega) hn), q_cl (by omega), h.2.1 _ hn, i_xor, ones_ (by omega) (xs_lt hx _), bd_s, gd_t (by decide), li_2, q_cl (by omega), h.2.2.2.2.1 2 (by omega)]
  have e1 : pop (x ^^^ shp (near x)) = offx x := rfl
  rw [e1]
  unfold rd
  by_cases q : offx x ≤ mS σ 2
  · rw [if_pos (by rw [q_le (by omega) (by omega)]; exact q), if_pos q]
  · rw [if_neg (by rw [q_le (by omega) (by omega)]; exact q), if_neg q]
theorem MhasGrown_ {σ : Md} {i x : Nat} (hf : 50 ≤ fu) (hw : Wf σ) (h : MdM b M σ) (hi : i < mN σ) (hx : x < 32768) : f_X8_hasGrown fu M b (nI i) (nI x) = some (if hg (mG σ i) x = true then 1 else 0) := by
  have hN := hw.2.1.1
  have w3 := hw.2.2.1
  have h4 := h.2.2.1
  unfold f_X8_hasGrown
  have key := cnt (fun n c => lp_X8_hasGrown_5 fu M b (nI i) (nI x) (fun v6 => gd (isZ v6) (some v6)) n (if hgn (mG σ i) x c = true then 1 else 0) (nI c)) (some (if hgn (mG σ i) x 15 = true then (1 : Int32) else 0)) 15 (fun n => by
    show lp_X8_hasGrown_5 _ _ _ _ _ _ (n + 1) _ _ = _
    rw [lp_X8_hasGrown_5, if_pos (by decide)]
    split
    · rw [gd_t isZ1]
    · rw [gd_t isZ0]) (fun n c hc => by
    show lp_X8_hasGrown_5 _ _ _ _ _ _ (n + 1) _ _ = lp_X8_hasGrown_5 _ _ _ _ _ _ n _ _
    have hg := (w3 i hi).2 c hc
    rw [lp_X8_hasGrown_5, li_15, if_neg (by rw [q_le (by omega) (by omega)]; omega)]
    by_cases y : hgn (mG σ i) x c = true
    · rw [if_pos y, if_neg one0, has_ (by omega) hc, bd_s]
      by_cases z : x.testBit c = true
      · rw [if_pos z, if_neg one0, q_mu, q_ad, gd_t (q_ib (by omega) (by omega)), q_cl (by omega), (h4 i hi).2 c hc, li_2]
        by_cases v : 2 < mG σ i c
        · rw [if_neg (by rw [q_le (by omega) (by omega)]; omega), bd_s]
          have e : hgn (mG σ i) x (c + 1) = true := by rw [hgn_s, y, z, decide_eq_true v]; rfl
          simp only [lt]
          rw [if_pos e, nI_1]
        · rw [if_pos (by rw [q_le (by omega) (by omega)]; omega), bd_s]
          have e : ¬ hgn (mG σ i) x (c + 1) = true := by rw [hgn_s, y, z, decide_eq_false v]; decide
          simp only [lt]
          rw [if_neg e, nI_1]
      · rw [if_neg z, if_pos rfl, bd_s]
        have z' : x.testBit c = false := by simpa using z
        have e : hgn (mG σ i) x (c + 1) = true := by rw [hgn_s, y, z']; rfl
        simp only [lt]
        rw [if_pos e, nI_1]
    · rw [if_neg y, if_pos rfl, bd_s]
      have y' : hgn (mG σ i) x c = false := by simpa using y
      have e : ¬ hgn (mG σ i) x (c + 1) = true := by rw [hgn_s, y', Bool.false_and]; decide
      simp only [lt]
      rw [if_neg e, nI_1]) fu 0 (by omega) (by omega)
  exact key
theorem MmowSet_ {σ : Md} {i x y : Nat} (hf : 50 ≤ fu) (hw : Wf σ) (h : MdM b M σ) (hi : i < mN σ) (hx : x < 32768) (hy : y < 32768) (hxy : ∀ c, c < 15 → y.testBit c = (x.testBit c && decide (2 < mG σ i c))) : ∃ M', f_X8_mowSet fu M b (nI i) (nI x) = some (nI (sm (fun c => y.testBit c) (mG σ i) 15), M') ∧ MdM b M' (hvS σ i y) ∧ FrM b M M' := by
  have hN := hw.2.1.1
  have w3 := hw.2.2.1
  obtain ⟨⟨h1, h2⟩, h3, h4, h5, h6, h7, h8⟩ := id h
  have ho := (w3 i hi).1
  unfold f_X8_mowSet
  obtain ⟨M1, e1, i1, i2⟩ := cntM (R := Option (Int32 × Mem)) (fun n c Mx => lp_X8_mowSet_5 fu b (nI i) (nI x) (fun (v11 : Int32) (M12 : Mem) => gd (inb (nI i) 9) (gd (inb (M12 (b + 2) (nI i).toNatClampNeg) 6) (gd (inb (M12 (b + 2) (nI i).toNatClampNeg) 6) (some (v11, up M12 (b + 4) (M12 (b + 2) (nI i).toNatClampNeg).toNatClampNeg ((M12 (b + 4) (M12 (b + 2) (nI i).toNatClampNeg).toNatClampNeg) + v11)))))) n (nI (sm (fun c => y.testBit c) (mG σ i) c)) (nI c) Mx) (fun c Mx => (∀ q, q ≠ b + 3 → Mx q = M q) ∧ ∀ q, Mx (b + 3) q = if 15 * i ≤ q ∧ q < 15 * i + c ∧ y.testBit (q - 15 * i) = true then 0 else M (b + 3) q) (fun M12 => some (nI (sm (fun c => y.testBit c) (mG σ i) 15), up M12 (b + 4) (mO σ i) (M12 (b + 4) (mO σ i) + nI (sm (fun c => y.testBit c) (mG σ i) 15)))) 15 (fun n Mx hI => by
    obtain ⟨i1, i2⟩ := hI
    show lp_X8_mowSet_5 _ _ _ _ _ (n + 1) _ _ _ = _
    rw [lp_X8_mowSet_5, if_pos (by decide), q_cl (by omega), gd_t (q_ib (by omega) (by omega)), i1 (b + 2) (by omega), (h4 i hi).1, gd_t (q_ib (by omega) ho), gd_t (q_ib (by omega) ho), q_cl (by omega)]) (fun n c Mx hc hI => by
    obtain ⟨i1, i2⟩ := hI
    have hg := (w3 i hi).2 c hc
    have hm := (h4 i hi).2 c hc
    have hmx : Mx (b + 3) (15 * i + c) = nI (mG σ i c) := by rw [i2, if_neg (by omega)]; exact hm
    have hyc := hxy c hc
    have es : sm (fun c => y.testBit c) (mG σ i) (c + 1) = sm (fun c => y.testBit c) (mG σ i) c + (if y.testBit c = true then mG σ i c else 0) := rfl
    have keep : y.testBit c = false → ((∀ q, q ≠ b + 3 → Mx q = M q) ∧ ∀ q, Mx (b + 3) q = if 15 * i ≤ q ∧ q < 15 * i + (c + 1) ∧ y.testBit (q - 15 * i) = true then 0 else M (b + 3) q) := fun hf => ⟨i1, fun q => by
      rw [i2 q]
      by_cases e : q = 15 * i + c
      · subst e
        rw [if_neg (by omega), if_neg]
        intro w
        have := w.2.2
        rw [Nat.add_sub_cancel_left, hf] at this
        exact Bool.false_ne_true this
      · by_cases z : 15 * i ≤ q ∧ q < 15 * i + c ∧ y.testBit (q - 15 * i) = true
        · rw [if_pos z, if_pos ⟨z.1, by omega, z.2.2⟩]
        · rw [if_neg z, if_neg (fun w => z ⟨w.1, by omega, w.2.2⟩)]⟩
    show ∃ M', lp_X8_mowSet_5 _ _ _ _ _ (n + 1) _ _ _ = lp_X8_mowSet_5 _ _ _ _ _ n _ _ _ ∧ _
    rw [lp_X8_mowSet_5, li_15, if_neg (by rw [q_le (by omega) (by omega)]; omega), q_mu, q_ad]
    simp only [lt]
    rw [has_ (by omega) hc, bd_s]
    by_cases z : x.testBit c = true
    · rw [if_pos z, if_neg one0, gd_t (q_ib (by omega) (by omega)), q_cl (by omega), hmx, li_2]
      by_cases v : 2 < mG σ i c
      · have yt : y.testBit c = true := by rw [hyc, z, decide_eq_true v]; rfl
        rw [if_neg (by rw [q_le (by omega) (by omega)]; omega), gd_t (q_ib (by omega) (by omega)), gd_t (q_ib (by omega) (by omega)), q_ad, nI_1, es, if_pos yt]
        refine ⟨up Mx (b + 3) (15 * i + c) 0, rfl, fun q hq => by rw [up_k hq]; exact i1 q hq, fun q => ?_⟩
        by_cases e : q = 15 * i + c
        · subst e
          rw [up_at, if_pos ⟨by omega, by omega, by rw [Nat.add_sub_cancel_left]; exact yt⟩]
        · rw [up_j e, i2 q]
          by_cases z : 15 * i ≤ q ∧ q < 15 * i + c ∧ y.testBit (q - 15 * i) = true
          · rw [if_pos z, if_pos ⟨z.1, by omega, z.2.2⟩]
          · rw [if_neg z, if_neg (fun w => z ⟨w.1, by omega, w.2.2⟩)]
      · have yf : y.testBit c = false := by rw [hyc, decide_eq_false v, Bool.and_false]
        rw [if_pos (by rw [q_le (by omega) (by omega)]; omega), nI_1, es, yf, if_neg Bool.false_ne_true, Nat.add_zero]
        exact ⟨Mx, rfl, keep yf⟩
    · have z' : x.testBit c = false := by simpa using z
      have yf : y.testBit c = false := by rw [hyc, z', Bool.false_and]
      rw [if_neg z, if_pos rfl, nI_1, es, yf, if_neg Bool.false_ne_true, Nat.add_zero]
      exact ⟨Mx, rfl, keep yf⟩) fu 0 M (by omega) (by omega) ⟨fun _ _ => rfl, fun q => by rw [if_neg (by omega)]⟩
  refine ⟨_, e1, ?_, ⟨fun q hq => by rw [up_k (by omega), i1 q (by omega)], by rw [up_k (by omega), i1 b (by omega)], by rw [up_k (by omega), i1 b (by omega)]⟩⟩
  generalize eS : sm (fun c => y.testBit c) (mG σ i) 15 = S
  have g : ∀ q, q ≠ b + 3 → q ≠ b + 4 → up M1 (b + 4) (mO σ i) (M1 (b + 4) (mO σ i) + nI S) q = M q := fun q hq hq2 => by rw [up_k hq2, i1 q hq]
  refine ⟨?_, ?_, ?_, ?_, ?_, ?_, ?_⟩
  · rw [g b (by omega) (by omega)]; exact ⟨h1, h2⟩
  · rw [g (b + 1) (by omega) (by omega)]; exact h3
  · intro a ha
    have ha' : a < mN σ := ha
    rw [g (b + 2) (by omega) (by omega), up_k (by omega)]
    refine ⟨(h4 a ha').1, fun c hc => ?_⟩
    show _ = nI (if a = i ∧ y.testBit c = true then 0 else mG σ a c)
    rw [i2]
    by_cases e : a = i
    · subst e
      by_cases t : y.testBit c = true
      · rw [if_pos ⟨by omega, by omega, by rw [Nat.add_sub_cancel_left]; exact t⟩, if_pos ⟨rfl, t⟩]; rfl
      · rw [if_neg (fun w => t (by have := w.2.2; rw [Nat.add_sub_cancel_left] at this; exact this)), if_neg (fun w => t w.2)]
        exact (h4 a ha').2 c hc
    · rw [if_neg (by omega), if_neg (fun w => e w.1)]
      exact (h4 a ha').2 c hc
  · intro a ha
    show _ = if a = mO σ i then mH σ a + nI (sm (fun c => y.testBit c) (mG σ i) 15) else mH σ a
    rw [eS]
    by_cases e : a = mO σ i
    · subst e; rw [if_pos rfl, up_at, i1 (b + 4) (by omega), h5 _ ha]
    · rw [if_neg e, up_j e, i1 (b + 4) (by omega)]; exact h5 a ha
  · rw [g (b + 5) (by omega) (by omega)]; exact h6
  · rw [g (b + 6) (by omega) (by omega)]; exact h7
  · rw [g (b + 7) (by omega) (by omega)]; exact h8
end PUB
