theorem gok_iff {f : Nat → Int32} {d : Nat} : gok f d = true ↔ ∀ c, c < 15 → 0 ≤ (f (d + c)).toInt ∧ (f (d + c)).toInt ≤ 9 := by
  unfold gok
  rw [alf_iff]
  constructor
  · intro h c hc; exact of_decide_eq_true (h c (by omega) (by omega))
  · intro h c _ hc; exact decide_eq_true (h c (by omega))
theorem gOf_ {f : Nat → Int32} {d c : Nat} (h : gok f d = true) (hc : c < 15) : f (d + c) = nI (gOf f d c) ∧ gOf f d c ≤ 9 := by
  obtain ⟨h1, h2⟩ := gok_iff.mp h c hc
  obtain ⟨e1, e2⟩ := of_nn h1
  refine ⟨e1, ?_⟩
  unfold gOf
  omega
theorem rwS_wf {σ : Md} {i : Nat} {g : Nat → Nat} (hw : Wf σ) (hg : ∀ c, c < 15 → g c ≤ 9) : Wf (rwS σ i g) := by
  obtain ⟨h1, h2, h3, h4⟩ := hw
  refine ⟨h1, h2, fun a ha => ⟨(h3 a ha).1, fun c hc => ?_⟩, h4⟩
  show (if a = i then g else mG σ a) c ≤ 9
  split
  · exact hg c hc
  · exact (h3 a ha).2 c hc
/-- a strip's row made another -/
theorem MdC.rowset {k i : Nat} {M M1 : Mem} {σ : Md} {g : Nat → Nat} (h : MdC k M σ) (hw : Wf σ) (hi : i < mN σ) (hF : ∀ a, a ≠ k + 2 + 4 + 2 * i + 1 → M1 a = M a) (hr : Rw M1 (k + 2 + 4 + 2 * i + 1) g) : MdC k M1 (rwS σ i g) := by
  obtain ⟨⟨h1, h2⟩, h3, h4, h5, h6, h7⟩ := h
  obtain ⟨-, ⟨w1, w2⟩, -⟩ := hw
  refine ⟨⟨by rw [hF _ (by omega)]; exact h1, by rw [hF _ (by omega)]; exact h2⟩, fun q hq => by rw [hF _ (by omega)]; exact h3 q hq, fun q hq => by rw [hF _ (by omega)]; exact h4 q hq, fun q hq => by rw [hF _ (by omega)]; exact h5 q hq, fun q hq => ?_, fun q hq => ?_⟩
  · have hq' : q < mN σ := hq
    refine ⟨by rw [hF _ (by omega)]; exact (h6 q hq).1, ?_⟩
    show Rw M1 _ (if q = i then g else mG σ q)
    by_cases e : q = i
    · subst e; rw [if_pos rfl]; exact hr
    · rw [if_neg e]
      intro c hc
      rw [hF _ (by omega)]; exact (h6 q hq).2 c hc
  · have hq' : q < mW σ := hq
    rw [hF _ (by omega), hF _ (by omega)]; exact h7 q hq
section PUB
variable {fu o : Nat} {M : Mem} {s : Sg}
theorem holdsGrass_ {q d : Nat} (hf : 50 ≤ fu) (h : RC o M s) (hq : q < 4) (hd : d + 15 ≤ 24) : f_X3_holdsGrass fu M (o + 170 + 1 + 2 * q) (nI d) = some (if gok (s.2.2.2.2.2 q) d = true then 1 else 0) := by
  unfold f_X3_holdsGrass gok
  have g3 := (h.2.2.2.2.1 q hq).2.2
  have key := cnte (fun n c => lp_X3_holdsGrass_2 fu M (o + 170 + 1 + 2 * q) (nI d) (fun _ => some 1) n (nI (d + c))) (fun c => decide (0 ≤ (s.2.2.2.2.2 q (d + c)).toInt ∧ (s.2.2.2.2.2 q (d + c)).toInt ≤ 9)) (some 1) (some 0) 15 (fun n => by
    show lp_X3_holdsGrass_2 _ _ _ _ _ (n + 1) _ = _
    rw [lp_X3_holdsGrass_2, li_15, q_ad, if_pos (by rw [q_le (by omega) (by omega)]; omega)]) (fun n c hc hp => by
    obtain ⟨p1, p2⟩ := of_decide_eq_true hp
    show lp_X3_holdsGrass_2 _ _ _ _ _ (n + 1) _ = lp_X3_holdsGrass_2 _ _ _ _ _ n _
    rw [lp_X3_holdsGrass_2, li_15, q_ad, if_neg (by rw [q_le (by omega) (by omega)]; omega), gd_t (q_ib (by omega) (by omega)), gd_t (q_ib (by omega) (by omega)), q_cl (by omega), g3 _ (by omega), if_neg (by rw [Int32.lt_iff_toInt_lt, Int32.toInt_zero]; omega), if_pos (by rw [li_9, Int32.le_iff_toInt_le, nI_toInt (by omega)]; exact p2)]
    simp only [lt]
    rw [nI_1]
    rfl) (fun n c hc hp => by
    have p := of_decide_eq_false hp
    show lp_X3_holdsGrass_2 _ _ _ _ _ (n + 1) _ = _
    rw [lp_X3_holdsGrass_2, li_15, q_ad, if_neg (by rw [q_le (by omega) (by omega)]; omega), gd_t (q_ib (by omega) (by omega)), gd_t (q_ib (by omega) (by omega)), q_cl (by omega), g3 _ (by omega)]
    by_cases z : s.2.2.2.2.2 q (d + c) < 0
    · rw [if_pos z]
    · rw [if_neg z, if_neg]
      rw [Int32.lt_iff_toInt_lt, Int32.toInt_zero] at z
      rw [li_9, Int32.le_iff_toInt_le, nI_toInt (by omega)]
      omega) fu 0 (by omega) (by omega)
  rw [Nat.sub_zero] at key
  refine key.trans ?_
  split <;> rfl
theorem X7_sow_ (hf : 50 ≤ fu) (hk : kd (o + 170) = 17) (h : RC o M s) (a b d f : Int32) : ∃ M', f_X7_sow fu M o a b d f = some ((sp_sow s a b d f).1, M') ∧ RC o M' (sp_sow s a b d f).2 := by
  unfold f_X7_sow sp_sow
  have hN := h.1.1.2.1.1
  rcases rg a (mN s.1) (by omega) with ⟨i, hi, rfl⟩ | ha
  · rw [ifr_t hi (by omega), isStrip_t h hi, bd_s, if_neg one0]
    rcases rg b 4 (by omega) with ⟨q, hq, rfl⟩ | hb
    · rw [ifr_t hq (by omega)]
      rcases rg d 3 (by omega) with ⟨l, hl, rfl⟩ | hd
      · rw [ifr_t hl (by omega), isSheet_t hq hl, bd_s, if_neg one0, gd_t (q_ib (by omega) hq), q_cl (by omega)]
        simp only [lt]
        rw [li_15, refusal_ h hq hl (by omega), bd_s]
        by_cases z : rfx s.2.2.2 q l f 15 = 0
        · obtain ⟨z1, z2, z3, z4⟩ := rfx_0 z
          obtain ⟨c1, c2⟩ := h.1.2.2.2 q hq
          obtain ⟨e1, e2⟩ := of_nn z3
          generalize hfn : f.toNatClampNeg = fn at e1 e2
          have hfn24 : fn + 15 ≤ 24 := by omega
          rw [if_pos z, if_pos z, e1, holdsGrass_ hf h hq hfn24, bd_s]
          by_cases y : gok (s.2.2.2.2.2 q) fn = true
          · have hln : ln (o + 170 + 1 + 2 * q + 1) = 24 := (ch_7_2 (ca_17 hk hq).1).2
            rw [if_pos y, if_neg one0, if_pos y, gd_t (q_ib (by omega) (by omega)), q_cl (by omega)]
            unfold f_X4_sowFrom
            simp only [lt]
            have hg : decide (¬ nI fn < 0 ∧ ¬ (0 : Int32) < 0 ∧ ¬ (15 : Int32) < 0 ∧ (nI fn).toNatClampNeg + (15 : Int32).toNatClampNeg ≤ (ln (o + 170 + 1 + 2 * q + 1)) ∧ (0 : Int32).toNatClampNeg + (15 : Int32).toNatClampNeg ≤ 15) = true := by
              apply decide_eq_true
              rw [q_cl (by omega), hln]
              exact ⟨nI_pos (by omega), by decide, by decide, hfn24, by decide⟩
            rw [gd_t hg]
            generalize eM1 : upR M (o + 1 + 2 + 4 + 2 * i + 1) (va_cpy (M (o + 170 + 1 + 2 * q + 1)) (M (o + 1 + 2 + 4 + 2 * i + 1)) (nI fn).toNatClampNeg (0 : Int32).toNatClampNeg (15 : Int32).toNatClampNeg) = M1
            have hF : ∀ a, a ≠ o + 1 + 2 + 4 + 2 * i + 1 → M1 a = M a := fun a ha => by rw [← eM1, upR_k ha]
            have hR : Rw M1 (o + 1 + 2 + 4 + 2 * i + 1) (gOf (s.2.2.2.2.2 q) fn) := by
              intro c hc
              rw [← eM1, upR_at, q_cl (by omega)]
              show va_cpy _ _ fn 0 15 c = _
              unfold va_cpy
              rw [if_pos ⟨by omega, by omega⟩, Nat.sub_zero, (h.2.2.2.2.1 q hq).2.2 _ (by omega), (gOf_ y hc).1]
            rw [li_32767, grassOf_ (by omega) hR (by omega), bd_s, bd_s]
            refine ⟨M1, ?_, h.md (h.2.1.rowset h.1.1 hi hF hR) (rwS_wf h.1.1 (fun c hc => (gOf_ y hc).2)) (fun a ha => hF a (by omega))⟩
            congr 3
          · rw [if_neg y, if_pos rfl, if_neg y]
            exact ⟨M, rfl, h⟩
        · rw [if_neg z, if_neg z]
          exact ⟨M, rfl, h⟩
      · rw [ifr_f (by omega) hd, isSheet_f2 hq hd, bd_s, if_pos rfl]
        exact ⟨M, rfl, h⟩
    · rw [ifr_f (by omega) hb, isSheet_f1 hb, bd_s, if_pos rfl]
      exact ⟨M, rfl, h⟩
  · rw [ifr_f (by omega) ha, isStrip_f h ha, bd_s, if_pos rfl]
    exact ⟨M, rfl, h⟩
theorem X7_film_ (hf : 50 ≤ fu) (h : RC o M s) (a b d : Int32) : ∃ M', f_X7_film fu M o a b d = some ((sp_film s a b d).1, M') ∧ RC o M' (sp_film s a b d).2 := by
  unfold f_X7_film sp_film
  have hN := h.1.1.2.1.1
  rcases rg a 4 (by omega) with ⟨q, hq, rfl⟩ | ha
  · rw [ifr_t hq (by omega)]
    rcases rg b 3 (by omega) with ⟨l, hl, rfl⟩ | hb
    · rw [ifr_t hl (by omega), isSheet_t hq hl, bd_s, if_neg one0, gd_t (q_ib (by omega) hq), q_cl (by omega), h.2.1.1.1, refusal_ h hq hl (by omega), bd_s]
      by_cases z : rfx s.2.2.2 q l d (mN s.1) = 0
      · obtain ⟨z1, z2, z3, z4⟩ := rfx_0 z
        obtain ⟨c1, c2⟩ := h.1.2.2.2 q hq
        obtain ⟨e1, e2⟩ := of_nn z3
        rw [if_pos z, if_pos z]
        generalize hdn : d.toNatClampNeg = dn at e1 e2
        rw [e1]
        have hit : ShC o M (shI s.2.2.2 q (s.2.2.2.2.2 q)) := h.2.2.2.2.1.items hq (fun _ _ => rfl) (fun j hj => (h.2.2.2.2.1 q hq).2.2 j hj)
        obtain ⟨M', e, hI⟩ := cntM (fun n j Mx => lp_X7_film_41 fu o (nI q) (nI dn) (fun M8 => some (M8 (o + 1) 2, M8)) n (nI j) Mx) (fun j Mx => RC o Mx (wSh s (shI s.2.2.2 q (fun c => if dn ≤ c ∧ c < dn + j then rdn s.1 (c - dn) else s.2.2.2.2.2 q c)))) (fun Mx => some (nI (mN s.1), Mx)) (mN s.1) (fun n Mx hI => by
          have e5 : Mx (o + 1) 2 = nI (mN s.1) := hI.2.1.1.1
          show lp_X7_film_41 _ _ _ _ _ (n + 1) _ _ = _
          rw [lp_X7_film_41, e5, if_pos (by rw [q_le (by omega) (by omega)]; omega)]) (fun n j Mx hj hI => by
          have e5 : Mx (o + 1) 2 = nI (mN s.1) := hI.2.1.1.1
          have e6 : f_X0_letterOn fu Mx (o + 1) (nI j) = some (rdn s.1 j) := letterOn_ hf hI.1.1 hI.2.1 hj
          have e7 := put_ (v := rdn s.1 j) (j := dn + j) hI hq hl z1 (by omega)
          refine ⟨up Mx (o + 170 + 1 + 2 * q + 1) (dn + j) (bl l (rdn s.1 j)), ?_, ?_⟩
          · show lp_X7_film_41 _ _ _ _ _ (n + 1) _ _ = lp_X7_film_41 _ _ _ _ _ n _ _
            rw [lp_X7_film_41, e5, if_neg (by rw [q_le (by omega) (by omega)]; omega), gd_t (q_ib (by omega) hq), e6, bd_s, q_cl (by omega), q_ad, e7, bd_s]
            simp only [lt]
            rw [nI_1]
          · refine hI.sh (fun a ha => up_k (by omega)) ?_ hI.1.2.2.2
            have hs := hI.2.2.2.2.1
            intro p hp
            obtain ⟨k1, k2, k3⟩ := hs p hp
            refine ⟨by rw [up_k (by omega)]; exact k1, by rw [up_k (by omega)]; exact k2, fun c hc => ?_⟩
            show _ = (if p = q then (if dn ≤ c ∧ c < dn + (j + 1) then rdn s.1 (c - dn) else s.2.2.2.2.2 q c) else s.2.2.2.2.2 p c)
            have k4 := k3 c hc
            have k5 : Mx (o + 170 + 1 + 2 * p + 1) c = (if p = q then (if dn ≤ c ∧ c < dn + j then rdn s.1 (c - dn) else s.2.2.2.2.2 q c) else s.2.2.2.2.2 p c) := k4
            by_cases e : p = q
            · subst e
              rw [if_pos rfl] at k5 ⊢
              by_cases y : c = dn + j
              · subst y
                rw [up_at, if_pos ⟨by omega, by omega⟩, Nat.add_sub_cancel_left]
                exact bl_rd _ _ _
              · rw [up_j y, k5]
                by_cases x : dn ≤ c ∧ c < dn + j
                · rw [if_pos x, if_pos ⟨x.1, by omega⟩]
                · rw [if_neg x, if_neg (fun w => x ⟨w.1, by omega⟩)]
            · rw [if_neg e] at k5 ⊢
              rw [up_k (by omega)]; exact k5) fu 0 M (by omega) (by omega) (by
          have : (fun c => if dn ≤ c ∧ c < dn + 0 then rdn s.1 (c - dn) else s.2.2.2.2.2 q c) = s.2.2.2.2.2 q := by
            funext c
            rw [if_neg (by omega)]
          rw [this]
          exact h.sh (fun _ _ => rfl) hit h.1.2.2.2)
        exact ⟨M', e, hI⟩
      · rw [if_neg z, if_neg z]
        exact ⟨M, rfl, h⟩
    · rw [ifr_f (by omega) hb, isSheet_f2 hq hb, bd_s, if_pos rfl]
      exact ⟨M, rfl, h⟩
  · rw [ifr_f (by omega) ha, isSheet_f1 ha, bd_s, if_pos rfl]
    exact ⟨M, rfl, h⟩
end PUB
