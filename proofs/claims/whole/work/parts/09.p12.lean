def n1v (r : Option (Nat × Nat)) : Int32 := match r with
  | none => -4
  | some b => nI b.1
def n2v (r : Option (Nat × Nat)) : Int32 := match r with
  | none => -4
  | some b => nI b.2
theorem nrs_le (σ : Md) (i : Nat) : ∀ n r, nrs σ i n = some r → r.1 < n ∧ r.2 = diffw σ r.1 i ∧ room σ r.1 i = true
  | 0, r, h => by cases h
  | n + 1, r, h => by
    unfold nrs at h
    split at h
    · rename_i q
      rw [Bool.and_eq_true] at q
      cases h
      exact ⟨Nat.lt_succ_self n, rfl, q.1⟩
    · obtain ⟨h1, h2⟩ := nrs_le σ i n r h
      exact ⟨by omega, h2⟩
theorem diffw_le {σ : Md} {w i : Nat} (hw : Wf σ) (hwo : w < mW σ) : diffw σ w i ≤ 90 := by
  have h := sumf_le (f := fun j => dist (seenx (mG σ (i + j)) (mS σ 1)) (mT σ w j)) (B := 15) (mL σ w) (fun j _ => dist_le _ _)
  have := (hw.2.2.2.1 w hwo).2.1
  unfold diffw
  omega
section PUB
variable {fu o : Nat} {M : Mem} {s : Sg}
theorem X7_nearest_ (hf : 50 ≤ fu) (h : RC o M s) (a b : Int32) : f_X7_nearest fu M o a b = some (sp_nearest s a b) := by
  unfold f_X7_nearest sp_nearest
  have hN := h.1.1.2.1.1
  have hW := h.1.1.2.1.2
  rcases rg a (mN s.1) (by omega) with ⟨i, hi, rfl⟩ | ha
  · rw [ifr_t hi (by omega), isStrip_t h hi, bd_s, if_neg one0, li_2]
    rcases rg b 2 (by omega) with ⟨x, hx, rfl⟩ | hb
    · rw [ifr_t hx (by omega), isb_t hx (by omega), bd_s, if_neg one0]
      have key := cnt (fun n j => lp_X7_nearest_28 fu M o (nI i) (nI x) (fun v11 v12 => if nI x = 0 then some v11 else some v12) n (n1v (nrs s.1 i j)) (n2v (nrs s.1 i j)) (nI j)) (if nI x = 0 then some (n1v (nrs s.1 i (mW s.1))) else some (n2v (nrs s.1 i (mW s.1)))) (mW s.1) (fun n => by
        show lp_X7_nearest_28 _ _ _ _ _ _ (n + 1) _ _ _ = _
        rw [lp_X7_nearest_28, h.2.1.1.2, if_pos (by rw [q_le (by omega) (by omega)]; omega)]) (fun n j hj => by
        show lp_X7_nearest_28 _ _ _ _ _ _ (n + 1) _ _ _ = lp_X7_nearest_28 _ _ _ _ _ _ n _ _ _
        generalize (fun (v11 v12 : Int32) => if nI x = 0 then some v11 else some v12) = K
        rw [lp_X7_nearest_28, h.2.1.1.2, if_neg (by rw [q_le (by omega) (by omega)]; omega), gd_t (q_ib (by omega) (by omega)), q_cl (by omega), hasRoom_ h.1.1 h.2.1 hj hi, bd_s]
        have en : nrs s.1 i (j + 1) = if (room s.1 j i && ltd (nrs s.1 i j) (diffw s.1 j i)) = true then some (j, diffw s.1 j i) else nrs s.1 i j := rfl
        rw [en]
        by_cases q : room s.1 j i = true
        · have hd := diffw_le (i := i) h.1.1 hj
          rw [if_pos q, if_neg one0, gd_t (q_ib (by omega) (by omega)), cellsOff_ hf h.1.1 h.2.1 hj (of_decide_eq_true q), bd_s, q, Bool.true_and]
          simp only [lt]
          rw [li_1, q_ad]
          cases er : nrs s.1 i j with
          | none =>
            rw [if_pos (show n1v none = -4 from rfl)]
            rfl
          | some r =>
            obtain ⟨r1, r2, -⟩ := nrs_le s.1 i j r er
            have hd2 := diffw_le (i := i) h.1.1 (show r.1 < mW s.1 by omega)
            rw [if_neg (show ¬ n1v (some r) = -4 from fun z => by
              have z2 : (nI r.1).toInt = (-4 : Int32).toInt := congrArg Int32.toInt z
              rw [nI_toInt (by omega), show (-4 : Int32).toInt = -4 by decide] at z2
              omega)]
            show (if nI r.2 ≤ nI (diffw s.1 j i) then _ else _) = _
            by_cases z : r.2 ≤ diffw s.1 j i
            · rw [if_pos (by rw [q_le (by omega) (by omega)]; exact z), if_neg (show ¬ (ltd (some r) (diffw s.1 j i) = true) by
                unfold ltd; simp; exact z)]
            · rw [if_neg (by rw [q_le (by omega) (by omega)]; exact z), if_pos (show ltd (some r) (diffw s.1 j i) = true by
                unfold ltd; simp; omega)]
              rfl
        · rw [if_neg q, if_pos rfl]
          have q2 : room s.1 j i = false := by simpa using q
          simp only [lt]
          rw [q2, Bool.false_and, if_neg Bool.false_ne_true, li_1, q_ad]) fu 0 (by omega) (by omega)
      refine (show lp_X7_nearest_28 fu M o (nI i) (nI x) (fun v11 v12 => if nI x = 0 then some v11 else some v12) fu (-4) (-4) 0 = _ from key).trans ?_
      have ex : nI x = 0 ↔ x = 0 := by rw [li_0, q_eq (by omega) (by omega)]
      by_cases z : x = 0
      · rw [if_pos (ex.mpr z)]
        cases er : nrs s.1 i (mW s.1) with
        | none => rfl
        | some r => show _ = some (if x = 0 then _ else _); rw [if_pos z]; rfl
      · rw [if_neg (fun y => z (ex.mp y))]
        cases er : nrs s.1 i (mW s.1) with
        | none => rfl
        | some r => show _ = some (if x = 0 then _ else _); rw [if_neg z]; rfl
    · rw [ifr_f (by omega) hb, isb_f (by omega) hb, bd_s, if_pos rfl]
  · rw [ifr_f (by omega) ha, isStrip_f h ha, bd_s, if_pos rfl]
def fwv (r : Option Nat) : Int32 := match r with
  | none => 7
  | some b => nI (pop b)
theorem pop6_le : ∀ x, x < 64 → pop x ≤ 6 := by decide +kernel
theorem X7_brief_ (hf : 100 ≤ fu) (h : RC o M s) (a : Int32) : f_X7_brief fu M o a = some (sp_brief s a) := by
  unfold f_X7_brief sp_brief
  have hW := h.1.1.2.1.2
  rcases rg a (mW s.1) (by omega) with ⟨w, hw, rfl⟩ | ha
  · obtain ⟨l1, l2, l3, l4⟩ := h.1.1.2.2.2.1 w hw
    have hp : 2 ^ mL s.1 w ≤ 2 ^ 6 := Nat.pow_le_pow_right (by omega) l2
    have hp1 : 0 < 2 ^ mL s.1 w := Nat.two_pow_pos _
    rw [ifr_t hw (by omega), isWord_t h hw, bd_s, if_neg one0, gd_t (q_ib (by omega) (by omega)), q_cl (by omega), (h.2.1.2.2.2.2.2 w hw).1, sh1 _ (by omega)]
    simp only [lt]
    have key := cnt (fun n j => lp_X7_brief_35 fu M o (nI w) (nI (2 ^ mL s.1 w)) (fun v11 => some v11) n (pbv (brf s.1 w j)) (fwv (brf s.1 w j)) (nI (j + 1))) (some (pbv (brf s.1 w (2 ^ mL s.1 w - 1)))) (2 ^ mL s.1 w - 1) (fun n => by
      show lp_X7_brief_35 _ _ _ _ _ _ (n + 1) _ _ _ = _
      rw [lp_X7_brief_35, if_pos (by rw [q_le (by omega) (by omega)]; omega)]) (fun n j hj => by
      show lp_X7_brief_35 _ _ _ _ _ _ (n + 1) _ _ _ = lp_X7_brief_35 _ _ _ _ _ _ n _ _ _
      have hx : j + 1 < 64 := by omega
      have hpj := pop6_le (j + 1) hx
      rw [lp_X7_brief_35, if_neg (by rw [q_le (by omega) (by omega)]; omega), bc (by omega), bd_s]
      have en : brf s.1 w (j + 1) = if (ownx s.1 w (j + 1) && ltb (brf s.1 w j) (j + 1)) = true then some (j + 1) else brf s.1 w j := rfl
      have hlt : (fwv (brf s.1 w j) ≤ nI (pop (j + 1))) ↔ ltb (brf s.1 w j) (j + 1) = false := by
        cases er : brf s.1 w j with
        | none =>
          show (7 : Int32) ≤ _ ↔ _
          rw [li_7, q_le (by omega) (by omega)]
          unfold ltb
          simp
          omega
        | some b =>
          have hb := brf_le j b er
          have := pop6_le b (by omega)
          show nI (pop b) ≤ _ ↔ _
          rw [q_le (by omega) (by omega)]
          unfold ltb
          simp
      rw [en]
      cases hl : ltb (brf s.1 w j) (j + 1) with
      | false =>
        rw [if_pos (hlt.mpr hl), Bool.and_false, if_neg Bool.false_ne_true]
        simp only [lt]
        rw [li_1, q_ad]
      | true =>
        rw [if_neg (fun z => by rw [hlt.mp z] at hl; cases hl), gd_t (q_ib (by omega) (by omega)), q_cl (by omega), isOwnForm_ (by omega) h.1.1 h.2.1 hw hx, bd_s, Bool.and_true]
        by_cases q : ownx s.1 w (j + 1) = true
        · rw [if_pos q, if_neg one0, if_pos q, bd_s]
          simp only [lt]
          rw [li_1, q_ad]
          rfl
        · rw [if_neg q, if_pos rfl, if_neg q]
          simp only [lt]
          rw [li_1, q_ad]) fu 0 (by omega) (by omega)
    exact key
  · rw [ifr_f (by omega) ha, isWord_f h ha, bd_s, if_pos rfl]
end PUB
