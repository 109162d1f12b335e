section PUB
variable {fu b : Nat} {M : Mem} {s : Sg}
theorem X8_sow_ (hf : 50 ≤ fu) (h : RM b M s) (a d g f : Int32) : ∃ M', f_X8_sow fu M b a d g f = some ((sp_sow s a d g f).1, M') ∧ RM b M' (sp_sow s a d g f).2 := by
  unfold f_X8_sow sp_sow
  have hN := h.1.1.2.1.1
  rcases rg a (mN s.1) (by omega) with ⟨i, hi, rfl⟩ | ha
  · rw [ifr_t hi (by omega), MisStrip_t h hi, bd_s, if_neg one0]
    rcases rg d 4 (by omega) with ⟨q, hq, rfl⟩ | hb
    · rw [ifr_t hq (by omega)]
      rcases rg g 3 (by omega) with ⟨l, hl, rfl⟩ | hd
      · rw [ifr_t hl (by omega), MisSheet_t hq hl, bd_s, if_neg one0, li_15, lacksRow_ h hq hl (by omega), bd_s]
        by_cases z : rfx s.2.2.2 q l f 15 = 0
        · obtain ⟨z1, z2, z3, z4⟩ := rfx_0 z
          obtain ⟨c1, c2⟩ := h.1.2.2.2 q hq
          obtain ⟨e1, e2⟩ := of_nn z3
          rw [if_pos (rfx_ge.mpr z), if_pos z]
          generalize hfn : f.toNatClampNeg = fn at e1 e2 ⊢
          subst e1
          have hfn24 : fn + 15 ≤ 24 := by omega
          have g3 := (h.2.2.2.2 q hq).2.2
          rw [li_24, q_mu, q_ad]
          simp only [lt]
          have e9 : (9 : Int64).toInt = 9 := by decide
          obtain ⟨⟨h1, h2⟩, h3, h4, h5, h6, h7, h8⟩ := id h.2.1
          have key1 : ∀ K : Unit → Option (Int32 × Mem), lp_X8_sow_50 fu M b (nI i) (nI (24 * q + fn)) K fu 0 = if gok (s.2.2.2.2.2 q) fn = true then K () else some (-2, M) := fun K => by
            have key := cnte (fun n c => lp_X8_sow_50 fu M b (nI i) (nI (24 * q + fn)) K n (nI c)) (fun c => decide (0 ≤ (s.2.2.2.2.2 q (fn + c)).toInt ∧ (s.2.2.2.2.2 q (fn + c)).toInt ≤ 9)) (K ()) (some (-2, M)) 15 (fun n => by
              show lp_X8_sow_50 _ _ _ _ _ _ (n + 1) _ = _
              rw [lp_X8_sow_50, if_pos (by decide)]) (fun n c hc hp => by
              have p := of_decide_eq_true hp
              show lp_X8_sow_50 _ _ _ _ _ _ (n + 1) _ = lp_X8_sow_50 _ _ _ _ _ _ n _
              rw [lp_X8_sow_50, li_15, if_neg (by rw [q_le (by omega) (by omega)]; omega), q_ad, gd_t (q_ib (by omega) (by omega)), q_cl (by omega), show 24 * q + fn + c = 24 * q + (fn + c) by omega, g3 _ (by omega), in_t (by rw [i64z]; exact p.1) (by rw [e9]; exact p.2), bd_s, if_neg one0]
              simp only [lt]
              rw [nI_1]) (fun n c hc hp => by
              have p := of_decide_eq_false hp
              show lp_X8_sow_50 _ _ _ _ _ _ (n + 1) _ = _
              rw [lp_X8_sow_50, li_15, if_neg (by rw [q_le (by omega) (by omega)]; omega), q_ad, gd_t (q_ib (by omega) (by omega)), q_cl (by omega), show 24 * q + fn + c = 24 * q + (fn + c) by omega, g3 _ (by omega), in_f (by rw [i64z, e9]; exact p), bd_s, if_pos rfl]) fu 0 (by omega) (by omega)
            rw [Nat.sub_zero] at key
            exact key
          rw [key1]
          by_cases y : gok (s.2.2.2.2.2 q) fn = true
          · rw [if_pos y, if_pos y]
            have hgo := fun c hc => gOf_ (f := s.2.2.2.2.2 q) (d := fn) (c := c) y hc
            obtain ⟨M', e, i1, i2⟩ := cntM (fun n c Mx => lp_X8_sow_93 fu b (nI i) (nI (24 * q + fn)) (fun v14 M15 => some (v14, M15)) n (nI (sm (fun _ => true) (gOf (s.2.2.2.2.2 q) fn) c)) (nI c) Mx) (fun c Mx => (∀ a, a ≠ b + 3 → Mx a = M a) ∧ ∀ x, Mx (b + 3) x = if 15 * i ≤ x ∧ x < 15 * i + c then nI (gOf (s.2.2.2.2.2 q) fn (x - 15 * i)) else M (b + 3) x) (fun M15 => some (nI (sm (fun _ => true) (gOf (s.2.2.2.2.2 q) fn) 15), M15)) 15 (fun n Mx _ => by
              show lp_X8_sow_93 _ _ _ _ _ (n + 1) _ _ _ = _
              rw [lp_X8_sow_93, if_pos (by decide)]) (fun n c Mx hc hI => by
              obtain ⟨i1, i2⟩ := hI
              obtain ⟨k1, k2⟩ := hgo c hc
              have e20 : Mx (b + 20) (24 * q + fn + c) = nI (gOf (s.2.2.2.2.2 q) fn c) := by
                rw [i1 _ (by omega), show 24 * q + fn + c = 24 * q + (fn + c) by omega, g3 _ (by omega)]; exact k1
              have es : sm (fun _ => true) (gOf (s.2.2.2.2.2 q) fn) (c + 1) = sm (fun _ => true) (gOf (s.2.2.2.2.2 q) fn) c + gOf (s.2.2.2.2.2 q) fn c := rfl
              refine ⟨up Mx (b + 3) (15 * i + c) (nI (gOf (s.2.2.2.2.2 q) fn c)), ?_, fun a ha => by rw [up_k ha]; exact i1 a ha, fun x => ?_⟩
              · show lp_X8_sow_93 _ _ _ _ _ (n + 1) _ _ _ = lp_X8_sow_93 _ _ _ _ _ n _ _ _
                rw [lp_X8_sow_93, li_15, if_neg (by rw [q_le (by omega) (by omega)]; omega), q_ad, q_mu, q_ad, gd_t (q_ib (by omega) (by omega)), gd_t (q_ib (by omega) (by omega)), q_cl (a := 24 * q + fn + c) (by omega), q_cl (by omega), e20]
                simp only [lt]
                rw [gd_t (q_ib (by omega) (by omega)), up_k (by omega), e20, q_ad, nI_1, es]
              · by_cases y : x = 15 * i + c
                · subst y; rw [up_at, if_pos ⟨by omega, by omega⟩, Nat.add_sub_cancel_left]
                · rw [up_j y, i2 x]
                  by_cases v : 15 * i ≤ x ∧ x < 15 * i + c
                  · rw [if_pos v, if_pos ⟨v.1, by omega⟩]
                  · rw [if_neg v, if_neg (by omega)]) fu 0 M (by omega) (by omega) ⟨fun _ _ => rfl, fun x => by rw [if_neg (by omega)]⟩
            refine ⟨M', e, h.md ⟨by rw [i1 b (by omega)]; exact ⟨h1, h2⟩, by rw [i1 _ (by omega)]; exact h3, fun p hp => ?_, by rw [i1 _ (by omega)]; exact h5, by rw [i1 _ (by omega)]; exact h6, by rw [i1 _ (by omega)]; exact h7, by rw [i1 _ (by omega)]; exact h8⟩ (rwS_wf h.1.1 (fun c hc => (hgo c hc).2)) ⟨fun a ha => i1 a (by omega), by rw [i1 b (by omega)], by rw [i1 b (by omega)]⟩⟩
            have hp' : p < mN s.1 := hp
            rw [i1 (b + 2) (by omega)]
            refine ⟨(h4 p hp').1, fun c hc => ?_⟩
            show _ = nI ((if p = i then gOf (s.2.2.2.2.2 q) fn else mG s.1 p) c)
            rw [i2]
            by_cases e : p = i
            · subst e
              rw [if_pos ⟨by omega, by omega⟩, if_pos rfl, Nat.add_sub_cancel_left]
            · rw [if_neg (by omega), if_neg e]
              exact (h4 p hp').2 c hc
          · rw [if_neg y, if_neg y]
            exact ⟨M, rfl, h⟩
        · rw [if_neg (fun y => z (rfx_ge.mp y)), if_neg z]
          exact ⟨M, rfl, h⟩
      · rw [ifr_f (by omega) hd, MisSheet_f2 hq hd, bd_s, if_pos rfl]
        exact ⟨M, rfl, h⟩
    · rw [ifr_f (by omega) hb, MisSheet_f1 hb, bd_s, if_pos rfl]
      exact ⟨M, rfl, h⟩
  · rw [ifr_f (by omega) ha, MisStrip_f h ha, bd_s, if_pos rfl]
    exact ⟨M, rfl, h⟩
theorem X8_film_ (hf : 50 ≤ fu) (h : RM b M s) (a d f : Int32) : ∃ M', f_X8_film fu M b a d f = some ((sp_film s a d f).1, M') ∧ RM b M' (sp_film s a d f).2 := by
  unfold f_X8_film sp_film
  have hN := h.1.1.2.1.1
  rcases rg a 4 (by omega) with ⟨q, hq, rfl⟩ | ha
  · rw [ifr_t hq (by omega)]
    rcases rg d 3 (by omega) with ⟨l, hl, rfl⟩ | hb
    · rw [ifr_t hl (by omega), MisSheet_t hq hl, bd_s, if_neg one0, h.2.1.1.1, lacksRow_ h hq hl (by omega), bd_s]
      by_cases z : rfx s.2.2.2 q l f (mN s.1) = 0
      · obtain ⟨z1, z2, z3, z4⟩ := rfx_0 z
        obtain ⟨c1, c2⟩ := h.1.2.2.2 q hq
        obtain ⟨e1, e2⟩ := of_nn z3
        rw [if_pos (rfx_ge.mpr z), if_pos z]
        generalize hfn : f.toNatClampNeg = fn at e1 e2 ⊢
        subst e1
        obtain ⟨M', e, i1, i2⟩ := cntM (fun n j Mx => lp_X8_film_34 fu b (nI q) (nI fn) (fun M8 => some ((M8 b 7), M8)) n (nI j) Mx) (fun j Mx => (∀ a, a ≠ b + 20 → Mx a = M a) ∧ ∀ x, Mx (b + 20) x = if 24 * q + fn ≤ x ∧ x < 24 * q + fn + j then rdn s.1 (x - (24 * q + fn)) else M (b + 20) x) (fun M8 => some (nI (mN s.1), M8)) (mN s.1) (fun n Mx hI => by
          have e7 : Mx b 7 = nI (mN s.1) := by rw [hI.1 b (by omega)]; exact h.2.1.1.1
          show lp_X8_film_34 _ _ _ _ _ (n + 1) _ _ = _
          rw [lp_X8_film_34, e7, if_pos (by rw [q_le (by omega) (by omega)]; omega)]) (fun n j Mx hj hI => by
          obtain ⟨i1, i2⟩ := hI
          have hmd : MdM b Mx s.1 := h.2.1.frame (by rw [i1 b (by omega)]) (by rw [i1 b (by omega)]) (fun a _ _ => i1 a (by omega))
          refine ⟨up Mx (b + 20) (24 * q + fn + j) (rdn s.1 j), ?_, fun a ha => by rw [up_k ha]; exact i1 a ha, fun x => ?_⟩
          · show lp_X8_film_34 _ _ _ _ _ (n + 1) _ _ = lp_X8_film_34 _ _ _ _ _ n _ _
            rw [lp_X8_film_34, hmd.1.1, if_neg (by rw [q_le (by omega) (by omega)]; omega), MseenOf_ hf h.1.1 hmd hj, bd_s, MreadsAs_ hf h.1.1 hmd (seenx_lt _ _), bd_s, li_24, q_mu, q_ad, q_ad, gd_t (q_ib (by omega) (by omega)), q_cl (by omega)]
            simp only [lt]
            rw [nI_1]
            rfl
          · by_cases y : x = 24 * q + fn + j
            · subst y; rw [up_at, if_pos ⟨by omega, by omega⟩, Nat.add_sub_cancel_left]
            · rw [up_j y, i2 x]
              by_cases v : 24 * q + fn ≤ x ∧ x < 24 * q + fn + j
              · rw [if_pos v, if_pos ⟨v.1, by omega⟩]
              · rw [if_neg v, if_neg (by omega)]) fu 0 M (by omega) (by omega) ⟨fun _ _ => rfl, fun x => by rw [if_neg (by omega)]⟩
        refine ⟨M', e, ShM.items h i1 (fun j hj => ?_) (fun p j hp hj => by rw [i2, if_neg (by omega)])⟩
        rw [i2]
        by_cases v : fn ≤ j ∧ j < fn + mN s.1
        · rw [if_pos ⟨by omega, by omega⟩, if_pos v]
          congr 1
          omega
        · rw [if_neg (by omega), if_neg v]
          exact (h.2.2.2.2 q hq).2.2 j hj
      · rw [if_neg (fun y => z (rfx_ge.mp y)), if_neg z]
        exact ⟨M, rfl, h⟩
    · rw [ifr_f (by omega) hb, MisSheet_f2 hq hb, bd_s, if_pos rfl]
      exact ⟨M, rfl, h⟩
  · rw [ifr_f (by omega) ha, MisSheet_f1 ha, bd_s, if_pos rfl]
    exact ⟨M, rfl, h⟩
end PUB
