def n3v (r : Option (Nat × Nat)) : Int32 := match r with
  | none => 0
  | some b => nI b.2
section PUB
variable {fu b : Nat} {M : Mem} {s : Sg}
theorem near44 {σ : Md} {w i : Nat} {c1 c2 c3 : Int32} {K : Int32 → Option Int32} (hf : 50 ≤ fu) (hw : Wf σ) (h : MdM b M σ) (hwo : w < mW σ) (hi : i < mN σ) : lp_X8_nearest_44 fu M b (nI i) c1 c2 c3 (nI w) K fu 0 0 = K (if room σ w i = true then nI (diffw σ w i) else 0) := by
  have hN := hw.2.1.1
  obtain ⟨l1, l6, -, l26⟩ := hw.2.2.2.1 w hwo
  have es := sizeOf_ hw h hwo
  have er := MhasRoom_ hw h hwo hi
  by_cases q : room σ w i = true
  · have hr : i + mL σ w ≤ mN σ := of_decide_eq_true q
    rw [q] at er
    have key := cnt (fun n j => lp_X8_nearest_44 fu M b (nI i) c1 c2 c3 (nI w) K n (nI (sumf (fun j => dist (seenx (mG σ (i + j)) (mS σ 1)) (mT σ w j)) j)) (nI j)) (K (nI (diffw σ w i))) (mL σ w) (fun n => by
      show lp_X8_nearest_44 _ _ _ _ _ _ _ _ _ (n + 1) _ _ = _
      rw [lp_X8_nearest_44, es, bd_s, if_pos (by rw [q_le (by omega) (by omega)]; omega)]
      rfl) (fun n j hj => by
      have hl := l26 j hj
      show lp_X8_nearest_44 _ _ _ _ _ _ _ _ _ (n + 1) _ _ = lp_X8_nearest_44 _ _ _ _ _ _ _ _ _ n _ _
      rw [lp_X8_nearest_44, es, bd_s, if_neg (by rw [q_le (by omega) (by omega)]; omega), er, bd_s, if_neg (by rw [fl1]; exact one0), q_ad, MseenOf_ hf hw h (by omega), bd_s, letterOf_ hw h hwo hj, bd_s, gd_t (q_ib (by omega) hl), q_cl (by omega), h.2.1 _ hl, i_xor, ones_ (by omega) (xs_lt (seenx_lt _ _) _), bd_s]
      simp only [lt]
      rw [q_ad, nI_1]
      rfl) fu 0 (by omega) (by omega)
    rw [if_pos q]
    exact key
  · have q' : room σ w i = false := by simpa using q
    rw [q'] at er
    obtain ⟨m, rfl⟩ : ∃ m, fu = m + 1 := ⟨fu - 1, by omega⟩
    rw [lp_X8_nearest_44, es, bd_s, if_neg (by rw [li_0, q_le (by omega) (by omega)]; omega), er, bd_s, if_pos fl0, q', if_neg Bool.false_ne_true]
theorem X8_nearest_ (hf : 50 ≤ fu) (h : RM b M s) (a d : Int32) : f_X8_nearest fu M b a d = some (sp_nearest s a d) := by
  unfold f_X8_nearest sp_nearest
  have hN := h.1.1.2.1.1
  have hW := h.1.1.2.1.2
  rcases rg a (mN s.1) (by omega) with ⟨i, hi, rfl⟩ | ha
  · rw [ifr_t hi (by omega), MisStrip_t h hi, bd_s, if_neg one0]
    rcases rg d 2 (by omega) with ⟨x, hx, rfl⟩ | hb
    · rw [ifr_t hx (by omega), in0_t (n := 2) (by omega) (by decide) hx, bd_s, if_neg one0]
      have key : ∀ K : Int32 → Int32 → Option Int32, lp_X8_nearest_29 fu M b (nI i) (nI x) K fu (-4) 0 0 = K (n1v (nrs s.1 i (mW s.1))) (n3v (nrs s.1 i (mW s.1))) := fun K => by
        have key := cnt (fun n j => lp_X8_nearest_29 fu M b (nI i) (nI x) K n (n1v (nrs s.1 i j)) (n3v (nrs s.1 i j)) (nI j)) (K (n1v (nrs s.1 i (mW s.1))) (n3v (nrs s.1 i (mW s.1)))) (mW s.1) (fun n => by
          show lp_X8_nearest_29 _ _ _ _ _ _ (n + 1) _ _ _ = _
          rw [lp_X8_nearest_29, h.2.1.1.2, if_pos (by rw [q_le (by omega) (by omega)]; omega)]) (fun n j hj => by
          show lp_X8_nearest_29 _ _ _ _ _ _ (n + 1) _ _ _ = lp_X8_nearest_29 _ _ _ _ _ _ n _ _ _
          have en : nrs s.1 i (j + 1) = if (room s.1 j i && ltd (nrs s.1 i j) (diffw s.1 j i)) = true then some (j, diffw s.1 j i) else nrs s.1 i j := rfl
          rw [lp_X8_nearest_29, h.2.1.1.2, if_neg (by rw [q_le (by omega) (by omega)]; omega), near44 hf h.1.1 h.2.1 hj hi, MhasRoom_ h.1.1 h.2.1 hj hi, bd_s, en]
          simp only [lt]
          rw [nI_1]
          cases q : room s.1 j i with
          | false =>
            rw [if_pos fl0, Bool.false_and, if_neg Bool.false_ne_true]
          | true =>
            have hd := diffw_le (i := i) h.1.1 hj
            rw [if_neg (by rw [fl1]; exact one0), if_pos rfl, Bool.true_and]
            cases er : nrs s.1 i j with
            | none =>
              rw [if_pos (show n1v none < 0 by decide)]
              rfl
            | some r =>
              obtain ⟨r1, r2, -⟩ := nrs_le s.1 i j r er
              have hd2 := diffw_le (i := i) h.1.1 (show r.1 < mW s.1 by omega)
              rw [if_neg (show ¬ n1v (some r) < 0 from nI_pos (by omega))]
              show (if nI r.2 ≤ nI (diffw s.1 j i) then _ else _) = _
              by_cases z : r.2 ≤ diffw s.1 j i
              · rw [if_pos (by rw [q_le (by omega) (by omega)]; exact z), if_neg (show ¬ (ltd (some r) (diffw s.1 j i) = true) by
                  unfold ltd; simp; exact z)]
              · rw [if_neg (by rw [q_le (by omega) (by omega)]; exact z), if_pos (show ltd (some r) (diffw s.1 j i) = true by
                  unfold ltd; simp; omega)]
                rfl) fu 0 (by omega) (by omega)
        exact key
      rw [key]
      cases er : nrs s.1 i (mW s.1) with
      | none => exact if_neg (show ¬ (0 : Int32) ≤ n1v none by decide)
      | some r =>
        obtain ⟨r1, r2, -⟩ := nrs_le s.1 i _ r er
        show (if 0 ≤ nI r.1 then (if nI x = 0 then some (nI r.1) else some (nI r.2)) else some (-4)) = some (if x = 0 then nI r.1 else nI r.2)
        rw [if_pos (nI_pos' (by omega))]
        by_cases z : x = 0
        · rw [if_pos (by rw [z]; rfl), if_pos z]
        · rw [if_neg (by rw [li_0, q_eq (by omega) (by omega)]; exact z), if_neg z]
    · rw [ifr_f (by omega) hb, in0_f (n := 2) (by omega) (by decide) hb, bd_s, if_pos rfl]
  · rw [ifr_f (by omega) ha, MisStrip_f h ha, bd_s, if_pos rfl]
end PUB
