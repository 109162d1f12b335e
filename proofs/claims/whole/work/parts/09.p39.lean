theorem sumf_flat6 {F : Nat → Nat → Nat} : ∀ n, sumf (fun q => F (q / 6) (q % 6)) (6 * n) = sumf (fun a => sumf (F a) 6) n
  | 0 => rfl
  | n + 1 => by
    have ih := sumf_flat6 (F := F) n
    rw [show 6 * (n + 1) = 6 * n + 6 by omega, sumf_add, ih]
    show _ = sumf (fun a => sumf (F a) 6) n + sumf (F n) 6
    congr 1
    apply sumf_congr
    intro j hj
    show F ((6 * n + j) / 6) ((6 * n + j) % 6) = F n j
    rw [show (6 * n + j) / 6 = n by omega, show (6 * n + j) % 6 = j by omega]
section PUB
variable {fu b : Nat} {M : Mem} {s : Sg}
theorem X8_count_ (hf : 50 ≤ fu) (h : RM b M s) (a : Int32) : f_X8_count fu M b a = some (sp_count s a) := by
  obtain ⟨⟨h1, h2⟩, h3, h4, h5, h6, h7, h8⟩ := id h.2.1
  have hflat : sumf (fun q => if mF s.1 (q / 6) (q % 6) = true then 1 else 0) 36 = fcn s.1 := sumf_flat6 (F := fun a c => if mF s.1 a c = true then 1 else 0) 6
  have hb := sumf_le (f := fun q => if mF s.1 (q / 6) (q % 6) = true then 1 else 0) (B := 1) 36 (fun q _ => by split <;> omega)
  unfold f_X8_count
  have key2 := cnt (fun n c => lp_X8_count_30 fu M b a (nI (fcn s.1)) (fun v8 => if a = 0 then some (M b 7) else if a = 1 then some (M b 8) else if a = 2 then gd (decide (¬ (2 : Int32) = 0)) (some (nI (fcn s.1) / (2 : Int32))) else if a = 3 then some v8 else some (-1)) n (hsm (mH s.1) c) (nI c)) (some (sp_count s a)) 6 (fun n => by
    show lp_X8_count_30 _ _ _ _ _ _ (n + 1) _ _ = _
    unfold sp_count
    rw [lp_X8_count_30, if_pos (by decide), gd_t (by decide), h1, h2, li_2, pk_div (by omega) (by omega) (by omega)]
    split
    · rfl
    · split
      · rfl
      · split
        · rfl
        · split <;> rfl) (fun n c hc => by
    show lp_X8_count_30 _ _ _ _ _ _ (n + 1) _ _ = lp_X8_count_30 _ _ _ _ _ _ n _ _
    rw [lp_X8_count_30, li_6, if_neg (by rw [q_le (by omega) (by omega)]; omega), gd_t (q_ib (by omega) hc), q_cl (by omega), h5 c hc]
    simp only [lt]
    rw [nI_1]
    rfl) fu 0 (by omega) (by omega)
  have key := cnt (fun n q => lp_X8_count_4 fu M b a (fun v4 => lp_X8_count_30 fu M b a v4 (fun v8 => if a = 0 then some (M b 7) else if a = 1 then some (M b 8) else if a = 2 then gd (decide (¬ (2 : Int32) = 0)) (some (v4 / (2 : Int32))) else if a = 3 then some v8 else some (-1)) fu 0 0) n (nI (sumf (fun q => if mF s.1 (q / 6) (q % 6) = true then 1 else 0) q)) (nI q)) (some (sp_count s a)) 36 (fun n => by
    show lp_X8_count_4 _ _ _ _ _ (n + 1) _ _ = _
    rw [lp_X8_count_4, if_pos (by decide), hflat]
    exact key2) (fun n q hq => by
    show lp_X8_count_4 _ _ _ _ _ (n + 1) _ _ = lp_X8_count_4 _ _ _ _ _ n _ _
    have hm := h7 (q / 6) (q % 6) (by omega) (by omega)
    rw [show 6 * (q / 6) + q % 6 = q by omega] at hm
    rw [lp_X8_count_4, li_36, if_neg (by rw [q_le (by omega) (by omega)]; omega), gd_t (q_ib (by omega) hq), q_cl (by omega), hm, q_ad]
    simp only [lt]
    rw [nI_1]
    rfl) fu 0 (by omega) (by omega)
  exact key
theorem MshareOf_ {σ : Md} {w i a s : Nat} (hf : 50 ≤ fu) (hw : Wf σ) (h : MdM b M σ) (hwo : w < mW σ) (hr : i + mL σ w ≤ mN σ) (hs : s ≤ 99) (ha : a < 6) : lp_X8_share_83 fu M b (nI w) (nI i) (nI a) (nI s) (nI (mL σ w)) (fun v21 => some v21) fu 0 0 = some (nI (sumf (shf σ w i a s) (mL σ w))) := by
  have h4 := h.2.2.1
  obtain ⟨-, ⟨w1, w2⟩, w3, w4, -⟩ := id hw
  obtain ⟨l1, l2, -, l3⟩ := w4 w hwo
  have hm : s % mL σ w < mL σ w := Nat.mod_lt _ (by omega)
  have hd : s / mL σ w ≤ s := Nat.div_le_self _ _
  have hne : decide (¬ (nI (mL σ w) = 0)) = true := decide_eq_true (nI_ne0 (by omega) (by omega))
  have key := cnt (fun n j => lp_X8_share_83 fu M b (nI w) (nI i) (nI a) (nI s) (nI (mL σ w)) (fun v21 => some v21) n (nI (sumf (shf σ w i a s) j)) (nI j)) (some (nI (sumf (shf σ w i a s) (mL σ w)))) (mL σ w) (fun n => by
    show lp_X8_share_83 _ _ _ _ _ _ _ _ _ (n + 1) _ _ = _
    rw [lp_X8_share_83, if_pos (by rw [q_le (by omega) (by omega)]; omega)]) (fun n j hj => by
    show lp_X8_share_83 _ _ _ _ _ _ _ _ _ (n + 1) _ _ = lp_X8_share_83 _ _ _ _ _ _ _ _ _ n _ _
    have ho := (w3 (i + j) (by omega)).1
    have es : sumf (shf σ w i a s) (j + 1) = sumf (shf σ w i a s) j + shf σ w i a s j := rfl
    rw [lp_X8_share_83, if_neg (by rw [q_le (by omega) (by omega)]; omega), letterOf_ hw h hwo hj, bd_s, q_ad, MlostOn_ hf hw h (by omega) (l3 j hj), bd_s, gd_t hne, gd_t hne, pk_div (by omega) (by omega) (by omega), pk_rem' (by omega) (by omega) (by omega), es]
    have ev : (if nI (s % mL σ w) ≤ nI j then some (0 : Int32) else some (1 : Int32)) = some (nI (if j < s % mL σ w then 1 else 0)) := by
      by_cases z : j < s % mL σ w
      · rw [if_neg (by rw [q_le (by omega) (by omega)]; omega), if_pos z]; rfl
      · rw [if_pos (by rw [q_le (by omega) (by omega)]; omega), if_neg z]; rfl
    rw [ev, bd_s]
    simp only [lt]
    rw [gd_t (q_ib (by omega) (by omega)), q_cl (by omega), (h4 (i + j) (by omega)).1, q_ad, q_ad]
    by_cases q : mO σ (i + j) = a
    · have e : shf σ w i a s j = losx σ (i + j) (mT σ w j) + s / mL σ w + (if j < s % mL σ w then 1 else 0) := by unfold shf; rw [if_pos q]
      rw [if_pos (by rw [q]), bd_s, q_ad, nI_1, e]
    · have e : shf σ w i a s j = 0 := by unfold shf; rw [if_neg q]
      rw [if_neg (by rw [q_eq (by omega) (by omega)]; exact q), bd_s, li_0, q_ad, nI_1, e]) fu 0 (by omega) (by omega)
  exact key
theorem X8_share_ (hf : 50 ≤ fu) (h : RM b M s) (a d f : Int32) : f_X8_share fu M b a d f = some (sp_share s a d f) := by
  unfold f_X8_share sp_share
  have hN := h.1.1.2.1.1
  have hW := h.1.1.2.1.2
  rcases rg a (mW s.1) (by omega) with ⟨w, hw, rfl⟩ | ha
  · rw [ifr_t hw (by omega), MisWord_t h hw, bd_s, if_neg one0]
    rcases rg d (mN s.1) (by omega) with ⟨i, hi, rfl⟩ | hb
    · rw [ifr_t hi (by omega), MisStrip_t h hi, bd_s, if_neg one0]
      rcases rg f 6 (by omega) with ⟨x, hx, rfl⟩ | hd
      · rw [ifr_t hx (by omega), in0_t (n := 6) (by omega) (by decide) hx, bd_s, if_neg one0, MhasRoom_ h.1.1 h.2.1 hw hi, bd_s]
        cases q : room s.1 w i with
        | true =>
          have hr : i + mL s.1 w ≤ mN s.1 := of_decide_eq_true q
          have l1 := losw_le h.1.1 hw hr
          have l2 := (h.1.1.2.2.2.1 w hw).2.2.1
          rw [if_neg (by rw [fl1]; exact one0), if_pos rfl, li_8, q_mu, nI_1, gd_t (q_ib (by omega) (by omega)), MlostBy_ hf h.1.1 h.2.1 hw hr, bd_s, q_cl (by omega), (h.2.1.2.2.2.2.2.2 w hw).2.1]
          simp only [lt]
          by_cases z : losw s.1 w i ≤ mP s.1 w
          · rw [if_pos z, q_sb z, if_pos (nI_pos' (by omega)), sizeOf_ h.1.1 h.2.1 hw, bd_s, MshareOf_ hf h.1.1 h.2.1 hw hr (by omega) hx]
          · rw [if_neg z, if_neg]
            have := pk_sneg (a := mP s.1 w) (b := losw s.1 w i) (by omega) (by omega)
            exact Int32.not_le.mpr this
        | false => rw [if_pos fl0, if_neg Bool.false_ne_true]
      · rw [ifr_f (by omega) hd, in0_f (n := 6) (by omega) (by decide) hd, bd_s, if_pos rfl]
    · rw [ifr_f (by omega) hb, MisStrip_f h hb, bd_s, if_pos rfl]
  · rw [ifr_f (by omega) ha, MisWord_f h ha, bd_s, if_pos rfl]
theorem alw_hg {σ : Md} {w i j : Nat} (q : alw σ w i = true) (hj : j < mL σ w) : hg (mG σ (i + j)) (shp (mT σ w j)) = true := by
  unfold alw at q
  rw [Bool.and_eq_true, Bool.and_eq_true, alf_iff] at q
  have := q.2.2 j (by omega) (by omega)
  unfold wdr at this
  rw [Bool.and_eq_true] at this
  exact this.1
theorem X8_write_ (hf : 100 ≤ fu) (h : RM b M s) (a d : Int32) : ∃ M', f_X8_write fu M b a d = some ((sp_write s a d).1, M') ∧ RM b M' (sp_write s a d).2 := by
  unfold f_X8_write sp_write
  have hN := h.1.1.2.1.1
  have hW := h.1.1.2.1.2
  rcases rg a (mW s.1) (by omega) with ⟨w, hw, rfl⟩ | ha
  · rw [ifr_t hw (by omega), MisWord_t h hw, bd_s, if_neg one0]
    rcases rg d (mN s.1) (by omega) with ⟨i, hi, rfl⟩ | hb
    · rw [ifr_t hi (by omega), MisStrip_t h hi, bd_s, if_neg one0, MmayBe_ hf h.1.1 h.2.1 hw hi, bd_s]
      by_cases q : alw s.1 w i = true
      · rw [q, if_neg (by rw [fl1]; exact one0), if_pos rfl]
        have hr : i + mL s.1 w ≤ mN s.1 := by
          have q' := q
          unfold alw at q'
          rw [Bool.and_eq_true] at q'
          exact of_decide_eq_true q'.1
        obtain ⟨l1, l2, l3, l4⟩ := h.1.1.2.2.2.1 w hw
        obtain ⟨M', e, hI⟩ := cntM (fun n j Mx => lp_X8_write_35 fu b (nI w) (nI i) (fun v12 M13 => some (v12, M13)) n (nI (wrS s.1 w i j).2) (nI j) Mx) (fun j Mx => MdM b Mx (wrS s.1 w i j).1 ∧ FrM b M Mx) (fun Mx => some (nI (wrS s.1 w i (mL s.1 w)).2, Mx)) (mL s.1 w) (fun n Mx hI => by
          obtain ⟨e1, e2, e3, e4, e5⟩ := wrS_set s.1 w i (mL s.1 w)
          have es := sizeOf_ (w := w) (wrS_wf h.1.1 _) hI.1 (by rw [e4]; exact hw)
          rw [e2] at es
          show lp_X8_write_35 _ _ _ _ _ (n + 1) _ _ _ = _
          rw [lp_X8_write_35, es, bd_s, if_pos (by rw [q_le (by omega) (by omega)]; omega)]) (fun n j Mx hj hI => by
          obtain ⟨e1, e2, e3, e4, e5⟩ := wrS_set s.1 w i j
          have es := sizeOf_ (w := w) (wrS_wf h.1.1 _) hI.1 (by rw [e4]; exact hw)
          rw [e2] at es
          have el := letterOf_ (w := w) (j := j) (wrS_wf h.1.1 _) hI.1 (by rw [e4]; exact hw) (by rw [e2]; exact hj)
          rw [e3] at el
          have hgj := alw_hg q hj
          rw [← e5 (i + j) (by omega)] at hgj
          obtain ⟨M2, e6, i1, i2⟩ := MmowSet_ (i := i + j) (x := shp (mT s.1 w j)) (y := shp (mT s.1 w j)) (fu := fu) (by omega) (wrS_wf h.1.1 j) hI.1 (by rw [e1]; omega) (shp_lt _) (shp_lt _) (fun c hc => by
            cases t : (shp (mT s.1 w j)).testBit c with
            | false => rfl
            | true => rw [decide_eq_true (hg_iff.mp hgj c hc t)]; rfl)
          have ht := l4 j hj
          refine ⟨M2, ?_, i1, hI.2.tr i2⟩
          show lp_X8_write_35 _ _ _ _ _ (n + 1) _ _ _ = lp_X8_write_35 _ _ _ _ _ n _ _ _
          rw [lp_X8_write_35, es, bd_s, if_neg (by rw [q_le (by omega) (by omega)]; omega), el, bd_s, gd_t (q_ib (by omega) ht), q_cl (by omega), hI.1.2.1 _ ht, q_ad, e6, bd_s]
          simp only [lt]
          rw [q_ad, nI_1]
          rfl) fu 0 M (by omega) (by omega) ⟨h.2.1, FrM.rf⟩
        exact ⟨M', e, h.md hI.1 (wrS_wf h.1.1 _) hI.2⟩
      · have q' : alw s.1 w i = false := by simpa using q
        rw [q', if_pos fl0, if_neg Bool.false_ne_true]
        exact ⟨M, rfl, h⟩
    · rw [ifr_f (by omega) hb, MisStrip_f h hb, bd_s, if_pos rfl]
      exact ⟨M, rfl, h⟩
  · rw [ifr_f (by omega) ha, MisWord_f h ha, bd_s, if_pos rfl]
    exact ⟨M, rfl, h⟩
end PUB
