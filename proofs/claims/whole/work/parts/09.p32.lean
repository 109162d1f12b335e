theorem sumf_add {f : Nat → Nat} {n : Nat} : ∀ m, sumf f (n + m) = sumf f n + sumf (fun j => f (n + j)) m
  | 0 => rfl
  | m + 1 => by
    have ih := sumf_add (f := f) (n := n) m
    show sumf f (n + m) + f (n + m) = sumf f n + (sumf (fun j => f (n + j)) m + f (n + m))
    omega
theorem sumf_flat {F : Nat → Nat → Nat} : ∀ n, sumf (fun q => F (q / 15) (q % 15)) (15 * n) = sumf (fun a => sumf (F a) 15) n
  | 0 => rfl
  | n + 1 => by
    have ih := sumf_flat (F := F) n
    rw [show 15 * (n + 1) = 15 * n + 15 by omega, sumf_add, ih]
    show _ = sumf (fun a => sumf (F a) 15) n + sumf (F n) 15
    congr 1
    apply sumf_congr
    intro j hj
    show F ((15 * n + j) / 15) ((15 * n + j) % 15) = F n j
    rw [show (15 * n + j) / 15 = n by omega, show (15 * n + j) % 15 = j by omega]
theorem capx_capx {g : Nat → Nat} {m k : Nat} : capx (capx g m) k = capx g (m + k) := by
  funext c
  unfold capx
  split <;> split <;> split <;> omega
section PUB
variable {fu b : Nat} {M : Mem} {s : Sg}
theorem MgoWeek_ {σ : Md} {m : Nat} (hf : 200 ≤ fu) (hw : Wf σ) (h : MdM b M (grP σ m (mN σ))) : ∃ M', f_X8_goWeek fu M b = some M' ∧ MdM b M' (grP σ (m + mS σ 0) (mN σ)) ∧ FrM b M M' ∧ ∀ a, a ≠ b + 3 → M' a = M a := by
  have hN := hw.2.1.1
  have hs := hw.1.1
  obtain ⟨⟨h1, h2⟩, h3, h4, h5, h6, h7, h8⟩ := id h
  have h1' : M b 7 = nI (mN σ) := h1
  have h6' : M (b + 5) 0 = nI (mS σ 0) := h6 0 (by omega)
  have h4' : ∀ i, i < mN σ → ∀ c, c < 15 → M (b + 3) (15 * i + c) = nI (capx (mG σ i) m c) := fun i hi c hc => by
    have e : M (b + 3) (15 * i + c) = nI ((if i < mN σ then capx (mG σ i) m else mG σ i) c) := (h4 i hi).2 c hc
    rw [if_pos hi] at e
    exact e
  unfold f_X8_goWeek
  obtain ⟨M1, e1, i1, i2⟩ := cntM (R := Option Mem) (fun n q Mx => lp_X8_goWeek_2 fu b (fun M9 => some M9) n (nI q) Mx) (fun q Mx => (∀ a, a ≠ b + 3 → Mx a = M a) ∧ ∀ j, j < 15 * mN σ → Mx (b + 3) j = nI (if j < q then capx (mG σ (j / 15)) (m + mS σ 0) (j % 15) else capx (mG σ (j / 15)) m (j % 15))) (fun M9 => some M9) (15 * mN σ) (fun n Mx hI => by
    show lp_X8_goWeek_2 _ _ _ (n + 1) _ _ = _
    rw [lp_X8_goWeek_2, hI.1 b (by omega), h1', li_15, q_mu, if_pos (by rw [q_le (by omega) (by omega)]; omega)]) (fun n q Mx hq hI => by
    obtain ⟨i1, i2⟩ := hI
    have hmx := i2 q hq
    rw [if_neg (by omega)] at hmx
    have hc := capx_le (mG σ (q / 15)) m (q % 15)
    have hv : capx (mG σ (q / 15)) (m + mS σ 0) (q % 15) = (if capx (mG σ (q / 15)) m (q % 15) + mS σ 0 ≤ 9 then capx (mG σ (q / 15)) m (q % 15) + mS σ 0 else 9) := by
      unfold capx
      split <;> split <;> split <;> omega
    have hc2 := capx_le (mG σ (q / 15)) (m + mS σ 0) (q % 15)
    refine ⟨up Mx (b + 3) q (nI (capx (mG σ (q / 15)) (m + mS σ 0) (q % 15))), ?_, fun a ha => by rw [up_k ha]; exact i1 a ha, fun j hj => ?_⟩
    · show lp_X8_goWeek_2 _ _ _ (n + 1) _ _ = lp_X8_goWeek_2 _ _ _ n _ _
      rw [lp_X8_goWeek_2, i1 b (by omega), h1', li_15, q_mu, if_neg (by rw [q_le (by omega) (by omega)]; omega), gd_t (q_ib (by omega) (by omega)), gd_t (by decide), q_cl (by omega), hmx, li_0, q_cl (by omega), i1 (b + 5) (by omega), h6', q_ad]
      simp only [lt]
      rw [li_9]
      by_cases y : capx (mG σ (q / 15)) m (q % 15) + mS σ 0 ≤ 9
      · rw [if_pos (by rw [q_le (by omega) (by omega)]; exact y), bd_s, gd_t (q_ib (by omega) (by omega)), nI_1, hv, if_pos y]
      · rw [if_neg (by rw [q_le (by omega) (by omega)]; exact y), bd_s, gd_t (q_ib (by omega) (by omega)), nI_1, hv, if_neg y]
    · by_cases e : j = q
      · subst e; rw [up_at, if_pos (by omega)]
      · rw [up_j e, i2 j hj]
        by_cases y : j < q
        · rw [if_pos y, if_pos (by omega)]
        · rw [if_neg y, if_neg (by omega)]) fu 0 M (by omega) (by omega) ⟨fun _ _ => rfl, fun j hj => by
      rw [if_neg (by omega)]
      have := h4' (j / 15) (by omega) (j % 15) (by omega)
      rw [show 15 * (j / 15) + j % 15 = j by omega] at this
      exact this⟩
  refine ⟨M1, e1, ⟨?_, ?_, ?_, ?_, ?_, ?_, ?_⟩, ⟨fun q hq => i1 q (by omega), by rw [i1 b (by omega)], by rw [i1 b (by omega)]⟩, i1⟩
  · rw [i1 b (by omega)]; exact ⟨h1, h2⟩
  · rw [i1 _ (by omega)]; exact h3
  · intro i hi
    have hi' : i < mN σ := hi
    rw [i1 (b + 2) (by omega)]
    refine ⟨(h4 i hi).1, fun c hc => ?_⟩
    show _ = nI ((if i < mN σ then capx (mG σ i) (m + mS σ 0) else mG σ i) c)
    rw [if_pos hi', i2 (15 * i + c) (by omega), if_pos (by omega), show (15 * i + c) / 15 = i by omega, show (15 * i + c) % 15 = c by omega]
  · rw [i1 _ (by omega)]; exact h5
  · rw [i1 _ (by omega)]; exact h6
  · rw [i1 _ (by omega)]; exact h7
  · rw [i1 _ (by omega)]; exact h8
theorem grP0 {σ : Md} (hw : Wf σ) (h : MdM b M σ) : MdM b M (grP σ 0 (mN σ)) := by
  obtain ⟨h1, h3, h4, h5⟩ := h
  refine ⟨h1, h3, fun i hi => ⟨(h4 i hi).1, fun c hc => ?_⟩, h5⟩
  have hi' : i < mN σ := hi
  have := (hw.2.2.1 i hi').2 c hc
  show _ = nI ((if i < mN σ then capx (mG σ i) 0 else mG σ i) c)
  rw [if_pos hi', (h4 i hi').2 c hc]
  congr 1
  unfold capx
  split <;> omega
theorem Mgo_ {σ : Md} {n : Nat} {K : Mem → Option (Int32 × Mem)} (hf : 200 ≤ fu) (hw : Wf σ) (h : MdM b M σ) (hn : n ≤ 30) : ∃ M', lp_X8_weeks_16 fu b (nI n) K fu 0 M = K M' ∧ MdM b M' (grP σ (n * mS σ 0) (mN σ)) ∧ FrM b M M' := by
  obtain ⟨M', e, h1, h2⟩ := cntM (fun m i Mx => lp_X8_weeks_16 fu b (nI n) K m (nI i) Mx) (fun i Mx => MdM b Mx (grP σ (i * mS σ 0) (mN σ)) ∧ FrM b M Mx) K n (fun m Mx _ => by
    show lp_X8_weeks_16 _ _ _ _ (m + 1) _ _ = _
    rw [lp_X8_weeks_16, if_pos (by rw [q_le (by omega) (by omega)]; omega)]) (fun m i Mx hi hI => by
    obtain ⟨i1, i2⟩ := hI
    obtain ⟨M2, e2, j1, j2, -⟩ := MgoWeek_ hf hw i1
    refine ⟨M2, ?_, by rw [Nat.succ_mul]; exact j1, i2.tr j2⟩
    show lp_X8_weeks_16 _ _ _ _ (m + 1) _ _ = lp_X8_weeks_16 _ _ _ _ m _ _
    rw [lp_X8_weeks_16, if_neg (by rw [q_le (by omega) (by omega)]; omega), e2, bd_s]
    simp only [lt]
    rw [nI_1]) fu 0 M (by omega) (by omega) ⟨by rw [Nat.zero_mul]; exact grP0 hw h, FrM.rf⟩
  exact ⟨M', e, h1, h2⟩
theorem X8_weeks_ (hf : 200 ≤ fu) (h : RM b M s) (a : Int32) : ∃ M', f_X8_weeks fu M b a = some ((sp_weeks s a).1, M') ∧ RM b M' (sp_weeks s a).2 := by
  have hN := h.1.1.2.1.1
  have e1 : (1 : Int64).toInt = 1 := by decide
  have e30 : (30 : Int64).toInt = 30 := by decide
  unfold f_X8_weeks sp_weeks
  rcases rg a 31 (by omega) with ⟨n, hn, rfl⟩ | ha
  · rw [ifr_t hn (by omega)]
    by_cases z : n = 0
    · rw [if_pos z, in_f (by rw [e1, nI_toInt (by omega)]; omega), bd_s, if_pos rfl]
      exact ⟨M, rfl, h⟩
    · rw [if_neg z, in_t (by rw [e1, nI_toInt (by omega)]; omega) (by rw [e30, nI_toInt (by omega)]; omega), bd_s, if_neg one0]
      obtain ⟨M', e, h1, h2⟩ := Mgo_ (K := fun M4 => (lp_X8_weeks_35 fu M4 b (fun (v10 : Int32) => some (v10, M4)) fu (0 : Int32) (0 : Int32))) (n := n) hf h.1.1 h.2.1 (by omega)
      refine ⟨M', e.trans ?_, h.md h1 (grP_wf h.1.1) h2⟩
      have hsum := sumf_flat (F := fun i c => if capx (mG s.1 i) (n * mS s.1 0) c = 9 then 1 else 0) (mN s.1)
      have h4' : ∀ i, i < mN s.1 → ∀ c, c < 15 → M' (b + 3) (15 * i + c) = nI (capx (mG s.1 i) (n * mS s.1 0) c) := fun i hi c hc => by
        have e : M' (b + 3) (15 * i + c) = nI ((if i < mN s.1 then capx (mG s.1 i) (n * mS s.1 0) else mG s.1 i) c) := (h1.2.2.1 i hi).2 c hc
        rw [if_pos hi] at e
        exact e
      have e7 : M' b 7 = nI (mN s.1) := h1.1.1
      have key := cnt (fun m q => lp_X8_weeks_35 fu M' b (fun (v10 : Int32) => some (v10, M')) m (nI (sumf (fun q => if capx (mG s.1 (q / 15)) (n * mS s.1 0) (q % 15) = 9 then 1 else 0) q)) (nI q)) (some (nI (sumf (fun q => if capx (mG s.1 (q / 15)) (n * mS s.1 0) (q % 15) = 9 then 1 else 0) (15 * mN s.1)), M')) (15 * mN s.1) (fun m => by
        show lp_X8_weeks_35 _ _ _ _ (m + 1) _ _ = _
        rw [lp_X8_weeks_35, e7, li_15, q_mu, if_pos (by rw [q_le (by omega) (by omega)]; omega)]) (fun m q hq => by
        have hm := h4' (q / 15) (by omega) (q % 15) (by omega)
        rw [show 15 * (q / 15) + q % 15 = q by omega] at hm
        have hc2 := capx_le (mG s.1 (q / 15)) (n * mS s.1 0) (q % 15)
        have es : sumf (fun q => if capx (mG s.1 (q / 15)) (n * mS s.1 0) (q % 15) = 9 then 1 else 0) (q + 1) = sumf (fun q => if capx (mG s.1 (q / 15)) (n * mS s.1 0) (q % 15) = 9 then 1 else 0) q + (if capx (mG s.1 (q / 15)) (n * mS s.1 0) (q % 15) = 9 then 1 else 0) := rfl
        show lp_X8_weeks_35 _ _ _ _ (m + 1) _ _ = lp_X8_weeks_35 _ _ _ _ m _ _
        rw [lp_X8_weeks_35, e7, li_15, q_mu, if_neg (by rw [q_le (by omega) (by omega)]; omega), gd_t (q_ib (by omega) (by omega)), q_cl (by omega), hm, li_9, es]
        by_cases y : capx (mG s.1 (q / 15)) (n * mS s.1 0) (q % 15) = 9
        · rw [if_pos (by rw [y]), bd_s, if_pos y]
          simp only [lt]
          rw [nI_1, nI_1]
        · rw [if_neg (by rw [q_eq (by omega) (by omega)]; exact y), bd_s, if_neg y]
          simp only [lt]
          rw [li_0, q_ad, nI_1]) fu 0 (by omega) (by omega)
      refine key.trans ?_
      rw [hsum]
      rfl
  · rw [ifr_f (by omega) ha]
    have hr := rg_no (by omega) ha
    rw [in_f (by rw [e1, e30]; omega), bd_s, if_pos rfl]
    exact ⟨M, rfl, h⟩
theorem X8_seen_ (hf : 50 ≤ fu) (h : RM b M s) (a : Int32) : f_X8_seen fu M b a = some (sp_seen s a) := by
  unfold f_X8_seen sp_seen
  have hN := h.1.1.2.1.1
  rcases rg a (mN s.1) (by omega) with ⟨i, hi, rfl⟩ | ha
  · rw [ifr_t hi (by omega), MisStrip_t h hi, bd_s, if_neg one0, MseenOf_ hf h.1.1 h.2.1 hi, bd_s]
  · rw [ifr_f (by omega) ha, MisStrip_f h ha, bd_s, if_pos rfl]
theorem X8_reads_ (hf : 50 ≤ fu) (h : RM b M s) (a : Int32) : f_X8_reads fu M b a = some (sp_reads s a) := by
  unfold f_X8_reads sp_reads
  have hN := h.1.1.2.1.1
  rcases rg a (mN s.1) (by omega) with ⟨i, hi, rfl⟩ | ha
  · rw [ifr_t hi (by omega), MisStrip_t h hi, bd_s, if_neg one0, MseenOf_ hf h.1.1 h.2.1 hi, bd_s, MreadsAs_ hf h.1.1 h.2.1 (seenx_lt _ _), bd_s]
  · rw [ifr_f (by omega) ha, MisStrip_f h ha, bd_s, if_pos rfl]
theorem X8_off_ (hf : 50 ≤ fu) (h : RM b M s) (a : Int32) : f_X8_off fu M b a = some (sp_off s a) := by
  unfold f_X8_off sp_off
  have hN := h.1.1.2.1.1
  rcases rg a (mN s.1) (by omega) with ⟨i, hi, rfl⟩ | ha
  · have h1 := near_lt (seenx (mG s.1 i) (mS s.1 1))
    rw [ifr_t hi (by omega), MisStrip_t h hi, bd_s, if_neg one0, MseenOf_ hf h.1.1 h.2.1 hi, bd_s, Mnear_ hf h.2.1 (seenx_lt _ _), bd_s, gd_t (q_ib (by omega) h1), q_cl (by omega), h.2.1.2.1 _ h1, i_xor, ones_ (by omega) (xs_lt (seenx_lt _ _) _), bd_s]
    rfl
  · rw [ifr_f (by omega) ha, MisStrip_f h ha, bd_s, if_pos rfl]
theorem X8_mow_ (hf : 50 ≤ fu) (h : RM b M s) (a d : Int32) : ∃ M', f_X8_mow fu M b a d = some ((sp_mow s a d).1, M') ∧ RM b M' (sp_mow s a d).2 := by
  unfold f_X8_mow sp_mow
  have hN := h.1.1.2.1.1
  rcases rg a (mN s.1) (by omega) with ⟨i, hi, rfl⟩ | ha
  · rw [ifr_t hi (by omega), MisStrip_t h hi, bd_s, if_neg one0]
    rcases rg d 26 (by omega) with ⟨l, hl, rfl⟩ | hb
    · rw [ifr_t hl (by omega), MisLetter_t hl, bd_s, if_neg one0, gd_t (q_ib (by omega) hl), q_cl (by omega), h.2.1.2.1 l hl, MhasGrown_ hf h.1.1 h.2.1 hi (shp_lt l), bd_s]
      by_cases q : hg (mG s.1 i) (shp l) = true
      · obtain ⟨M', e, h1, h2⟩ := MmowSet_ (x := shp l) (y := shp l) hf h.1.1 h.2.1 hi (shp_lt l) (shp_lt l) (fun c hc => by
          cases t : (shp l).testBit c with
          | false => rfl
          | true => rw [decide_eq_true (hg_iff.mp q c hc t)]; rfl)
        rw [if_pos q, if_neg one0, if_pos q, gd_t (q_ib (by omega) hl), e, bd_s]
        exact ⟨M', rfl, h.md h1 (hvS_wf h.1.1) h2⟩
      · rw [if_neg q, if_pos rfl, if_neg q]
        exact ⟨M, rfl, h⟩
    · rw [ifr_f (by omega) hb, MisLetter_f hb, bd_s, if_pos rfl]
      exact ⟨M, rfl, h⟩
  · rw [ifr_f (by omega) ha, MisStrip_f h ha, bd_s, if_pos rfl]
    exact ⟨M, rfl, h⟩
theorem X8_cut_ (hf : 50 ≤ fu) (h : RM b M s) (a : Int32) : ∃ M', f_X8_cut fu M b a = some ((sp_cut s a).1, M') ∧ RM b M' (sp_cut s a).2 := by
  unfold f_X8_cut sp_cut
  have hN := h.1.1.2.1.1
  rcases rg a (mN s.1) (by omega) with ⟨i, hi, rfl⟩ | ha
  · obtain ⟨M', e, h1, h2⟩ := MmowSet_ (x := 32767) (y := grown (mG s.1 i)) hf h.1.1 h.2.1 hi (by omega) (grown_lt _) (fun c hc => by
      rw [tb_32767 c hc, Bool.true_and, grown, bs_tb, decide_eq_true hc, Bool.true_and])
    rw [ifr_t hi (by omega), MisStrip_t h hi, bd_s, if_neg one0, li_32767, e, bd_s]
    exact ⟨M', rfl, h.md h1 (hvS_wf h.1.1) h2⟩
  · rw [ifr_f (by omega) ha, MisStrip_f h ha, bd_s, if_pos rfl]
    exact ⟨M, rfl, h⟩
theorem MdM.blade {i c v : Nat} {σ : Md} (h : MdM b M σ) (hc : c < 15) : MdM b (up M (b + 3) (15 * i + c) (nI v)) (flS σ i c v) := by
  obtain ⟨⟨h1, h2⟩, h3, h4, h5, h6, h7, h8⟩ := h
  refine ⟨by rw [up_k (by omega)]; exact ⟨h1, h2⟩, by rw [up_k (by omega)]; exact h3, fun q hq => ?_, by rw [up_k (by omega)]; exact h5, by rw [up_k (by omega)]; exact h6, by rw [up_k (by omega)]; exact h7, by rw [up_k (by omega)]; exact h8⟩
  have hq' : q < mN σ := hq
  rw [up_k (by omega)]
  refine ⟨(h4 q hq').1, fun e he => ?_⟩
  show _ = nI (if q = i ∧ e = c then v else mG σ q e)
  by_cases y : q = i ∧ e = c
  · rw [if_pos y, y.1, y.2, up_at]
  · rw [if_neg y, up_j (by omega)]
    exact (h4 q hq').2 e he
theorem X8_fault_ (h : RM b M s) (a d f : Int32) : ∃ M', f_X8_fault M b a d f = some ((sp_fault s a d f).1, M') ∧ RM b M' (sp_fault s a d f).2 := by
  unfold f_X8_fault sp_fault
  have hN := h.1.1.2.1.1
  rcases rg a (mN s.1) (by omega) with ⟨i, hi, rfl⟩ | ha
  · rw [ifr_t hi (by omega), MisStrip_t h hi, bd_s, if_neg one0]
    rcases rg d 15 (by omega) with ⟨c, hc, rfl⟩ | hb
    · rw [ifr_t hc (by omega), MisCell_t hc, bd_s, if_neg one0]
      rcases rg f 2 (by omega) with ⟨x, hx, rfl⟩ | hd
      · rw [ifr_t hx (by omega), in0_t (n := 2) (by omega) (by decide) hx, bd_s, if_neg one0, li_15, q_mu, q_ad, gd_t (q_ib (by omega) (by omega))]
        simp only [lt]
        have e : (if nI x = 0 then some (0 : Int32) else some (9 : Int32)) = some (nI (if x = 0 then 0 else 9)) := by
          by_cases z : x = 0
          · rw [if_pos (by rw [z]; rfl), if_pos z]; rfl
          · rw [if_neg (by rw [li_0, q_eq (by omega) (by omega)]; exact z), if_neg z]; rfl
        rw [e, bd_s, gd_t (q_ib (by omega) (by omega)), q_cl (by omega), (h.2.1.2.2.1 i hi).2 c hc]
        exact ⟨_, rfl, h.md (h.2.1.blade hc) (flS_wf h.1.1 (by split <;> omega)) ⟨fun q hq => up_k (by omega), by rw [up_k (by omega)], by rw [up_k (by omega)]⟩⟩
      · rw [ifr_f (by omega) hd, in0_f (n := 2) (by omega) (by decide) hd, bd_s, if_pos rfl]
        exact ⟨M, rfl, h⟩
    · rw [ifr_f (by omega) hb, MisCell_f hb, bd_s, if_pos rfl]
      exact ⟨M, rfl, h⟩
  · rw [ifr_f (by omega) ha, MisStrip_f h ha, bd_s, if_pos rfl]
    exact ⟨M, rfl, h⟩
end PUB
