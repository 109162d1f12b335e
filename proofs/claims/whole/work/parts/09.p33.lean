theorem cntf {R : Type} (f : Nat → Bool → Nat → R) (P : Nat → Bool) (out : Bool → R) (N : Nat) (h1 : ∀ n a, f (n + 1) a N = out a) (h0 : ∀ n j, j < N → f (n + 1) false j = out false) (h2 : ∀ n j, j < N → f (n + 1) true j = f n (P j) (j + 1)) : ∀ n a j, j ≤ N → N - j < n → f n a j = out (a && alf P (N - j) j) := by
  intro n
  induction n with
  | zero => intro a j _ h; omega
  | succ n ih =>
    intro a j hj hn
    by_cases h : j = N
    · subst h
      rw [h1, Nat.sub_self]
      show out a = out (a && true)
      rw [Bool.and_true]
    · cases a with
      | false => rw [h0 n j (by omega), Bool.false_and]
      | true =>
        rw [h2 n j (by omega), ih (P j) (j + 1) (by omega) (by omega), Bool.true_and]
        congr 1
        rw [show N - j = (N - (j + 1)) + 1 by omega]
        rfl
theorem cntg {R : Type} (f : Nat → Bool → Nat → R) (P : Nat → Bool) (out : Bool → R) (N : Nat) (h1 : ∀ n a, f (n + 1) a N = out a) (h2 : ∀ n a j, j < N → f (n + 1) a j = f n (a && P j) (j + 1)) : ∀ n a j, j ≤ N → N - j < n → f n a j = out (a && alf P (N - j) j) := by
  intro n
  induction n with
  | zero => intro a j _ h; omega
  | succ n ih =>
    intro a j hj hn
    by_cases h : j = N
    · subst h
      rw [h1, Nat.sub_self]
      show out a = out (a && true)
      rw [Bool.and_true]
    · rw [h2 n a j (by omega), ih _ (j + 1) (by omega) (by omega), Bool.and_assoc]
      congr 2
      rw [show N - j = (N - (j + 1)) + 1 by omega]
      rfl
/-- a flag -/
def fl (a : Bool) : Int32 := if a = true then 1 else 0
theorem fl1 : fl true = 1 := rfl
theorem fl0 : fl false = 0 := rfl
section PUB
variable {fu b : Nat} {M : Mem} {s : Sg}
theorem X8_told_ (h : RM b M s) (a d : Int32) : f_X8_told M b a d = some (sp_told s a d) := by
  unfold f_X8_told sp_told
  have hN := h.1.1.2.1.2
  rcases rg a (mW s.1) (by omega) with ⟨w, hw, rfl⟩ | ha
  · obtain ⟨l1, l2, l3, l4⟩ := h.1.1.2.2.2.1 w hw
    obtain ⟨g1, g2, g3⟩ := h.2.1.2.2.2.2.2.2 w hw
    rw [ifr_t hw (by omega), MisWord_t h hw, bd_s, if_neg one0]
    by_cases q : (-2 : Int32) ≤ d
    · rw [if_pos q, if_pos q, li_8, q_mu, gd_t (q_ib (by omega) (by omega)), q_cl (by omega)]
      simp only [lt]
      by_cases q2 : d = -2
      · rw [if_pos q2, if_neg (by rw [q2]; decide), if_pos q2, li_1, q_ad, gd_t (q_ib (by omega) (by omega)), q_cl (by omega), g2]
      · rw [if_neg q2]
        by_cases q3 : d = -1
        · rw [if_pos q3, if_neg q2, if_pos q3, g1]
        · rw [if_neg q3, if_neg q2, if_neg q3, g1]
          rcases rg d (mL s.1 w) (by omega) with ⟨j, hj, rfl⟩ | hb
          · rw [ifr_t hj (by omega), if_neg (by rw [q_le (by omega) (by omega)]; omega), li_2, q_ad, q_ad, gd_t (q_ib (by omega) (by omega)), q_cl (by omega), g3 j hj]
          · rw [ifr_f (by omega) hb, if_pos]
            have hn := rg_no (by omega) hb
            rw [Int32.le_iff_toInt_le, nI_toInt (by omega)]
            rw [Int32.le_iff_toInt_le, show (-2 : Int32).toInt = -2 by decide] at q
            have z2 : d.toInt ≠ -2 := fun z => q2 (Int32.toInt_inj.mp (by rw [z]; decide))
            have z3 : d.toInt ≠ -1 := fun z => q3 (Int32.toInt_inj.mp (by rw [z]; decide))
            omega
    · rw [if_neg q, if_neg q]
  · rw [ifr_f (by omega) ha, MisWord_f h ha, bd_s, if_pos rfl]
theorem X8_pay_ (h : RM b M s) (a d : Int32) : ∃ M', f_X8_pay M b a d = some ((sp_pay s a d).1, M') ∧ RM b M' (sp_pay s a d).2 := by
  unfold f_X8_pay sp_pay
  have hN := h.1.1.2.1.2
  rcases rg a (mW s.1) (by omega) with ⟨w, hw, rfl⟩ | ha
  · obtain ⟨g1, g2, g3⟩ := h.2.1.2.2.2.2.2.2 w hw
    rw [ifr_t hw (by omega), MisWord_t h hw, bd_s, if_neg one0]
    rcases rg d 100 (by omega) with ⟨v, hv, rfl⟩ | hb
    · rw [ifr_t hv (by omega), in0_t (n := 100) (by omega) (by decide) hv, bd_s, if_neg one0, li_8, q_mu, li_1, q_ad, gd_t (q_ib (by omega) (by omega)), q_cl (by omega)]
      simp only [lt]
      rw [gd_t (q_ib (by omega) (by omega)), g2]
      obtain ⟨h1, h3, h4, h5, h6, h7, h8⟩ := id h.2.1
      refine ⟨up M (b + 7) (8 * w + 1) (nI v), rfl, h.md ⟨by rw [up_k (by omega)]; exact h1, by rw [up_k (by omega)]; exact h3, by rw [up_k (by omega), up_k (by omega)]; exact h4, by rw [up_k (by omega)]; exact h5, by rw [up_k (by omega)]; exact h6, by rw [up_k (by omega)]; exact h7, fun q hq => ?_⟩ (pyS_wf h.1.1 (by omega)) ⟨fun q hq => up_k (by omega), by rw [up_k (by omega)], by rw [up_k (by omega)]⟩⟩
      have hq' : q < mW s.1 := hq
      obtain ⟨e1, e2, e3⟩ := h8 q hq'
      have l6 := (h.1.1.2.2.2.1 q hq').2.1
      refine ⟨by rw [up_j (by omega)]; exact e1, ?_, fun j hj => ?_⟩
      · show _ = nI (if q = w then v else mP s.1 q)
        by_cases e : q = w
        · subst e; rw [up_at, if_pos rfl]
        · rw [up_j (by omega), if_neg e]; exact e2
      · have hj' : j < mL s.1 q := hj
        rw [up_j (by omega)]; exact e3 j hj
    · rw [ifr_f (by omega) hb, in0_f (n := 100) (by omega) (by decide) hb, bd_s, if_pos rfl]
      exact ⟨M, rfl, h⟩
  · rw [ifr_f (by omega) ha, MisWord_f h ha, bd_s, if_pos rfl]
    exact ⟨M, rfl, h⟩
theorem X8_feud_ (h : RM b M s) (a d f : Int32) : ∃ M', f_X8_feud M b a d f = some ((sp_feud s a d f).1, M') ∧ RM b M' (sp_feud s a d f).2 := by
  unfold f_X8_feud sp_feud
  rcases rg a 6 (by omega) with ⟨x, hx, rfl⟩ | ha
  · rw [ifr_t hx (by omega), in0_t (n := 6) (by omega) (by decide) hx, bd_s, if_neg one0]
    rcases rg d 6 (by omega) with ⟨y, hy, rfl⟩ | hb
    · rw [ifr_t hy (by omega), in0_t (n := 6) (by omega) (by decide) hy, bd_s, if_neg one0]
      by_cases e : x = y
      · rw [if_pos (by rw [e]), if_pos e]
        exact ⟨M, rfl, h⟩
      · obtain ⟨h1, h3, h4, h5, h6, h7, h8⟩ := id h.2.1
        have ev : (if f = 0 then some (0 : Int32) else some (1 : Int32)) = some (nI (if decide (¬ f = 0) = true then 1 else 0)) := by
          by_cases z : f = 0
          · rw [if_pos z, decide_eq_false (fun w => w z)]; rfl
          · rw [if_neg z, decide_eq_true z]; rfl
        rw [if_neg (by rw [q_eq (by omega) (by omega)]; exact e), if_neg e, li_6, q_mu, q_ad, q_mu, q_ad, gd_t (q_ib (by omega) (by omega)), ev]
        simp only [lt]
        rw [bd_s, gd_t (q_ib (by omega) (by omega)), bd_s, gd_t (q_ib (by omega) (by omega)), q_cl (a := 6 * x + y) (by omega), q_cl (by omega), h7 x y hx hy]
        refine ⟨_, rfl, h.md ⟨by rw [up_k (by omega), up_k (by omega)]; exact h1, by rw [up_k (by omega), up_k (by omega)]; exact h3, by rw [up_k (by omega), up_k (by omega), up_k (by omega), up_k (by omega)]; exact h4, by rw [up_k (by omega), up_k (by omega)]; exact h5, by rw [up_k (by omega), up_k (by omega)]; exact h6, fun p q hp hq => ?_, by rw [up_k (by omega), up_k (by omega)]; exact h8⟩ (fdS_wf h.1.1 e) ⟨fun q hq => by rw [up_k (by omega), up_k (by omega)], by rw [up_k (by omega), up_k (by omega)], by rw [up_k (by omega), up_k (by omega)]⟩⟩
        show _ = nI (if (if (p = x ∧ q = y) ∨ (p = y ∧ q = x) then decide (¬ f = 0) else mF s.1 p q) = true then 1 else 0)
        by_cases z : (p = x ∧ q = y) ∨ (p = y ∧ q = x)
        · rw [if_pos z]
          rcases z with ⟨rfl, rfl⟩ | ⟨rfl, rfl⟩
          · rw [up_j (by omega), up_at]
          · rw [up_at]
        · rw [if_neg z, up_j (by omega), up_j (by omega)]
          exact h7 p q hp hq
    · rw [ifr_f (by omega) hb, in0_f (n := 6) (by omega) (by decide) hb, bd_s, if_pos rfl]
      exact ⟨M, rfl, h⟩
  · rw [ifr_f (by omega) ha, in0_f (n := 6) (by omega) (by decide) ha, bd_s, if_pos rfl]
    exact ⟨M, rfl, h⟩
section MD
variable {σ : Md} {w i : Nat}
theorem sizeOf_ (hw : Wf σ) (h : MdM b M σ) (hwo : w < mW σ) : f_X8_sizeOf M b (nI w) = some (nI (mL σ w)) := by
  have hW := hw.2.1.2
  unfold f_X8_sizeOf
  rw [li_8, q_mu, gd_t (q_ib (by omega) (by omega)), q_cl (by omega), (h.2.2.2.2.2.2 w hwo).1]
theorem letterOf_ {j : Nat} (hw : Wf σ) (h : MdM b M σ) (hwo : w < mW σ) (hj : j < mL σ w) : f_X8_letterOf M b (nI w) (nI j) = some (nI (mT σ w j)) := by
  have hW := hw.2.1.2
  have l6 := (hw.2.2.2.1 w hwo).2.1
  unfold f_X8_letterOf
  rw [li_8, li_2, q_mu, q_ad, q_ad, gd_t (q_ib (by omega) (by omega)), q_cl (by omega), (h.2.2.2.2.2.2 w hwo).2.2 j hj]
theorem MhasRoom_ (hw : Wf σ) (h : MdM b M σ) (hwo : w < mW σ) (hi : i < mN σ) : f_X8_hasRoom M b (nI w) (nI i) = some (fl (room σ w i)) := by
  have hN := hw.2.1.1
  have l6 := (hw.2.2.2.1 w hwo).2.1
  unfold f_X8_hasRoom
  rw [sizeOf_ hw h hwo, bd_s, h.1.1, q_ad]
  unfold room fl
  by_cases q : i + mL σ w ≤ mN σ
  · rw [if_neg (by rw [q_lt (by omega) (by omega)]; omega), decide_eq_true q]; rfl
  · rw [if_pos (by rw [q_lt (by omega) (by omega)]; omega), decide_eq_false q]; rfl
theorem gfl {a : Bool} : gd (isZ (fl a)) (some (fl a)) = some (fl a) := by
  cases a
  · rw [fl0, gd_t isZ0]
  · rw [fl1, gd_t isZ1]
theorem MisWritten_ (hf : 50 ≤ fu) (hw : Wf σ) (h : MdM b M σ) (hwo : w < mW σ) (hi : i < mN σ) : f_X8_isWritten fu M b (nI w) (nI i) = some (fl (wri σ w i)) := by
  have hN := hw.2.1.1
  obtain ⟨l1, l6, -⟩ := hw.2.2.2.1 w hwo
  have es := sizeOf_ hw h hwo
  unfold f_X8_isWritten wri wrG
  rw [MhasRoom_ hw h hwo hi, bd_s]
  by_cases q : room σ w i = true
  · have hr : i + mL σ w ≤ mN σ := of_decide_eq_true q
    rw [q]
    have key := cntf (fun n a j => lp_X8_isWritten_10 fu M b (nI w) (nI i) (fun v9 => gd (isZ v9) (some v9)) n (fl a) (nI j)) (fun j => decide (rd (mS σ 2) (seenx (mG σ (i + j)) (mS σ 1)) = nI (mT σ w j))) (fun a => some (fl a)) (mL σ w) (fun n a => by
      show lp_X8_isWritten_10 _ _ _ _ _ _ (n + 1) _ _ = _
      rw [lp_X8_isWritten_10, es, bd_s, if_pos (by rw [q_le (by omega) (by omega)]; omega), gfl]) (fun n j hj => by
      show lp_X8_isWritten_10 _ _ _ _ _ _ (n + 1) _ _ = _
      rw [lp_X8_isWritten_10, es, bd_s, if_neg (by rw [q_le (by omega) (by omega)]; omega), if_pos fl0, gfl]) (fun n j hj => by
      show lp_X8_isWritten_10 _ _ _ _ _ _ (n + 1) _ _ = lp_X8_isWritten_10 _ _ _ _ _ _ n _ _
      rw [lp_X8_isWritten_10, es, bd_s, if_neg (by rw [q_le (by omega) (by omega)]; omega), if_neg (by rw [fl1]; exact one0), q_ad, MseenOf_ hf hw h (by omega), bd_s, MreadsAs_ hf hw h (seenx_lt _ _), bd_s, letterOf_ hw h hwo hj, bd_s]
      by_cases z : rd (mS σ 2) (seenx (mG σ (i + j)) (mS σ 1)) = nI (mT σ w j)
      · rw [if_pos z, bd_s, decide_eq_true z]
        simp only [lt]
        rw [nI_1]; rfl
      · rw [if_neg z, bd_s, decide_eq_false z]
        simp only [lt]
        rw [nI_1]; rfl) fu true 0 (by omega) (by omega)
    rw [Nat.sub_zero] at key
    exact key
  · have q' : room σ w i = false := by simpa using q
    rw [q', Bool.false_and]
    obtain ⟨m, rfl⟩ : ∃ m, fu = m + 1 := ⟨fu - 1, by omega⟩
    rw [lp_X8_isWritten_10, es, bd_s, if_neg (by rw [li_0, q_le (by omega) (by omega)]; omega), if_pos fl0, gfl]
theorem mb87 {K : Int32 → Option Int32} {j n0 : Nat} {a0 : Bool} (hf : 50 ≤ n0) (hw : Wf σ) (h : MdM b M σ) (hj : i + j < mN σ) : lp_X8_mayBe_87 fu M b (nI w) (nI i) (nI j) (nI (i + j)) K n0 (fl a0) (nI 0) = K (fl (a0 && alf (fun q => !(mF σ (mO σ (i + q)) (mO σ (i + j)))) j 0)) := by
  have hN := hw.2.1.1
  have h4 := h.2.2.1
  have w3 := hw.2.2.1
  have h7 := h.2.2.2.2.2.1
  have key := cntg (fun n a q => lp_X8_mayBe_87 fu M b (nI w) (nI i) (nI j) (nI (i + j)) K n (fl a) (nI q)) (fun q => !(mF σ (mO σ (i + q)) (mO σ (i + j)))) (fun a => K (fl a)) j (fun n a => by
    show lp_X8_mayBe_87 _ _ _ _ _ _ _ _ (n + 1) _ _ = _
    rw [lp_X8_mayBe_87, if_pos (by rw [q_le (by omega) (by omega)]; omega)]) (fun n a q hq => by
    show lp_X8_mayBe_87 _ _ _ _ _ _ _ _ (n + 1) _ _ = lp_X8_mayBe_87 _ _ _ _ _ _ _ _ n _ _
    rw [lp_X8_mayBe_87, if_neg (by rw [q_le (by omega) (by omega)]; omega)]
    cases a with
    | false =>
      rw [if_pos fl0, bd_s, Bool.false_and]
      simp only [lt]
      rw [nI_1]; rfl
    | true =>
      have o1 := (w3 (i + q) (by omega)).1
      have o2 := (w3 (i + j) (by omega)).1
      rw [if_neg (by rw [fl1]; exact one0), Bool.true_and, q_ad, gd_t (q_ib (by omega) (by omega)), gd_t (q_ib (by omega) (by omega)), q_cl (by omega), q_cl (by omega), (h4 (i + q) (by omega)).1, (h4 (i + j) (by omega)).1, li_6, q_mu, q_ad, gd_t (q_ib (by omega) (by omega)), q_cl (by omega), h7 _ _ o1 o2]
      cases mF σ (mO σ (i + q)) (mO σ (i + j)) with
      | false =>
        rw [if_neg Bool.false_ne_true, if_pos (show nI 0 = 0 from rfl), bd_s]
        simp only [lt]
        rw [nI_1]; rfl
      | true =>
        rw [if_pos rfl, if_neg (show ¬ nI 1 = 0 by decide), bd_s]
        simp only [lt]
        rw [nI_1]; rfl) n0 a0 0 (by omega) (by omega)
  rw [Nat.sub_zero] at key
  exact key
theorem alw_eq (hw : Wf σ) (hr : i + mL σ w ≤ mN σ) : alf (fun j => wdr σ (i + j) (mT σ w j) && alf (fun q => !(mF σ (mO σ (i + q)) (mO σ (i + j)))) j 0) (mL σ w) 0 = (nofeud σ w i && alf (fun j => wdr σ (i + j) (mT σ w j)) (mL σ w) 0) := by
  have hs := hw.2.2.2.2.1
  have hi := hw.2.2.2.2.2
  apply Bool.eq_iff_iff.mpr
  rw [Bool.and_eq_true, nofeud_iff, alf_iff, alf_iff]
  constructor
  · intro h
    have h' : ∀ j, j < mL σ w → wdr σ (i + j) (mT σ w j) = true ∧ ∀ q, q < j → mF σ (mO σ (i + q)) (mO σ (i + j)) = false := fun j hj => by
      have := h j (by omega) (by omega)
      rw [Bool.and_eq_true, alf_iff] at this
      exact ⟨this.1, fun q hq => by have := this.2 q (by omega) (by omega); simpa using this⟩
    refine ⟨fun j hj q hq => ?_, fun j _ hj => (h' j (by omega)).1⟩
    by_cases e : j < q
    · exact (h' q hq).2 j e
    · by_cases e2 : q < j
      · rw [hs]; exact (h' j hj).2 q e2
      · have : j = q := by omega
        subst this
        exact hi _
  · rintro ⟨h1, h2⟩ j _ hj
    rw [Bool.and_eq_true, alf_iff]
    refine ⟨h2 j (by omega) (by omega), fun q _ hq => ?_⟩
    rw [h1 q (by omega) j (by omega)]; rfl
theorem MmayBe_ (hf : 100 ≤ fu) (hw : Wf σ) (h : MdM b M σ) (hwo : w < mW σ) (hi : i < mN σ) : f_X8_mayBe fu M b (nI w) (nI i) = some (fl (alw σ w i)) := by
  have hN := hw.2.1.1
  obtain ⟨l1, l6, -, l26⟩ := hw.2.2.2.1 w hwo
  have es := sizeOf_ hw h hwo
  unfold f_X8_mayBe alw
  rw [MhasRoom_ hw h hwo hi, bd_s]
  by_cases q : room σ w i = true
  · have hr : i + mL σ w ≤ mN σ := of_decide_eq_true q
    rw [q, Bool.true_and, ← alw_eq hw hr]
    have key := cntf (fun n a j => lp_X8_mayBe_10 fu M b (nI w) (nI i) (fun v9 => gd (isZ v9) (some v9)) n (fl a) (nI j)) (fun j => wdr σ (i + j) (mT σ w j) && alf (fun q => !(mF σ (mO σ (i + q)) (mO σ (i + j)))) j 0) (fun a => some (fl a)) (mL σ w) (fun n a => by
      show lp_X8_mayBe_10 _ _ _ _ _ _ (n + 1) _ _ = _
      rw [lp_X8_mayBe_10, es, bd_s, if_pos (by rw [q_le (by omega) (by omega)]; omega), gfl]) (fun n j hj => by
      show lp_X8_mayBe_10 _ _ _ _ _ _ (n + 1) _ _ = _
      rw [lp_X8_mayBe_10, es, bd_s, if_neg (by rw [q_le (by omega) (by omega)]; omega), if_pos fl0, gfl]) (fun n j hj => by
      have hl := l26 j hj
      have hlt := letterOf_ hw h hwo hj
      show lp_X8_mayBe_10 _ _ _ _ _ _ (n + 1) _ _ = lp_X8_mayBe_10 _ _ _ _ _ _ n _ _
      rw [lp_X8_mayBe_10, es, bd_s, if_neg (by rw [q_le (by omega) (by omega)]; omega), if_neg (by rw [fl1]; exact one0), q_ad]
      simp only [lt]
      rw [hlt, bd_s, gd_t (q_ib (by omega) hl), q_cl (by omega), h.2.1 _ hl, MhasGrown_ (by omega) hw h (by omega) (shp_lt _), bd_s]
      have ew : (if (if hg (mG σ (i + j)) (shp (mT σ w j)) = true then (1 : Int32) else 0) = 0 then some (0 : Int32) else (f_X8_seenOf fu M b (nI (i + j))).bind fun u10 => (f_X8_readsAs fu M b (u10 ||| nI (shp (mT σ w j)))).bind fun u11 => (some (nI (mT σ w j))).bind fun u12 => if u11 = u12 then some (1 : Int32) else some (0 : Int32)) = some (fl (wdr σ (i + j) (mT σ w j))) := by
        unfold wdr
        by_cases y : hg (mG σ (i + j)) (shp (mT σ w j)) = true
        · rw [if_pos y, if_neg one0, MseenOf_ (by omega) hw h (by omega), bd_s, i_or, MreadsAs_ (by omega) hw h (Nat.or_lt_two_pow (n := 15) (seenx_lt _ _) (shp_lt _)), bd_s, bd_s, y, Bool.true_and]
          by_cases z : rd (mS σ 2) (seenx (mG σ (i + j)) (mS σ 1) ||| shp (mT σ w j)) = nI (mT σ w j)
          · rw [if_pos z, decide_eq_true z]; rfl
          · rw [if_neg z, decide_eq_false z]; rfl
        · have y' : hg (mG σ (i + j)) (shp (mT σ w j)) = false := by simpa using y
          rw [if_neg y, if_pos rfl, y', Bool.false_and]; rfl
      rw [ew, bd_s, li_0, mb87 (by omega) hw h (by omega)]
      rw [nI_1]) fu true 0 (by omega) (by omega)
    rw [Nat.sub_zero] at key
    exact key
  · have q' : room σ w i = false := by simpa using q
    rw [q', Bool.false_and]
    obtain ⟨m, rfl⟩ : ∃ m, fu = m + 1 := ⟨fu - 1, by omega⟩
    rw [lp_X8_mayBe_10, es, bd_s, if_neg (by rw [li_0, q_le (by omega) (by omega)]; omega), if_pos fl0, gfl]
theorem MlostOn_ {l : Nat} (hf : 50 ≤ fu) (hw : Wf σ) (h : MdM b M σ) (hi : i < mN σ) (hl : l < 26) : f_X8_lostOn fu M b (nI i) (nI l) = some (nI (losx σ i l)) := by
  have hN := hw.2.1.1
  have w3 := hw.2.2.1
  have h4 := h.2.2.1
  unfold f_X8_lostOn
  have key := cnt (fun n c => lp_X8_lostOn_5 fu M b (nI i) (nI l) (fun (v9 : Int32) => gd (inb (3 : Int32) 4) (some (((M (b + 5) (3 : Int32).toNatClampNeg) * v9)))) n (nI (sm (losp σ i l) (mG σ i) c)) (nI c)) (some (nI (losx σ i l))) 15 (fun n => by
    show lp_X8_lostOn_5 _ _ _ _ _ _ (n + 1) _ _ = _
    rw [lp_X8_lostOn_5, if_pos (by decide), gd_t (by decide), li_3, q_cl (by omega), h.2.2.2.2.1 3 (by omega), q_mu]
    rfl) (fun n c hc => by
    have hg := (w3 i hi).2 c hc
    have es : sm (losp σ i l) (mG σ i) (c + 1) = sm (losp σ i l) (mG σ i) c + (if losp σ i l c = true then mG σ i c else 0) := rfl
    show lp_X8_lostOn_5 _ _ _ _ _ _ (n + 1) _ _ = lp_X8_lostOn_5 _ _ _ _ _ _ n _ _
    rw [lp_X8_lostOn_5, li_15, if_neg (by rw [q_le (by omega) (by omega)]; omega), q_mu, q_ad, gd_t (q_ib (by omega) (by omega))]
    simp only [lt]
    rw [gd_t (q_ib (by omega) hl), q_cl (a := l) (by omega), h.2.1 l hl, has_ (Nat.lt_of_lt_of_le (shp_lt l) (by omega)) hc, bd_s, q_cl (by omega), (h4 i hi).2 c hc, es]
    unfold losp
    by_cases z : (shp l).testBit c = true
    · rw [if_pos z, if_neg one0, bd_s, z]
      rw [Bool.not_true, Bool.and_false, if_neg Bool.false_ne_true, li_0, q_ad, nI_1]
    · have z' : (shp l).testBit c = false := by simpa using z
      rw [if_neg z, if_pos rfl, z', Bool.not_false, Bool.and_true, li_2]
      by_cases y : 2 < mG σ i c
      · rw [if_neg (by rw [q_le (by omega) (by omega)]; omega), bd_s, decide_eq_true y, if_pos rfl, q_ad, nI_1]
      · rw [if_pos (by rw [q_le (by omega) (by omega)]; omega), bd_s, decide_eq_false y, if_neg Bool.false_ne_true, li_0, q_ad, nI_1]) fu 0 (by omega) (by omega)
  exact key
theorem MlostBy_ (hf : 50 ≤ fu) (hw : Wf σ) (h : MdM b M σ) (hwo : w < mW σ) (hr : i + mL σ w ≤ mN σ) : f_X8_lostBy fu M b (nI w) (nI i) = some (nI (losw σ w i)) := by
  have hN := hw.2.1.1
  obtain ⟨l1, l6, -, l26⟩ := hw.2.2.2.1 w hwo
  have es := sizeOf_ hw h hwo
  unfold f_X8_lostBy
  have key := cnt (fun n j => lp_X8_lostBy_5 fu M b (nI w) (nI i) (fun v6 => some v6) n (nI (sumf (fun j => losx σ (i + j) (mT σ w j)) j)) (nI j)) (some (nI (losw σ w i))) (mL σ w) (fun n => by
    show lp_X8_lostBy_5 _ _ _ _ _ _ (n + 1) _ _ = _
    rw [lp_X8_lostBy_5, es, bd_s, if_pos (by rw [q_le (by omega) (by omega)]; omega)]
    rfl) (fun n j hj => by
    show lp_X8_lostBy_5 _ _ _ _ _ _ (n + 1) _ _ = lp_X8_lostBy_5 _ _ _ _ _ _ n _ _
    rw [lp_X8_lostBy_5, es, bd_s, if_neg (by rw [q_le (by omega) (by omega)]; omega), letterOf_ hw h hwo hj, bd_s, q_ad, MlostOn_ hf hw h (by omega) (l26 j hj), bd_s]
    simp only [lt]
    rw [q_ad, nI_1]
    rfl) fu 0 (by omega) (by omega)
  exact key
end MD
theorem fl_ {a : Bool} : (if fl a = 0 then some (0 : Int32) else some (1 : Int32)) = some (if a = true then 1 else 0) := by
  cases a
  · rw [if_pos fl0, if_neg Bool.false_ne_true]
  · rw [if_neg (by rw [fl1]; exact one0), if_pos rfl]
theorem X8_written_ (hf : 50 ≤ fu) (h : RM b M s) (a d : Int32) : f_X8_written fu M b a d = some (sp_written s a d) := by
  unfold f_X8_written sp_written
  have hN := h.1.1.2.1.1
  have hW := h.1.1.2.1.2
  rcases rg a (mW s.1) (by omega) with ⟨w, hw, rfl⟩ | ha
  · rw [ifr_t hw (by omega), MisWord_t h hw, bd_s, if_neg one0]
    rcases rg d (mN s.1) (by omega) with ⟨i, hi, rfl⟩ | hb
    · rw [ifr_t hi (by omega), MisStrip_t h hi, bd_s, if_neg one0, MisWritten_ hf h.1.1 h.2.1 hw hi, bd_s, fl_]
    · rw [ifr_f (by omega) hb, MisStrip_f h hb, bd_s, if_pos rfl]
  · rw [ifr_f (by omega) ha, MisWord_f h ha, bd_s, if_pos rfl]
theorem X8_may_ (hf : 100 ≤ fu) (h : RM b M s) (a d : Int32) : f_X8_may fu M b a d = some (sp_may s a d) := by
  unfold f_X8_may sp_may
  have hN := h.1.1.2.1.1
  have hW := h.1.1.2.1.2
  rcases rg a (mW s.1) (by omega) with ⟨w, hw, rfl⟩ | ha
  · rw [ifr_t hw (by omega), MisWord_t h hw, bd_s, if_neg one0]
    rcases rg d (mN s.1) (by omega) with ⟨i, hi, rfl⟩ | hb
    · rw [ifr_t hi (by omega), MisStrip_t h hi, bd_s, if_neg one0, MmayBe_ hf h.1.1 h.2.1 hw hi, bd_s, fl_]
    · rw [ifr_f (by omega) hb, MisStrip_f h hb, bd_s, if_pos rfl]
  · rw [ifr_f (by omega) ha, MisWord_f h ha, bd_s, if_pos rfl]
theorem X8_lost_ (hf : 50 ≤ fu) (h : RM b M s) (a d : Int32) : f_X8_lost fu M b a d = some (sp_lost s a d) := by
  unfold f_X8_lost sp_lost
  have hN := h.1.1.2.1.1
  have hW := h.1.1.2.1.2
  rcases rg a (mW s.1) (by omega) with ⟨w, hw, rfl⟩ | ha
  · rw [ifr_t hw (by omega), MisWord_t h hw, bd_s, if_neg one0]
    rcases rg d (mN s.1) (by omega) with ⟨i, hi, rfl⟩ | hb
    · rw [ifr_t hi (by omega), MisStrip_t h hi, bd_s, if_neg one0, MhasRoom_ h.1.1 h.2.1 hw hi, bd_s]
      cases q : room s.1 w i with
      | true => rw [if_neg (by rw [fl1]; exact one0), if_pos rfl, MlostBy_ hf h.1.1 h.2.1 hw (of_decide_eq_true q), bd_s]
      | false => rw [if_pos fl0, if_neg Bool.false_ne_true]
    · rw [ifr_f (by omega) hb, MisStrip_f h hb, bd_s, if_pos rfl]
  · rw [ifr_f (by omega) ha, MisWord_f h ha, bd_s, if_pos rfl]
end PUB
