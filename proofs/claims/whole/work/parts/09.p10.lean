def fdS (σ : Md) (x y : Nat) (v : Bool) : Md := (mS σ, mN σ, mO σ, mG σ, mW σ, mL σ, mP σ, mT σ, fun p q => if (p = x ∧ q = y) ∨ (p = y ∧ q = x) then v else mF σ p q, mH σ)
def fcn (σ : Md) : Nat := sumf (fun a => sumf (fun c => if mF σ a c = true then 1 else 0) 6) 6
def hsm (f : Nat → Int32) : Nat → Int32
  | 0 => 0
  | n + 1 => hsm f n + f n
def wrk (σ : Md) (n w i : Nat) : Bool := wrG (mS σ 2) σ (fun q => seenW (mG σ q) (mS σ 1) (mS σ 0) n) w i
def wri (σ : Md) (w i : Nat) : Bool := wrG (mS σ 2) σ (fun q => seenx (mG σ q) (mS σ 1)) w i
theorem wrk_0 {σ : Md} {w i : Nat} : wrk σ 0 w i = wri σ w i := by
  unfold wrk wri
  congr 1
  funext q
  exact seenW_0 _ _ _
def ltd (r : Option (Nat × Nat)) (d : Nat) : Bool := match r with
  | none => true
  | some b => decide (d < b.2)
def nrs (σ : Md) (i : Nat) : Nat → Option (Nat × Nat)
  | 0 => none
  | n + 1 => if (room σ n i && ltd (nrs σ i n) (diffw σ n i)) = true then some (n, diffw σ n i) else nrs σ i n
def fnw (σ : Md) (w i : Nat) : Nat → Nat → Option Nat
  | 0, _ => none
  | k + 1, n => if wrk σ n w i = true then fnw σ w i k (n + 1) else some n
def wrS (σ : Md) (w i : Nat) : Nat → Md × Nat
  | 0 => (σ, 0)
  | n + 1 => (hvS (wrS σ w i n).1 (i + n) (shp (mT σ w n)), (wrS σ w i n).2 + sm (fun c => (shp (mT σ w n)).testBit c) (mG (wrS σ w i n).1 (i + n)) 15)
def sp_told (s : Sg) (a b : Int32) : Int32 := ifr a (mW s.1) (fun w => if (-2 : Int32) ≤ b then (if b = -2 then nI (mP s.1 w) else if b = -1 then nI (mL s.1 w) else ifr b (mL s.1 w) (fun j => nI (mT s.1 w j)) (-4)) else -1) (-1)
def sp_pay (s : Sg) (a b : Int32) : Int32 × Sg := ifr a (mW s.1) (fun w => ifr b 100 (fun v => (nI (mP s.1 w), (pyS s.1 w v, s.2))) (-1, s)) (-1, s)
def sp_feud (s : Sg) (a b d : Int32) : Int32 × Sg := ifr a 6 (fun x => ifr b 6 (fun y => if x = y then (-1, s) else (nI (if mF s.1 x y = true then 1 else 0), (fdS s.1 x y (decide (¬ d = 0)), s.2))) (-1, s)) (-1, s)
def sp_count (s : Sg) (a : Int32) : Int32 := if a = 0 then nI (mN s.1) else if a = 1 then nI (mW s.1) else if a = 2 then nI (fcn s.1 / 2) else if a = 3 then hsm (mH s.1) 6 else -1
def sp_written (s : Sg) (a b : Int32) : Int32 := ifr a (mW s.1) (fun w => ifr b (mN s.1) (fun i => if wri s.1 w i = true then 1 else 0) (-1)) (-1)
def sp_may (s : Sg) (a b : Int32) : Int32 := ifr a (mW s.1) (fun w => ifr b (mN s.1) (fun i => if alw s.1 w i = true then 1 else 0) (-1)) (-1)
def sp_lost (s : Sg) (a b : Int32) : Int32 := ifr a (mW s.1) (fun w => ifr b (mN s.1) (fun i => if room s.1 w i = true then nI (losw s.1 w i) else -2) (-1)) (-1)
def sp_nearest (s : Sg) (a b : Int32) : Int32 := ifr a (mN s.1) (fun i => ifr b 2 (fun x => match nrs s.1 i (mW s.1) with
  | none => -4
  | some r => if x = 0 then nI r.1 else nI r.2) (-1)) (-1)
def sp_write (s : Sg) (a b : Int32) : Int32 × Sg := ifr a (mW s.1) (fun w => ifr b (mN s.1) (fun i => if alw s.1 w i = true then (nI (wrS s.1 w i (mL s.1 w)).2, ((wrS s.1 w i (mL s.1 w)).1, s.2)) else (-2, s)) (-1, s)) (-1, s)
def sp_share (s : Sg) (a b d : Int32) : Int32 := ifr a (mW s.1) (fun w => ifr b (mN s.1) (fun i => ifr d 6 (fun x => if room s.1 w i = true then (if losw s.1 w i ≤ mP s.1 w then nI (sumf (shf s.1 w i x (mP s.1 w - losw s.1 w i)) (mL s.1 w)) else -2) else -2) (-1)) (-1)) (-1)
def sp_fades (s : Sg) (a b : Int32) : Int32 := ifr a (mW s.1) (fun w => ifr b (mN s.1) (fun i => if wri s.1 w i = true then pbv (fnw s.1 w i 30 1) else -2) (-1)) (-1)
def sp_brief (s : Sg) (a : Int32) : Int32 := ifr a (mW s.1) (fun w => pbv (brf s.1 w (2 ^ mL s.1 w - 1))) (-1)
def sp_image (s : Sg) : Int32 × Sg := (1, (s.1, some s.1, s.2.2))
def sp_restore (s : Sg) : Int32 × Sg := match s.2.1 with
  | none => (-4, s)
  | some σk => (1, (σk, s.2))
section PUB
variable {fu o : Nat} {M : Mem} {s : Sg}
theorem X7_told_ (h : RC o M s) (a b : Int32) : f_X7_told M o a b = some (sp_told s a b) := by
  unfold f_X7_told sp_told
  have hN := h.1.1.2.1.2
  rcases rg a (mW s.1) (by omega) with ⟨w, hw, rfl⟩ | ha
  · obtain ⟨l1, l2, l3, l4⟩ := h.1.1.2.2.2.1 w hw
    obtain ⟨g1, g2, g3⟩ := h.2.1.2.2.2.2.2 w hw
    rw [ifr_t hw (by omega), isWord_t h hw, bd_s, if_neg one0]
    by_cases q : (-2 : Int32) ≤ b
    · rw [if_pos q, if_pos q, gd_t (q_ib (by omega) (by omega)), q_cl (by omega)]
      simp only [lt]
      by_cases q2 : b = -2
      · rw [if_pos q2, if_pos q2, g2]
      · rw [if_neg q2, if_neg q2]
        by_cases q3 : b = -1
        · rw [if_pos q3, if_pos q3, g1]
        · rw [if_neg q3, if_neg q3, g1]
          rcases rg b (mL s.1 w) (by omega) with ⟨j, hj, rfl⟩ | hb
          · rw [ifr_t hj (by omega), if_neg (by rw [q_le (by omega) (by omega)]; omega), gd_t (q_ib (by omega) (by omega)), q_cl (by omega), g3 j hj]
          · rw [ifr_f (by omega) hb, if_pos]
            have hn := rg_no (by omega) hb
            rw [Int32.le_iff_toInt_le, nI_toInt (by omega)]
            rw [Int32.le_iff_toInt_le, show (-2 : Int32).toInt = -2 by decide] at q
            have z2 : b.toInt ≠ -2 := fun z => q2 (Int32.toInt_inj.mp (by rw [z]; decide))
            have z3 : b.toInt ≠ -1 := fun z => q3 (Int32.toInt_inj.mp (by rw [z]; decide))
            omega
    · rw [if_neg q, if_neg q]
  · rw [ifr_f (by omega) ha, isWord_f h ha, bd_s, if_pos rfl]
theorem pyS_wf {σ : Md} {w v : Nat} (hw : Wf σ) (hv : v ≤ 99) : Wf (pyS σ w v) := by
  obtain ⟨h1, h2, h3, h4, h5⟩ := hw
  refine ⟨h1, h2, h3, fun q hq => ⟨(h4 q hq).1, (h4 q hq).2.1, ?_, (h4 q hq).2.2.2⟩, h5⟩
  show (if q = w then v else mP σ q) ≤ 99
  split
  · exact hv
  · exact (h4 q hq).2.2.1
theorem X7_pay_ (h : RC o M s) (a b : Int32) : ∃ M', f_X7_pay M o a b = some ((sp_pay s a b).1, M') ∧ RC o M' (sp_pay s a b).2 := by
  unfold f_X7_pay sp_pay
  have hN := h.1.1.2.1.2
  rcases rg a (mW s.1) (by omega) with ⟨w, hw, rfl⟩ | ha
  · obtain ⟨g1, g2, g3⟩ := h.2.1.2.2.2.2.2 w hw
    rw [ifr_t hw (by omega), isWord_t h hw, bd_s, if_neg one0]
    rcases rg b 100 (by omega) with ⟨v, hv, rfl⟩ | hb
    · rw [ifr_t hv (by omega), if_neg (nI_pos (by omega)), if_pos (by rw [li_99, q_le (by omega) (by omega)]; omega), gd_t (q_ib (by omega) (by omega)), q_cl (by omega)]
      simp only [lt]
      rw [gd_t (q_ib (by omega) (by omega)), g2]
      obtain ⟨⟨h1, h2⟩, h3, h4, h5, h6, h7⟩ := id h.2.1
      obtain ⟨-, ⟨w1, w2⟩, -⟩ := id h.1.1
      refine ⟨up M (o + 1 + 3 + 21 + 2 * w) 1 (nI v), rfl, h.md ⟨⟨?_, ?_⟩, fun q hq => ?_, fun q hq => ?_, fun q hq => ?_, fun q hq => ?_, fun q hq => ?_⟩ (pyS_wf h.1.1 (by omega)) (fun q hq => up_k (by omega))⟩
      · rw [up_k (by omega)]; exact h1
      · rw [up_k (by omega)]; exact h2
      · rw [up_k (by omega)]; exact h3 q hq
      · rw [up_k (by omega)]; exact h4 q hq
      · rw [up_k (by omega)]; exact h5 q hq
      · have hq' : q < mN s.1 := hq
        exact ⟨by rw [up_k (by omega)]; exact (h6 q hq).1, fun c hc => by rw [up_k (by omega)]; exact (h6 q hq).2 c hc⟩
      · have hq' : q < mW s.1 := hq
        refine ⟨?_, ?_, fun j hj => by rw [up_k (by omega)]; exact (h7 q hq).2.2 j hj⟩
        · by_cases e : q = w
          · subst e; rw [up_j (by omega)]; exact (h7 q hq).1
          · rw [up_k (by omega)]; exact (h7 q hq).1
        · show _ = nI (if q = w then v else mP s.1 q)
          by_cases e : q = w
          · subst e; rw [up_at, if_pos rfl]
          · rw [up_k (by omega), if_neg e]; exact (h7 q hq).2.1
    · rw [ifr_f (by omega) hb]
      refine ⟨M, ?_, h⟩
      have hn := rg_no (by omega) hb
      by_cases q : b < 0
      · rw [if_pos q]
      · rw [if_neg q, if_neg]
        rw [Int32.lt_iff_toInt_lt, Int32.toInt_zero] at q
        rw [li_99, Int32.le_iff_toInt_le, nI_toInt (by omega)]
        omega
  · rw [ifr_f (by omega) ha, isWord_f h ha, bd_s, if_pos rfl]
    exact ⟨M, rfl, h⟩
theorem X7_written_ (hf : 50 ≤ fu) (h : RC o M s) (a b : Int32) : f_X7_written fu M o a b = some (sp_written s a b) := by
  unfold f_X7_written sp_written
  have hN := h.1.1.2.1.1
  have hW := h.1.1.2.1.2
  rcases rg a (mW s.1) (by omega) with ⟨w, hw, rfl⟩ | ha
  · rw [ifr_t hw (by omega), isWord_t h hw, bd_s, if_neg one0]
    rcases rg b (mN s.1) (by omega) with ⟨i, hi, rfl⟩ | hb
    · have e := isWritten_ (w := w) (i := i) (wk := 0) hf h.1.1 h.2.1 hw hi (by omega)
      rw [ifr_t hi (by omega), isStrip_t h hi, bd_s, if_neg one0, gd_t (q_ib (by omega) (by omega)), q_cl (by omega), li_0, e, bd_s]
      show (if (if wrk s.1 0 w i = true then (1 : Int32) else 0) = 0 then _ else _) = _
      rw [wrk_0]
      by_cases q : wri s.1 w i = true
      · rw [if_pos q, if_neg one0, if_pos q]
      · rw [if_neg q, if_pos rfl, if_neg q]
    · rw [ifr_f (by omega) hb, isStrip_f h hb, bd_s, if_pos rfl]
  · rw [ifr_f (by omega) ha, isWord_f h ha, bd_s, if_pos rfl]
theorem X7_may_ (hf : 50 ≤ fu) (h : RC o M s) (a b : Int32) : f_X7_may fu M o a b = some (sp_may s a b) := by
  unfold f_X7_may sp_may
  have hN := h.1.1.2.1.1
  have hW := h.1.1.2.1.2
  rcases rg a (mW s.1) (by omega) with ⟨w, hw, rfl⟩ | ha
  · rw [ifr_t hw (by omega), isWord_t h hw, bd_s, if_neg one0]
    rcases rg b (mN s.1) (by omega) with ⟨i, hi, rfl⟩ | hb
    · rw [ifr_t hi (by omega), isStrip_t h hi, bd_s, if_neg one0, gd_t (q_ib (by omega) (by omega)), q_cl (by omega), isAllowed_ hf h.1.1 h.2.1 hw hi, bd_s]
      by_cases q : alw s.1 w i = true
      · rw [if_pos q, if_neg one0]
      · rw [if_neg q, if_pos rfl]
    · rw [ifr_f (by omega) hb, isStrip_f h hb, bd_s, if_pos rfl]
  · rw [ifr_f (by omega) ha, isWord_f h ha, bd_s, if_pos rfl]
theorem X7_lost_ (hf : 50 ≤ fu) (h : RC o M s) (a b : Int32) : f_X7_lost fu M o a b = some (sp_lost s a b) := by
  unfold f_X7_lost sp_lost
  have hN := h.1.1.2.1.1
  have hW := h.1.1.2.1.2
  rcases rg a (mW s.1) (by omega) with ⟨w, hw, rfl⟩ | ha
  · rw [ifr_t hw (by omega), isWord_t h hw, bd_s, if_neg one0]
    rcases rg b (mN s.1) (by omega) with ⟨i, hi, rfl⟩ | hb
    · rw [ifr_t hi (by omega), isStrip_t h hi, bd_s, if_neg one0, gd_t (q_ib (by omega) (by omega)), q_cl (by omega), hasRoom_ h.1.1 h.2.1 hw hi, bd_s]
      by_cases q : room s.1 w i = true
      · rw [if_pos q, if_neg one0, if_pos q, gd_t (q_ib (by omega) (by omega)), lossBy_ hf h.1.1 h.2.1 hw (of_decide_eq_true q), bd_s]
      · rw [if_neg q, if_pos rfl, if_neg q]
    · rw [ifr_f (by omega) hb, isStrip_f h hb, bd_s, if_pos rfl]
  · rw [ifr_f (by omega) ha, isWord_f h ha, bd_s, if_pos rfl]
theorem X7_share_ (hf : 50 ≤ fu) (h : RC o M s) (a b d : Int32) : f_X7_share fu M o a b d = some (sp_share s a b d) := by
  unfold f_X7_share sp_share
  have hN := h.1.1.2.1.1
  have hW := h.1.1.2.1.2
  rcases rg a (mW s.1) (by omega) with ⟨w, hw, rfl⟩ | ha
  · rw [ifr_t hw (by omega), isWord_t h hw, bd_s, if_neg one0]
    rcases rg b (mN s.1) (by omega) with ⟨i, hi, rfl⟩ | hb
    · rw [ifr_t hi (by omega), isStrip_t h hi, bd_s, if_neg one0, li_6]
      rcases rg d 6 (by omega) with ⟨x, hx, rfl⟩ | hd
      · rw [ifr_t hx (by omega), isb_t hx (by omega), bd_s, if_neg one0, gd_t (q_ib (by omega) (by omega)), q_cl (by omega)]
        simp only [lt]
        rw [hasRoom_ h.1.1 h.2.1 hw hi, bd_s]
        by_cases q : room s.1 w i = true
        · have hr : i + mL s.1 w ≤ mN s.1 := of_decide_eq_true q
          have l1 := losw_le h.1.1 hw hr
          have l2 := (h.1.1.2.2.2.1 w hw).2.2.1
          rw [if_pos q, if_neg one0, if_pos q, lossBy_ hf h.1.1 h.2.1 hw hr, bd_s, (h.2.1.2.2.2.2.2 w hw).2.1]
          by_cases z : losw s.1 w i ≤ mP s.1 w
          · rw [if_pos z, q_sb z, if_pos (nI_pos' (by omega)), shareOf_ hf h.1.1 h.2.1 hw hr hx (by omega), bd_s]
          · rw [if_neg z, if_neg]
            have := pk_sneg (a := mP s.1 w) (b := losw s.1 w i) (by omega) (by omega)
            exact Int32.not_le.mpr this
        · rw [if_neg q, if_pos rfl, if_neg q]
      · rw [ifr_f (by omega) hd, isb_f (by omega) hd, bd_s, if_pos rfl]
    · rw [ifr_f (by omega) hb, isStrip_f h hb, bd_s, if_pos rfl]
  · rw [ifr_f (by omega) ha, isWord_f h ha, bd_s, if_pos rfl]
theorem X7_fades_ (hf : 50 ≤ fu) (h : RC o M s) (a b : Int32) : f_X7_fades fu M o a b = some (sp_fades s a b) := by
  unfold f_X7_fades sp_fades
  have hN := h.1.1.2.1.1
  have hW := h.1.1.2.1.2
  rcases rg a (mW s.1) (by omega) with ⟨w, hw, rfl⟩ | ha
  · rw [ifr_t hw (by omega), isWord_t h hw, bd_s, if_neg one0]
    rcases rg b (mN s.1) (by omega) with ⟨i, hi, rfl⟩ | hb
    · have e := isWritten_ (w := w) (i := i) (wk := 0) hf h.1.1 h.2.1 hw hi (by omega)
      rw [ifr_t hi (by omega), isStrip_t h hi, bd_s, if_neg one0, gd_t (q_ib (by omega) (by omega)), q_cl (by omega)]
      simp only [lt]
      rw [li_0, e, bd_s]
      show (if (if wrk s.1 0 w i = true then (1 : Int32) else 0) = nI 0 then _ else _) = _
      rw [wrk_0]
      by_cases q : wri s.1 w i = true
      · rw [if_pos q, if_neg (by decide), if_pos q]
        have key : ∀ n k, 1 ≤ k → k ≤ 31 → 31 - k < n → lp_X7_fades_47 fu M o (nI i) (o + 1 + 3 + 21 + 2 * w) (fun _ => some (-4)) n (nI k) = some (pbv (fnw s.1 w i (31 - k) k)) := by
          intro n
          induction n with
          | zero => intro k _ _ h; omega
          | succ n ih =>
            intro k h1 h2 hn
            rw [lp_X7_fades_47]
            by_cases z : k = 31
            · subst z
              rw [if_pos (by rw [li_30, q_lt (by omega) (by omega)]; omega)]
              rfl
            · have e2 := isWritten_ (w := w) (i := i) (wk := k) hf h.1.1 h.2.1 hw hi (by omega)
              rw [if_neg (by rw [li_30, q_lt (by omega) (by omega)]; omega), e2, bd_s, show 31 - k = (31 - (k + 1)) + 1 by omega]
              show (if (if wrk s.1 k w i = true then (1 : Int32) else 0) = 0 then _ else _) = _
              unfold fnw
              by_cases y : wrk s.1 k w i = true
              · rw [if_pos y, if_neg one0, if_pos y]
                simp only [lt]
                rw [li_1, q_ad]
                exact ih (k + 1) (by omega) (by omega) (by omega)
              · rw [if_neg y, if_pos rfl, if_neg y]
                rfl
        exact key fu 1 (by omega) (by omega) (by omega)
      · rw [if_neg q, if_pos (show (0 : Int32) = nI 0 from rfl), if_neg q]
    · rw [ifr_f (by omega) hb, isStrip_f h hb, bd_s, if_pos rfl]
  · rw [ifr_f (by omega) ha, isWord_f h ha, bd_s, if_pos rfl]
theorem X7_image_ (hf : 50 ≤ fu) (h : RC o M s) : ∃ M', f_X7_image fu M o = some ((sp_image s).1, M') ∧ RC o M' (sp_image s).2 := by
  obtain ⟨w, m, k, t, sh, od⟩ := id h
  obtain ⟨M', e, h1, h2⟩ := mcopy (k0 := o + 45) (k1 := o + 1) hf w.1 m (by omega)
  unfold f_X7_image sp_image
  rw [e, bd_s]
  refine ⟨up M' o 2 1, rfl, ⟨w.1, fun σk hk => by cases hk; exact w.1, w.2.2⟩, m.frame (fun a p1 p2 => by rw [up_k (by omega)]; exact h2 a (by omega)) w.1, ⟨up_at, h1.frame (fun a p1 p2 => up_k (by omega)) w.1⟩, ⟨by rw [up_k (by omega), h2 _ (by omega)]; exact t.1, fun j hj => by rw [up_k (by omega), h2 _ (by omega)]; exact t.2 j hj⟩, fun q hq => ?_, od.frame (fun a p1 p2 => by rw [up_k (by omega)]; exact h2 a (by omega))⟩
  rw [up_k (by omega), up_k (by omega), h2 _ (by omega), h2 _ (by omega)]
  exact sh q hq
theorem X7_restore_ (hf : 50 ≤ fu) (h : RC o M s) : ∃ M', f_X7_restore fu M o = some ((sp_restore s).1, M') ∧ RC o M' (sp_restore s).2 := by
  obtain ⟨w, m, k, t, sh, od⟩ := id h
  unfold f_X7_restore sp_restore
  revert k
  cases e : s.2.1 with
  | none =>
    intro k
    have k' : M o 2 = 0 := k
    rw [if_pos k']
    exact ⟨M, rfl, h⟩
  | some σk =>
    intro k
    obtain ⟨k1, k2⟩ : M o 2 = 1 ∧ MdC (o + 45) M σk := k
    have wk := w.2.1 σk e
    obtain ⟨M', e2, h1, h2⟩ := mcopy (k0 := o + 1) (k1 := o + 45) hf wk k2 (by omega)
    rw [if_neg (by rw [k1]; decide), e2, bd_s]
    exact ⟨M', rfl, h.md h1 wk h2⟩
end PUB
