/-! the whole state: meadow, image, tape, sheets (lanes, lengths, items) -/
abbrev Sg : Type := Md × Option Md × (Nat × (Nat → Nat)) × ((Nat → Nat) × (Nat → Nat) × (Nat → Nat → Int32))
def lnv (c : Nat) : Int32 := if c = 3 then -1 else nI c
def WfS (Z : Sg) : Prop := Wf Z.1 ∧ (∀ σk, Z.2.1 = some σk → Wf σk) ∧ (Z.2.2.1.1 ≤ 80 ∧ ∀ j, j < Z.2.2.1.1 → 32 ≤ Z.2.2.1.2 j ∧ Z.2.2.1.2 j ≤ 126) ∧ ∀ q, q < 4 → Z.2.2.2.1 q ≤ 3 ∧ Z.2.2.2.2.1 q ≤ 24
def KpC (o : Nat) (M : Mem) (kp : Option Md) : Prop := match kp with
  | none => M o 2 = 0
  | some σk => M o 2 = 1 ∧ MdC (o + 45) M σk
def TpC (o : Nat) (M : Mem) (t : Nat × (Nat → Nat)) : Prop := M (o + 158) 1 = nI t.1 ∧ ∀ j, j < t.1 → M (o + 158 + 1) j = nI (t.2 j)
def ShC (o : Nat) (M : Mem) (s : (Nat → Nat) × (Nat → Nat) × (Nat → Nat → Int32)) : Prop := ∀ q, q < 4 → M (o + 170 + 1 + 2 * q) 0 = lnv (s.1 q) ∧ M (o + 170 + 1 + 2 * q) 1 = nI (s.2.1 q) ∧ ∀ j, j < 24 → M (o + 170 + 1 + 2 * q + 1) j = s.2.2 q j
/-- the class's object at o -/
def RC (o : Nat) (M : Mem) (Z : Sg) : Prop := WfS Z ∧ MdC (o + 1) M Z.1 ∧ KpC o M Z.2.1 ∧ TpC o M Z.2.2.1 ∧ ShC o M Z.2.2.2 ∧ OdC o M
theorem KpC.frame {o : Nat} {M M1 : Mem} {Z : Sg} (h : KpC o M Z.2.1) (hw : WfS Z) (h0 : M1 o = M o) (he : ∀ a, o + 45 ≤ a → a < o + 89 → M1 a = M a) : KpC o M1 Z.2.1 := by
  revert h
  cases e : Z.2.1 with
  | none => intro h; show M1 o 2 = 0; rw [h0]; exact h
  | some σk => intro h; exact ⟨by rw [h0]; exact h.1, h.2.frame (fun a h1 h2 => he a h1 (by omega)) (hw.2.1 σk e)⟩
theorem RC.md {o : Nat} {M M1 : Mem} {Z : Sg} {σ' : Md} (h : RC o M Z) (h1 : MdC (o + 1) M1 σ') (hw : Wf σ') (hF : Fr (o + 1) M M1) : RC o M1 (σ', Z.2) := by
  obtain ⟨w, -, k, t, s, od⟩ := h
  refine ⟨⟨hw, w.2⟩, h1, k.frame w (hF o (by omega)) (fun a h1 h2 => hF a (by omega)), ⟨by rw [hF _ (by omega)]; exact t.1, fun j hj => by rw [hF _ (by omega)]; exact t.2 j hj⟩, fun q hq => ?_, od.frame (fun a h1 h2 => hF a (by omega))⟩
  rw [hF _ (by omega), hF _ (by omega)]
  exact s q hq
/-- what does not touch what is told: rows and the tape's own numbers -/
theorem RC.frame {o : Nat} {M M1 : Mem} {Z : Sg} (h : RC o M Z) (hF : ∀ a, (a < o + 89 ∨ (o + 102 ≤ a ∧ a < o + 158) ∨ o + 170 ≤ a) → M1 a = M a) (ht : TpC o M1 Z.2.2.1) : RC o M1 Z := by
  obtain ⟨w, m, k, t, s, od⟩ := h
  refine ⟨w, m.frame (fun a h1 h2 => hF a (by omega)) w.1, k.frame w (hF o (by omega)) (fun a h1 h2 => hF a (by omega)), ht, fun q hq => ?_, od.frame (fun a h1 h2 => hF a (by omega))⟩
  rw [hF _ (by omega), hF _ (by omega)]
  exact s q hq
/-- in range: f at the place, else e -/
def ifr {α : Type} (a : Int32) (n : Nat) (f : Nat → α) (e : α) : α := if inb a n = true then f a.toNatClampNeg else e
theorem ifr_t {α : Type} {i n : Nat} {f : Nat → α} {e : α} (h : i < n) (hn : n < 2147483648) : ifr (nI i) n f e = f i := by
  unfold ifr
  rw [if_pos (q_ib (by omega) h), q_cl (by omega)]
theorem ifr_f {α : Type} {a : Int32} {n : Nat} {f : Nat → α} {e : α} (hn : n < 2147483648) (h : ∀ j, j < n → a ≠ nI j) : ifr a n f e = e := by
  unfold ifr
  rw [if_neg]
  intro q
  have h2 := inb_vp q
  rw [vp_in_iff] at h2
  exact rg_no hn h h2
def stS (σ : Md) (j v : Nat) : Md := (fun q => if q = j then v else mS σ q, mN σ, mO σ, mG σ, mW σ, mL σ, mP σ, mT σ, mF σ, mH σ)
def hiS (j : Nat) : Nat := [5, 8, 7, 9].getD j 0
theorem vHi_ : ∀ j, j < 4 → vHi j = nI (hiS j) ∧ hiS j ≤ 9 := by decide +kernel
def flS (σ : Md) (i c v : Nat) : Md := wG σ (fun a b => if a = i ∧ b = c then v else mG σ a b)
def pyS (σ : Md) (w v : Nat) : Md := (mS σ, mN σ, mO σ, mG σ, mW σ, mL σ, fun q => if q = w then v else mP σ q, mT σ, mF σ, mH σ)
def sp_strip (s : Sg) (a : Int32) : Int32 × Sg := ifr a 6 (fun j => if mN s.1 < 9 then (nI (mN s.1), (adS s.1 j, s.2)) else (-3, s)) (-1, s)
def sp_set (s : Sg) (a b : Int32) : Int32 × Sg := ifr a 4 (fun j => ifr b (hiS j + 1) (fun v => (nI (mS s.1 j), (stS s.1 j v, s.2))) (-1, s)) (-1, s)
def sp_grass (s : Sg) (a b : Int32) : Int32 := ifr a (mN s.1) (fun i => ifr b 15 (fun c => nI (mG s.1 i c)) (-1)) (-1)
def sp_letter (a : Int32) : Int32 := ifr a 26 (fun l => nI (shp l)) (-1)
def sp_seen (s : Sg) (a : Int32) : Int32 := ifr a (mN s.1) (fun i => nI (seenx (mG s.1 i) (mS s.1 1))) (-1)
def sp_reads (s : Sg) (a : Int32) : Int32 := ifr a (mN s.1) (fun i => rd (mS s.1 2) (seenx (mG s.1 i) (mS s.1 1))) (-1)
def sp_off (s : Sg) (a : Int32) : Int32 := ifr a (mN s.1) (fun i => nI (offx (seenx (mG s.1 i) (mS s.1 1)))) (-1)
def sp_mow (s : Sg) (a b : Int32) : Int32 × Sg := ifr a (mN s.1) (fun i => ifr b 26 (fun l => if hg (mG s.1 i) (shp l) = true then (nI (sm (fun c => (shp l).testBit c) (mG s.1 i) 15), (hvS s.1 i (shp l), s.2)) else (-2, s)) (-1, s)) (-1, s)
def sp_cut (s : Sg) (a : Int32) : Int32 × Sg := ifr a (mN s.1) (fun i => (nI (sm (fun c => (grown (mG s.1 i)).testBit c) (mG s.1 i) 15), (hvS s.1 i (grown (mG s.1 i)), s.2))) (-1, s)
def sp_fault (s : Sg) (a b d : Int32) : Int32 × Sg := ifr a (mN s.1) (fun i => ifr b 15 (fun c => ifr d 2 (fun x => (nI (mG s.1 i c), (flS s.1 i c (if x = 0 then 0 else 9), s.2))) (-1, s)) (-1, s)) (-1, s)
def sp_weeks (s : Sg) (a : Int32) : Int32 × Sg := ifr a 31 (fun n => if n = 0 then (-1, s) else (nI (c9s s.1 (n * mS s.1 0) (mN s.1)), (grP s.1 (n * mS s.1 0) (mN s.1), s.2))) (-1, s)
def sp_hay (s : Sg) (a : Int32) : Int32 := ifr a 6 (fun j => mH s.1 j) (-1)
section PUB
variable {fu o : Nat} {M : Mem} {s : Sg}
theorem isStrip_t {i : Nat} (h : RC o M s) (hi : i < mN s.1) : f_X7_isStrip M o (nI i) = some 1 := by
  have hN := h.1.1.2.1.1
  unfold f_X7_isStrip
  rw [h.2.1.1.1, isb_t hi (by omega), bd_s, gd_t isZ1]
theorem isStrip_f {a : Int32} (h : RC o M s) (ha : ∀ j, j < mN s.1 → a ≠ nI j) : f_X7_isStrip M o a = some 0 := by
  have hN := h.1.1.2.1.1
  unfold f_X7_isStrip
  rw [h.2.1.1.1, isb_f (by omega) ha, bd_s, gd_t isZ0]
theorem isWord_t {i : Nat} (h : RC o M s) (hi : i < mW s.1) : f_X7_isWord M o (nI i) = some 1 := by
  have hN := h.1.1.2.1.2
  unfold f_X7_isWord
  rw [h.2.1.1.2, isb_t hi (by omega), bd_s, gd_t isZ1]
theorem isWord_f {a : Int32} (h : RC o M s) (ha : ∀ j, j < mW s.1 → a ≠ nI j) : f_X7_isWord M o a = some 0 := by
  have hN := h.1.1.2.1.2
  unfold f_X7_isWord
  rw [h.2.1.1.2, isb_f (by omega) ha, bd_s, gd_t isZ0]
theorem X7_strip_ (hf : 50 ≤ fu) (hk : kd (o + 1) = 1) (h : RC o M s) (a : Int32) : ∃ M', f_X7_strip fu M o a = some ((sp_strip s a).1, M') ∧ RC o M' (sp_strip s a).2 := by
  unfold f_X7_strip sp_strip
  have hN := h.1.1.2.1.1
  rcases rg a 6 (by omega) with ⟨j, hj, rfl⟩ | ha
  · rw [ifr_t hj (by omega), li_6, isb_t hj (by omega), bd_s, if_neg one0, h.2.1.1.1]
    by_cases q : mN s.1 < 9
    · obtain ⟨M', e, h1, h2⟩ := addStrip_ (a := j) hf hk h.1.1 h.2.1 q
      rw [if_pos (by rw [li_9, q_lt (by omega) (by omega)]; exact q), if_pos q, e, bd_s]
      refine ⟨M', ?_, h.md h1 (adS_wf h.1.1 hj q) h2⟩
      rw [h1.1.1]
      show some (nI (mN s.1 + 1) - 1, M') = _
      rw [li_1, q_sb (by omega), Nat.add_sub_cancel]
    · rw [if_neg (by rw [li_9, q_lt (by omega) (by omega)]; exact q), if_neg q]
      exact ⟨M, rfl, h⟩
  · rw [ifr_f (by omega) ha, li_6, isb_f (by omega) ha, bd_s, if_pos rfl]
    exact ⟨M, rfl, h⟩
theorem stS_wf {σ : Md} {j v : Nat} (hw : Wf σ) (hj : j < 4) (hv : v ≤ hiS j) : Wf (stS σ j v) := by
  obtain ⟨h1, h2⟩ := hw
  refine ⟨?_, h2⟩
  have h : j = 0 ∨ j = 1 ∨ j = 2 ∨ j = 3 := by omega
  rcases h with rfl | rfl | rfl | rfl
  · exact ⟨hv, h1.2⟩
  · exact ⟨h1.1, hv, h1.2.2⟩
  · exact ⟨h1.1, h1.2.1, hv, h1.2.2.2⟩
  · exact ⟨h1.1, h1.2.1, h1.2.2.1, hv⟩
theorem X7_set_ (h : RC o M s) (a b : Int32) : ∃ M', f_X7_set M o a b = some ((sp_set s a b).1, M') ∧ RC o M' (sp_set s a b).2 := by
  unfold f_X7_set sp_set
  rcases rg a 4 (by omega) with ⟨j, hj, rfl⟩ | ha
  · obtain ⟨v1, v2⟩ := vHi_ j hj
    rw [ifr_t hj (by omega), li_4, isb_t hj (by omega), bd_s, if_neg one0]
    rcases rg b (hiS j + 1) (by omega) with ⟨v, hv, rfl⟩ | hb
    · rw [ifr_t hv (by omega), if_neg (nI_pos (by omega)), gd_t (q_ib (by omega) hj), q_cl (by omega), v1, if_pos (by rw [q_le (by omega) (by omega)]; omega), gd_t (q_ib (by omega) hj)]
      simp only [lt]
      rw [gd_t (q_ib (by omega) hj)]
      obtain ⟨⟨h1, h2⟩, h3, h4, h5, h6, h7⟩ := id h.2.1
      obtain ⟨-, ⟨w1, w2⟩, -⟩ := id h.1.1
      refine ⟨up M (o + 1 + 1) j (nI v), by rw [h3 j hj], h.md ⟨⟨?_, ?_⟩, fun q hq => ?_, fun q hq => ?_, fun q hq => ?_, fun q hq => ?_, fun q hq => ?_⟩ (stS_wf h.1.1 hj (by omega)) (fun q hq => up_k (by omega))⟩
      · rw [up_k (by omega)]; exact h1
      · rw [up_k (by omega)]; exact h2
      · show _ = nI (if q = j then v else mS s.1 q)
        by_cases e : q = j
        · subst e; rw [up_at, if_pos rfl]
        · rw [up_j e, if_neg e]; exact h3 q hq
      · rw [up_k (by omega)]; exact h4 q hq
      · rw [up_k (by omega)]; exact h5 q hq
      · have hq' : q < mN s.1 := hq
        exact ⟨by rw [up_k (by omega)]; exact (h6 q hq).1, fun c hc => by rw [up_k (by omega)]; exact (h6 q hq).2 c hc⟩
      · have hq' : q < mW s.1 := hq
        rw [up_k (by omega), up_k (by omega)]; exact h7 q hq
    · rw [ifr_f (by omega) hb]
      refine ⟨M, ?_, h⟩
      have hn := rg_no (by omega) hb
      by_cases q : b < 0
      · rw [if_pos q]
      · rw [if_neg q, gd_t (q_ib (by omega) hj), q_cl (by omega), v1, if_neg]
        rw [Int32.lt_iff_toInt_lt, Int32.toInt_zero] at q
        rw [Int32.le_iff_toInt_le, nI_toInt (by omega)]
        omega
  · rw [ifr_f (by omega) ha, li_4, isb_f (by omega) ha, bd_s, if_pos rfl]
    exact ⟨M, rfl, h⟩
theorem X7_grass_ (h : RC o M s) (a b : Int32) : f_X7_grass M o a b = some (sp_grass s a b) := by
  unfold f_X7_grass sp_grass
  have hN := h.1.1.2.1.1
  rcases rg a (mN s.1) (by omega) with ⟨i, hi, rfl⟩ | ha
  · rw [ifr_t hi (by omega), isStrip_t h hi, bd_s, if_neg one0, li_15]
    rcases rg b 15 (by omega) with ⟨c, hc, rfl⟩ | hb
    · rw [ifr_t hc (by omega), isb_t hc (by omega), bd_s, if_neg one0, gd_t (q_ib (by omega) (by omega)), gd_t (q_ib (by omega) (by omega)), q_cl (by omega), q_cl (by omega), (h.2.1.2.2.2.2.1 i hi).2 c hc]
    · rw [ifr_f (by omega) hb, isb_f (by omega) hb, bd_s, if_pos rfl]
  · rw [ifr_f (by omega) ha, isStrip_f h ha, bd_s, if_pos rfl]
theorem X7_letter_ (a : Int32) : f_X7_letter M o a = some (sp_letter a) := by
  unfold f_X7_letter sp_letter
  rw [li_26]
  rcases rg a 26 (by omega) with ⟨i, hi, rfl⟩ | ha
  · rw [ifr_t hi (by omega), isb_t hi (by omega), bd_s, if_neg one0, gd_t (q_ib (by omega) hi), q_cl (by omega), v26_ i hi]
  · rw [ifr_f (by omega) ha, isb_f (by omega) ha, bd_s, if_pos rfl]
theorem X7_seen_ (hf : 50 ≤ fu) (h : RC o M s) (a : Int32) : f_X7_seen fu M o a = some (sp_seen s a) := by
  unfold f_X7_seen sp_seen
  have hN := h.1.1.2.1.1
  rcases rg a (mN s.1) (by omega) with ⟨i, hi, rfl⟩ | ha
  · rw [ifr_t hi (by omega), isStrip_t h hi, bd_s, if_neg one0, seenCells_ hf h.1.1 h.2.1 hi, bd_s]
  · rw [ifr_f (by omega) ha, isStrip_f h ha, bd_s, if_pos rfl]
theorem X7_reads_ (hf : 50 ≤ fu) (h : RC o M s) (a : Int32) : f_X7_reads fu M o a = some (sp_reads s a) := by
  unfold f_X7_reads sp_reads
  have hN := h.1.1.2.1.1
  rcases rg a (mN s.1) (by omega) with ⟨i, hi, rfl⟩ | ha
  · rw [ifr_t hi (by omega), isStrip_t h hi, bd_s, if_neg one0, letterOn_ hf h.1.1 h.2.1 hi, bd_s]
  · rw [ifr_f (by omega) ha, isStrip_f h ha, bd_s, if_pos rfl]
theorem X7_off_ (hf : 50 ≤ fu) (h : RC o M s) (a : Int32) : f_X7_off fu M o a = some (sp_off s a) := by
  unfold f_X7_off sp_off
  have hN := h.1.1.2.1.1
  rcases rg a (mN s.1) (by omega) with ⟨i, hi, rfl⟩ | ha
  · have h1 := near_lt (seenx (mG s.1 i) (mS s.1 1))
    have h2 := offx_le (seenx (mG s.1 i) (mS s.1 1))
    rw [ifr_t hi (by omega), isStrip_t h hi, bd_s, if_neg one0, seenCells_ hf h.1.1 h.2.1 hi, bd_s, ck_ (by omega) (seenx_lt _ _), bd_s, gd_t (by decide), li_32, pk_div (by omega) (by omega) (by omega)]
    congr 2
    omega
  · rw [ifr_f (by omega) ha, isStrip_f h ha, bd_s, if_pos rfl]
theorem X7_mow_ (hf : 50 ≤ fu) (h : RC o M s) (a b : Int32) : ∃ M', f_X7_mow fu M o a b = some ((sp_mow s a b).1, M') ∧ RC o M' (sp_mow s a b).2 := by
  unfold f_X7_mow sp_mow
  have hN := h.1.1.2.1.1
  rcases rg a (mN s.1) (by omega) with ⟨i, hi, rfl⟩ | ha
  · rw [ifr_t hi (by omega), isStrip_t h hi, bd_s, if_neg one0, li_26]
    rcases rg b 26 (by omega) with ⟨l, hl, rfl⟩ | hb
    · rw [ifr_t hl (by omega), isb_t hl (by omega), bd_s, if_neg one0, gd_t (q_ib (by omega) (by omega)), gd_t (q_ib (by omega) hl), q_cl (a := l) (by omega), q_cl (a := i) (by omega), v26_ l hl, hasGrown_ (by omega) (h.2.1.2.2.2.2.1 i hi).2 (h.1.1.2.2.1 i hi).2 (shp_lt l), bd_s]
      by_cases q : hg (mG s.1 i) (shp l) = true
      · obtain ⟨M', e, h1, h2⟩ := harvest_ hf h.1.1 h.2.1 hi (shp_lt l)
        rw [if_pos q, if_neg one0, if_pos q, gd_t (q_ib (by omega) hl), e, bd_s]
        exact ⟨M', rfl, h.md h1 (hvS_wf h.1.1) h2⟩
      · rw [if_neg q, if_pos rfl, if_neg q]
        exact ⟨M, rfl, h⟩
    · rw [ifr_f (by omega) hb, isb_f (by omega) hb, bd_s, if_pos rfl]
      exact ⟨M, rfl, h⟩
  · rw [ifr_f (by omega) ha, isStrip_f h ha, bd_s, if_pos rfl]
    exact ⟨M, rfl, h⟩
theorem X7_cut_ (hf : 50 ≤ fu) (h : RC o M s) (a : Int32) : ∃ M', f_X7_cut fu M o a = some ((sp_cut s a).1, M') ∧ RC o M' (sp_cut s a).2 := by
  unfold f_X7_cut sp_cut
  have hN := h.1.1.2.1.1
  rcases rg a (mN s.1) (by omega) with ⟨i, hi, rfl⟩ | ha
  · obtain ⟨M', e, h1, h2⟩ := harvest_ hf h.1.1 h.2.1 hi (grown_lt (mG s.1 i))
    rw [ifr_t hi (by omega), isStrip_t h hi, bd_s, if_neg one0, gd_t (q_ib (by omega) (by omega)), q_cl (by omega), grown_ (by omega) (h.2.1.2.2.2.2.1 i hi).2 (h.1.1.2.2.1 i hi).2, bd_s, e, bd_s]
    exact ⟨M', rfl, h.md h1 (hvS_wf h.1.1) h2⟩
  · rw [ifr_f (by omega) ha, isStrip_f h ha, bd_s, if_pos rfl]
    exact ⟨M, rfl, h⟩
theorem flS_wf {σ : Md} {i c v : Nat} (hw : Wf σ) (hv : v ≤ 9) : Wf (flS σ i c v) := by
  obtain ⟨h1, h2, h3, h4⟩ := hw
  refine ⟨h1, h2, fun a ha => ⟨(h3 a ha).1, fun b hb => ?_⟩, h4⟩
  show (if a = i ∧ b = c then v else mG σ a b) ≤ 9
  split
  · exact hv
  · exact (h3 a ha).2 b hb
/-- one blade set -/
theorem MdC.blade {k i c v : Nat} {M : Mem} {σ : Md} (h : MdC k M σ) (hw : Wf σ) (hi : i < mN σ) : MdC k (up M (k + 2 + 4 + 2 * i + 1) c (nI v)) (flS σ i c v) := by
  obtain ⟨⟨h1, h2⟩, h3, h4, h5, h6, h7⟩ := h
  obtain ⟨-, ⟨w1, w2⟩, -⟩ := hw
  refine ⟨⟨by rw [up_k (by omega)]; exact h1, by rw [up_k (by omega)]; exact h2⟩, fun q hq => by rw [up_k (by omega)]; exact h3 q hq, fun q hq => by rw [up_k (by omega)]; exact h4 q hq, fun q hq => by rw [up_k (by omega)]; exact h5 q hq, fun q hq => ?_, fun q hq => ?_⟩
  · have hq' : q < mN σ := hq
    refine ⟨by rw [up_k (by omega)]; exact (h6 q hq).1, fun b hb => ?_⟩
    show _ = nI (if q = i ∧ b = c then v else mG σ q b)
    by_cases e : q = i
    · subst e
      by_cases e2 : b = c
      · subst e2; rw [up_at, if_pos ⟨rfl, rfl⟩]
      · rw [up_j e2, if_neg (fun z => e2 z.2)]; exact (h6 q hq).2 b hb
    · rw [up_k (by omega), if_neg (fun z => e z.1)]; exact (h6 q hq).2 b hb
  · have hq' : q < mW σ := hq
    rw [up_k (by omega), up_k (by omega)]; exact h7 q hq
theorem X7_fault_ (h : RC o M s) (a b d : Int32) : ∃ M', f_X7_fault M o a b d = some ((sp_fault s a b d).1, M') ∧ RC o M' (sp_fault s a b d).2 := by
  unfold f_X7_fault sp_fault
  have hN := h.1.1.2.1.1
  rcases rg a (mN s.1) (by omega) with ⟨i, hi, rfl⟩ | ha
  · rw [ifr_t hi (by omega), isStrip_t h hi, bd_s, if_neg one0, li_15]
    rcases rg b 15 (by omega) with ⟨c, hc, rfl⟩ | hb
    · rw [ifr_t hc (by omega), isb_t hc (by omega), bd_s, if_neg one0, li_2]
      rcases rg d 2 (by omega) with ⟨x, hx, rfl⟩ | hd
      · rw [ifr_t hx (by omega), isb_t hx (by omega), bd_s, if_neg one0, gd_t (q_ib (by omega) (by omega))]
        simp only [lt]
        have e : (if nI x = 0 then some (0 : Int32) else some (9 : Int32)) = some (nI (if x = 0 then 0 else 9)) := by
          by_cases z : x = 0
          · rw [if_pos (by rw [z]; rfl), if_pos z]; rfl
          · rw [if_neg (by rw [li_0, q_eq (by omega) (by omega)]; exact z), if_neg z]; rfl
        rw [gd_t (q_ib (by omega) hc), e, bd_s, gd_t (q_ib (by omega) hc), q_cl (by omega), q_cl (by omega), (h.2.1.2.2.2.2.1 i hi).2 c hc]
        exact ⟨_, rfl, h.md (h.2.1.blade h.1.1 hi) (flS_wf h.1.1 (by split <;> omega)) (fun q hq => up_k (by omega))⟩
      · rw [ifr_f (by omega) hd, isb_f (by omega) hd, bd_s, if_pos rfl]
        exact ⟨M, rfl, h⟩
    · rw [ifr_f (by omega) hb, isb_f (by omega) hb, bd_s, if_pos rfl]
      exact ⟨M, rfl, h⟩
  · rw [ifr_f (by omega) ha, isStrip_f h ha, bd_s, if_pos rfl]
    exact ⟨M, rfl, h⟩
theorem X7_weeks_ (hf : 50 ≤ fu) (h : RC o M s) (a : Int32) : ∃ M', f_X7_weeks fu M o a = some ((sp_weeks s a).1, M') ∧ RC o M' (sp_weeks s a).2 := by
  unfold f_X7_weeks sp_weeks
  rcases rg a 31 (by omega) with ⟨n, hn, rfl⟩ | ha
  · rw [ifr_t hn (by omega)]
    by_cases z : n = 0
    · rw [if_pos z, if_pos (by rw [li_1, q_lt (by omega) (by omega)]; omega)]
      exact ⟨M, rfl, h⟩
    · obtain ⟨M', e, h1, h2⟩ := growFor_ (w := n) hf h.1.1 h.2.1 (by omega)
      rw [if_neg z, if_neg (by rw [li_1, q_lt (by omega) (by omega)]; omega), if_neg (by rw [li_30, q_lt (by omega) (by omega)]; omega), e, bd_s]
      exact ⟨M', rfl, h.md h1 (grP_wf h.1.1) h2⟩
  · rw [ifr_f (by omega) ha]
    refine ⟨M, ?_, h⟩
    have hn := rg_no (by omega) ha
    by_cases q : a < (1 : Int32)
    · rw [if_pos q]
    · rw [if_neg q, if_pos]
      rw [li_1, Int32.lt_iff_toInt_lt, nI_toInt (by omega)] at q
      rw [li_30, Int32.lt_iff_toInt_lt, nI_toInt (by omega)]
      omega
theorem X7_hay_ (h : RC o M s) (a : Int32) : f_X7_hay M o a = some (sp_hay s a) := by
  unfold f_X7_hay sp_hay
  rw [li_6]
  rcases rg a 6 (by omega) with ⟨i, hi, rfl⟩ | ha
  · rw [ifr_t hi (by omega), isb_t hi (by omega), bd_s, if_neg one0, gd_t (q_ib (by omega) hi), q_cl (by omega), h.2.1.2.2.2.1 i hi]
  · rw [ifr_f (by omega) ha, isb_f (by omega) ha, bd_s, if_pos rfl]
end PUB
