/-! the model's object at b -/
def MdM (b : Nat) (M : Mem) (σ : Md) : Prop := (M b 7 = nI (mN σ) ∧ M b 8 = nI (mW σ)) ∧ (∀ l, l < 26 → M (b + 1) l = nI (shp l)) ∧ (∀ i, i < mN σ → M (b + 2) i = nI (mO σ i) ∧ ∀ c, c < 15 → M (b + 3) (15 * i + c) = nI (mG σ i c)) ∧ (∀ a, a < 6 → M (b + 4) a = mH σ a) ∧ (∀ j, j < 4 → M (b + 5) j = nI (mS σ j)) ∧ (∀ a c, a < 6 → c < 6 → M (b + 6) (6 * a + c) = nI (if mF σ a c = true then 1 else 0)) ∧ ∀ w, w < mW σ → M (b + 7) (8 * w) = nI (mL σ w) ∧ M (b + 7) (8 * w + 1) = nI (mP σ w) ∧ ∀ j, j < mL σ w → M (b + 7) (8 * w + 2 + j) = nI (mT σ w j)
theorem MdM.frame {b : Nat} {M M1 : Mem} {σ : Md} (h : MdM b M σ) (h7 : M1 b 7 = M b 7) (h8 : M1 b 8 = M b 8) (he : ∀ a, b + 1 ≤ a → a ≤ b + 7 → M1 a = M a) : MdM b M1 σ := by
  unfold MdM at h ⊢
  rw [h7, h8, he (b + 1) (by omega) (by omega), he (b + 2) (by omega) (by omega), he (b + 3) (by omega) (by omega), he (b + 4) (by omega) (by omega), he (b + 5) (by omega) (by omega), he (b + 6) (by omega) (by omega), he (b + 7) (by omega) (by omega)]
  exact h
/-- the image -/
def KpM (b : Nat) (M : Mem) (kp : Option Md) : Prop := match kp with
  | none => M b 21 = 0
  | some σ => M b 21 = 1 ∧ M (b + 17) 0 = nI (mN σ) ∧ M (b + 17) 1 = nI (mW σ) ∧ (∀ i, i < mN σ → M (b + 16) i = nI (mO σ i) ∧ ∀ c, c < 15 → M (b + 16) (9 + (15 * i + c)) = nI (mG σ i c)) ∧ (∀ a, a < 6 → M (b + 16) (144 + a) = mH σ a) ∧ (∀ j, j < 4 → M (b + 16) (150 + j) = nI (mS σ j)) ∧ (∀ a c, a < 6 → c < 6 → M (b + 16) (154 + (6 * a + c)) = nI (if mF σ a c = true then 1 else 0)) ∧ ∀ w, w < mW σ → M (b + 16) (190 + 8 * w) = nI (mL σ w) ∧ M (b + 16) (190 + (8 * w + 1)) = nI (mP σ w) ∧ ∀ j, j < mL σ w → M (b + 16) (190 + (8 * w + 2 + j)) = nI (mT σ w j)
theorem KpM.frame {b : Nat} {M M1 : Mem} {kp : Option Md} (h : KpM b M kp) (h1 : M1 b 21 = M b 21) (h2 : M1 (b + 16) = M (b + 16)) (h3 : M1 (b + 17) = M (b + 17)) : KpM b M1 kp := by
  unfold KpM at h ⊢
  rw [h1, h2, h3]
  exact h
def TpM (b : Nat) (M : Mem) (t : Nat × (Nat → Nat)) : Prop := M b 10 = nI t.1 ∧ ∀ j, j < t.1 → M (b + 8) j = nI (t.2 j)
def ShM (b : Nat) (M : Mem) (s : (Nat → Nat) × (Nat → Nat) × (Nat → Nat → Int32)) : Prop := ∀ q, q < 4 → M (b + 18) q = lnv (s.1 q) ∧ M (b + 19) q = nI (s.2.1 q) ∧ ∀ j, j < 24 → M (b + 20) (24 * q + j) = s.2.2 q j
def RM (b : Nat) (M : Mem) (Z : Sg) : Prop := WfS Z ∧ MdM b M Z.1 ∧ KpM b M Z.2.1 ∧ TpM b M Z.2.2.1 ∧ ShM b M Z.2.2.2
/-- tape, image, sheets stay -/
def FrM (b : Nat) (M M1 : Mem) : Prop := (∀ a, (a = b + 8 ∨ b + 16 ≤ a) → M1 a = M a) ∧ M1 b 10 = M b 10 ∧ M1 b 21 = M b 21
theorem FrM.rf {b : Nat} {M : Mem} : FrM b M M := ⟨fun _ _ => rfl, rfl, rfl⟩
theorem FrM.tr {b : Nat} {M M1 M2 : Mem} (h : FrM b M M1) (h2 : FrM b M1 M2) : FrM b M M2 := ⟨fun a ha => (h2.1 a ha).trans (h.1 a ha), h2.2.1.trans h.2.1, h2.2.2.trans h.2.2⟩
theorem RM.md {b : Nat} {M M1 : Mem} {Z : Sg} {σ' : Md} (h : RM b M Z) (h1 : MdM b M1 σ') (hw : Wf σ') (hF : FrM b M M1) : RM b M1 (σ', Z.2) := by
  obtain ⟨w, -, k, t, s⟩ := h
  obtain ⟨f1, f2, f3⟩ := hF
  refine ⟨⟨hw, w.2⟩, h1, k.frame f3 (f1 _ (by omega)) (f1 _ (by omega)), ⟨by rw [f2]; exact t.1, fun j hj => by rw [f1 _ (by omega)]; exact t.2 j hj⟩, fun q hq => ?_⟩
  rw [f1 _ (by omega), f1 _ (by omega), f1 _ (by omega)]
  exact s q hq
theorem i64z : (0 : Int64).toInt = 0 := by decide
theorem in0_t {i n : Nat} {z : Int64} (hn : n < 1000) (hz : z.toInt + 1 = (n : Int)) (h : i < n) : f_X8_in (nI i).toInt64 0 z = some 1 := by
  apply in_t
  · rw [i64z, nI_toInt (by omega)]; omega
  · rw [nI_toInt (by omega)]; omega
theorem in0_f {a : Int32} {n : Nat} {z : Int64} (hn : n < 1000) (hz : z.toInt + 1 = (n : Int)) (h : ∀ j, j < n → a ≠ nI j) : f_X8_in a.toInt64 0 z = some 0 := by
  apply in_f
  rw [i64z]
  have := rg_no (by omega) h
  omega
theorem m1t {n : Nat} (hn : n < 1000) : ((nI n - 1 : Int32).toInt64).toInt + 1 = (n : Int) := by
  rw [t64, li_1, pk_sub_toInt (by omega) (by omega)]
  omega
section PUB
variable {fu b : Nat} {M : Mem} {s : Sg}
theorem MisStrip_t {i : Nat} (h : RM b M s) (hi : i < mN s.1) : f_X8_isStrip M b (nI i) = some 1 := by
  have hN := h.1.1.2.1.1
  unfold f_X8_isStrip
  rw [h.2.1.1.1, in0_t (n := mN s.1) (by omega) (m1t (by omega)) hi, bd_s, gd_t isZ1]
theorem MisStrip_f {a : Int32} (h : RM b M s) (ha : ∀ j, j < mN s.1 → a ≠ nI j) : f_X8_isStrip M b a = some 0 := by
  have hN := h.1.1.2.1.1
  unfold f_X8_isStrip
  rw [h.2.1.1.1, in0_f (n := mN s.1) (by omega) (m1t (by omega)) ha, bd_s, gd_t isZ0]
theorem MisWord_t {i : Nat} (h : RM b M s) (hi : i < mW s.1) : f_X8_isWord M b (nI i) = some 1 := by
  have hN := h.1.1.2.1.2
  unfold f_X8_isWord
  rw [h.2.1.1.2, in0_t (n := mW s.1) (by omega) (m1t (by omega)) hi, bd_s, gd_t isZ1]
theorem MisWord_f {a : Int32} (h : RM b M s) (ha : ∀ j, j < mW s.1 → a ≠ nI j) : f_X8_isWord M b a = some 0 := by
  have hN := h.1.1.2.1.2
  unfold f_X8_isWord
  rw [h.2.1.1.2, in0_f (n := mW s.1) (by omega) (m1t (by omega)) ha, bd_s, gd_t isZ0]
theorem MisCell_t {c : Nat} (hc : c < 15) : f_X8_isCell (nI c) = some 1 := by
  unfold f_X8_isCell
  rw [in0_t (n := 15) (by omega) (by decide) hc, bd_s, gd_t isZ1]
theorem MisCell_f {a : Int32} (ha : ∀ j, j < 15 → a ≠ nI j) : f_X8_isCell a = some 0 := by
  unfold f_X8_isCell
  rw [in0_f (n := 15) (by omega) (by decide) ha, bd_s, gd_t isZ0]
theorem MisLetter_t {c : Nat} (hc : c < 26) : f_X8_isLetter (nI c) = some 1 := by
  unfold f_X8_isLetter
  rw [in0_t (n := 26) (by omega) (by decide) hc, bd_s, gd_t isZ1]
theorem MisLetter_f {a : Int32} (ha : ∀ j, j < 26 → a ≠ nI j) : f_X8_isLetter a = some 0 := by
  unfold f_X8_isLetter
  rw [in0_f (n := 26) (by omega) (by decide) ha, bd_s, gd_t isZ0]
theorem MaddStrip_ {σ : Md} {a : Nat} (hf : 50 ≤ fu) (hw : Wf σ) (h : MdM b M σ) (hn : mN σ < 9) : ∃ M', f_X8_addStrip fu M b (nI a) = some M' ∧ MdM b M' (adS σ a) ∧ FrM b M M' ∧ (∀ q, b + 8 ≤ q → M' q = M q) ∧ ∀ j, j ≠ 7 → M' b j = M b j := by
  obtain ⟨⟨h1, h2⟩, h3, h4, h5, h6, h7, h8⟩ := id h
  unfold f_X8_addStrip
  rw [h1, gd_t (q_ib (by omega) hn), q_cl (by omega)]
  simp only [lt]
  obtain ⟨M1, e1, i1, i2⟩ := cntM (R := Option Mem) (fun n j Mx => lp_X8_addStrip_12 fu b (fun M6 => some (up M6 b 7 ((M6 b 7) + (1 : Int32)))) n (nI j) Mx) (fun j Mx => (∀ q, q ≠ b + 3 → Mx q = up M (b + 2) (mN σ) (nI a) q) ∧ ∀ q, Mx (b + 3) q = if 15 * mN σ ≤ q ∧ q < 15 * mN σ + j then nI 5 else M (b + 3) q) (fun M6 => some (up M6 b 7 ((M6 b 7) + (1 : Int32)))) 15 (fun n Mx _ => by
    show lp_X8_addStrip_12 _ _ _ (n + 1) _ _ = _
    rw [lp_X8_addStrip_12, if_pos (by decide)]) (fun n j Mx hj hI => by
    obtain ⟨i1, i2⟩ := hI
    have e7 : Mx b 7 = nI (mN σ) := by rw [i1 b (by omega), up_k (by omega)]; exact h1
    refine ⟨up Mx (b + 3) (15 * mN σ + j) (nI 5), ?_, fun q hq => by rw [up_k hq]; exact i1 q hq, fun q => ?_⟩
    · show lp_X8_addStrip_12 _ _ _ (n + 1) _ _ = lp_X8_addStrip_12 _ _ _ n _ _
      rw [lp_X8_addStrip_12, e7, li_15, if_neg (by rw [q_le (by omega) (by omega)]; omega), q_mu, q_ad, gd_t (q_ib (by omega) (by omega)), q_cl (by omega)]
      simp only [lt]
      rw [nI_1]
      rfl
    · by_cases z : q = 15 * mN σ + j
      · subst z; rw [up_at, if_pos ⟨by omega, by omega⟩]
      · rw [up_j z, i2 q]
        by_cases y : 15 * mN σ ≤ q ∧ q < 15 * mN σ + j
        · rw [if_pos y, if_pos ⟨y.1, by omega⟩]
        · rw [if_neg y, if_neg (by omega)]) fu 0 (up M (b + 2) (mN σ) (nI a)) (by omega) (by omega) ⟨fun _ _ => rfl, fun q => by rw [if_neg (by omega), up_k (by omega)]⟩
  have e7 : M1 b 7 = nI (mN σ) := by rw [i1 b (by omega), up_k (by omega)]; exact h1
  refine ⟨up M1 b 7 (nI (mN σ + 1)), e1.trans (by rw [e7, nI_1]), ?_, ⟨fun q hq => by rw [up_k (by omega), i1 q (by omega), up_k (by omega)], by rw [up_j (by omega), i1 b (by omega), up_k (by omega)], by rw [up_j (by omega), i1 b (by omega), up_k (by omega)]⟩, fun q hq => by rw [up_k (by omega), i1 q (by omega), up_k (by omega)], fun j hj => by rw [up_j hj, i1 b (by omega), up_k (by omega)]⟩
  have g : ∀ q, b + 1 ≤ q → q ≠ b + 2 → q ≠ b + 3 → up M1 b 7 (nI (mN σ + 1)) q = M q := fun q hq y z => by rw [up_k (by omega), i1 q z, up_k y]
  refine ⟨⟨by rw [up_at]; rfl, by rw [up_j (by omega), i1 b (by omega), up_k (by omega)]; exact h2⟩, ?_, ?_, ?_, ?_, ?_, ?_⟩
  · rw [g (b + 1) (by omega) (by omega) (by omega)]; exact h3
  · intro i hi
    have hi' : i < mN σ + 1 := hi
    show _ = nI (if i = mN σ then a else mO σ i) ∧ ∀ c, c < 15 → _ = nI (if i = mN σ then 5 else mG σ i c)
    rw [up_k (by omega), up_k (by omega), i1 _ (by omega)]
    by_cases e : i = mN σ
    · subst e
      rw [if_pos rfl, up_at]
      refine ⟨rfl, fun c hc => ?_⟩
      rw [i2, if_pos ⟨by omega, by omega⟩, if_pos rfl]
    · rw [if_neg e, up_j e]
      refine ⟨(h4 i (by omega)).1, fun c hc => ?_⟩
      rw [i2, if_neg (by omega), if_neg e]
      exact (h4 i (by omega)).2 c hc
  · rw [g (b + 4) (by omega) (by omega) (by omega)]; exact h5
  · rw [g (b + 5) (by omega) (by omega) (by omega)]; exact h6
  · rw [g (b + 6) (by omega) (by omega) (by omega)]; exact h7
  · rw [g (b + 7) (by omega) (by omega) (by omega)]; exact h8
theorem X8_strip_ (hf : 50 ≤ fu) (h : RM b M s) (a : Int32) : ∃ M', f_X8_strip fu M b a = some ((sp_strip s a).1, M') ∧ RM b M' (sp_strip s a).2 := by
  unfold f_X8_strip sp_strip
  have hN := h.1.1.2.1.1
  rcases rg a 6 (by omega) with ⟨j, hj, rfl⟩ | ha
  · rw [ifr_t hj (by omega), in0_t (n := 6) (by omega) (by decide) hj, bd_s, if_neg one0, h.2.1.1.1, li_9]
    by_cases q : mN s.1 < 9
    · obtain ⟨M', e, h1, h2, -⟩ := MaddStrip_ (a := j) hf h.1.1 h.2.1 q
      rw [if_neg (by rw [q_eq (by omega) (by omega)]; omega), if_pos q, e, bd_s]
      refine ⟨M', ?_, h.md h1 (adS_wf h.1.1 hj q) h2⟩
      rw [h1.1.1]
      show some (nI (mN s.1 + 1) - 1, M') = _
      rw [li_1, q_sb (by omega), Nat.add_sub_cancel]
    · rw [if_pos (by rw [q_eq (by omega) (by omega)]; omega), if_neg q]
      exact ⟨M, rfl, h⟩
  · rw [ifr_f (by omega) ha, in0_f (n := 6) (by omega) (by decide) ha, bd_s, if_pos rfl]
    exact ⟨M, rfl, h⟩
theorem hiS_ {j : Nat} (hj : j < 4) : (if nI j = 0 then some (5 : Int32) else (if nI j = (1 : Int32) then some (8 : Int32) else (if nI j = (2 : Int32) then some (7 : Int32) else some (9 : Int32)))) = some (nI (hiS j)) := (by decide +kernel : ∀ j, j < 4 → (if nI j = 0 then some (5 : Int32) else (if nI j = (1 : Int32) then some (8 : Int32) else (if nI j = (2 : Int32) then some (7 : Int32) else some (9 : Int32)))) = some (nI (hiS j))) j hj
theorem X8_set_ (h : RM b M s) (a d : Int32) : ∃ M', f_X8_set M b a d = some ((sp_set s a d).1, M') ∧ RM b M' (sp_set s a d).2 := by
  unfold f_X8_set sp_set
  rcases rg a 4 (by omega) with ⟨j, hj, rfl⟩ | ha
  · have v2 := (vHi_ j hj).2
    rw [ifr_t hj (by omega), hiS_ hj, bd_s, in0_t (n := 4) (by omega) (by decide) hj, bd_s, if_neg one0]
    rcases rg d (hiS j + 1) (by omega) with ⟨v, hv, rfl⟩ | hb
    · rw [ifr_t hv (by omega), in0_t (n := hiS j + 1) (by omega) (by rw [t64, nI_toInt (by omega)]; omega) hv, bd_s, if_neg one0, gd_t (q_ib (by omega) hj), q_cl (by omega)]
      simp only [lt]
      rw [gd_t (q_ib (by omega) hj)]
      obtain ⟨⟨h1, h2⟩, h3, h4, h5, h6, h7, h8⟩ := id h.2.1
      rw [h6 j hj]
      refine ⟨_, rfl, h.md ⟨⟨by rw [up_k (by omega)]; exact h1, by rw [up_k (by omega)]; exact h2⟩, by rw [up_k (by omega)]; exact h3, by rw [up_k (by omega), up_k (by omega)]; exact h4, by rw [up_k (by omega)]; exact h5, fun q hq => ?_, by rw [up_k (by omega)]; exact h7, by rw [up_k (by omega)]; exact h8⟩ (stS_wf h.1.1 hj (by omega)) ⟨fun q hq => up_k (by omega), by rw [up_k (by omega)], by rw [up_k (by omega)]⟩⟩
      show _ = nI (if q = j then v else mS s.1 q)
      by_cases e : q = j
      · subst e; rw [up_at, if_pos rfl]
      · rw [up_j e, if_neg e]; exact h6 q hq
    · rw [ifr_f (by omega) hb, in0_f (n := hiS j + 1) (by omega) (by rw [t64, nI_toInt (by omega)]; omega) hb, bd_s, if_pos rfl]
      exact ⟨M, rfl, h⟩
  · rw [ifr_f (by omega) ha]
    refine ⟨M, ?_, h⟩
    have e : ∀ t : Int32, (f_X8_in (a.toInt64) (0 : Int64) (3 : Int64)) = some 0 := fun _ => in0_f (n := 4) (by omega) (by decide) ha
    have e2 : ∃ t, (if a = 0 then some (5 : Int32) else (if a = (1 : Int32) then some (8 : Int32) else (if a = (2 : Int32) then some (7 : Int32) else some (9 : Int32)))) = some t := by
      split
      · exact ⟨_, rfl⟩
      · split
        · exact ⟨_, rfl⟩
        · split <;> exact ⟨_, rfl⟩
    obtain ⟨t, e2⟩ := e2
    rw [e2, bd_s, e t, bd_s, if_pos rfl]
theorem X8_grass_ (h : RM b M s) (a d : Int32) : f_X8_grass M b a d = some (sp_grass s a d) := by
  unfold f_X8_grass sp_grass
  have hN := h.1.1.2.1.1
  rcases rg a (mN s.1) (by omega) with ⟨i, hi, rfl⟩ | ha
  · rw [ifr_t hi (by omega), MisStrip_t h hi, bd_s, if_neg one0]
    rcases rg d 15 (by omega) with ⟨c, hc, rfl⟩ | hb
    · rw [ifr_t hc (by omega), MisCell_t hc, bd_s, if_neg one0, li_15, q_mu, q_ad, gd_t (q_ib (by omega) (by omega)), q_cl (by omega), (h.2.1.2.2.1 i hi).2 c hc]
    · rw [ifr_f (by omega) hb, MisCell_f hb, bd_s, if_pos rfl]
  · rw [ifr_f (by omega) ha, MisStrip_f h ha, bd_s, if_pos rfl]
theorem X8_letter_ (h : RM b M s) (a : Int32) : f_X8_letter M b a = some (sp_letter a) := by
  unfold f_X8_letter sp_letter
  rcases rg a 26 (by omega) with ⟨i, hi, rfl⟩ | ha
  · rw [ifr_t hi (by omega), MisLetter_t hi, bd_s, if_neg one0, gd_t (q_ib (by omega) hi), q_cl (by omega), h.2.1.2.1 i hi]
  · rw [ifr_f (by omega) ha, MisLetter_f ha, bd_s, if_pos rfl]
theorem X8_hay_ (h : RM b M s) (a : Int32) : f_X8_hay M b a = some (sp_hay s a) := by
  unfold f_X8_hay sp_hay
  rcases rg a 6 (by omega) with ⟨i, hi, rfl⟩ | ha
  · rw [ifr_t hi (by omega), in0_t (n := 6) (by omega) (by decide) hi, bd_s, if_neg one0, gd_t (q_ib (by omega) hi), q_cl (by omega), h.2.1.2.2.2.1 i hi]
  · rw [ifr_f (by omega) ha, in0_f (n := 6) (by omega) (by decide) ha, bd_s, if_pos rfl]
end PUB
