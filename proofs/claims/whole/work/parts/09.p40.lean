theorem sx8b (x : BitVec 32) : (x <<< 24).sshiftRight 24 = (x.signExtend 8).signExtend 32 := by
  ext i hi
  rw [BitVec.getElem_sshiftRight, BitVec.getElem_signExtend]
  simp only [BitVec.getLsbD_shiftLeft, BitVec.msb_eq_getLsbD_last, BitVec.getLsbD_signExtend]
  by_cases h : i < 8
  · have h1 : 24 + i < 32 := by omega
    have h2 : ¬ 24 + i < 24 := by omega
    simp [h, h1, h2, BitVec.getElem_signExtend, hi]
  · have h1 : ¬ 24 + i < 32 := by omega
    simp [h, h1]
theorem sx16b (x : BitVec 32) : (x <<< 16).sshiftRight 16 = (x.signExtend 16).signExtend 32 := by
  ext i hi
  rw [BitVec.getElem_sshiftRight, BitVec.getElem_signExtend]
  simp only [BitVec.getLsbD_shiftLeft, BitVec.msb_eq_getLsbD_last, BitVec.getLsbD_signExtend]
  by_cases h : i < 16
  · have h1 : 16 + i < 32 := by omega
    have h2 : ¬ 16 + i < 16 := by omega
    simp [h, h1, h2, BitVec.getElem_signExtend, hi]
  · have h1 : ¬ 16 + i < 32 := by omega
    simp [h, h1]
theorem sx8 (v : Int32) : ((v <<< ((24 : Int32) &&& 31)) >>> ((24 : Int32) &&& 31)) = v.toInt8.toInt32 := by
  apply Int32.toBitVec_inj.mp
  exact sx8b v.toBitVec
theorem sx16 (v : Int32) : ((v <<< ((16 : Int32) &&& 31)) >>> ((16 : Int32) &&& 31)) = v.toInt16.toInt32 := by
  apply Int32.toBitVec_inj.mp
  exact sx16b v.toBitVec
theorem rfx_ge {h : Sh} {q l n : Nat} {f : Int32} : 0 ≤ rfx h q l f n ↔ rfx h q l f n = 0 := by
  unfold rfx
  split
  · decide
  · split
    · split <;> decide
    · decide
theorem blx {l : Nat} {v : Int32} (hl : l < 3) : (if nI l = 0 then some ((v <<< ((24 : Int32) &&& 31)) >>> ((24 : Int32) &&& 31)) else (if nI l = (1 : Int32) then some ((v <<< ((16 : Int32) &&& 31)) >>> ((16 : Int32) &&& 31)) else some v)) = some (bl l v) := by
  unfold bl
  by_cases z : l = 0
  · rw [if_pos (by rw [z]; rfl), if_pos z, sx8]
  · rw [if_neg (by rw [li_0, q_eq (by omega) (by omega)]; exact z), if_neg z]
    by_cases y : l = 1
    · rw [if_pos (by rw [y]; rfl), if_pos y, sx16]
    · rw [if_neg (by rw [li_1, q_eq (by omega) (by omega)]; exact y), if_neg y]
section PUB
variable {fu b : Nat} {M : Mem} {s : Sg}
theorem RM.sh {M1 : Mem} {h' : Sh} (h : RM b M s) (hF : ∀ a, a < b + 18 → M1 a = M a) (hs : ShM b M1 h') (hw : ∀ q, q < 4 → h'.1 q ≤ 3 ∧ h'.2.1 q ≤ 24) : RM b M1 (wSh s h') := by
  obtain ⟨w, m, k, t, -⟩ := h
  refine ⟨⟨w.1, w.2.1, w.2.2.1, hw⟩, m.frame (by rw [hF b (by omega)]) (by rw [hF b (by omega)]) (fun a h1 h2 => hF a (by omega)), k.frame (by rw [hF b (by omega)]) (hF _ (by omega)) (hF _ (by omega)), ⟨by rw [hF _ (by omega)]; exact t.1, fun j hj => by rw [hF _ (by omega)]; exact t.2 j hj⟩, hs⟩
theorem MisSheet_t {q l : Nat} (hq : q < 4) (hl : l < 3) : f_X8_isSheet (nI q) (nI l) = some 1 := by
  unfold f_X8_isSheet
  rw [in0_t (n := 4) (by omega) (by decide) hq, bd_s, if_neg one0, in0_t (n := 3) (by omega) (by decide) hl, bd_s, if_neg one0]
theorem MisSheet_f1 {a d : Int32} (ha : ∀ j, j < 4 → a ≠ nI j) : f_X8_isSheet a d = some 0 := by
  unfold f_X8_isSheet
  rw [in0_f (n := 4) (by omega) (by decide) ha, bd_s, if_pos rfl]
theorem MisSheet_f2 {q : Nat} {d : Int32} (hq : q < 4) (hd : ∀ j, j < 3 → d ≠ nI j) : f_X8_isSheet (nI q) d = some 0 := by
  unfold f_X8_isSheet
  rw [in0_t (n := 4) (by omega) (by decide) hq, bd_s, if_neg one0, in0_f (n := 3) (by omega) (by decide) hd, bd_s, if_pos rfl]
theorem lacksRow_ {q l n : Nat} {f : Int32} (h : RM b M s) (hq : q < 4) (hl : l < 3) (hn : n ≤ 100) : f_X8_lacksRow M b (nI q) (nI l) f (nI n) = some (rfx s.2.2.2 q l f n) := by
  obtain ⟨c1, c2⟩ := h.1.2.2.2 q hq
  obtain ⟨g1, g2, -⟩ := h.2.2.2.2 q hq
  unfold f_X8_lacksRow rfx
  rw [gd_t (q_ib (by omega) hq), q_cl (by omega), g1, gd_t (q_ib (by omega) hq), gd_t (q_ib (by omega) hq), g2]
  by_cases z : s.2.2.2.1 q = 3
  · have e : lnv (s.2.2.2.1 q) = -1 := (lnv_no c1).mpr z
    rw [if_pos z, e, if_neg (fun y => nI_pos (n := l) (by omega) (by rw [← y]; decide)), if_neg (by decide)]
  · have e : lnv (s.2.2.2.1 q) = nI (s.2.2.2.1 q) := by unfold lnv; rw [if_neg z]
    rw [if_neg z, e]
    by_cases y : s.2.2.2.1 q = l
    · rw [if_pos (by rw [y]), if_pos y, in_i, t64, t64, pk_sub_toInt (by omega) (by omega), i64z, bd_s]
      by_cases x : 0 ≤ f.toInt ∧ f.toInt + n ≤ s.2.2.2.2.1 q
      · have x1 : 0 ≤ f.toInt ∧ f.toInt ≤ (s.2.2.2.2.1 q : Int) - (n : Int) := by omega
        rw [if_pos x1, if_neg one0, if_pos x]
      · have x1 : ¬ (0 ≤ f.toInt ∧ f.toInt ≤ (s.2.2.2.2.1 q : Int) - (n : Int)) := by omega
        rw [if_neg x1, if_pos rfl, if_neg x]
    · rw [if_neg (by rw [q_eq (by omega) (by omega)]; exact y), if_neg y, if_pos (nI_pos' (by omega))]
theorem X8_sheet_ (hf : 50 ≤ fu) (h : RM b M s) (a d f : Int32) : ∃ M', f_X8_sheet fu M b a d f = some ((sp_sheet s a d f).1, M') ∧ RM b M' (sp_sheet s a d f).2 := by
  unfold f_X8_sheet sp_sheet
  rcases rg a 4 (by omega) with ⟨q, hq, rfl⟩ | ha
  · rw [ifr_t hq (by omega)]
    rcases rg d 3 (by omega) with ⟨l, hl, rfl⟩ | hb
    · rw [ifr_t hl (by omega), MisSheet_t hq hl, bd_s, if_neg one0]
      by_cases z : f ≤ 24
      · rw [if_pos z, if_pos z]
        by_cases y : 0 ≤ f
        · rw [if_pos y, if_pos y, gd_t (q_ib (by omega) hq)]
          simp only [lt]
          rw [gd_t (q_ib (by omega) hq), q_cl (by omega)]
          have z' : f.toInt ≤ 24 := by rw [Int32.le_iff_toInt_le] at z; simpa using z
          have y' : 0 ≤ f.toInt := by rw [Int32.le_iff_toInt_le] at y; simpa using y
          obtain ⟨e1, e2⟩ := of_nn y'
          generalize hfn : f.toNatClampNeg = fn at e1 e2 ⊢
          subst e1
          have hs := h.2.2.2.2
          obtain ⟨M', e, i1, i2⟩ := cntM (fun n j Mx => lp_X8_sheet_40 fu b (nI q) (nI fn) (fun M9 => some (nI fn, M9)) n (nI j) Mx) (fun j Mx => (∀ a, a ≠ b + 20 → Mx a = up (up M (b + 18) q (nI l)) (b + 19) q (nI fn) a) ∧ ∀ x, Mx (b + 20) x = if 24 * q ≤ x ∧ x < 24 * q + j then 0 else M (b + 20) x) (fun M9 => some (nI fn, M9)) 24 (fun n Mx _ => by
            show lp_X8_sheet_40 _ _ _ _ _ (n + 1) _ _ = _
            rw [lp_X8_sheet_40, if_pos (by decide)]) (fun n j Mx hj hI => by
            obtain ⟨i1, i2⟩ := hI
            refine ⟨up Mx (b + 20) (24 * q + j) 0, ?_, fun a ha => by rw [up_k ha]; exact i1 a ha, fun x => ?_⟩
            · show lp_X8_sheet_40 _ _ _ _ _ (n + 1) _ _ = lp_X8_sheet_40 _ _ _ _ _ n _ _
              rw [lp_X8_sheet_40, li_24, if_neg (by rw [q_le (by omega) (by omega)]; omega), q_mu, q_ad, gd_t (q_ib (by omega) (by omega)), q_cl (by omega)]
              simp only [lt]
              rw [nI_1]
            · by_cases y : x = 24 * q + j
              · subst y; rw [up_at, if_pos ⟨by omega, by omega⟩]
              · rw [up_j y, i2 x]
                by_cases v : 24 * q ≤ x ∧ x < 24 * q + j
                · rw [if_pos v, if_pos ⟨v.1, by omega⟩]
                · rw [if_neg v, if_neg (by omega)]) fu 0 (up (up M (b + 18) q (nI l)) (b + 19) q (nI fn)) (by omega) (by omega) ⟨fun _ _ => rfl, fun x => by rw [if_neg (by omega), up_k (by omega), up_k (by omega)]⟩
          refine ⟨M', e, h.sh (fun a ha => by rw [i1 a (by omega), up_k (by omega), up_k (by omega)]) ?_ (fun p hp => ?_)⟩
          · intro p hp
            obtain ⟨k1, k2, k3⟩ := hs p hp
            rw [i1 (b + 18) (by omega), i1 (b + 19) (by omega), up_k (by omega)]
            show _ = lnv (if p = q then l else s.2.2.2.1 p) ∧ _ = nI (if p = q then fn else s.2.2.2.2.1 p) ∧ ∀ j, j < 24 → _ = if p = q then 0 else s.2.2.2.2.2 p j
            by_cases e : p = q
            · subst e
              rw [if_pos rfl, if_pos rfl, up_at, up_at]
              refine ⟨by unfold lnv; rw [if_neg (by omega)], rfl, fun j hj => by rw [i2, if_pos ⟨by omega, by omega⟩, if_pos rfl]⟩
            · rw [if_neg e, if_neg e, up_j e, up_j e, up_k (by omega)]
              refine ⟨k1, k2, fun j hj => by rw [i2, if_neg (by omega), if_neg e]; exact k3 j hj⟩
          · obtain ⟨w1, w2⟩ := h.1.2.2.2 p hp
            show (if p = q then l else s.2.2.2.1 p) ≤ 3 ∧ (if p = q then fn else s.2.2.2.2.1 p) ≤ 24
            by_cases e : p = q
            · rw [if_pos e, if_pos e]; omega
            · rw [if_neg e, if_neg e]; exact ⟨w1, w2⟩
        · rw [if_neg y, if_neg y]
          exact ⟨M, rfl, h⟩
      · rw [if_neg z, if_neg z]
        exact ⟨M, rfl, h⟩
    · rw [ifr_f (by omega) hb, MisSheet_f2 hq hb, bd_s, if_pos rfl]
      exact ⟨M, rfl, h⟩
  · rw [ifr_f (by omega) ha, MisSheet_f1 ha, bd_s, if_pos rfl]
    exact ⟨M, rfl, h⟩
theorem X8_drop_ (h : RM b M s) (a : Int32) : ∃ M', f_X8_drop M b a = some ((sp_drop s a).1, M') ∧ RM b M' (sp_drop s a).2 := by
  unfold f_X8_drop sp_drop
  rcases rg a 4 (by omega) with ⟨q, hq, rfl⟩ | ha
  · obtain ⟨c1, c2⟩ := h.1.2.2.2 q hq
    obtain ⟨g1, g2, -⟩ := h.2.2.2.2 q hq
    rw [ifr_t hq (by omega), in0_t (n := 4) (by omega) (by decide) hq, bd_s, if_neg one0, gd_t (q_ib (by omega) hq), q_cl (by omega), g1, gd_t (q_ib (by omega) hq)]
    by_cases z : s.2.2.2.1 q = 3
    · have e : lnv (s.2.2.2.1 q) = -1 := (lnv_no c1).mpr z
      rw [if_pos z, e, if_neg (by decide)]
      exact ⟨M, rfl, h⟩
    · have e : lnv (s.2.2.2.1 q) = nI (s.2.2.2.1 q) := by unfold lnv; rw [if_neg z]
      rw [if_neg z, e, if_pos (nI_pos' (by omega))]
      simp only [lt]
      rw [gd_t (q_ib (by omega) hq), up_k (by omega), g2]
      have hs := h.2.2.2.2
      refine ⟨up M (b + 18) q (-1), rfl, h.sh (fun a ha => up_k (by omega)) ?_ (fun p hp => ?_)⟩
      · intro p hp
        obtain ⟨k1, k2, k3⟩ := hs p hp
        rw [up_k (a := b + 19) (by omega), up_k (a := b + 20) (by omega)]
        refine ⟨?_, k2, k3⟩
        show _ = lnv (if p = q then 3 else s.2.2.2.1 p)
        by_cases e : p = q
        · subst e; rw [if_pos rfl, up_at]; rfl
        · rw [if_neg e, up_j e]; exact k1
      · obtain ⟨w1, w2⟩ := h.1.2.2.2 p hp
        refine ⟨?_, w2⟩
        show (if p = q then 3 else s.2.2.2.1 p) ≤ 3
        by_cases e : p = q
        · rw [if_pos e]; omega
        · rw [if_neg e]; exact w1
  · rw [ifr_f (by omega) ha, in0_f (n := 4) (by omega) (by decide) ha, bd_s, if_pos rfl]
    exact ⟨M, rfl, h⟩
/-- items of one sheet made others -/
theorem ShM.items {q : Nat} {M1 : Mem} {f : Nat → Int32} (h : RM b M s) (hF : ∀ a, a ≠ b + 20 → M1 a = M a) (h1 : ∀ j, j < 24 → M1 (b + 20) (24 * q + j) = f j) (h2 : ∀ p j, p ≠ q → j < 24 → M1 (b + 20) (24 * p + j) = M (b + 20) (24 * p + j)) : RM b M1 (wSh s (shI s.2.2.2 q f)) := by
  have hs := h.2.2.2.2
  refine h.sh (fun a ha => hF a (by omega)) ?_ h.1.2.2.2
  intro p hp
  obtain ⟨k1, k2, k3⟩ := hs p hp
  rw [hF (b + 18) (by omega), hF (b + 19) (by omega)]
  refine ⟨k1, k2, fun j hj => ?_⟩
  show _ = if p = q then f j else s.2.2.2.2.2 p j
  by_cases e : p = q
  · subst e; rw [if_pos rfl]; exact h1 j hj
  · rw [if_neg e, h2 p j e hj]; exact k3 j hj
theorem X8_item_ (h : RM b M s) (a d f v : Int32) : ∃ M', f_X8_item M b a d f v = some ((sp_item s a d f v).1, M') ∧ RM b M' (sp_item s a d f v).2 := by
  unfold f_X8_item sp_item
  rcases rg a 4 (by omega) with ⟨q, hq, rfl⟩ | ha
  · rw [ifr_t hq (by omega)]
    rcases rg d 3 (by omega) with ⟨l, hl, rfl⟩ | hb
    · rw [ifr_t hl (by omega), MisSheet_t hq hl, bd_s, if_neg one0]
      rw [show f_X8_lacksRow M b (nI q) (nI l) f (1 : Int32) = _ from lacksRow_ (n := 1) h hq hl (by omega), bd_s]
      by_cases z : rfx s.2.2.2 q l f 1 = 0
      · obtain ⟨z1, z2, z3, z4⟩ := rfx_0 z
        obtain ⟨c1, c2⟩ := h.1.2.2.2 q hq
        obtain ⟨e1, e2⟩ := of_nn z3
        rw [if_pos (rfx_ge.mpr z), if_pos z, blx hl, bd_s]
        generalize hfn : f.toNatClampNeg = fn at e1 e2 ⊢
        subst e1
        rw [li_24, q_mu, q_ad, gd_t (q_ib (by omega) (by omega)), q_cl (by omega)]
        refine ⟨up M (b + 20) (24 * q + fn) (bl l v), rfl, ShM.items h (fun a ha => up_k ha) (fun j hj => ?_) (fun p j hp hj => up_j (by omega))⟩
        by_cases y : j = fn
        · subst y; rw [up_at, if_pos rfl]
        · rw [up_j (by omega), if_neg y]; exact (h.2.2.2.2 q hq).2.2 j hj
      · rw [if_neg (fun y => z (rfx_ge.mp y)), if_neg z]
        exact ⟨M, rfl, h⟩
    · rw [ifr_f (by omega) hb, MisSheet_f2 hq hb, bd_s, if_pos rfl]
      exact ⟨M, rfl, h⟩
  · rw [ifr_f (by omega) ha, MisSheet_f1 ha, bd_s, if_pos rfl]
    exact ⟨M, rfl, h⟩
end PUB
