abbrev Sh : Type := (Nat → Nat) × (Nat → Nat) × (Nat → Nat → Int32)
def bl (l : Nat) (v : Int32) : Int32 := if l = 0 then v.toInt8.toInt32 else if l = 1 then v.toInt16.toInt32 else v
/-- why a sheet can't be taken as a row of the lane l that has n items from f on; 0 if it can -/
def rfx (h : Sh) (q l : Nat) (f : Int32) (n : Nat) : Int32 := if h.1 q = 3 then -11 else if h.1 q = l then (if 0 ≤ f.toInt ∧ f.toInt + n ≤ h.2.1 q then 0 else -13) else -12
def shB (h : Sh) (q l n : Nat) : Sh := (fun a => if a = q then l else h.1 a, fun a => if a = q then n else h.2.1 a, fun a j => if a = q then 0 else h.2.2 a j)
def shL (h : Sh) (q l : Nat) : Sh := (fun a => if a = q then l else h.1 a, h.2)
def shI (h : Sh) (q : Nat) (f : Nat → Int32) : Sh := (h.1, h.2.1, fun a j => if a = q then f j else h.2.2 a j)
def wSh (s : Sg) (h : Sh) : Sg := (s.1, s.2.1, s.2.2.1, h)
def gOf (f : Nat → Int32) (d : Nat) : Nat → Nat := fun c => (f (d + c)).toNatClampNeg
def rwS (σ : Md) (i : Nat) (g : Nat → Nat) : Md := wG σ (fun a => if a = i then g else mG σ a)
def gok (f : Nat → Int32) (d : Nat) : Bool := alf (fun c => decide (0 ≤ (f (d + c)).toInt ∧ (f (d + c)).toInt ≤ 9)) 15 0
def sp_sheet (s : Sg) (a b d : Int32) : Int32 × Sg := ifr a 4 (fun q => ifr b 3 (fun l => if d ≤ 24 then (if 0 ≤ d then (d, wSh s (shB s.2.2.2 q l d.toNatClampNeg)) else (-14, s)) else (-1, s)) (-1, s)) (-1, s)
def sp_drop (s : Sg) (a : Int32) : Int32 × Sg := ifr a 4 (fun q => if s.2.2.2.1 q = 3 then (-11, s) else (nI (s.2.2.2.2.1 q), wSh s (shL s.2.2.2 q 3))) (-1, s)
def sp_item (s : Sg) (a b d v : Int32) : Int32 × Sg := ifr a 4 (fun q => ifr b 3 (fun l => if rfx s.2.2.2 q l d 1 = 0 then (1, wSh s (shI s.2.2.2 q (fun j => if j = d.toNatClampNeg then bl l v else s.2.2.2.2.2 q j))) else (rfx s.2.2.2 q l d 1, s)) (-1, s)) (-1, s)
def sp_sow (s : Sg) (a b d f : Int32) : Int32 × Sg := ifr a (mN s.1) (fun i => ifr b 4 (fun q => ifr d 3 (fun l => if rfx s.2.2.2 q l f 15 = 0 then (if gok (s.2.2.2.2.2 q) f.toNatClampNeg = true then (nI (sm (fun _ => true) (gOf (s.2.2.2.2.2 q) f.toNatClampNeg) 15), (rwS s.1 i (gOf (s.2.2.2.2.2 q) f.toNatClampNeg), s.2)) else (-2, s)) else (rfx s.2.2.2 q l f 15, s)) (-1, s)) (-1, s)) (-1, s)
def rdn (σ : Md) (i : Nat) : Int32 := rd (mS σ 2) (seenx (mG σ i) (mS σ 1))
def sp_film (s : Sg) (a b d : Int32) : Int32 × Sg := ifr a 4 (fun q => ifr b 3 (fun l => if rfx s.2.2.2 q l d (mN s.1) = 0 then (nI (mN s.1), wSh s (shI s.2.2.2 q (fun j => if d.toNatClampNeg ≤ j ∧ j < d.toNatClampNeg + mN s.1 then rdn s.1 (j - d.toNatClampNeg) else s.2.2.2.2.2 q j))) else (rfx s.2.2.2 q l d (mN s.1), s)) (-1, s)) (-1, s)
theorem lnv_no {c : Nat} (h : c ≤ 3) : lnv c = -1 ↔ c = 3 := by
  have h2 : ∀ c, c ≤ 3 → (lnv c = -1 ↔ c = 3) := by decide +kernel
  exact h2 c h
theorem lnv_eq {c l : Nat} (h : c ≤ 3) (hl : l < 3) (h3 : ¬ c = 3) : lnv c = nI l ↔ c = l := by
  unfold lnv
  rw [if_neg h3, q_eq (by omega) (by omega)]
theorem rfx_0 {h : Sh} {q l n : Nat} {f : Int32} (e : rfx h q l f n = 0) : h.1 q = l ∧ ¬ h.1 q = 3 ∧ 0 ≤ f.toInt ∧ f.toInt + n ≤ h.2.1 q := by
  unfold rfx at e
  by_cases z : h.1 q = 3
  · rw [if_pos z] at e; exact absurd e (by decide)
  · rw [if_neg z] at e
    by_cases y : h.1 q = l
    · rw [if_pos y] at e
      by_cases x : 0 ≤ f.toInt ∧ f.toInt + n ≤ h.2.1 q
      · exact ⟨y, z, x.1, x.2⟩
      · rw [if_neg x] at e; exact absurd e (by decide)
    · rw [if_neg y] at e; exact absurd e (by decide)
theorem of_nn {f : Int32} (h : 0 ≤ f.toInt) : f = nI f.toNatClampNeg ∧ (f.toNatClampNeg : Int) = f.toInt := by
  have e : (f.toNatClampNeg : Int) = f.toInt := by
    show ((f.toInt.toNat : Nat) : Int) = f.toInt
    omega
  refine ⟨?_, e⟩
  have hb := Int32.toInt_lt f
  apply Int32.toInt_inj.mp
  rw [nI_toInt (by omega), e]
theorem bl_rd (l far x : Nat) : bl l (rd far x) = rd far x := by
  have h1 : ∀ n, n < 26 → (nI n).toInt8.toInt32 = nI n ∧ (nI n).toInt16.toInt32 = nI n := by decide +kernel
  have h2 : (-4 : Int32).toInt8.toInt32 = -4 ∧ (-4 : Int32).toInt16.toInt32 = -4 := by decide +kernel
  unfold bl rd
  split
  · split
    · exact (h1 _ (near_lt x)).1
    · exact h2.1
  · split
    · split
      · exact (h1 _ (near_lt x)).2
      · exact h2.2
    · rfl
section PUB
variable {fu o : Nat} {M : Mem} {s : Sg}
theorem RC.sh {M1 : Mem} {h' : Sh} (h : RC o M s) (hF : ∀ a, a < o + 170 → M1 a = M a) (hs : ShC o M1 h') (hw : ∀ q, q < 4 → h'.1 q ≤ 3 ∧ h'.2.1 q ≤ 24) : RC o M1 (wSh s h') := by
  obtain ⟨w, m, k, t, -, od⟩ := h
  refine ⟨⟨w.1, w.2.1, w.2.2.1, hw⟩, m.frame (fun a h1 h2 => hF a (by omega)) w.1, k.frame w (hF o (by omega)) (fun a h1 h2 => hF a (by omega)), ⟨by rw [hF _ (by omega)]; exact t.1, fun j hj => by rw [hF _ (by omega)]; exact t.2 j hj⟩, hs, od.frame (fun a h1 h2 => hF a (by omega))⟩
theorem isSheet_t {q l : Nat} (hq : q < 4) (hl : l < 3) : f_X7_isSheet (nI q) (nI l) = some 1 := by
  unfold f_X7_isSheet
  rw [li_4, li_3, isb_t hq (by omega), bd_s, if_neg one0, isb_t hl (by omega), bd_s, if_neg one0]
theorem isSheet_f1 {a b : Int32} (ha : ∀ j, j < 4 → a ≠ nI j) : f_X7_isSheet a b = some 0 := by
  unfold f_X7_isSheet
  rw [li_4, isb_f (by omega) ha, bd_s, if_pos rfl]
theorem isSheet_f2 {q : Nat} {b : Int32} (hq : q < 4) (hb : ∀ j, j < 3 → b ≠ nI j) : f_X7_isSheet (nI q) b = some 0 := by
  unfold f_X7_isSheet
  rw [li_4, li_3, isb_t hq (by omega), bd_s, if_neg one0, isb_f (by omega) hb, bd_s, if_pos rfl]
theorem refusal_ {q l n : Nat} {f : Int32} (h : RC o M s) (hq : q < 4) (hl : l < 3) (hn : n ≤ 100) : f_X3_refusal M (o + 170 + 1 + 2 * q) (nI l) f (nI n) = some (rfx s.2.2.2 q l f n) := by
  obtain ⟨c1, c2⟩ := h.1.2.2.2 q hq
  obtain ⟨g1, g2, g3⟩ := h.2.2.2.2.1 q hq
  unfold f_X3_refusal rfx
  rw [g1, g2]
  by_cases z : s.2.2.2.1 q = 3
  · rw [if_pos ((lnv_no c1).mpr z), if_pos z]
  · rw [if_neg (fun y => z ((lnv_no c1).mp y)), if_neg z]
    by_cases y : s.2.2.2.1 q = l
    · rw [if_pos ((lnv_eq c1 hl z).mpr y), if_pos y]
      have e : (f ≤ nI (s.2.2.2.2.1 q) - nI n) ↔ f.toInt + n ≤ s.2.2.2.2.1 q := by
        rw [Int32.le_iff_toInt_le, pk_sub_toInt (by omega) (by omega)]
        omega
      have e2 : (f < 0) ↔ ¬ 0 ≤ f.toInt := by
        rw [Int32.lt_iff_toInt_lt, Int32.toInt_zero]
        omega
      by_cases x : 0 ≤ f.toInt
      · rw [if_neg (fun w => e2.mp w x)]
        by_cases v : f.toInt + n ≤ s.2.2.2.2.1 q
        · rw [if_pos (e.mpr v), if_pos ⟨x, v⟩]
        · rw [if_neg (fun w => v (e.mp w)), if_neg (fun w => v w.2)]
      · rw [if_pos (e2.mpr x), if_neg (fun w => x w.1)]
    · rw [if_neg (fun x => y ((lnv_eq c1 hl z).mp x)), if_neg y]
theorem X7_sheet_ (hf : 50 ≤ fu) (hk : kd (o + 170) = 17) (h : RC o M s) (a b d : Int32) : ∃ M', f_X7_sheet fu M o a b d = some ((sp_sheet s a b d).1, M') ∧ RC o M' (sp_sheet s a b d).2 := by
  unfold f_X7_sheet sp_sheet
  rcases rg a 4 (by omega) with ⟨q, hq, rfl⟩ | ha
  · rw [ifr_t hq (by omega)]
    rcases rg b 3 (by omega) with ⟨l, hl, rfl⟩ | hb
    · rw [ifr_t hl (by omega), isSheet_t hq hl, bd_s, if_neg one0]
      by_cases z : d ≤ 24
      · rw [if_pos z, if_pos z]
        by_cases y : 0 ≤ d
        · have y2 : 0 ≤ d.toInt := by rw [Int32.le_iff_toInt_le, Int32.toInt_zero] at y; exact y
          have z2 : d.toInt ≤ 24 := by rw [Int32.le_iff_toInt_le, li_24, nI_toInt (by omega)] at z; exact z
          obtain ⟨e1, e2⟩ := of_nn y2
          have hln : ln (o + 170 + 1 + 2 * q + 1) = 24 := (ch_7_2 (ca_17 hk hq).1).2
          rw [if_pos y, if_pos y, gd_t (q_ib (by omega) hq), q_cl (by omega)]
          unfold f_X3_begin
          simp only [lt]
          rw [fill_ hln (by omega) (by omega), bd_s, bd_s]
          refine ⟨_, rfl, h.sh (fun a ha => by rw [setR_k (by omega), up_k (by omega), up_k (by omega)]) (fun p hp => ?_) (fun p hp => ?_)⟩
          · show _ = lnv (if p = q then l else s.2.2.2.1 p) ∧ _ = nI (if p = q then d.toNatClampNeg else s.2.2.2.2.1 p) ∧ ∀ j, j < 24 → _ = (if p = q then 0 else s.2.2.2.2.2 p j)
            by_cases e : p = q
            · subst e
              refine ⟨?_, ?_, fun j hj => ?_⟩
              · rw [setR_k (by omega), up_j (by omega), up_at, if_pos rfl]
                unfold lnv
                rw [if_neg (by omega)]
              · rw [setR_k (by omega), up_at, if_pos rfl]; exact e1
              · rw [setR_in hj, if_pos rfl]
            · obtain ⟨g1, g2, g3⟩ := h.2.2.2.2.1 p hp
              refine ⟨?_, ?_, fun j hj => ?_⟩
              · rw [setR_k (by omega), up_k (by omega), up_k (by omega), if_neg e]; exact g1
              · rw [setR_k (by omega), up_k (by omega), up_k (by omega), if_neg e]; exact g2
              · rw [setR_k (by omega), up_k (by omega), up_k (by omega), if_neg e]; exact g3 j hj
          · show (if p = q then l else s.2.2.2.1 p) ≤ 3 ∧ (if p = q then d.toNatClampNeg else s.2.2.2.2.1 p) ≤ 24
            have := h.1.2.2.2 p hp
            by_cases e : p = q
            · simp only [e, if_true]; omega
            · simp only [e, if_false]; exact this
        · rw [if_neg y, if_neg y]
          exact ⟨M, rfl, h⟩
      · rw [if_neg z, if_neg z]
        exact ⟨M, rfl, h⟩
    · rw [ifr_f (by omega) hb, isSheet_f2 hq hb, bd_s, if_pos rfl]
      exact ⟨M, rfl, h⟩
  · rw [ifr_f (by omega) ha, isSheet_f1 ha, bd_s, if_pos rfl]
    exact ⟨M, rfl, h⟩
theorem X7_drop_ (h : RC o M s) (a : Int32) : ∃ M', f_X7_drop M o a = some ((sp_drop s a).1, M') ∧ RC o M' (sp_drop s a).2 := by
  unfold f_X7_drop sp_drop
  rw [li_4]
  rcases rg a 4 (by omega) with ⟨q, hq, rfl⟩ | ha
  · obtain ⟨c1, c2⟩ := h.1.2.2.2 q hq
    obtain ⟨g1, g2, g3⟩ := h.2.2.2.2.1 q hq
    rw [ifr_t hq (by omega), isb_t hq (by omega), bd_s, if_neg one0, gd_t (q_ib (by omega) hq), q_cl (by omega)]
    simp only [lt]
    rw [g1]
    by_cases z : s.2.2.2.1 q = 3
    · rw [if_pos ((lnv_no c1).mpr z), if_pos z]
      exact ⟨M, rfl, h⟩
    · rw [if_neg (fun y => z ((lnv_no c1).mp y)), if_neg z, up_j (by omega), g2]
      refine ⟨_, rfl, h.sh (fun a ha => up_k (by omega)) (fun p hp => ?_) (fun p hp => ?_)⟩
      · obtain ⟨k1, k2, k3⟩ := h.2.2.2.2.1 p hp
        refine ⟨?_, ?_, fun j hj => by rw [up_k (by omega)]; exact k3 j hj⟩
        · show _ = lnv (if p = q then 3 else s.2.2.2.1 p)
          by_cases e : p = q
          · subst e; rw [up_at, if_pos rfl]; rfl
          · rw [up_k (by omega), if_neg e]; exact k1
        · by_cases e : p = q
          · subst e; rw [up_j (by omega)]; exact k2
          · rw [up_k (by omega)]; exact k2
      · show (if p = q then 3 else s.2.2.2.1 p) ≤ 3 ∧ _
        have := h.1.2.2.2 p hp
        refine ⟨?_, this.2⟩
        split
        · omega
        · exact this.1
  · rw [ifr_f (by omega) ha, isb_f (by omega) ha, bd_s, if_pos rfl]
    exact ⟨M, rfl, h⟩
theorem put_ {q l j : Nat} {v : Int32} (h : RC o M s) (hq : q < 4) (hl : l < 3) (he : s.2.2.2.1 q = l) (hj : j < 24) : f_X3_put M (o + 170 + 1 + 2 * q) (nI j) v = some (up M (o + 170 + 1 + 2 * q + 1) j (bl l v)) := by
  obtain ⟨g1, g2, g3⟩ := h.2.2.2.2.1 q hq
  unfold f_X3_put
  have e : M (o + 170 + 1 + 2 * q) 0 = nI l := by rw [g1, he]; unfold lnv; rw [if_neg (by omega)]
  rw [e, gd_t (q_ib (by omega) hj), gd_t (q_ib (by omega) hj), gd_t (q_ib (by omega) hj), q_cl (by omega)]
  unfold bl
  have h3 : l = 0 ∨ l = 1 ∨ l = 2 := by omega
  rcases h3 with rfl | rfl | rfl
  · rw [if_pos (by decide), if_pos rfl]; rfl
  · rw [if_neg (by decide), if_pos (by decide), if_neg (by decide), if_pos rfl]; rfl
  · rw [if_neg (by decide), if_neg (by decide), if_neg (by decide), if_neg (by decide)]; rfl
theorem ShC.items {q : Nat} {h' : Sh} {f : Nat → Int32} {M1 : Mem} (h : ShC o M h') (hq : q < 4) (hF : ∀ a, a ≠ o + 170 + 1 + 2 * q + 1 → M1 a = M a) (hi : ∀ j, j < 24 → M1 (o + 170 + 1 + 2 * q + 1) j = f j) : ShC o M1 (shI h' q f) := by
  intro p hp
  obtain ⟨k1, k2, k3⟩ := h p hp
  refine ⟨by rw [hF _ (by omega)]; exact k1, by rw [hF _ (by omega)]; exact k2, fun j hj => ?_⟩
  show _ = (if p = q then f j else h'.2.2 p j)
  by_cases e : p = q
  · subst e; rw [if_pos rfl]; exact hi j hj
  · rw [if_neg e, hF _ (by omega)]; exact k3 j hj
theorem X7_item_ (h : RC o M s) (a b d v : Int32) : ∃ M', f_X7_item M o a b d v = some ((sp_item s a b d v).1, M') ∧ RC o M' (sp_item s a b d v).2 := by
  unfold f_X7_item sp_item
  rcases rg a 4 (by omega) with ⟨q, hq, rfl⟩ | ha
  · rw [ifr_t hq (by omega)]
    rcases rg b 3 (by omega) with ⟨l, hl, rfl⟩ | hb
    · rw [ifr_t hl (by omega), isSheet_t hq hl, bd_s, if_neg one0, gd_t (q_ib (by omega) hq), q_cl (by omega), li_1, refusal_ h hq hl (by omega), bd_s]
      by_cases z : rfx s.2.2.2 q l d 1 = 0
      · obtain ⟨z1, z2, z3, z4⟩ := rfx_0 z
        obtain ⟨c1, c2⟩ := h.1.2.2.2 q hq
        obtain ⟨e1, e2⟩ := of_nn z3
        rw [if_pos z, if_pos z, gd_t (q_ib (by omega) hq), e1, put_ h hq hl z1 (by omega), bd_s, q_cl (by omega)]
        refine ⟨_, rfl, h.sh (fun a ha => up_k (by omega)) (h.2.2.2.2.1.items hq (fun a ha => up_k ha) (fun j hj => ?_)) h.1.2.2.2⟩
        by_cases e : j = d.toNatClampNeg
        · rw [if_pos e, e, up_at]
        · rw [if_neg e, up_j e]; exact (h.2.2.2.2.1 q hq).2.2 j hj
      · rw [if_neg z, if_neg z]
        exact ⟨M, rfl, h⟩
    · rw [ifr_f (by omega) hb, isSheet_f2 hq hb, bd_s, if_pos rfl]
      exact ⟨M, rfl, h⟩
  · rw [ifr_f (by omega) ha, isSheet_f1 ha, bd_s, if_pos rfl]
    exact ⟨M, rfl, h⟩
end PUB
