def sumf (f : Nat → Nat) : Nat → Nat
  | 0 => 0
  | n + 1 => sumf f n + f n
theorem sumf_le {f : Nat → Nat} {B : Nat} : ∀ n, (∀ j, j < n → f j ≤ B) → sumf f n ≤ n * B
  | 0, _ => by simp [sumf]
  | n + 1, h => by
    have h1 := sumf_le n (fun j hj => h j (by omega))
    have h2 := h n (by omega)
    simp only [sumf]
    rw [Nat.add_mul]
    omega
theorem sumf_congr {f g : Nat → Nat} : ∀ n, (∀ j, j < n → f j = g j) → sumf f n = sumf g n
  | 0, _ => rfl
  | n + 1, h => by
    simp only [sumf]
    rw [sumf_congr n (fun j hj => h j (by omega)), h n (by omega)]
def orf (f : Nat → Nat) : Nat → Nat
  | 0 => 0
  | n + 1 => orf f n ||| f n
theorem orf_lt {f : Nat → Nat} {m : Nat} : ∀ n, (∀ j, j < n → f j < 2 ^ m) → orf f n < 2 ^ m
  | 0, _ => Nat.two_pow_pos m
  | n + 1, h => Nat.or_lt_two_pow (orf_lt n (fun j hj => h j (by omega))) (h n (by omega))
theorem orf_tb {f : Nat → Nat} {b : Nat} : ∀ n, (orf f n).testBit b = true ↔ ∃ j, j < n ∧ (f j).testBit b = true
  | 0 => by simp [orf]
  | n + 1 => by
    simp only [orf, Nat.testBit_or, Bool.or_eq_true]
    rw [orf_tb n]
    constructor
    · rintro (⟨j, h1, h2⟩ | h)
      · exact ⟨j, by omega, h2⟩
      · exact ⟨n, by omega, h⟩
    · rintro ⟨j, h1, h2⟩
      by_cases e : j = n
      · subst e; exact Or.inr h2
      · exact Or.inl ⟨j, by omega, h2⟩
/-- no feud among the owners of a word's strips -/
def nofeud (σ : Md) (w i : Nat) : Bool := alf (fun j => alf (fun q => !(mF σ (mO σ (i + j)) (mO σ (i + q)))) (mL σ w) 0) (mL σ w) 0
theorem nofeud_iff {σ : Md} {w i : Nat} : nofeud σ w i = true ↔ ∀ j, j < mL σ w → ∀ q, q < mL σ w → mF σ (mO σ (i + j)) (mO σ (i + q)) = false := by
  unfold nofeud
  rw [alf_iff]
  constructor
  · intro h j hj q hq
    have h1 := h j (by omega) (by omega)
    rw [alf_iff] at h1
    have h2 := h1 q (by omega) (by omega)
    simpa using h2
  · intro h j _ hj
    rw [alf_iff]
    intro q _ hq
    have := h j (by omega) q (by omega)
    simp [this]
def wdr (σ : Md) (i l : Nat) : Bool := hg (mG σ i) (shp l) && decide (rd (mS σ 2) (seenx (mG σ i) (mS σ 1) ||| shp l) = nI l)
def alw (σ : Md) (w i : Nat) : Bool := room σ w i && (nofeud σ w i && alf (fun j => wdr σ (i + j) (mT σ w j)) (mL σ w) 0)
def losp (σ : Md) (i l : Nat) : Nat → Bool := fun c => decide (2 < mG σ i c) && !((shp l).testBit c)
def losx (σ : Md) (i l : Nat) : Nat := mS σ 3 * sm (losp σ i l) (mG σ i) 15
def losw (σ : Md) (w i : Nat) : Nat := sumf (fun j => losx σ (i + j) (mT σ w j)) (mL σ w)
theorem losx_le {σ : Md} {i l : Nat} (hw : Wf σ) (hi : i < mN σ) : losx σ i l ≤ 1215 := by
  obtain ⟨⟨-, -, -, s3⟩, -, w3, -⟩ := hw
  have h := sm_le (p := losp σ i l) 15 (w3 i hi).2
  exact Nat.mul_le_mul s3 h
theorem losw_le {σ : Md} {w i : Nat} (hw : Wf σ) (hwo : w < mW σ) (hr : i + mL σ w ≤ mN σ) : losw σ w i ≤ 7290 := by
  have h := sumf_le (f := fun j => losx σ (i + j) (mT σ w j)) (B := 1215) (mL σ w) (fun j hj => losx_le hw (by omega))
  have := (hw.2.2.2.1 w hwo).2.1
  have h2 : mL σ w * 1215 ≤ 6 * 1215 := Nat.mul_le_mul_right _ this
  unfold losw
  omega
def diffw (σ : Md) (w i : Nat) : Nat := sumf (fun j => dist (seenx (mG σ (i + j)) (mS σ 1)) (mT σ w j)) (mL σ w)
section CL
variable {fu k : Nat} {M : Mem} {σ : Md}
theorem cellsOff_ {w i : Nat} (hf : 50 ≤ fu) (hw : Wf σ) (h : MdC k M σ) (hwo : w < mW σ) (hr : i + mL σ w ≤ mN σ) : f_X0_cellsOff fu M k (k + 3 + 21 + 2 * w) (nI i) = some (nI (diffw σ w i)) := by
  obtain ⟨-, -, -, -, h6, h7⟩ := id h
  obtain ⟨-, ⟨w1, w2⟩, w3, w4, -⟩ := id hw
  have hlen := (w4 w hwo).2.1
  unfold f_X0_cellsOff
  have key := cnt (fun n j => lp_X0_cellsOff_5 fu M k (k + 3 + 21 + 2 * w) (nI i) (fun v8 => some v8) n (nI (sumf (fun j => dist (seenx (mG σ (i + j)) (mS σ 1)) (mT σ w j)) j)) (nI j)) (some (nI (diffw σ w i))) (mL σ w) (fun n => by
    show lp_X0_cellsOff_5 _ _ _ _ _ _ (n + 1) _ _ = _
    rw [lp_X0_cellsOff_5, (h7 w hwo).1]
    simp (disch := omega) only [li_0, li_1, li_2, li_3, li_4, li_5, li_6, li_7, li_8, li_9, li_10, li_12, li_14, li_15, li_20, li_24, li_25, li_26, li_30, li_32, li_35, li_36, li_40, li_44, li_48, li_53, li_57, li_58, li_64, li_80, li_90, li_97, li_99, li_100, li_126, li_135, li_269, li_270, li_999, li_512, li_32767, q_le, q_lt, q_eq, q_cl, q_ib, q_ad, q_mu, gd_t, gd_tt, if_pos, if_neg, lt, bd_s]
    rfl) (fun n j hj => by
    show lp_X0_cellsOff_5 _ _ _ _ _ _ (n + 1) _ _ = lp_X0_cellsOff_5 _ _ _ _ _ _ n _ _
    have ht := (w4 w hwo).2.2.2 j hj
    rw [lp_X0_cellsOff_5, (h7 w hwo).1]
    simp (disch := omega) only [li_0, li_1, li_2, li_3, li_4, li_5, li_6, li_7, li_8, li_9, li_10, li_12, li_14, li_15, li_20, li_24, li_25, li_26, li_30, li_32, li_35, li_36, li_40, li_44, li_48, li_53, li_57, li_58, li_64, li_80, li_90, li_97, li_99, li_100, li_126, li_135, li_269, li_270, li_999, li_512, li_32767, q_le, q_lt, q_eq, q_cl, q_ib, q_ad, q_mu, gd_t, gd_tt, if_pos, if_neg, lt, bd_s, (h7 w hwo).2.2 j hj, seenCells_ hf hw h (show i + j < mN σ by omega), v26_ _ ht, i_xor, bc (xs_lt (seenx_lt _ _) _)]
    rfl) fu 0 (by omega) (by omega)
  exact key
theorem hasFeud_ {w i : Nat} (hf : 50 ≤ fu) (hw : Wf σ) (h : MdC k M σ) (hwo : w < mW σ) (hr : i + mL σ w ≤ mN σ) : f_X0_hasFeud fu M k (k + 3 + 21 + 2 * w) (nI i) = some (if nofeud σ w i = true then 0 else 1) := by
  obtain ⟨-, -, h4, -, h6, h7⟩ := id h
  obtain ⟨-, ⟨w1, w2⟩, w3, w4, -⟩ := id hw
  have hlen := (w4 w hwo).2.1
  have l1 := orf_lt (f := fun j => 2 ^ mO σ (i + j)) (m := 6) (mL σ w) (fun j hj => Nat.pow_lt_pow_right (by omega) (w3 (i + j) (by omega)).1)
  unfold f_X0_hasFeud
  have key := cnt (fun n j => lp_X0_hasFeud_8 fu M k (k + 3 + 21 + 2 * w) (nI i) (fun v7 v8 => if (v7 &&& v8) = 0 then some (0 : Int32) else some (1 : Int32)) n (nI (orf (fun j => 2 ^ mO σ (i + j)) j)) (nI (orf (fun j => bs (mF σ (mO σ (i + j))) 6) j)) (nI j)) (some (if nofeud σ w i = true then (0 : Int32) else 1)) (mL σ w) (fun n => by
    show lp_X0_hasFeud_8 _ _ _ _ _ _ (n + 1) _ _ _ = _
    rw [lp_X0_hasFeud_8, (h7 w hwo).1, if_pos (by rw [q_le (by omega) (by omega)]; omega)]
    show (if _ then _ else _) = _
    rw [i_and]
    have l2 : orf (fun j => 2 ^ mO σ (i + j)) (mL σ w) &&& orf (fun j => bs (mF σ (mO σ (i + j))) 6) (mL σ w) ≤ orf (fun j => 2 ^ mO σ (i + j)) (mL σ w) := Nat.and_le_left
    have e : orf (fun j => 2 ^ mO σ (i + j)) (mL σ w) &&& orf (fun j => bs (mF σ (mO σ (i + j))) 6) (mL σ w) = 0 ↔ nofeud σ w i = true := by
      rw [nofeud_iff]
      constructor
      · intro z j hj q hq
        cases hb : mF σ (mO σ (i + j)) (mO σ (i + q)) with
        | false => rfl
        | true =>
          exfalso
          have z2 : (orf (fun j => 2 ^ mO σ (i + j)) (mL σ w) &&& orf (fun j => bs (mF σ (mO σ (i + j))) 6) (mL σ w)).testBit (mO σ (i + q)) = true := by
            rw [Nat.testBit_and, Bool.and_eq_true, orf_tb, orf_tb]
            refine ⟨⟨q, hq, ?_⟩, ⟨j, hj, ?_⟩⟩
            · simp [Nat.testBit_two_pow]
            · rw [bs_tb, hb]; simp [(w3 (i + q) (by omega)).1]
          rw [z] at z2
          simp at z2
      · intro z
        apply Nat.eq_of_testBit_eq
        intro b
        rw [Nat.zero_testBit]
        cases hb : (orf (fun j => 2 ^ mO σ (i + j)) (mL σ w) &&& orf (fun j => bs (mF σ (mO σ (i + j))) 6) (mL σ w)).testBit b with
        | false => rfl
        | true =>
          exfalso
          rw [Nat.testBit_and, Bool.and_eq_true, orf_tb, orf_tb] at hb
          obtain ⟨⟨q, hq, hq2⟩, ⟨j, hj, hj2⟩⟩ := hb
          rw [Nat.testBit_two_pow] at hq2
          rw [bs_tb] at hj2
          have e1 : mO σ (i + q) = b := of_decide_eq_true hq2
          subst e1
          rw [z j hj q hq] at hj2
          simp at hj2
    by_cases z : nofeud σ w i = true
    · rw [if_pos (by rw [e.mpr z]; rfl), if_pos z]
    · rw [if_neg (by rw [li_0, q_eq (by omega) (by omega)]; exact fun y => z (e.mp y)), if_neg z]) (fun n j hj => by
    show lp_X0_hasFeud_8 _ _ _ _ _ _ (n + 1) _ _ _ = lp_X0_hasFeud_8 _ _ _ _ _ _ n _ _ _
    have ho := (w3 (i + j) (by omega)).1
    rw [lp_X0_hasFeud_8, (h7 w hwo).1]
    generalize (fun (v7 v8 : Int32) => if (v7 &&& v8) = 0 then some (0 : Int32) else some (1 : Int32)) = K
    simp (disch := omega) only [li_0, li_1, li_2, li_3, li_4, li_5, li_6, li_7, li_8, li_9, li_10, li_12, li_14, li_15, li_20, li_24, li_25, li_26, li_30, li_32, li_35, li_36, li_40, li_44, li_48, li_53, li_57, li_58, li_64, li_80, li_90, li_97, li_99, li_100, li_126, li_135, li_269, li_270, li_999, li_512, li_32767, q_le, q_lt, q_eq, q_cl, q_ib, q_ad, q_mu, gd_t, gd_tt, if_pos, if_neg, lt, bd_s, (h6 (i + j) (show i + j < mN σ by omega)).1, h4 (mO σ (i + j)) ho]
    rw [← li_1, sh1 _ (by omega), i_or, i_or]
    rfl) fu 0 (by omega) (by omega)
  exact key
end CL

theorem pk_rem' {a d : Nat} (ha : a < 2 ^ 31) (h0 : 0 < d) (hd : d < 2 ^ 31) : nI a - nI (a / d) * nI d = nI (a % d) := by
  rw [← pk_div ha h0 hd]; exact pk_rem ha h0 hd
section CL
variable {fu k : Nat} {M : Mem} {σ : Md}
theorem wouldRead_ {i l : Nat} (hf : 50 ≤ fu) (hw : Wf σ) (h : MdC k M σ) (hi : i < mN σ) (hl : l < 26) : f_X0_wouldRead fu M k (nI i) (nI l) = some (if wdr σ i l = true then 1 else 0) := by
  obtain ⟨-, -, -, -, h6, -⟩ := id h
  obtain ⟨-, ⟨w1, w2⟩, w3, -⟩ := id hw
  unfold f_X0_wouldRead wdr
  simp only [lt]
  rw [gd_t (q_ib (by omega) hl), q_cl (a := l) (by omega), v26_ l hl, gd_t (q_ib (by omega) (by omega)), q_cl (by omega), hasGrown_ (by omega) (h6 i hi).2 (w3 i hi).2 (shp_lt l), bd_s]
  by_cases q : hg (mG σ i) (shp l) = true
  · rw [if_pos q, if_neg one0, seenCells_ hf hw h hi, bd_s, i_or, letterSeen_ hf hw h (Nat.or_lt_two_pow (n := 15) (seenx_lt _ _) (shp_lt l)), bd_s, q]
    by_cases z : rd (mS σ 2) (seenx (mG σ i) (mS σ 1) ||| shp l) = nI l
    · rw [if_pos z]; simp [z]
    · rw [if_neg z]; simp [z]
  · rw [if_neg q, if_pos rfl]
    simp [q]
theorem isAllowed_ {w i : Nat} (hf : 50 ≤ fu) (hw : Wf σ) (h : MdC k M σ) (hwo : w < mW σ) (hi : i < mN σ) : f_X0_isAllowed fu M k (k + 3 + 21 + 2 * w) (nI i) = some (if alw σ w i = true then 1 else 0) := by
  unfold f_X0_isAllowed alw
  rw [hasRoom_ hw h hwo hi, bd_s]
  by_cases q : room σ w i = true
  · have hr : i + mL σ w ≤ mN σ := of_decide_eq_true q
    rw [if_pos q, q, if_neg one0, hasFeud_ hf hw h hwo hr, bd_s]
    by_cases z : nofeud σ w i = true
    · rw [if_pos z, z, if_pos rfl]
      obtain ⟨-, -, -, -, -, h7⟩ := id h
      obtain ⟨-, ⟨w1, w2⟩, w3, w4, -⟩ := id hw
      have hlen := (w4 w hwo).2.1
      have key := cnte (fun n j => lp_X0_isAllowed_22 fu M k (k + 3 + 21 + 2 * w) (nI i) (fun _ => some 1) n (nI j)) (fun j => wdr σ (i + j) (mT σ w j)) (some 1) (some 0) (mL σ w) (fun n => by
          show lp_X0_isAllowed_22 _ _ _ _ _ _ (n + 1) _ = _
          rw [lp_X0_isAllowed_22, (h7 w hwo).1, if_pos (by rw [q_le (by omega) (by omega)]; omega)]) (fun n j hj hp => by
          show lp_X0_isAllowed_22 _ _ _ _ _ _ (n + 1) _ = lp_X0_isAllowed_22 _ _ _ _ _ _ n _
          rw [lp_X0_isAllowed_22, (h7 w hwo).1, if_neg (by rw [q_le (by omega) (by omega)]; omega), gd_t (q_ib (by omega) (by omega)), q_cl (by omega), (h7 w hwo).2.2 j hj, q_ad, wouldRead_ hf hw h (by omega) ((w4 w hwo).2.2.2 j hj), bd_s, if_pos hp, if_neg one0]
          simp only [lt]
          rw [li_1, q_ad]) (fun n j hj hp => by
          show lp_X0_isAllowed_22 _ _ _ _ _ _ (n + 1) _ = _
          rw [lp_X0_isAllowed_22, (h7 w hwo).1, if_neg (by rw [q_le (by omega) (by omega)]; omega), gd_t (q_ib (by omega) (by omega)), q_cl (by omega), (h7 w hwo).2.2 j hj, q_ad, wouldRead_ hf hw h (by omega) ((w4 w hwo).2.2.2 j hj), bd_s, if_neg (show ¬ (wdr σ (i + j) (mT σ w j) = true) by rw [hp]; decide), if_pos rfl]) fu 0 (by omega) (by omega)
      rw [Nat.sub_zero] at key
      refine key.trans ?_
      rw [Bool.true_and, Bool.true_and]
      split <;> rfl
    · rw [if_neg z, if_neg one0]
      simp [z]
  · rw [if_neg q, if_pos rfl]
    simp [q]
theorem lossOn_ {i l : Nat} (hf : 50 ≤ fu) (hw : Wf σ) (h : MdC k M σ) (hi : i < mN σ) (hl : l < 26) : f_X0_lossOn fu M k (nI i) (nI l) = some (nI (losx σ i l)) := by
  obtain ⟨-, h3, -, -, h6, -⟩ := id h
  obtain ⟨-, ⟨w1, w2⟩, w3, -⟩ := id hw
  unfold f_X0_lossOn
  have hx : grown (mG σ i) &&& (shp l ^^^ 4294967295) < 32768 := Nat.lt_of_le_of_lt Nat.and_le_left (grown_lt _)
  simp only [lt]
  rw [gd_t (q_ib (by omega) (by omega)), q_cl (by omega), grown_ (by omega) (h6 i hi).2 (w3 i hi).2, bd_s, gd_t (q_ib (by omega) hl), q_cl (by omega), v26_ l hl, m1, i_xor, i_and, li_3, gd_t (q_ib (by omega) (by omega)), gd_t (q_ib (by omega) (by omega)), grassOf_ (by omega) (h6 i hi).2 hx, bd_s, q_cl (by omega), h3 3 (by omega), q_mu]
  congr 3
  apply sm_congr
  intro c hc
  show (grown (mG σ i) &&& (shp l ^^^ 4294967295)).testBit c = _
  rw [Nat.testBit_and, Nat.testBit_xor, grown, bs_tb, tb_big c hc]
  simp [hc, losp]
theorem lossBy_ {w i : Nat} (hf : 50 ≤ fu) (hw : Wf σ) (h : MdC k M σ) (hwo : w < mW σ) (hr : i + mL σ w ≤ mN σ) : f_X0_lossBy fu M k (k + 3 + 21 + 2 * w) (nI i) = some (nI (losw σ w i)) := by
  obtain ⟨-, -, -, -, h6, h7⟩ := id h
  obtain ⟨-, ⟨w1, w2⟩, w3, w4, -⟩ := id hw
  have hlen := (w4 w hwo).2.1
  unfold f_X0_lossBy
  have key := cnt (fun n j => lp_X0_lossBy_5 fu M k (k + 3 + 21 + 2 * w) (nI i) (fun v8 => some v8) n (nI (sumf (fun j => losx σ (i + j) (mT σ w j)) j)) (nI j)) (some (nI (losw σ w i))) (mL σ w) (fun n => by
    show lp_X0_lossBy_5 _ _ _ _ _ _ (n + 1) _ _ = _
    rw [lp_X0_lossBy_5, (h7 w hwo).1, if_pos (by rw [q_le (by omega) (by omega)]; omega)]
    rfl) (fun n j hj => by
    show lp_X0_lossBy_5 _ _ _ _ _ _ (n + 1) _ _ = lp_X0_lossBy_5 _ _ _ _ _ _ n _ _
    have ht := (w4 w hwo).2.2.2 j hj
    rw [lp_X0_lossBy_5, (h7 w hwo).1]
    simp (disch := omega) only [li_0, li_1, li_2, li_3, li_4, li_5, li_6, li_7, li_8, li_9, li_10, li_12, li_14, li_15, li_20, li_24, li_25, li_26, li_30, li_32, li_35, li_36, li_40, li_44, li_48, li_53, li_57, li_58, li_64, li_80, li_90, li_97, li_99, li_100, li_126, li_135, li_269, li_270, li_999, li_512, li_32767, q_le, q_lt, q_eq, q_cl, q_ib, q_ad, q_mu, gd_t, gd_tt, if_pos, if_neg, lt, bd_s, (h7 w hwo).2.2 j hj, lossOn_ hf hw h (show i + j < mN σ by omega) ht]
    rfl) fu 0 (by omega) (by omega)
  exact key
/-- a share: of each of the owner's strips what is lost there, and its part of the rest -/
def shf (σ : Md) (w i a s : Nat) : Nat → Nat := fun j => if mO σ (i + j) = a then losx σ (i + j) (mT σ w j) + s / mL σ w + (if j < s % mL σ w then 1 else 0) else 0
theorem shf_le {σ : Md} {w i a s : Nat} (hw : Wf σ) (hwo : w < mW σ) (hr : i + mL σ w ≤ mN σ) (hs : s ≤ 99) : ∀ j, j < mL σ w → shf σ w i a s j ≤ 1400 := by
  intro j hj
  have h1 := losx_le (i := i + j) (l := mT σ w j) hw (by omega)
  have h2 : s / mL σ w ≤ s := Nat.div_le_self _ _
  unfold shf
  split
  · split <;> omega
  · omega
theorem shareOf_ {w i a s : Nat} (hf : 50 ≤ fu) (hw : Wf σ) (h : MdC k M σ) (hwo : w < mW σ) (hr : i + mL σ w ≤ mN σ) (ha : a < 6) (hs : s ≤ 99) : f_X0_shareOf fu M k (k + 3 + 21 + 2 * w) (nI i) (nI a) (nI s) = some (nI (sumf (shf σ w i a s) (mL σ w))) := by
  obtain ⟨-, -, -, -, h6, h7⟩ := id h
  obtain ⟨-, ⟨w1, w2⟩, w3, w4, -⟩ := id hw
  obtain ⟨l1, l2, -, l3⟩ := w4 w hwo
  have hm : s % mL σ w < mL σ w := Nat.mod_lt _ (by omega)
  have hd : s / mL σ w ≤ s := Nat.div_le_self _ _
  have hne : decide (¬ (nI (mL σ w) = 0)) = true := decide_eq_true (nI_ne0 (by omega) (by omega))
  unfold f_X0_shareOf
  rw [(h7 w hwo).1, if_pos (by rw [li_1, q_le (by omega) (by omega)]; omega), gd_t hne]
  simp only [lt]
  rw [gd_t hne, pk_div (by omega) (by omega) (by omega), pk_rem' (by omega) (by omega) (by omega)]
  have key := cnt (fun n j => lp_X0_shareOf_34 fu M k (k + 3 + 21 + 2 * w) (nI i) (nI a) (nI (s / mL σ w)) (nI (s % mL σ w)) (fun v13 => some v13) n (nI (sumf (shf σ w i a s) j)) (nI j)) (some (nI (sumf (shf σ w i a s) (mL σ w)))) (mL σ w) (fun n => by
    show lp_X0_shareOf_34 _ _ _ _ _ _ _ _ _ (n + 1) _ _ = _
    rw [lp_X0_shareOf_34, (h7 w hwo).1, if_pos (by rw [q_le (by omega) (by omega)]; omega)]) (fun n j hj => by
    show lp_X0_shareOf_34 _ _ _ _ _ _ _ _ _ (n + 1) _ _ = lp_X0_shareOf_34 _ _ _ _ _ _ _ _ _ n _ _
    have ho := (w3 (i + j) (by omega)).1
    have hsum := sumf_le (f := shf σ w i a s) (B := 1400) j (fun q hq => shf_le hw hwo hr hs q (by omega))
    rw [lp_X0_shareOf_34, (h7 w hwo).1, if_neg (by rw [q_le (by omega) (by omega)]; omega), q_ad, gd_t (q_ib (by omega) (by omega)), q_cl (by omega), (h6 (i + j) (by omega)).1]
    simp only [sumf]
    by_cases q : mO σ (i + j) = a
    · rw [if_pos (by rw [q]), gd_t (q_ib (by omega) (by omega)), q_cl (by omega), (h7 w hwo).2.2 j hj, lossOn_ hf hw h (by omega) (l3 j hj), bd_s]
      have e : shf σ w i a s j = losx σ (i + j) (mT σ w j) + s / mL σ w + (if j < s % mL σ w then 1 else 0) := by unfold shf; rw [if_pos q]
      rw [e]
      simp only [lt]
      by_cases z : j < s % mL σ w
      · rw [if_neg (by rw [q_le (by omega) (by omega)]; omega), bd_s, if_pos z, li_1, q_ad, q_ad, q_ad, q_ad]
      · rw [if_pos (by rw [q_le (by omega) (by omega)]; omega), bd_s, if_neg z, li_0, q_ad, q_ad, q_ad, li_1, q_ad]
    · rw [if_neg (by rw [q_eq (by omega) (by omega)]; exact q)]
      have e : shf σ w i a s j = 0 := by unfold shf; rw [if_neg q]
      rw [e]
      simp only [lt]
      rw [li_1, q_ad]
      rfl) fu 0 (by omega) (by omega)
  exact key
end CL
