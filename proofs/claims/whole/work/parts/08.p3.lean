/-! what a meadow is: settings, strips, owners, grass, words, their lengths, pay, letters, feuds, hay -/
abbrev Md : Type := (Nat → Nat) × Nat × (Nat → Nat) × (Nat → Nat → Nat) × Nat × (Nat → Nat) × (Nat → Nat) × (Nat → Nat → Nat) × (Nat → Nat → Bool) × (Nat → Int32)
abbrev mS (σ : Md) : Nat → Nat := σ.1
abbrev mN (σ : Md) : Nat := σ.2.1
abbrev mO (σ : Md) : Nat → Nat := σ.2.2.1
abbrev mG (σ : Md) : Nat → Nat → Nat := σ.2.2.2.1
abbrev mW (σ : Md) : Nat := σ.2.2.2.2.1
abbrev mL (σ : Md) : Nat → Nat := σ.2.2.2.2.2.1
abbrev mP (σ : Md) : Nat → Nat := σ.2.2.2.2.2.2.1
abbrev mT (σ : Md) : Nat → Nat → Nat := σ.2.2.2.2.2.2.2.1
abbrev mF (σ : Md) : Nat → Nat → Bool := σ.2.2.2.2.2.2.2.2.1
abbrev mH (σ : Md) : Nat → Int32 := σ.2.2.2.2.2.2.2.2.2
def Wf (σ : Md) : Prop := (mS σ 0 ≤ 5 ∧ mS σ 1 ≤ 8 ∧ mS σ 2 ≤ 7 ∧ mS σ 3 ≤ 9) ∧ (mN σ ≤ 9 ∧ mW σ ≤ 10) ∧ (∀ i, i < mN σ → mO σ i < 6 ∧ ∀ c, c < 15 → mG σ i c ≤ 9) ∧ (∀ w, w < mW σ → 1 ≤ mL σ w ∧ mL σ w ≤ 6 ∧ mP σ w ≤ 99 ∧ ∀ j, j < mL σ w → mT σ w j < 26) ∧ (∀ a b, mF σ a b = mF σ b a) ∧ ∀ a, mF σ a a = false
/-- the class's meadow at the cell k -/
def MdC (k : Nat) (M : Mem) (σ : Md) : Prop := (M k 2 = nI (mN σ) ∧ M k 4 = nI (mW σ)) ∧ (∀ j, j < 4 → M (k + 1) j = nI (mS σ j)) ∧ (∀ a, a < 6 → M (k + 4) a = nI (bs (mF σ a) 6)) ∧ (∀ a, a < 6 → M (k + 5) a = mH σ a) ∧ (∀ i, i < mN σ → M (k + 2 + 4 + 2 * i) 0 = nI (mO σ i) ∧ Rw M (k + 2 + 4 + 2 * i + 1) (mG σ i)) ∧ ∀ w, w < mW σ → M (k + 3 + 21 + 2 * w) 0 = nI (mL σ w) ∧ M (k + 3 + 21 + 2 * w) 1 = nI (mP σ w) ∧ ∀ j, j < mL σ w → M (k + 3 + 21 + 2 * w + 1) j = nI (mT σ w j)
theorem MdC.frame {k : Nat} {M M1 : Mem} {σ : Md} (h : MdC k M σ) (he : ∀ a, k ≤ a → a < k + 44 → M1 a = M a) (hw : Wf σ) : MdC k M1 σ := by
  obtain ⟨⟨h1, h2⟩, h3, h4, h5, h6, h7⟩ := h
  obtain ⟨-, ⟨w1, w2⟩, -⟩ := hw
  refine ⟨⟨by rw [he k (by omega) (by omega)]; exact h1, by rw [he k (by omega) (by omega)]; exact h2⟩, fun j hj => by rw [he (k + 1) (by omega) (by omega)]; exact h3 j hj, fun a ha => by rw [he (k + 4) (by omega) (by omega)]; exact h4 a ha, fun a ha => by rw [he (k + 5) (by omega) (by omega)]; exact h5 a ha, fun i hi => ?_, fun w hw => ?_⟩
  · unfold Rw
    rw [he _ (by omega) (by omega), he _ (by omega) (by omega)]
    exact h6 i hi
  · rw [he _ (by omega) (by omega), he _ (by omega) (by omega)]
    exact h7 w hw
/-! loops that may end early -/
def alf (P : Nat → Bool) : Nat → Nat → Bool
  | 0, _ => true
  | k + 1, i => P i && alf P k (i + 1)
theorem alf_iff {P : Nat → Bool} : ∀ k i, alf P k i = true ↔ ∀ j, i ≤ j → j < i + k → P j = true
  | 0, i => by
    constructor
    · intro _ j h1 h2; omega
    · intro _; rfl
  | k + 1, i => by
    unfold alf
    rw [Bool.and_eq_true, alf_iff k (i + 1)]
    constructor
    · intro ⟨h1, h2⟩ j h3 h4
      by_cases e : j = i
      · rw [e]; exact h1
      · exact h2 j (by omega) (by omega)
    · intro h
      exact ⟨h i (by omega) (by omega), fun j h1 h2 => h j (by omega) (by omega)⟩
theorem alf_congr {P Q : Nat → Bool} {k i : Nat} (h : ∀ j, i ≤ j → j < i + k → P j = Q j) : alf P k i = alf Q k i := by
  have e : alf P k i = true ↔ alf Q k i = true := by
    rw [alf_iff, alf_iff]
    constructor
    · intro q j h1 h2; rw [← h j h1 h2]; exact q j h1 h2
    · intro q j h1 h2; rw [h j h1 h2]; exact q j h1 h2
  exact Bool.eq_iff_iff.mpr e
theorem cnte {R : Type} (f : Nat → Nat → R) (P : Nat → Bool) (out e : R) (N : Nat) (h1 : ∀ n, f (n + 1) N = out) (h2 : ∀ n i, i < N → P i = true → f (n + 1) i = f n (i + 1)) (h3 : ∀ n i, i < N → P i = false → f (n + 1) i = e) : ∀ n i, i ≤ N → N - i < n → f n i = if alf P (N - i) i = true then out else e := by
  intro n
  induction n with
  | zero => intro i _ h; omega
  | succ n ih =>
    intro i hi hn
    by_cases h : i = N
    · rw [h, Nat.sub_self, h1 n]; rfl
    · rw [show N - i = (N - (i + 1)) + 1 by omega]
      unfold alf
      cases q : P i with
      | true => rw [h2 n i (by omega) q, ih (i + 1) (by omega) (by omega)]; rfl
      | false => rw [h3 n i (by omega) q]; rfl
/-! reading -/
/-- what is seen when n weeks have gone -/
def seenW (g : Nat → Nat) (low grw n : Nat) : Nat := bs (fun c => decide (g c + n * grw ≤ low)) 15
theorem seenW_lt (g : Nat → Nat) (low grw n : Nat) : seenW g low grw n < 32768 := bs_lt _ 15
theorem seenW_0 (g : Nat → Nat) (low grw : Nat) : seenW g low grw 0 = seenx g low := by
  unfold seenW seenx
  apply bs_congr
  intro c _
  rw [Nat.zero_mul, Nat.add_zero]
theorem thr {a low q : Nat} (ha : a < 1000) (hl : low < 1000) (hq : q < 1000) : (nI a ≤ nI low - nI q) ↔ a + q ≤ low := by
  rw [Int32.le_iff_toInt_le, nI_toInt (by omega), pk_sub_toInt (by omega) (by omega)]
  omega
section CL
variable {fu k : Nat} {M : Mem} {σ : Md}
theorem seenCells_ {i : Nat} (hf : 50 ≤ fu) (hw : Wf σ) (h : MdC k M σ) (hi : i < mN σ) : f_X0_seenCells fu M k (nI i) = some (nI (seenx (mG σ i) (mS σ 1))) := by
  obtain ⟨-, h3, -, -, h6, -⟩ := h
  obtain ⟨⟨-, w1, -⟩, ⟨w2, -⟩, w3, -⟩ := hw
  unfold f_X0_seenCells
  simp (disch := omega) only [li_0, li_1, li_2, li_3, li_4, li_5, li_6, li_7, li_8, li_9, li_10, li_12, li_14, li_15, li_20, li_24, li_25, li_26, li_30, li_32, li_35, li_36, li_40, li_44, li_48, li_53, li_57, li_58, li_64, li_80, li_90, li_97, li_99, li_100, li_126, li_135, li_269, li_270, li_999, li_512, li_32767, q_le, q_lt, q_eq, q_cl, q_ib, q_ad, q_mu, gd_t, gd_tt, if_pos, if_neg, lt, bd_s]
  rw [h3 1 (by omega), cut_n (by omega) (h6 i hi).2 (w3 i hi).2 (by omega)]
  rfl
theorem letterSeen_ {x : Nat} (hf : 50 ≤ fu) (hw : Wf σ) (h : MdC k M σ) (hx : x < 32768) : f_X0_letterSeenAs fu M k (nI x) = some (rd (mS σ 2) x) := by
  obtain ⟨-, h3, -⟩ := h
  obtain ⟨⟨-, -, w1, -⟩, -⟩ := hw
  exact lsa (by omega) hx (h3 2 (by omega)) (by omega)
theorem letterOn_ {i : Nat} (hf : 50 ≤ fu) (hw : Wf σ) (h : MdC k M σ) (hi : i < mN σ) : f_X0_letterOn fu M k (nI i) = some (rd (mS σ 2) (seenx (mG σ i) (mS σ 1))) := by
  unfold f_X0_letterOn
  rw [seenCells_ hf hw h hi, bd_s, letterSeen_ hf hw h (seenx_lt _ _), bd_s]
def room (σ : Md) (w i : Nat) : Bool := decide (i + mL σ w ≤ mN σ)
theorem hasRoom_ {w i : Nat} (hw : Wf σ) (h : MdC k M σ) (hwo : w < mW σ) (hi : i < mN σ) : f_X0_hasRoom M k (k + 3 + 21 + 2 * w) (nI i) = some (if room σ w i = true then 1 else 0) := by
  obtain ⟨⟨h1, -⟩, -, -, -, -, h7⟩ := h
  obtain ⟨-, ⟨w1, -⟩, -, w4, -⟩ := hw
  have := (w4 w hwo).2.1
  unfold f_X0_hasRoom room
  rw [h1, (h7 w hwo).1, q_ad]
  by_cases q : i + mL σ w ≤ mN σ
  · rw [if_neg (by rw [q_lt (by omega) (by omega)]; omega)]
    simp [q]
  · rw [if_pos (by rw [q_lt (by omega) (by omega)]; omega)]
    simp [q]
/-- whether a word stands at a strip, sb being what is seen of each -/
def wrG (far : Nat) (σ : Md) (sb : Nat → Nat) (w i : Nat) : Bool := room σ w i && alf (fun j => decide (rd far (sb (i + j)) = nI (mT σ w j))) (mL σ w) 0
theorem isWritten_ {w i wk : Nat} (hf : 50 ≤ fu) (hw : Wf σ) (h : MdC k M σ) (hwo : w < mW σ) (hi : i < mN σ) (hwk : wk ≤ 30) : f_X0_isWritten fu M k (k + 3 + 21 + 2 * w) (nI i) (nI wk) = some (if wrG (mS σ 2) σ (fun q => seenW (mG σ q) (mS σ 1) (mS σ 0) wk) w i = true then 1 else 0) := by
  unfold f_X0_isWritten
  rw [hasRoom_ hw h hwo hi, bd_s]
  unfold wrG
  by_cases q : room σ w i = true
  · rw [if_pos q, q, if_neg one0]
    obtain ⟨h1, h3, h4, h5, h6, h7⟩ := id h
    obtain ⟨⟨s0, s1, s2, s3⟩, ⟨w1, w2⟩, w3, w4, -⟩ := id hw
    have hlen := (w4 w hwo).2.1
    have hr : i + mL σ w ≤ mN σ := of_decide_eq_true q
    have hm : wk * mS σ 0 ≤ 150 := Nat.mul_le_mul hwk s0
    simp (disch := omega) only [li_0, li_1, li_2, li_3, li_4, li_5, li_6, li_7, li_8, li_9, li_10, li_12, li_14, li_15, li_20, li_24, li_25, li_26, li_30, li_32, li_35, li_36, li_40, li_44, li_48, li_53, li_57, li_58, li_64, li_80, li_90, li_97, li_99, li_100, li_126, li_135, li_269, li_270, li_999, li_512, li_32767, q_le, q_lt, q_eq, q_cl, q_ib, q_ad, q_mu, gd_t, gd_tt, if_pos, if_neg, lt, bd_s]
    rw [h3 1 (by omega), h3 0 (by omega), q_mu]
    have key := cnte (fun n j => lp_X0_isWritten_31 fu M k (k + 3 + 21 + 2 * w) (nI i) (nI (mS σ 1) - nI (wk * mS σ 0)) (fun _ => some 1) n (nI j)) (fun j => decide (rd (mS σ 2) (seenW (mG σ (i + j)) (mS σ 1) (mS σ 0) wk) = nI (mT σ w j))) (some 1) (some 0) (mL σ w) (fun n => by
        show lp_X0_isWritten_31 _ _ _ _ _ _ _ (n + 1) _ = _
        rw [lp_X0_isWritten_31, (h7 w hwo).1]
        simp (disch := omega) only [li_0, li_1, li_2, li_3, li_4, li_5, li_6, li_7, li_8, li_9, li_10, li_12, li_14, li_15, li_20, li_24, li_25, li_26, li_30, li_32, li_35, li_36, li_40, li_44, li_48, li_53, li_57, li_58, li_64, li_80, li_90, li_97, li_99, li_100, li_126, li_135, li_269, li_270, li_999, li_512, li_32767, q_le, q_lt, q_eq, q_cl, q_ib, q_ad, q_mu, gd_t, gd_tt, if_pos, if_neg, lt, bd_s]) (fun n j hj hp => by
        show lp_X0_isWritten_31 _ _ _ _ _ _ _ (n + 1) _ = lp_X0_isWritten_31 _ _ _ _ _ _ _ n _
        rw [lp_X0_isWritten_31, (h7 w hwo).1]
        simp (disch := omega) only [li_0, li_1, li_2, li_3, li_4, li_5, li_6, li_7, li_8, li_9, li_10, li_12, li_14, li_15, li_20, li_24, li_25, li_26, li_30, li_32, li_35, li_36, li_40, li_44, li_48, li_53, li_57, li_58, li_64, li_80, li_90, li_97, li_99, li_100, li_126, li_135, li_269, li_270, li_999, li_512, li_32767, q_le, q_lt, q_eq, q_cl, q_ib, q_ad, q_mu, gd_t, gd_tt, if_pos, if_neg, lt, bd_s, (h7 w hwo).2.2 j hj]
        have e : bs (fun c => decide (nI (mG σ (i + j) c) ≤ nI (mS σ 1) - nI (wk * mS σ 0))) 15 = seenW (mG σ (i + j)) (mS σ 1) (mS σ 0) wk := by
          apply bs_congr
          intro c hc
          have := (w3 (i + j) (by omega)).2 c hc
          exact decide_eq_decide.mpr (thr (by omega) (by omega) (by omega))
        rw [cut_ (by omega) (h6 (i + j) (by omega)).2, bd_s, e, letterSeen_ hf hw h (seenW_lt _ _ _ _), bd_s, if_pos (of_decide_eq_true hp)]) (fun n j hj hp => by
        show lp_X0_isWritten_31 _ _ _ _ _ _ _ (n + 1) _ = _
        rw [lp_X0_isWritten_31, (h7 w hwo).1]
        simp (disch := omega) only [li_0, li_1, li_2, li_3, li_4, li_5, li_6, li_7, li_8, li_9, li_10, li_12, li_14, li_15, li_20, li_24, li_25, li_26, li_30, li_32, li_35, li_36, li_40, li_44, li_48, li_53, li_57, li_58, li_64, li_80, li_90, li_97, li_99, li_100, li_126, li_135, li_269, li_270, li_999, li_512, li_32767, q_le, q_lt, q_eq, q_cl, q_ib, q_ad, q_mu, gd_t, gd_tt, if_pos, if_neg, lt, bd_s, (h7 w hwo).2.2 j hj]
        have e : bs (fun c => decide (nI (mG σ (i + j) c) ≤ nI (mS σ 1) - nI (wk * mS σ 0))) 15 = seenW (mG σ (i + j)) (mS σ 1) (mS σ 0) wk := by
          apply bs_congr
          intro c hc
          have := (w3 (i + j) (by omega)).2 c hc
          exact decide_eq_decide.mpr (thr (by omega) (by omega) (by omega))
        rw [cut_ (by omega) (h6 (i + j) (by omega)).2, bd_s, e, letterSeen_ hf hw h (seenW_lt _ _ _ _), bd_s, if_neg (of_decide_eq_false hp)]) fu 0 (by omega) (by omega)
    rw [Nat.sub_zero] at key
    refine key.trans ?_
    rw [Bool.true_and]
    split <;> rfl
  · rw [if_neg q, if_pos rfl]
    simp [q]
end CL
