/-! bits -/
theorem bs_congr {p q : Nat → Bool} : ∀ n, (∀ c, c < n → p c = q c) → bs p n = bs q n
  | 0, _ => rfl
  | n + 1, h => by
    simp only [bs]
    rw [bs_congr n (fun c hc => h c (by omega)), h n (by omega)]
theorem bs_tb (p : Nat → Bool) : ∀ n j, (bs p n).testBit j = (decide (j < n) && p j)
  | 0, j => by simp [bs]
  | n + 1, j => by
    have h := bs_tb p n j
    have hl := bs_lt p n
    simp only [bs]
    by_cases q : p n = true
    · rw [if_pos q]
      have e : bs p n + 2 ^ n = 2 ^ n * 1 + bs p n := by omega
      rw [e, Nat.testBit_two_pow_mul_add 1 hl, h]
      by_cases hj : j < n
      · simp [hj, Nat.lt_succ_of_lt hj]
      · by_cases he : j = n
        · subst he; simp [q]
        · have : ¬ j < n + 1 := by omega
          simp only [if_neg hj, this, decide_false, Bool.false_and]
          rw [Nat.testBit_lt_two_pow]
          exact Nat.one_lt_two_pow (by omega)
    · rw [if_neg q, Nat.add_zero, h]
      by_cases hj : j < n
      · simp [hj, Nat.lt_succ_of_lt hj]
      · by_cases he : j = n
        · subst he; simp [q]
        · have : ¬ j < n + 1 := by omega
          simp [hj, this]
theorem m1 : (-1 : Int32) = nI 4294967295 := by decide +kernel
theorem tb_big : ∀ j, j < 15 → (4294967295 : Nat).testBit j = true := by decide +kernel
theorem tb_32767 : ∀ j, j < 15 → (32767 : Nat).testBit j = true := by decide +kernel
theorem tb_hi {x j : Nat} (hx : x < 32768) (hj : ¬ j < 15) : x.testBit j = false := Nat.testBit_lt_two_pow (Nat.lt_of_lt_of_le hx (show 2 ^ 15 ≤ 2 ^ j from Nat.pow_le_pow_right (by omega) (by omega)))
/-- what has grown -/
def grown (g : Nat → Nat) : Nat := bs (fun c => decide (2 < g c)) 15
theorem grown_lt (g : Nat → Nat) : grown g < 32768 := bs_lt _ 15
theorem not_bs (p : Nat → Bool) : 32767 &&& (bs p 15 ^^^ 4294967295) = bs (fun c => !(p c)) 15 := by
  apply Nat.eq_of_testBit_eq
  intro j
  rw [Nat.testBit_and, Nat.testBit_xor, bs_tb, bs_tb]
  by_cases hj : j < 15
  · simp [hj, tb_big j hj, tb_32767 j hj]
  · simp [hj, tb_hi (x := 32767) (by omega) hj]
def hg (g : Nat → Nat) (x : Nat) : Bool := (List.range 15).all (fun c => !(x.testBit c) || decide (2 < g c))
theorem hg_iff {g : Nat → Nat} {x : Nat} : hg g x = true ↔ ∀ c, c < 15 → x.testBit c = true → 2 < g c := by
  unfold hg
  rw [List.all_eq_true]
  constructor
  · intro h c hc hb
    have := h c (List.mem_range.mpr hc)
    rw [hb] at this
    simpa using this
  · intro h c hc
    have := h c (List.mem_range.mp hc)
    cases hb : x.testBit c with
    | false => rfl
    | true => simpa using this hb
theorem hg_bits {g : Nat → Nat} {x : Nat} (hx : x < 32768) : (x &&& (grown g ^^^ 4294967295)) = 0 ↔ hg g x = true := by
  rw [hg_iff]
  constructor
  · intro h c hc hb
    have h2 : (x &&& (grown g ^^^ 4294967295)).testBit c = false := by rw [h]; simp
    rw [Nat.testBit_and, Nat.testBit_xor, hb, tb_big c hc, grown, bs_tb] at h2
    simpa [hc] using h2
  · intro h
    apply Nat.eq_of_testBit_eq
    intro j
    rw [Nat.testBit_and, Nat.testBit_xor, grown, bs_tb, Nat.zero_testBit]
    by_cases hj : j < 15
    · rw [tb_big j hj]
      cases hb : x.testBit j with
      | false => simp
      | true => simp [hj, h j hj hb]
    · rw [tb_hi hx hj]; simp
theorem sh_c : ∀ c, c < 15 → ((nI c &&& (31 : Int32)).toBitVec.smod 32).toNat = c := by decide +kernel
theorem tbit {x c : Nat} (hx : x < 2147483648) (hc : c < 15) : ((nI x >>> (nI c &&& (31 : Int32))) &&& (1 : Int32)) = nI (x / 2 ^ c % 2) := by
  rw [pk_shrN hx (nI c &&& (31 : Int32)) c (sh_c c hc), pk_andN (n := x / 2 ^ c) (Nat.lt_of_le_of_lt (Nat.div_le_self _ _) (by omega)) 1 (by decide +kernel)]
theorem tbit1 {x c : Nat} (hx : x < 2147483648) (hc : c < 15) : (((nI x >>> (nI c &&& (31 : Int32))) &&& (1 : Int32)) = nI 1) ↔ x.testBit c = true := by
  rw [tbit hx hc, q_eq (by omega) (by omega), Nat.testBit_eq_decide_div_mod_eq]
  simp
theorem has_ {x c : Nat} (hx : x < 2147483648) (hc : c < 15) : f_X8_has (nI x) (nI c) = some (if x.testBit c = true then 1 else 0) := by
  unfold f_X8_has
  have h1 := tbit1 hx hc
  rw [← li_1] at h1
  by_cases h : x.testBit c = true
  · rw [if_pos (h1.mpr h), if_pos h]
  · rw [if_neg (fun q => h (h1.mp q)), if_neg h]
theorem sh_1 : ∀ c, c < 15 → (1 : Int32) <<< (nI c &&& (nI 31)) = nI (2 ^ c) := by decide +kernel
/-! sums over the cells -/
def sm (p : Nat → Bool) (g : Nat → Nat) : Nat → Nat
  | 0 => 0
  | n + 1 => sm p g n + (if p n = true then g n else 0)
theorem sm_le {p : Nat → Bool} {g : Nat → Nat} : ∀ n, (∀ c, c < n → g c ≤ 9) → sm p g n ≤ 9 * n
  | 0, _ => Nat.le_refl _
  | n + 1, h => by
    have h1 := sm_le (p := p) n (fun c hc => h c (by omega))
    have h2 := h n (by omega)
    simp only [sm]
    split <;> omega
theorem sm_congr {p q : Nat → Bool} {g : Nat → Nat} : ∀ n, (∀ c, c < n → p c = q c) → sm p g n = sm q g n
  | 0, _ => rfl
  | n + 1, h => by
    simp only [sm]
    rw [sm_congr n (fun c hc => h c (by omega)), h n (by omega)]
def seenx (g : Nat → Nat) (low : Nat) : Nat := bs (fun c => decide (g c ≤ low)) 15
theorem seenx_lt (g : Nat → Nat) (low : Nat) : seenx g low < 32768 := bs_lt _ 15
/-! the class's strips -/
theorem cut_ {fu : Nat} {M : Mem} {b : Nat} {h : Int32} {g : Nat → Nat} (hf : 16 ≤ fu) (hr : Rw M (b + 1) g) : f_X4_cellsUpTo fu M b h = some (nI (bs (fun c => decide (nI (g c) ≤ h)) 15)) := by
  unfold f_X4_cellsUpTo
  have h2 := lp_cellsUpTo (fu := fu) (M := M) (b := b) (h := h) (K := fun v5 => some v5) hr fu 0 (by omega) (by omega)
  exact h2
theorem cut_n {fu : Nat} {M : Mem} {b h : Nat} {g : Nat → Nat} (hf : 16 ≤ fu) (hr : Rw M (b + 1) g) (hg : ∀ c, c < 15 → g c ≤ 9) (hh : h < 100) : f_X4_cellsUpTo fu M b (nI h) = some (nI (seenx g h)) := by
  rw [cut_ hf hr]
  congr 2
  apply bs_congr
  intro c hc
  have := hg c hc
  exact decide_eq_decide.mpr (q_le (by omega) (by omega))
theorem grown_ {fu : Nat} {M : Mem} {b : Nat} {g : Nat → Nat} (hf : 16 ≤ fu) (hr : Rw M (b + 1) g) (hg : ∀ c, c < 15 → g c ≤ 9) : f_X4_grownCells fu M b = some (nI (grown g)) := by
  unfold f_X4_grownCells
  rw [li_2, cut_n hf hr hg (by omega), bd_s, m1, i_xor, li_32767, i_and]
  unfold seenx
  rw [not_bs]
  congr 2
  apply bs_congr
  intro c _
  by_cases q : g c ≤ 2
  · simp [q]
  · simp [q]; omega
theorem hasGrown_ {fu : Nat} {M : Mem} {b x : Nat} {g : Nat → Nat} (hf : 16 ≤ fu) (hr : Rw M (b + 1) g) (hg9 : ∀ c, c < 15 → g c ≤ 9) (hx : x < 32768) : f_X4_hasGrown fu M b (nI x) = some (if hg g x = true then 1 else 0) := by
  unfold f_X4_hasGrown
  have h3 := grown_lt g
  have h4 := hg_bits (g := g) hx
  have h5 : x &&& (grown g ^^^ 4294967295) ≤ x := Nat.and_le_left
  rw [grown_ hf hr hg9, bd_s, m1, i_xor, i_and, li_0]
  by_cases q : hg g x = true
  · rw [if_pos (by rw [h4.mpr q]), if_pos q]
  · rw [if_neg (by rw [q_eq (by omega) (by omega)]; exact fun z => q (h4.mp z)), if_neg q]
theorem lp_grassOf {fu : Nat} {M : Mem} {b x : Nat} {K : Int32 → Option Int32} {g : Nat → Nat} (hr : Rw M (b + 1) g) (hx : x < 32768) : ∀ n i, i ≤ 15 → 15 - i < n → lp_X4_grassOf_4 fu M b (nI x) K n (nI (sm (fun c => x.testBit c) g i)) (nI i) = K (nI (sm (fun c => x.testBit c) g 15)) := by
  refine cnt (fun n i => lp_X4_grassOf_4 fu M b (nI x) K n (nI (sm (fun c => x.testBit c) g i)) (nI i)) _ 15 (fun n => ?_) (fun n i hi => ?_)
  · show lp_X4_grassOf_4 _ _ _ _ _ (n + 1) _ _ = _
    rw [lp_X4_grassOf_4]
    simp (disch := omega) only [li_0, li_1, li_2, li_3, li_4, li_5, li_6, li_7, li_8, li_9, li_10, li_12, li_14, li_15, li_20, li_24, li_25, li_26, li_30, li_32, li_35, li_36, li_40, li_44, li_48, li_53, li_57, li_58, li_64, li_80, li_90, li_97, li_99, li_100, li_126, li_135, li_269, li_270, li_999, li_512, li_32767, q_le, q_lt, q_eq, q_cl, q_ib, q_ad, q_mu, gd_t, gd_tt, if_pos, if_neg, lt, bd_s]
  · show lp_X4_grassOf_4 _ _ _ _ _ (n + 1) _ _ = lp_X4_grassOf_4 _ _ _ _ _ n _ _
    rw [lp_X4_grassOf_4]
    rw [if_neg (by rw [li_15, q_le (by omega) (by omega)]; omega)]
    have h1 := tbit1 (x := x) (c := i) (by omega) hi
    rw [← li_1] at h1
    by_cases q : x.testBit i = true
    · rw [if_pos (h1.mpr q)]
      simp (disch := omega) only [li_0, li_1, li_2, li_3, li_4, li_5, li_6, li_7, li_8, li_9, li_10, li_12, li_14, li_15, li_20, li_24, li_25, li_26, li_30, li_32, li_35, li_36, li_40, li_44, li_48, li_53, li_57, li_58, li_64, li_80, li_90, li_97, li_99, li_100, li_126, li_135, li_269, li_270, li_999, li_512, li_32767, q_le, q_lt, q_eq, q_cl, q_ib, q_ad, q_mu, gd_t, gd_tt, if_pos, if_neg, lt, bd_s, hr i hi]
      simp only [sm, q, if_true]
    · rw [if_neg (fun z => q (h1.mp z))]
      simp (disch := omega) only [li_0, li_1, li_2, li_3, li_4, li_5, li_6, li_7, li_8, li_9, li_10, li_12, li_14, li_15, li_20, li_24, li_25, li_26, li_30, li_32, li_35, li_36, li_40, li_44, li_48, li_53, li_57, li_58, li_64, li_80, li_90, li_97, li_99, li_100, li_126, li_135, li_269, li_270, li_999, li_512, li_32767, q_le, q_lt, q_eq, q_cl, q_ib, q_ad, q_mu, gd_t, gd_tt, if_pos, if_neg, lt, bd_s]
      simp only [sm, q]
      simp
theorem grassOf_ {fu : Nat} {M : Mem} {b x : Nat} {g : Nat → Nat} (hf : 16 ≤ fu) (hr : Rw M (b + 1) g) (hx : x < 32768) : f_X4_grassOf fu M b (nI x) = some (nI (sm (fun c => x.testBit c) g 15)) := by
  unfold f_X4_grassOf
  exact lp_grassOf (fu := fu) (K := fun v5 => some v5) hr hx fu 0 (by omega) (by omega)
/-- a row cut: the cells of x below n are 0 -/
def cutM (M : Mem) (k x n : Nat) : Mem := fun a j => if a = k ∧ j < n ∧ x.testBit j = true then 0 else M a j
theorem cutM_0 {M : Mem} {k x : Nat} : cutM M k x 0 = M := by
  funext a j; simp [cutM]
theorem cutM_t {M : Mem} {k x n : Nat} (h : x.testBit n = true) : up (cutM M k x n) k n 0 = cutM M k x (n + 1) := by
  funext a j
  unfold up cutM
  by_cases h1 : a = k
  · by_cases h2 : j = n
    · subst h2; simp [h1, h]
    · have : (j < n) ↔ (j < n + 1) := by omega
      simp [h1, h2, this]
  · simp [h1]
theorem cutM_f {M : Mem} {k x n : Nat} (h : ¬ x.testBit n = true) : cutM M k x n = cutM M k x (n + 1) := by
  funext a j
  unfold cutM
  by_cases h2 : j = n
  · subst h2; simp [h]
  · have : (j < n) ↔ (j < n + 1) := by omega
    simp [this]
theorem lp_cutDown {fu : Nat} {M : Mem} {b x : Nat} {K : Mem → Option Mem} (hx : x < 32768) : ∀ n i, i ≤ 15 → 15 - i < n → lp_X4_cutDown_2 fu b (nI x) K n (nI i) (cutM M (b + 1) x i) = K (cutM M (b + 1) x 15) := by
  refine cnt (fun n i => lp_X4_cutDown_2 fu b (nI x) K n (nI i) (cutM M (b + 1) x i)) _ 15 (fun n => ?_) (fun n i hi => ?_)
  · show lp_X4_cutDown_2 _ _ _ _ (n + 1) _ _ = _
    rw [lp_X4_cutDown_2]
    simp (disch := omega) only [li_0, li_1, li_2, li_3, li_4, li_5, li_6, li_7, li_8, li_9, li_10, li_12, li_14, li_15, li_20, li_24, li_25, li_26, li_30, li_32, li_35, li_36, li_40, li_44, li_48, li_53, li_57, li_58, li_64, li_80, li_90, li_97, li_99, li_100, li_126, li_135, li_269, li_270, li_999, li_512, li_32767, q_le, q_lt, q_eq, q_cl, q_ib, q_ad, q_mu, gd_t, gd_tt, if_pos, if_neg, lt, bd_s]
  · show lp_X4_cutDown_2 _ _ _ _ (n + 1) _ _ = lp_X4_cutDown_2 _ _ _ _ n _ _
    rw [lp_X4_cutDown_2]
    rw [if_neg (by rw [li_15, q_le (by omega) (by omega)]; omega)]
    have h1 := tbit1 (x := x) (c := i) (by omega) hi
    rw [← li_1] at h1
    by_cases q : x.testBit i = true
    · rw [if_pos (h1.mpr q)]
      simp only [lt]
      rw [gd_t (q_ib (by omega) hi), q_cl (by omega), cutM_t q, li_1, q_ad]
    · rw [if_neg (fun z => q (h1.mp z)), ← cutM_f q]
      simp (disch := omega) only [li_0, li_1, li_2, li_3, li_4, li_5, li_6, li_7, li_8, li_9, li_10, li_12, li_14, li_15, li_20, li_24, li_25, li_26, li_30, li_32, li_35, li_36, li_40, li_44, li_48, li_53, li_57, li_58, li_64, li_80, li_90, li_97, li_99, li_100, li_126, li_135, li_269, li_270, li_999, li_512, li_32767, q_le, q_lt, q_eq, q_cl, q_ib, q_ad, q_mu, gd_t, gd_tt, if_pos, if_neg, lt, bd_s]
theorem cutDown_ {fu : Nat} {M : Mem} {b x : Nat} (hf : 16 ≤ fu) (hx : x < 32768) : f_X4_cutDown fu M b (nI x) = some (cutM M (b + 1) x 15) := by
  unfold f_X4_cutDown
  have h := lp_cutDown (fu := fu) (M := M) (b := b) (K := fun v5 => some v5) hx fu 0 (by omega) (by omega)
  rw [cutM_0] at h
  exact h
