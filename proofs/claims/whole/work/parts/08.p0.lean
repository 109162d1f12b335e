theorem li_0 : (0 : Int32) = nI 0 := rfl
theorem li_1 : (1 : Int32) = nI 1 := rfl
theorem li_2 : (2 : Int32) = nI 2 := rfl
theorem li_3 : (3 : Int32) = nI 3 := rfl
theorem li_4 : (4 : Int32) = nI 4 := rfl
theorem li_5 : (5 : Int32) = nI 5 := rfl
theorem li_6 : (6 : Int32) = nI 6 := rfl
theorem li_7 : (7 : Int32) = nI 7 := rfl
theorem li_8 : (8 : Int32) = nI 8 := rfl
theorem li_9 : (9 : Int32) = nI 9 := rfl
theorem li_10 : (10 : Int32) = nI 10 := rfl
theorem li_12 : (12 : Int32) = nI 12 := rfl
theorem li_14 : (14 : Int32) = nI 14 := rfl
theorem li_15 : (15 : Int32) = nI 15 := rfl
theorem li_20 : (20 : Int32) = nI 20 := rfl
theorem li_24 : (24 : Int32) = nI 24 := rfl
theorem li_25 : (25 : Int32) = nI 25 := rfl
theorem li_26 : (26 : Int32) = nI 26 := rfl
theorem li_30 : (30 : Int32) = nI 30 := rfl
theorem li_32 : (32 : Int32) = nI 32 := rfl
theorem li_35 : (35 : Int32) = nI 35 := rfl
theorem li_36 : (36 : Int32) = nI 36 := rfl
theorem li_40 : (40 : Int32) = nI 40 := rfl
theorem li_44 : (44 : Int32) = nI 44 := rfl
theorem li_48 : (48 : Int32) = nI 48 := rfl
theorem li_53 : (53 : Int32) = nI 53 := rfl
theorem li_57 : (57 : Int32) = nI 57 := rfl
theorem li_58 : (58 : Int32) = nI 58 := rfl
theorem li_64 : (64 : Int32) = nI 64 := rfl
theorem li_80 : (80 : Int32) = nI 80 := rfl
theorem li_90 : (90 : Int32) = nI 90 := rfl
theorem li_97 : (97 : Int32) = nI 97 := rfl
theorem li_99 : (99 : Int32) = nI 99 := rfl
theorem li_100 : (100 : Int32) = nI 100 := rfl
theorem li_126 : (126 : Int32) = nI 126 := rfl
theorem li_135 : (135 : Int32) = nI 135 := rfl
theorem li_269 : (269 : Int32) = nI 269 := rfl
theorem li_270 : (270 : Int32) = nI 270 := rfl
theorem li_999 : (999 : Int32) = nI 999 := rfl
theorem li_512 : (512 : Int32) = nI 512 := rfl
theorem li_32767 : (32767 : Int32) = nI 32767 := rfl
theorem q_le {a b : Nat} (ha : a < 2147483648) (hb : b < 2147483648) : (nI a ≤ nI b) ↔ a ≤ b := nI_leI ha hb
theorem q_lt {a b : Nat} (ha : a < 2147483648) (hb : b < 2147483648) : (nI a < nI b) ↔ a < b := nI_ltI ha hb
theorem q_eq {a b : Nat} (ha : a < 2147483648) (hb : b < 2147483648) : (nI a = nI b) ↔ a = b := nI_eq ha hb
theorem q_cl {a : Nat} (ha : a < 2147483648) : (nI a).toNatClampNeg = a := nI_clamp ha
theorem q_in {a n : Nat} (ha : a < 2147483648) : inb (nI a) n = decide (a < n) := by
  unfold inb
  rw [nI_clamp ha]
  have := nI_pos (n := a) ha
  simp [this]
theorem q_ib {a n : Nat} (ha : a < 2147483648) (h : a < n) : inb (nI a) n = true := by rw [q_in ha]; simpa using h
theorem q_ad {a b : Nat} : nI a + nI b = nI (a + b) := nI_add a b
theorem q_mu {a b : Nat} : nI a * nI b = nI (a * b) := pk_mul a b
theorem q_sb {a b : Nat} (h : b ≤ a) : nI a - nI b = nI (a - b) := pk_sub h
theorem gd_t {α : Type} {b : Bool} {K : Option α} (h : b = true) : gd b K = K := by rw [h]; rfl
theorem gd_tt {α : Type} {K : Option α} : gd true K = K := rfl
theorem bd_s {α β : Type} {a : α} {f : α → Option β} : (some a).bind f = f a := rfl
/-- a counter that goes up to N -/
theorem cnt {R : Type} (f : Nat → Nat → R) (out : R) (N : Nat) (h1 : ∀ n, f (n + 1) N = out) (h2 : ∀ n i, i < N → f (n + 1) i = f n (i + 1)) : ∀ n i, i ≤ N → N - i < n → f n i = out := by
  intro n
  induction n with
  | zero => intro i _ h; omega
  | succ n ih =>
    intro i hi hn
    by_cases h : i = N
    · rw [h]; exact h1 n
    · rw [h2 n i (by omega)]
      exact ih (i + 1) (by omega) (by omega)
/-- bits of a set of the first n -/
def bs (p : Nat → Bool) : Nat → Nat
  | 0 => 0
  | n + 1 => bs p n + (if p n = true then 2 ^ n else 0)
theorem bs_lt (p : Nat → Bool) (n : Nat) : bs p n < 2 ^ n := by
  induction n with
  | zero => simp [bs]
  | succ n ih => unfold bs; rw [Nat.pow_succ]; split <;> omega
theorem sh1 : ∀ c, c < 31 → (1 : Int32) <<< (nI c &&& (31 : Int32)) = nI (2 ^ c) := by decide +kernel
theorem i_or {a b : Nat} : nI a ||| nI b = nI (a ||| b) := by
  unfold nI; apply Int32.toBitVec_inj.mp; simp
theorem i_xor {a b : Nat} : nI a ^^^ nI b = nI (a ^^^ b) := by
  unfold nI; apply Int32.toBitVec_inj.mp; simp
theorem i_and {a b : Nat} : nI a &&& nI b = nI (a &&& b) := by
  unfold nI; apply Int32.toBitVec_inj.mp; simp
theorem i_or1 {a c : Nat} (h : a < 2 ^ c) (hc : c < 31) : nI a ||| ((1 : Int32) <<< (nI c &&& (31 : Int32))) = nI (a + 2 ^ c) := by
  rw [sh1 c hc, i_or]
  congr 1
  have := Nat.two_pow_add_eq_or_of_lt h 1
  rw [Nat.mul_one] at this
  rw [Nat.or_comm, ← this, Nat.add_comm]
/-- the row of a strip -/
def Rw (M : Mem) (b : Nat) (g : Nat → Nat) : Prop := ∀ c, c < 15 → M b c = nI (g c)
theorem lp_cellsUpTo {fu : Nat} {M : Mem} {b : Nat} {h : Int32} {K : Int32 → Option Int32} {g : Nat → Nat} (hr : Rw M (b + 1) g) : ∀ n i, i ≤ 15 → 15 - i < n → lp_X4_cellsUpTo_4 fu M b h K n (nI (bs (fun c => decide (nI (g c) ≤ h)) i)) (nI i) = K (nI (bs (fun c => decide (nI (g c) ≤ h)) 15)) := by
  refine cnt (fun n i => lp_X4_cellsUpTo_4 fu M b h K n (nI (bs (fun c => decide (nI (g c) ≤ h)) i)) (nI i)) _ 15 (fun n => ?_) (fun n i hi => ?_)
  · show lp_X4_cellsUpTo_4 _ _ _ _ _ (n + 1) _ _ = _
    rw [lp_X4_cellsUpTo_4]
    simp (disch := omega) only [li_0, li_1, li_2, li_3, li_4, li_5, li_6, li_7, li_8, li_9, li_10, li_12, li_14, li_15, li_20, li_24, li_25, li_26, li_30, li_32, li_35, li_36, li_40, li_44, li_48, li_53, li_57, li_58, li_64, li_80, li_90, li_97, li_99, li_100, li_126, li_135, li_269, li_270, li_999, li_512, li_32767, q_le, q_lt, q_eq, q_cl, q_ib, q_ad, q_mu, gd_t, gd_tt, if_pos, if_neg, lt, bd_s]
  · show lp_X4_cellsUpTo_4 _ _ _ _ _ (n + 1) _ _ = lp_X4_cellsUpTo_4 _ _ _ _ _ n _ _
    rw [lp_X4_cellsUpTo_4]
    simp (disch := omega) only [li_0, li_1, li_2, li_3, li_4, li_5, li_6, li_7, li_8, li_9, li_10, li_12, li_14, li_15, li_20, li_24, li_25, li_26, li_30, li_32, li_35, li_36, li_40, li_44, li_48, li_53, li_57, li_58, li_64, li_80, li_90, li_97, li_99, li_100, li_126, li_135, li_269, li_270, li_999, li_512, li_32767, q_le, q_lt, q_eq, q_cl, q_ib, q_ad, q_mu, gd_t, gd_tt, if_pos, if_neg, lt, bd_s, hr i hi]
    have hl := bs_lt (fun c => decide (nI (g c) ≤ h)) i
    by_cases q : nI (g i) ≤ h
    · rw [if_neg (Int32.not_lt.mpr q)]
      simp only [bs, decide_eq_true q, if_true]
      rw [← li_1, i_or1 hl (by omega)]
    · rw [if_pos (Int32.not_le.mp q)]
      simp only [bs, decide_eq_false q]
      simp
