theorem wb_tb (n : Nat) : (lN n).toBitVec = BitVec.ofNat 64 n := rfl
theorem wb_inj {a b : Int64} (h : a.toBitVec = b.toBitVec) : a = b := Int64.toBitVec_inj.mp h
theorem wb_tn {n : Nat} (h : n < 2 ^ 64) : (lN n).toBitVec.toNat = n := by rw [wb_tb, BitVec.toNat_ofNat, Nat.mod_eq_of_lt h]
theorem wb_of (x : Int64) : ∃ n, n < 2 ^ 64 ∧ x = lN n := ⟨x.toBitVec.toNat, x.toBitVec.isLt, wb_inj (by rw [wb_tb]; simp)⟩
theorem wb_of32 (x : Int32) : ∃ n, n < 2 ^ 32 ∧ x = nI n := ⟨x.toBitVec.toNat, x.toBitVec.isLt, Int32.toBitVec_inj.mp (by show _ = BitVec.ofNat 32 _; simp)⟩
theorem wb_c : ∀ k, k < 64 → ((nI k).toInt64 &&& 63) = lN k := by decide +kernel
theorem wb_cu : ∀ k, k < 64 → ((nI k).toInt64.toUInt64 &&& Int64.toUInt64 63) = UInt64.ofNat k := by decide +kernel
theorem wb_sm : ∀ k, k < 64 → (BitVec.ofNat 64 k).smod 64 = BitVec.ofNat 64 k := by decide +kernel
theorem wb_pw {a b : Nat} (h : a ≤ b) : 2 ^ b = 2 ^ a * 2 ^ (b - a) := by rw [← Nat.pow_add]; congr 1; omega
theorem wb_lt2 {a b : Nat} (h : a < b) : 2 ^ a < 2 ^ b := Nat.pow_lt_pow_right (by decide) h
theorem wb_mod (n : Nat) : lN n = lN (n % 2 ^ 64) := wb_inj (by rw [wb_tb, wb_tb]; apply BitVec.eq_of_toNat_eq; rw [BitVec.toNat_ofNat, BitVec.toNat_ofNat, Nat.mod_mod])
theorem wb_shr {n k : Nat} (hn : n < 2 ^ 64) (hk : k < 64) : ((lN n).toUInt64 >>> ((nI k).toInt64.toUInt64 &&& Int64.toUInt64 63)).toInt64 = lN (n / 2 ^ k) := by
  rw [wb_cu k hk]
  apply wb_inj
  apply BitVec.eq_of_toNat_eq
  show ((lN n).toUInt64 >>> UInt64.ofNat k).toNat = (BitVec.ofNat 64 _).toNat
  have h1 : (UInt64.ofNat k).toNat = k := by
    show (BitVec.ofNat 64 k).toNat = k
    rw [BitVec.toNat_ofNat, Nat.mod_eq_of_lt (by omega)]
  have h2 : (lN n).toUInt64.toNat = n := wb_tn hn
  rw [UInt64.toNat_shiftRight, h1, h2, Nat.mod_eq_of_lt hk, Nat.shiftRight_eq_div_pow, BitVec.toNat_ofNat, Nat.mod_eq_of_lt (Nat.lt_of_le_of_lt (Nat.div_le_self _ _) hn)]
theorem wb_shl (n : Nat) {k : Nat} (hk : k < 64) : lN n <<< ((nI k).toInt64 &&& 63) = lN (n * 2 ^ k) := by
  rw [wb_c k hk]
  apply wb_inj
  rw [Int64.toBitVec_shiftLeft, wb_tb, wb_tb, wb_tb, wb_sm k hk]
  apply BitVec.eq_of_toNat_eq
  rw [BitVec.shiftLeft_eq', BitVec.toNat_shiftLeft, BitVec.toNat_ofNat, BitVec.toNat_ofNat, BitVec.toNat_ofNat, Nat.mod_eq_of_lt (show k < 2 ^ 64 by omega), Nat.shiftLeft_eq, Nat.mul_mod, Nat.mod_mod, ← Nat.mul_mod]
theorem wb_and {a b : Nat} (ha : a < 2 ^ 64) (hb : b < 2 ^ 64) : lN a &&& lN b = lN (a &&& b) := by
  apply wb_inj
  rw [Int64.toBitVec_and, wb_tb, wb_tb, wb_tb]
  apply BitVec.eq_of_toNat_eq
  rw [BitVec.toNat_and, BitVec.toNat_ofNat, BitVec.toNat_ofNat, BitVec.toNat_ofNat, Nat.mod_eq_of_lt ha, Nat.mod_eq_of_lt hb, Nat.mod_eq_of_lt (Nat.and_lt_two_pow _ hb)]
theorem wb_or {a b : Nat} (ha : a < 2 ^ 64) (hb : b < 2 ^ 64) : lN a ||| lN b = lN (a ||| b) := by
  apply wb_inj
  rw [Int64.toBitVec_or, wb_tb, wb_tb, wb_tb]
  apply BitVec.eq_of_toNat_eq
  rw [BitVec.toNat_or, BitVec.toNat_ofNat, BitVec.toNat_ofNat, BitVec.toNat_ofNat, Nat.mod_eq_of_lt ha, Nat.mod_eq_of_lt hb, Nat.mod_eq_of_lt (Nat.or_lt_two_pow ha hb)]
theorem wb_mask {n k : Nat} (hn : n < 2 ^ 64) (hk : k < 64) : lN n &&& lN (2 ^ k - 1) = lN (n % 2 ^ k) := by
  rw [wb_and hn (by have := wb_lt2 hk; omega), Nat.and_two_pow_sub_one_eq_mod]
theorem wb_a1 {n : Nat} (hn : n < 2 ^ 64) : lN n &&& 1 = lN (n % 2) := wb_mask (k := 1) hn (by decide)
theorem wb_bit {n k : Nat} (hn : n < 2 ^ 64) (hk : k < 64) : ((lN n).toUInt64 >>> ((nI k).toInt64.toUInt64 &&& Int64.toUInt64 63)).toInt64 &&& 1 = lN (n / 2 ^ k % 2) := by
  rw [wb_shr hn hk, wb_a1 (Nat.lt_of_le_of_lt (Nat.div_le_self _ _) hn)]
theorem fb_andL (a b : Nat) : lN a &&& lN b = lN (a &&& b) := by
  apply Int64.toBitVec_inj.1
  show BitVec.ofNat 64 a &&& BitVec.ofNat 64 b = BitVec.ofNat 64 (a &&& b)
  apply BitVec.eq_of_getLsbD_eq
  intro i hi
  simp [hi]
theorem fb_orL (a b : Nat) : lN a ||| lN b = lN (a ||| b) := by
  apply Int64.toBitVec_inj.1
  show BitVec.ofNat 64 a ||| BitVec.ofNat 64 b = BitVec.ofNat 64 (a ||| b)
  apply BitVec.eq_of_getLsbD_eq
  intro i hi
  simp [hi]
theorem fb_xorL (a b : Nat) : lN a ^^^ lN b = lN (a ^^^ b) := by
  apply Int64.toBitVec_inj.1
  show BitVec.ofNat 64 a ^^^ BitVec.ofNat 64 b = BitVec.ofNat 64 (a ^^^ b)
  apply BitVec.eq_of_getLsbD_eq
  intro i hi
  simp [hi]
/-! a long as a set of 64 -/
def sN (P : Nat → Bool) : Int64 := lN (bs P 64)
theorem bs64 (P : Nat → Bool) : bs P 64 < 2 ^ 64 := bs_lt P 64
theorem sN_and (P Q : Nat → Bool) : sN P &&& sN Q = sN (fun j => P j && Q j) := by
  unfold sN
  rw [fb_andL]
  congr 1
  apply Nat.eq_of_testBit_eq
  intro j
  rw [Nat.testBit_and, bs_tb, bs_tb, bs_tb]
  by_cases h : j < 64
  · simp [h]
  · simp [h]
theorem m1L : (-1 : Int64) = lN (2 ^ 64 - 1) := by decide +kernel
theorem sN_not (P : Nat → Bool) : sN P ^^^ (-1 : Int64) = sN (fun j => !(P j)) := by
  unfold sN
  rw [m1L, fb_xorL]
  congr 1
  apply Nat.eq_of_testBit_eq
  intro j
  rw [Nat.testBit_xor, Nat.testBit_two_pow_sub_one, bs_tb, bs_tb]
  by_cases h : j < 64
  · simp [h]
  · simp [h]
theorem sN_1 : (-1 : Int64) = sN (fun _ => true) := by
  have e : bs (fun _ => true) 64 = 2 ^ 64 - 1 := by
    apply Nat.eq_of_testBit_eq
    intro j
    rw [Nat.testBit_two_pow_sub_one, bs_tb]
    simp
  unfold sN
  rw [m1L, e]
theorem sN_ext {P Q : Nat → Bool} (h : ∀ j, j < 64 → P j = Q j) : sN P = sN Q := by
  unfold sN
  rw [bs_congr 64 h]
theorem sN_0 (P : Nat → Bool) : sN P = 0 ↔ ∀ j, j < 64 → P j = false := by
  have h0 : (0 : Int64) = lN 0 := rfl
  rw [h0]
  constructor
  · intro h j hj
    have h2 : (lN (bs P 64)).toBitVec.toNat = (lN 0).toBitVec.toNat := congrArg (fun x : Int64 => x.toBitVec.toNat) h
    rw [wb_tn (bs64 P), wb_tn (by decide)] at h2
    have h4 := bs_tb P 64 j
    rw [h2, Nat.zero_testBit] at h4
    simpa [hj] using h4.symm
  · intro h
    show lN (bs P 64) = lN 0
    congr 1
    apply Nat.eq_of_testBit_eq
    intro j
    rw [bs_tb, Nat.zero_testBit]
    by_cases hj : j < 64
    · simp [h j hj]
    · simp [hj]
/-! how many bits a long has -/
def mm1 : Nat → Nat
  | 0 => 0
  | k + 1 => 256 * mm1 k + 85
def mm2 : Nat → Nat
  | 0 => 0
  | k + 1 => 256 * mm2 k + 51
def mm3 : Nat → Nat
  | 0 => 0
  | k + 1 => 256 * mm3 k + 15
def T1 (k x : Nat) : Nat := x - (x / 2 &&& mm1 k)
def T2 (k x : Nat) : Nat := (x &&& mm2 k) + (x / 4 &&& mm2 k)
def T3 (k x : Nat) : Nat := (x + x / 16) &&& mm3 k
theorem T1_s {k a b : Nat} (hb : b < 256) : T1 (k + 1) (256 * a + b) = 256 * T1 k a + t1 b := by
  have e : (256 * a + b) / 2 = 256 * (a / 2) + (128 * (a % 2) + b / 2) := by omega
  have h1 := and_split (a := a / 2) (b := 128 * (a % 2) + b / 2) (m := mm1 k) (n := 85) (by omega) (by omega)
  rw [m55 (a % 2) (by omega) b hb] at h1
  have h4 : a / 2 &&& mm1 k ≤ a / 2 := Nat.and_le_left
  have h5 : b / 2 &&& 85 ≤ b / 2 := Nat.and_le_left
  unfold T1 t1
  rw [e]
  show _ - ((256 * (a / 2) + (128 * (a % 2) + b / 2)) &&& (256 * mm1 k + 85)) = _
  rw [h1]
  omega
theorem T2_s {k a b : Nat} (hb : b < 256) : T2 (k + 1) (256 * a + b) = 256 * T2 k a + t2 b := by
  have e : (256 * a + b) / 4 = 256 * (a / 4) + (64 * (a % 4) + b / 4) := by omega
  have h1 := and_split (a := a) (b := b) (m := mm2 k) (n := 51) hb (by omega)
  have h2 := and_split (a := a / 4) (b := 64 * (a % 4) + b / 4) (m := mm2 k) (n := 51) (by omega) (by omega)
  rw [m33 (a % 4) (by omega) b hb] at h2
  unfold T2 t2
  rw [e]
  show ((256 * a + b) &&& (256 * mm2 k + 51)) + ((256 * (a / 4) + (64 * (a % 4) + b / 4)) &&& (256 * mm2 k + 51)) = _
  rw [h1, h2]
  omega
theorem T3_s {k a b : Nat} (hb : b ≤ 68) (ha : a % 16 ≤ 4) : T3 (k + 1) (256 * a + b) = 256 * T3 k a + (b + b / 16) % 16 := by
  have e : (256 * a + b) + (256 * a + b) / 16 = 256 * (a + a / 16) + (b + b / 16 + 16 * (a % 16)) := by omega
  have h1 := and_split (a := a + a / 16) (b := b + b / 16 + 16 * (a % 16)) (m := mm3 k) (n := 15) (by omega) (by omega)
  have h2 := Nat.and_two_pow_sub_one_eq_mod (b + b / 16 + 16 * (a % 16)) 4
  rw [show (2 : Nat) ^ 4 - 1 = 15 from rfl] at h2
  unfold T3
  rw [e]
  show (256 * (a + a / 16) + (b + b / 16 + 16 * (a % 16))) &&& (256 * mm3 k + 15) = _
  rw [h1, h2]
  omega
def dg : Nat → Nat → Nat
  | 0, _ => 0
  | k + 1, x => 256 * dg k (x / 256) + pc 8 (x % 256)
theorem T_all : ∀ k x, x < 256 ^ k → T2 k (T1 k x) < 256 ^ k ∧ T2 k (T1 k x) % 16 ≤ 4 ∧ T3 k (T2 k (T1 k x)) = dg k x
  | 0, x, h => by
    have : x = 0 := by simpa using h
    subst this
    decide
  | k + 1, x, h => by
    have hx : x / 256 < 256 ^ k := by rw [Nat.pow_succ, Nat.mul_comm] at h; omega
    obtain ⟨i1, i2, i3⟩ := T_all k (x / 256) hx
    have hb : x % 256 < 256 := by omega
    obtain ⟨q1, q2, q3, q4⟩ := t_all (x % 256) hb
    have ex : x = 256 * (x / 256) + x % 256 := by omega
    have e1 : T1 (k + 1) x = 256 * T1 k (x / 256) + t1 (x % 256) := by
      conv => lhs; rw [ex]
      exact T1_s hb
    have e2 : T2 (k + 1) (T1 (k + 1) x) = 256 * T2 k (T1 k (x / 256)) + t2 (t1 (x % 256)) := by rw [e1, T2_s q1]
    rw [e2, T3_s q2 i2, i3, q4, Nat.pow_succ, Nat.mul_comm (256 ^ k) 256]
    refine ⟨?_, ?_, rfl⟩
    · clear e1 e2 ex
      omega
    · clear e1 e2 ex q4 i1
      omega
theorem pc8s (k x : Nat) : pc (8 * (k + 1)) x = pc 8 (x % 256) + pc (8 * k) (x / 256) := by
  have h := pc_split 8 (8 * k) x
  have h2 := pc_mod 8 x
  rw [show (2 : Nat) ^ 8 = 256 from rfl] at h h2
  rw [show 8 * (k + 1) = 8 + 8 * k by omega, h, h2]
theorem dg8 (x : Nat) : ∃ d0 d1 d2 d3 d4 d5 d6 d7 : Nat, (d0 ≤ 8 ∧ d1 ≤ 8 ∧ d2 ≤ 8 ∧ d3 ≤ 8 ∧ d4 ≤ 8 ∧ d5 ≤ 8 ∧ d6 ≤ 8 ∧ d7 ≤ 8) ∧ dg 8 x = d0 + 256 * (d1 + 256 * (d2 + 256 * (d3 + 256 * (d4 + 256 * (d5 + 256 * (d6 + 256 * d7)))))) ∧ pc 64 x = d0 + d1 + d2 + d3 + d4 + d5 + d6 + d7 := by
  have hd : ∀ k x, dg (k + 1) x = 256 * dg k (x / 256) + pc 8 (x % 256) := fun _ _ => rfl
  have h0 : ∀ x, dg 0 x = 0 := fun _ => rfl
  have p0 : ∀ x, pc (8 * 0) x = 0 := fun _ => rfl
  refine ⟨_, _, _, _, _, _, _, _, ⟨pc_le 8 (x % 256), pc_le 8 (x / 256 % 256), pc_le 8 (x / 256 / 256 % 256), pc_le 8 (x / 256 / 256 / 256 % 256), pc_le 8 (x / 256 / 256 / 256 / 256 % 256), pc_le 8 (x / 256 / 256 / 256 / 256 / 256 % 256), pc_le 8 (x / 256 / 256 / 256 / 256 / 256 / 256 % 256), pc_le 8 (x / 256 / 256 / 256 / 256 / 256 / 256 / 256 % 256)⟩, ?_, ?_⟩
  · rw [hd, hd, hd, hd, hd, hd, hd, hd, h0]
    generalize pc 8 (x % 256) = d0
    generalize pc 8 (x / 256 % 256) = d1
    generalize pc 8 (x / 256 / 256 % 256) = d2
    generalize pc 8 (x / 256 / 256 / 256 % 256) = d3
    generalize pc 8 (x / 256 / 256 / 256 / 256 % 256) = d4
    generalize pc 8 (x / 256 / 256 / 256 / 256 / 256 % 256) = d5
    generalize pc 8 (x / 256 / 256 / 256 / 256 / 256 / 256 % 256) = d6
    generalize pc 8 (x / 256 / 256 / 256 / 256 / 256 / 256 / 256 % 256) = d7
    omega
  · show pc (8 * (7 + 1)) x = _
    rw [pc8s, show 7 = 6 + 1 from rfl, pc8s, show 6 = 5 + 1 from rfl, pc8s, show 5 = 4 + 1 from rfl, pc8s, show 4 = 3 + 1 from rfl, pc8s, show 3 = 2 + 1 from rfl, pc8s, show 2 = 1 + 1 from rfl, pc8s, show 1 = 0 + 1 from rfl, pc8s, p0]
    omega
theorem lm1 : (6148914691236517205 : Int64) = lN (mm1 8) := by decide +kernel
theorem lm2 : (3689348814741910323 : Int64) = lN (mm2 8) := by decide +kernel
theorem lm3 : (1085102592571150095 : Int64) = lN (mm3 8) := by decide +kernel
theorem dgs {d0 d1 d2 d3 d4 d5 d6 d7 y : Nat} (b0 : d0 ≤ 8) (b1 : d1 ≤ 8) (b2 : d2 ≤ 8) (b3 : d3 ≤ 8) (b4 : d4 ≤ 8) (b5 : d5 ≤ 8) (b6 : d6 ≤ 8) (b7 : d7 ≤ 8) (e : y = d0 + 256 * (d1 + 256 * (d2 + 256 * (d3 + 256 * (d4 + 256 * (d5 + 256 * (d6 + 256 * d7))))))) : ∃ y4 y5 : Nat, y + y / 256 = y4 ∧ y4 + y4 / 65536 = y5 ∧ y < 18446744073709551616 ∧ y4 < 18446744073709551616 ∧ y5 < 18446744073709551616 ∧ (y5 + y5 / 4294967296) % 128 = d0 + d1 + d2 + d3 + d4 + d5 + d6 + d7 := by
  have hb : y < 18446744073709551616 := by omega
  have h1 : y / 256 = d1 + 256 * (d2 + 256 * (d3 + 256 * (d4 + 256 * (d5 + 256 * (d6 + 256 * d7))))) := by omega
  have h2 : y + y / 256 = (d0 + d1) + 256 * ((d1 + d2) + 256 * ((d2 + d3) + 256 * ((d3 + d4) + 256 * ((d4 + d5) + 256 * ((d5 + d6) + 256 * ((d6 + d7) + 256 * d7)))))) := by rw [h1, e]; omega
  generalize y + y / 256 = y4 at h2
  clear h1 e
  have hb4 : y4 < 18446744073709551616 := by omega
  have h3 : y4 / 65536 = (d2 + d3) + 256 * ((d3 + d4) + 256 * ((d4 + d5) + 256 * ((d5 + d6) + 256 * ((d6 + d7) + 256 * d7)))) := by omega
  have h6 : y4 + y4 / 65536 = (d0 + d1 + (d2 + d3)) + 256 * ((d1 + d2 + (d3 + d4)) + 256 * ((d2 + d3 + (d4 + d5)) + 256 * ((d3 + d4 + (d5 + d6)) + 256 * ((d4 + d5 + (d6 + d7)) + 256 * ((d5 + d6 + d7) + 256 * ((d6 + d7) + 256 * d7)))))) := by rw [h3, h2]; omega
  refine ⟨y4, y4 + y4 / 65536, rfl, rfl, hb, hb4, ?_⟩
  generalize y4 + y4 / 65536 = y5 at h6
  clear h3 h2 hb hb4
  have hb5 : y5 < 18446744073709551616 := by omega
  have h7 : y5 / 4294967296 = (d4 + d5 + (d6 + d7)) + 256 * ((d5 + d6 + d7) + 256 * ((d6 + d7) + 256 * d7)) := by omega
  refine ⟨hb5, ?_⟩
  rw [h7, h6]
  generalize (d1 + d2 + (d3 + d4)) + 256 * ((d2 + d3 + (d4 + d5)) + 256 * ((d3 + d4 + (d5 + d6)) + 256 * ((d4 + d5 + (d6 + d7)) + 256 * ((d5 + d6 + d7) + 256 * ((d6 + d7) + 256 * d7))))) = B
  generalize (d5 + d6 + d7) + 256 * ((d6 + d7) + 256 * d7) = D
  clear h7 h6 hb5
  omega
theorem lt_r {α β : Type} {x y : α} {K : α → β} (h : x = y) : lt x K = K y := by rw [h]; rfl
theorem bA {x : Nat} (h : x < 2 ^ 64) : lN x - (((lN x).toUInt64 >>> (((1 : Int32)).toInt64.toUInt64 &&& Int64.toUInt64 63)).toInt64 &&& (6148914691236517205 : Int64)) = lN (T1 8 x) := by
  rw [li_1, lm1, wb_shr (n := x) (k := 1) h (by decide), fb_andL, lN_sub (Nat.le_trans Nat.and_le_left (Nat.div_le_self _ _))]
  rfl
theorem bB {x : Nat} (h : x < 2 ^ 64) : (lN x &&& (3689348814741910323 : Int64)) + (((lN x).toUInt64 >>> (((2 : Int32)).toInt64.toUInt64 &&& Int64.toUInt64 63)).toInt64 &&& (3689348814741910323 : Int64)) = lN (T2 8 x) := by
  rw [li_2, lm2, wb_shr (n := x) (k := 2) h (by decide), fb_andL, fb_andL, lN_add]
  rfl
theorem bC {x : Nat} (h : x < 2 ^ 64) : ((lN x + ((lN x).toUInt64 >>> (((4 : Int32)).toInt64.toUInt64 &&& Int64.toUInt64 63)).toInt64) &&& (1085102592571150095 : Int64)) = lN (T3 8 x) := by
  rw [li_4, lm3, wb_shr (n := x) (k := 4) h (by decide), lN_add, fb_andL]
  rfl
theorem bD8 {x : Nat} (h : x < 2 ^ 64) : lN x + ((lN x).toUInt64 >>> (((8 : Int32)).toInt64.toUInt64 &&& Int64.toUInt64 63)).toInt64 = lN (x + x / 256) := by
  rw [li_8, wb_shr (n := x) (k := 8) h (by decide), lN_add]
theorem bD16 {x : Nat} (h : x < 2 ^ 64) : lN x + ((lN x).toUInt64 >>> (((16 : Int32)).toInt64.toUInt64 &&& Int64.toUInt64 63)).toInt64 = lN (x + x / 65536) := by
  rw [show (16 : Int32) = nI 16 from rfl, wb_shr (n := x) (k := 16) h (by decide), lN_add]
theorem bD32 {x : Nat} (h : x < 2 ^ 64) : lN x + ((lN x).toUInt64 >>> (((32 : Int32)).toInt64.toUInt64 &&& Int64.toUInt64 63)).toInt64 = lN (x + x / 4294967296) := by
  rw [li_32, wb_shr (n := x) (k := 32) h (by decide), lN_add]
theorem bE {x n : Nat} (h : x % 128 = n) : (lN x).toInt32 &&& (127 : Int32) = nI n := by
  rw [show (127 : Int32) = nI 127 from rfl, lN_i, i_and]
  have h2 := Nat.and_two_pow_sub_one_eq_mod x 7
  rw [show (2 : Nat) ^ 7 - 1 = 127 from rfl, show (2 : Nat) ^ 7 = 128 from rfl] at h2
  rw [h2, h]
theorem bcL {x : Nat} (h : x < 2 ^ 64) : f_J13_bitCount_95d88 (lN x) = some (nI (pc 64 x)) := by
  have h8 : (2 : Nat) ^ 64 = 256 ^ 8 := by decide
  obtain ⟨i1, -, i3⟩ := T_all 8 x (by rw [← h8]; exact h)
  rw [← h8] at i1
  obtain ⟨d0, d1, d2, d3, d4, d5, d6, d7, ⟨b0, b1, b2, b3, b4, b5, b6, b7⟩, e1, e2⟩ := dg8 x
  obtain ⟨y4, y5, f1, f2, g1, g2, g3, f3⟩ := dgs b0 b1 b2 b3 b4 b5 b6 b7 e1
  clear e1
  have hT : T1 8 x < 2 ^ 64 := Nat.lt_of_le_of_lt (Nat.sub_le _ _) h
  unfold f_J13_bitCount_95d88
  refine (lt_r (bA h)).trans ?_
  refine (lt_r (bB hT)).trans ?_
  refine (lt_r (bC i1)).trans ?_
  rw [i3]
  refine (lt_r (bD8 g1)).trans ?_
  rw [f1]
  refine (lt_r (bD16 g2)).trans ?_
  rw [f2]
  refine (lt_r (bD32 g3)).trans ?_
  exact congrArg some (bE (f3.trans e2.symm))
theorem pc_ct : ∀ n x, pc n x = fb_ct (fun j => x.testBit j) n
  | 0, _ => rfl
  | n + 1, x => by
    have h := fb_ct_split (fun j => x.testBit j) 1 n
    rw [show n + 1 = 1 + n by omega, h]
    show pc (1 + n) x = _
    rw [show 1 + n = n + 1 by omega]
    show x % 2 + pc n (x / 2) = _
    rw [pc_ct n (x / 2)]
    have h1 : fb_ct (fun j => x.testBit j) 1 = x % 2 := by
      show 0 + (if x.testBit 0 = true then 1 else 0) = _
      rw [Nat.testBit_zero]
      by_cases q : x % 2 = 1
      · simp [q]
      · have : x % 2 = 0 := by omega
        simp [this]
    rw [h1]
    congr 1
    apply fb_ct_cong
    intro j _
    show (x / 2).testBit j = x.testBit (1 + j)
    rw [Nat.add_comm, Nat.testBit_succ]
theorem bcS (P : Nat → Bool) : f_J13_bitCount_95d88 (sN P) = some (nI (fb_ct P 64)) := by
  unfold sN
  rw [bcL (bs64 P), pc_ct]
  congr 2
  apply fb_ct_cong
  intro j hj
  rw [bs_tb]
  simp [hj]
