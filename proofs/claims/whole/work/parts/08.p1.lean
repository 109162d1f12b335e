/-! ranges -/
theorem rg (a : Int32) (n : Nat) (hn : n < 2147483648) : (∃ j, j < n ∧ a = nI j) ∨ (∀ j, j < n → a ≠ nI j) := by
  by_cases h : 0 ≤ a.toInt ∧ a.toInt < n
  · refine Or.inl ⟨a.toInt.toNat, by omega, ?_⟩
    apply Int32.toInt_inj.mp
    rw [nI_toInt (by omega)]
    omega
  · refine Or.inr (fun j hj e => h ?_)
    rw [e, nI_toInt (by omega)]
    omega
theorem rg_no {a : Int32} {n : Nat} (hn : n < 2147483648) (h : ∀ j, j < n → a ≠ nI j) : ¬ (0 ≤ a.toInt ∧ a.toInt < n) := by
  intro q
  refine h a.toInt.toNat (by omega) ?_
  apply Int32.toInt_inj.mp
  rw [nI_toInt (by omega)]
  omega
theorem isb_t {j n : Nat} (h : j < n) (hn : n < 2147483648) : f_X7_isBelow (nI j) (nI n) = some 1 := by
  unfold f_X7_isBelow
  have := nI_pos (n := j) (by omega)
  rw [if_neg this, if_neg (by rw [q_le (by omega) (by omega)]; omega)]
theorem isb_f {a : Int32} {n : Nat} (hn : n < 2147483648) (h : ∀ j, j < n → a ≠ nI j) : f_X7_isBelow a (nI n) = some 0 := by
  have h2 := rg_no hn h
  unfold f_X7_isBelow
  by_cases q : a < 0
  · rw [if_pos q]
  · rw [if_neg q, if_pos ?_]
    rw [Int32.lt_iff_toInt_lt, Int32.toInt_zero] at q
    rw [Int32.le_iff_toInt_le, nI_toInt (by omega)]
    omega
theorem in_i (x y z : Int64) : f_X8_in x y z = some (if y.toInt ≤ x.toInt ∧ x.toInt ≤ z.toInt then 1 else 0) := by
  unfold f_X8_in
  by_cases h1 : lg_cmp x y < 0
  · rw [if_pos h1]
    rw [lg_cmp_lt, Int64.lt_iff_toInt_lt] at h1
    rw [if_neg (by omega)]
  · rw [if_neg h1]
    rw [lg_cmp_lt, Int64.lt_iff_toInt_lt] at h1
    by_cases h2 : 0 < lg_cmp x z
    · rw [if_pos h2]
      rw [lg_cmp_gt, Int64.lt_iff_toInt_lt] at h2
      rw [if_neg (by omega)]
    · rw [if_neg h2]
      rw [lg_cmp_gt, Int64.lt_iff_toInt_lt] at h2
      rw [if_pos (by omega)]
theorem t64 (a : Int32) : a.toInt64.toInt = a.toInt := Int32.toInt_toInt64 a
theorem in_t {a : Int32} {y z : Int64} (h : y.toInt ≤ a.toInt) (h2 : a.toInt ≤ z.toInt) : f_X8_in a.toInt64 y z = some 1 := by
  rw [in_i, t64, if_pos ⟨h, h2⟩]
theorem in_f {a : Int32} {y z : Int64} (h : ¬ (y.toInt ≤ a.toInt ∧ a.toInt ≤ z.toInt)) : f_X8_in a.toInt64 y z = some 0 := by
  rw [in_i, t64, if_neg h]
theorem isZ1 : isZ 1 = true := by decide
theorem isZ0 : isZ 0 = true := by decide
theorem one0 : ¬ ((1 : Int32) = 0) := by decide
/-! how many bits -/
def pc : Nat → Nat → Nat
  | 0, _ => 0
  | n + 1, x => x % 2 + pc n (x / 2)
def pop (x : Nat) : Nat := pc 15 x
theorem pc_le : ∀ n x, pc n x ≤ n
  | 0, _ => Nat.le_refl _
  | n + 1, x => by
    have := pc_le n (x / 2)
    unfold pc
    omega
theorem pop_le (x : Nat) : pop x ≤ 15 := pc_le 15 x
theorem pc_split : ∀ n m x, pc (n + m) x = pc n x + pc m (x / 2 ^ n)
  | 0, m, x => by simp [pc]
  | n + 1, m, x => by
    have h := pc_split n m (x / 2)
    rw [show n + 1 + m = (n + m) + 1 by omega]
    simp only [pc]
    rw [h, Nat.div_div_eq_div_mul, Nat.pow_succ, Nat.mul_comm 2 (2 ^ n)]
    omega
theorem pc_mod : ∀ n x, pc n (x % 2 ^ n) = pc n x
  | 0, x => rfl
  | n + 1, x => by
    have h := pc_mod n (x / 2)
    simp only [pc]
    have e1 : x % 2 ^ (n + 1) % 2 = x % 2 := Nat.mod_mod_of_dvd _ (by rw [Nat.pow_succ]; exact Nat.dvd_mul_left _ _)
    have e2 : x % 2 ^ (n + 1) / 2 = x / 2 % 2 ^ n := by
      rw [Nat.pow_succ, Nat.mul_comm, Nat.mod_mul_right_div_self]
    rw [e1, e2, h]
theorem po_n : ∀ n x, x < 2 ^ n → x ≠ 0 → pc n (x &&& (x - 1)) + 1 = pc n x
  | 0, x, h, h0 => by simp at h; omega
  | n + 1, x, h, h0 => by
    rw [Nat.pow_succ] at h
    simp only [pc]
    have e1 : (x &&& (x - 1)) / 2 = x / 2 &&& (x - 1) / 2 := Nat.and_div_two
    have e2 : (x &&& (x - 1)) % 2 = 0 := by
      have a1 := Nat.and_mod_two_eq_one (a := x) (b := x - 1)
      by_cases q : (x &&& (x - 1)) % 2 = 1
      · have := a1.mp q
        omega
      · omega
    rw [e1, e2]
    by_cases q : x % 2 = 1
    · rw [show (x - 1) / 2 = x / 2 by omega, Nat.and_self]
      omega
    · have ih := po_n n (x / 2) (by omega) (by omega)
      rw [show (x - 1) / 2 = x / 2 - 1 by omega]
      omega
theorem po {x : Nat} (h : x < 32768) (h0 : x ≠ 0) : pop (x &&& (x - 1)) + 1 = pop x := po_n 15 x h h0
theorem and_split {a b m n : Nat} (hb : b < 256) (hn : n < 256) : (256 * a + b) &&& (256 * m + n) = 256 * (a &&& m) + (b &&& n) := by
  apply Nat.eq_of_testBit_eq
  intro j
  have hbn : b &&& n < 2 ^ 8 := Nat.and_lt_two_pow _ hn
  rw [Nat.testBit_and, show (256 : Nat) = 2 ^ 8 from rfl, Nat.testBit_two_pow_mul_add a hb, Nat.testBit_two_pow_mul_add m hn, Nat.testBit_two_pow_mul_add _ hbn, Nat.testBit_and, Nat.testBit_and]
  split <;> rfl
theorem m55 : ∀ e, e < 2 → ∀ b, b < 256 → (128 * e + b / 2) &&& 85 = (b / 2) &&& 85 := by decide +kernel
theorem m33 : ∀ e, e < 4 → ∀ b, b < 256 → (64 * e + b / 4) &&& 51 = (b / 4) &&& 51 := by decide +kernel
def t1 (b : Nat) : Nat := b - (b / 2 &&& 85)
def t2 (v : Nat) : Nat := (v &&& 51) + (v / 4 &&& 51)
theorem t_all : ∀ b, b < 256 → t1 b < 256 ∧ t2 (t1 b) ≤ 68 ∧ t2 (t1 b) % 16 ≤ 4 ∧ (t2 (t1 b) + t2 (t1 b) / 16) % 16 = pc 8 b := by decide +kernel
theorem a_all : ∀ a, a < 128 → (a / 2 &&& 5592405) = (a / 2 &&& 85) ∧ (t1 a &&& 3355443) = (t1 a &&& 51) ∧ (t1 a / 4 &&& 3355443) = (t1 a / 4 &&& 51) ∧ (t2 (t1 a) + t2 (t1 a) / 16) &&& 986895 = pc 7 a := by decide +kernel
theorem b_e1 {a b : Nat} (ha : a < 128) (hb : b < 256) : (256 * a + b) - ((256 * a + b) / 2 &&& 1431655765) = 256 * t1 a + t1 b := by
  have e : (256 * a + b) / 2 = 256 * (a / 2) + (128 * (a % 2) + b / 2) := by omega
  have h1 := and_split (a := a / 2) (b := 128 * (a % 2) + b / 2) (m := 5592405) (n := 85) (by omega) (by omega)
  rw [show 256 * 5592405 + 85 = 1431655765 from rfl, m55 (a % 2) (by omega) b hb, (a_all a ha).1] at h1
  have h4 : a / 2 &&& 85 ≤ a / 2 := Nat.and_le_left
  have h5 : b / 2 &&& 85 ≤ b / 2 := Nat.and_le_left
  rw [e, h1]
  unfold t1
  omega
theorem b_e2 {a b : Nat} (ha : a < 128) (hb : b < 256) : ((256 * t1 a + t1 b) &&& 858993459) + ((256 * t1 a + t1 b) / 4 &&& 858993459) = 256 * t2 (t1 a) + t2 (t1 b) := by
  obtain ⟨q1, -⟩ := t_all b hb
  obtain ⟨-, q2, q3, -⟩ := a_all a ha
  have e : (256 * t1 a + t1 b) / 4 = 256 * (t1 a / 4) + (64 * (t1 a % 4) + t1 b / 4) := by omega
  have h1 := and_split (a := t1 a) (b := t1 b) (m := 3355443) (n := 51) q1 (by omega)
  have h2 := and_split (a := t1 a / 4) (b := 64 * (t1 a % 4) + t1 b / 4) (m := 3355443) (n := 51) (by omega) (by omega)
  rw [show 256 * 3355443 + 51 = 858993459 from rfl] at h1 h2
  rw [m33 (t1 a % 4) (by omega) (t1 b) q1, q3] at h2
  rw [q2] at h1
  rw [e, h1, h2]
  unfold t2
  omega
theorem b_e3 {a b : Nat} (ha : a < 128) (hb : b < 256) : ((256 * t2 (t1 a) + t2 (t1 b)) + (256 * t2 (t1 a) + t2 (t1 b)) / 16) &&& 252645135 = 256 * pc 7 a + pc 8 b := by
  obtain ⟨-, q1, q2, q3⟩ := t_all b hb
  obtain ⟨-, r1, r2, -⟩ := t_all a (by omega)
  obtain ⟨-, -, -, q4⟩ := a_all a ha
  have e : (256 * t2 (t1 a) + t2 (t1 b)) + (256 * t2 (t1 a) + t2 (t1 b)) / 16 = 256 * (t2 (t1 a) + t2 (t1 a) / 16) + (t2 (t1 b) + t2 (t1 b) / 16 + 16 * (t2 (t1 a) % 16)) := by omega
  have h1 := and_split (a := t2 (t1 a) + t2 (t1 a) / 16) (b := t2 (t1 b) + t2 (t1 b) / 16 + 16 * (t2 (t1 a) % 16)) (m := 986895) (n := 15) (by omega) (by omega)
  rw [show 256 * 986895 + 15 = 252645135 from rfl] at h1
  rw [e, h1, q4, ← q3]
  have h2 := Nat.and_two_pow_sub_one_eq_mod (t2 (t1 b) + t2 (t1 b) / 16 + 16 * (t2 (t1 a) % 16)) 4
  rw [show (2 : Nat) ^ 4 - 1 = 15 from rfl] at h2
  rw [h2]
  omega
theorem lw1 : (1431655765 : Int32) = nI 1431655765 := by decide +kernel
theorem lw2 : (858993459 : Int32) = nI 858993459 := by decide +kernel
theorem lw3 : (252645135 : Int32) = nI 252645135 := by decide +kernel
theorem lw4 : (63 : Int32) = nI 63 := by decide +kernel
theorem bc {x : Nat} (h : x < 32768) : f_J6_bitCount_0f7a4 (nI x) = some (nI (pop x)) := by
  obtain ⟨a, b, ha, hb, rfl⟩ : ∃ a b, a < 128 ∧ b < 256 ∧ x = 256 * a + b := ⟨x / 256, x % 256, by omega, by omega, by omega⟩
  have p7 := pc_le 7 a
  have p8 := pc_le 8 b
  have q1 := (t_all b hb).2.1
  have q2 := (t_all a (by omega)).2.1
  have q3 : t1 a ≤ a := Nat.sub_le _ _
  have q4 := (t_all b hb).1
  have hp : pop (256 * a + b) = pc 7 a + pc 8 b := by
    unfold pop
    have h1 : pc 15 (256 * a + b) = _ := pc_split 8 7 (256 * a + b)
    have h2 := pc_mod 8 (256 * a + b)
    rw [show (256 * a + b) % 2 ^ 8 = b by omega] at h2
    rw [show (256 * a + b) / 2 ^ 8 = a by omega, ← h2] at h1
    omega
  unfold f_J6_bitCount_0f7a4
  simp only [lt]
  rw [pk_ushrN (n := 256 * a + b) (by omega) 1 1 (by decide +kernel), lw1, i_and, q_sb (Nat.le_trans Nat.and_le_left (by omega)), show (2 : Nat) ^ 1 = 2 from rfl, b_e1 ha hb]
  rw [pk_ushrN (n := 256 * t1 a + t1 b) (by omega) 2 2 (by decide +kernel), lw2, i_and, i_and, q_ad, show (2 : Nat) ^ 2 = 4 from rfl, b_e2 ha hb]
  rw [pk_ushrN (n := 256 * t2 (t1 a) + t2 (t1 b)) (by omega) 4 4 (by decide +kernel), lw3, q_ad, i_and, show (2 : Nat) ^ 4 = 16 from rfl, b_e3 ha hb]
  rw [pk_ushrN (n := 256 * pc 7 a + pc 8 b) (by omega) 8 8 (by decide +kernel), q_ad]
  rw [pk_ushrN (by omega) 16 16 (by decide +kernel), q_ad, lw4, i_and, hp]
  congr 2
  rw [show (2 : Nat) ^ 8 = 256 from rfl, show (2 : Nat) ^ 16 = 65536 from rfl]
  have h2 := Nat.and_two_pow_sub_one_eq_mod (256 * pc 7 a + pc 8 b + (256 * pc 7 a + pc 8 b) / 2 ^ 8 + (256 * pc 7 a + pc 8 b + (256 * pc 7 a + pc 8 b) / 2 ^ 8) / 2 ^ 16) 6
  rw [show (2 : Nat) ^ 8 = 256 from rfl, show (2 : Nat) ^ 16 = 65536 from rfl, show (2 : Nat) ^ 6 - 1 = 63 from rfl, show (2 : Nat) ^ 6 = 64 from rfl] at h2
  rw [h2]
  have d1 : (256 * pc 7 a + pc 8 b) / 256 = pc 7 a := by omega
  rw [d1]
  have d2 : (256 * pc 7 a + pc 8 b + pc 7 a) / 65536 = 0 := by omega
  rw [d2]
  omega
theorem pop0 : pop 0 = 0 := by decide
theorem lp_ones {fu : Nat} {K : Int32 → Option Int32} : ∀ n x acc, x < 32768 → pop x < n → lp_X8_ones_4 fu K n (nI acc) (nI x) = K (nI (acc + pop x)) := by
  intro n
  induction n with
  | zero => intro x acc _ h; omega
  | succ n ih =>
    intro x acc hx hn
    rw [lp_X8_ones_4]
    by_cases h0 : x = 0
    · subst h0
      rw [pop0, ← nI_0, if_pos rfl]
      rfl
    · have hp := po hx h0
      rw [if_neg (by rw [li_0, q_eq (by omega) (by omega)]; exact h0)]
      simp only [lt, li_1, q_ad, q_sb (show 1 ≤ x by omega), i_and]
      rw [ih _ _ (Nat.lt_of_le_of_lt Nat.and_le_left hx) (by omega)]
      congr 2
      omega
theorem ones_ {fu x : Nat} (hf : 16 ≤ fu) (hx : x < 32768) : f_X8_ones fu (nI x) = some (nI (pop x)) := by
  unfold f_X8_ones
  have := pop_le x
  rw [li_0, lp_ones fu x 0 hx (by omega), Nat.zero_add]
/-! letters -/
def shp (l : Nat) : Nat := [23530, 15083, 25166, 15211, 29391, 4815, 27470, 23533, 29847, 11044, 23277, 31305, 23549, 23547, 11114, 5099, 26474, 22379, 14478, 9367, 27501, 11117, 24557, 23213, 9389, 29351].getD l 0
theorem v26_ : ∀ l, l < 26 → v26 l = nI (shp l) := by decide +kernel
theorem shp_all : ∀ l, l < 26 → shp l < 32768 := by decide +kernel
theorem shp_lt (l : Nat) : shp l < 32768 := by
  by_cases h : l < 26
  · exact shp_all l h
  · unfold shp
    rw [List.getD_eq_getElem?_getD, List.getElem?_eq_none (by simpa using Nat.not_lt.mp h)]
    decide
def dist (x l : Nat) : Nat := pop (x ^^^ shp l)
theorem xs_lt {x : Nat} (h : x < 32768) (l : Nat) : x ^^^ shp l < 32768 := Nat.xor_lt_two_pow (n := 15) h (shp_lt l)
def nb (x : Nat) : Nat → Nat
  | 0 => 0
  | l + 1 => if dist x (l + 1) < dist x (nb x l) then l + 1 else nb x l
theorem nb_le (x : Nat) : ∀ l, nb x l ≤ l
  | 0 => Nat.le_refl _
  | l + 1 => by
    have := nb_le x l
    unfold nb
    split <;> omega
def near (x : Nat) : Nat := nb x 25
theorem near_lt (x : Nat) : near x < 26 := Nat.lt_succ_of_le (nb_le x 25)
def offx (x : Nat) : Nat := dist x (near x)
theorem offx_le (x : Nat) : offx x ≤ 15 := pop_le _
/-- what is read, far so many cells at most -/
def rd (far x : Nat) : Int32 := if offx x ≤ far then nI (near x) else -4
def ck (x : Nat) : Nat → Nat
  | 0 => 512
  | i + 1 => if 32 * dist x i + i < ck x i then 32 * dist x i + i else ck x i
theorem dist_le (x l : Nat) : dist x l ≤ 15 := pop_le _
theorem ck_nb (x : Nat) : ∀ i, i < 26 → ck x (i + 1) = 32 * dist x (nb x i) + nb x i := by
  intro i
  induction i with
  | zero =>
    intro _
    have := dist_le x 0
    simp only [ck, nb]
    exact if_pos (show 32 * dist x 0 + 0 < 512 by omega)
  | succ i ih =>
    intro h
    have h1 := ih (by omega)
    have h2 := nb_le x i
    rw [ck, h1]
    simp only [nb]
    by_cases q : dist x (i + 1) < dist x (nb x i)
    · rw [if_pos q, if_pos (by omega)]
    · rw [if_neg q, if_neg (by omega)]
theorem ck_lt (x : Nat) : ∀ i, ck x i ≤ 512
  | 0 => Nat.le_refl _
  | i + 1 => by
    have := ck_lt x i
    unfold ck
    split <;> omega
theorem lp_ck {fu : Nat} {M : Mem} {x : Nat} {K : Int32 → Option Int32} (hx : x < 32768) : ∀ n i, i ≤ 26 → 26 - i < n → lp_X7_closestKey_6 fu M (nI x) K n (nI (ck x i)) (nI i) = K (nI (ck x 26)) := by
  refine cnt (fun n i => lp_X7_closestKey_6 fu M (nI x) K n (nI (ck x i)) (nI i)) _ 26 (fun n => ?_) (fun n i hi => ?_)
  · show lp_X7_closestKey_6 _ _ _ _ (n + 1) _ _ = _
    rw [lp_X7_closestKey_6]
    simp (disch := omega) only [li_0, li_1, li_2, li_3, li_4, li_5, li_6, li_7, li_8, li_9, li_10, li_12, li_14, li_15, li_20, li_24, li_25, li_26, li_30, li_32, li_35, li_36, li_40, li_44, li_48, li_53, li_57, li_58, li_64, li_80, li_90, li_97, li_99, li_100, li_126, li_135, li_269, li_270, li_999, li_512, li_32767, q_le, q_lt, q_eq, q_cl, q_ib, q_ad, q_mu, gd_t, gd_tt, if_pos, if_neg, lt, bd_s]
  · show lp_X7_closestKey_6 _ _ _ _ (n + 1) _ _ = lp_X7_closestKey_6 _ _ _ _ n _ _
    rw [lp_X7_closestKey_6]
    have h1 := ck_lt x i
    have h2 := pop_le (x ^^^ shp i)
    simp (disch := omega) only [li_0, li_1, li_2, li_3, li_4, li_5, li_6, li_7, li_8, li_9, li_10, li_12, li_14, li_15, li_20, li_24, li_25, li_26, li_30, li_32, li_35, li_36, li_40, li_44, li_48, li_53, li_57, li_58, li_64, li_80, li_90, li_97, li_99, li_100, li_126, li_135, li_269, li_270, li_999, li_512, li_32767, q_le, q_lt, q_eq, q_cl, q_ib, q_ad, q_mu, gd_t, gd_tt, if_pos, if_neg, lt, bd_s, v26_ i hi, i_xor, bc (xs_lt hx i)]
    show lp_X7_closestKey_6 _ _ _ _ n _ _ = lp_X7_closestKey_6 _ _ _ _ n (nI (if 32 * pop (x ^^^ shp i) + i < ck x i then 32 * pop (x ^^^ shp i) + i else ck x i)) _
    congr 1
    split <;> rfl
theorem ck_ {fu : Nat} {M : Mem} {x : Nat} (hf : 27 ≤ fu) (hx : x < 32768) : f_X7_closestKey fu M (nI x) = some (nI (32 * offx x + near x)) := by
  unfold f_X7_closestKey
  have h := ck_nb x 25 (by omega)
  have h2 := lp_ck (fu := fu) (M := M) (K := fun v6 => some v6) hx fu 0 (by omega) (by omega)
  rw [show (512 : Int32) = nI (ck x 0) from rfl, li_0, h2, h]
  rfl
theorem lsa {fu : Nat} {M : Mem} {k x far : Nat} (hf : 27 ≤ fu) (hx : x < 32768) (hfar : M (k + 1) 2 = nI far) (hb : far < 100) : f_X0_letterSeenAs fu M k (nI x) = some (rd far x) := by
  unfold f_X0_letterSeenAs
  have h1 := near_lt x
  have h2 := offx_le x
  simp (disch := omega) only [li_0, li_1, li_2, li_3, li_4, li_5, li_6, li_7, li_8, li_9, li_10, li_12, li_14, li_15, li_20, li_24, li_25, li_26, li_30, li_32, li_35, li_36, li_40, li_44, li_48, li_53, li_57, li_58, li_64, li_80, li_90, li_97, li_99, li_100, li_126, li_135, li_269, li_270, li_999, li_512, li_32767, q_le, q_lt, q_eq, q_cl, q_ib, q_ad, q_mu, gd_t, gd_tt, if_pos, if_neg, lt, bd_s, ck_ hf hx, pk_div (a := 32 * offx x + near x) (d := 32) (by omega) (by omega) (by omega), hfar]
  rw [gd_t (by decide), gd_t (by decide)]
  rw [show (32 * offx x + near x) / 32 = offx x by omega]
  unfold rd
  by_cases q : offx x ≤ far
  · rw [if_pos q, if_pos q]
    rw [q_sb (by omega), show 32 * offx x + near x - offx x * 32 = near x by omega]
  · rw [if_neg q, if_neg q]
    rfl
