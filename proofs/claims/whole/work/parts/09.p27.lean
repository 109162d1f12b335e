/-! the sets turned by xor: the same sum -/
theorem sumL_add (g : Nat → Int64) (p : Nat) : ∀ q, sumL g (p + q) = sumL g p + sumL (fun t => g (p + t)) q
  | 0 => by show sumL g p = sumL g p + 0; rw [Int64.add_zero]
  | q + 1 => by
    show sumL g (p + q) + g (p + q) = sumL g p + (sumL (fun t => g (p + t)) q + g (p + q))
    rw [sumL_add g p q, Int64.add_assoc]
theorem xr1 {n u v : Nat} (hu : u < 2 ^ n) (hv : v < 2 ^ n) : (2 ^ n + u) ^^^ v = 2 ^ n + (u ^^^ v) := by
  have hw : u ^^^ v < 2 ^ n := Nat.xor_lt_two_pow hu hv
  have e1 : 2 ^ n + u = 2 ^ n * 1 + u := by omega
  have e2 : 2 ^ n + (u ^^^ v) = 2 ^ n * 1 + (u ^^^ v) := by omega
  have e3 : v = 2 ^ n * 0 + v := by omega
  rw [e1, e2]
  apply Nat.eq_of_testBit_eq
  intro j
  rw [Nat.testBit_xor, Nat.testBit_two_pow_mul_add 1 hu, Nat.testBit_two_pow_mul_add 1 hw]
  conv => lhs; rw [e3]
  rw [Nat.testBit_two_pow_mul_add 0 hv]
  split
  · rw [Nat.testBit_xor]
  · simp
theorem xr2 {n u v : Nat} (hu : u < 2 ^ n) (hv : v < 2 ^ n) : (2 ^ n + u) ^^^ (2 ^ n + v) = u ^^^ v := by
  have hw : u ^^^ v < 2 ^ n := Nat.xor_lt_two_pow hu hv
  have e1 : 2 ^ n + u = 2 ^ n * 1 + u := by omega
  have e2 : 2 ^ n + v = 2 ^ n * 1 + v := by omega
  have e3 : u ^^^ v = 2 ^ n * 0 + (u ^^^ v) := by omega
  rw [e1, e2]
  apply Nat.eq_of_testBit_eq
  intro j
  rw [Nat.testBit_xor, Nat.testBit_two_pow_mul_add 1 hu, Nat.testBit_two_pow_mul_add 1 hv]
  conv => rhs; rw [e3]
  rw [Nat.testBit_two_pow_mul_add 0 hw]
  split
  · rw [Nat.testBit_xor]
  · simp
theorem sum_xor : ∀ (n a : Nat) (g : Nat → Int64), a < 2 ^ n → sumL (fun t => g (a ^^^ t)) (2 ^ n) = sumL g (2 ^ n)
  | 0, a, g, h => by
    have : a = 0 := by simpa using h
    subst this
    rfl
  | n + 1, a, g, h => by
    have e : 2 ^ (n + 1) = 2 ^ n + 2 ^ n := by rw [Nat.pow_succ]; omega
    rw [e, sumL_add, sumL_add g]
    by_cases q : a < 2 ^ n
    · have i1 := sum_xor n a g q
      have i2 := sum_xor n a (fun t => g (2 ^ n + t)) q
      rw [i1, ← i2]
      refine congrArg (fun z => sumL g (2 ^ n) + z) (sumL_congr _ (fun t ht => ?_))
      show g (a ^^^ (2 ^ n + t)) = g (2 ^ n + (a ^^^ t))
      rw [Nat.xor_comm, xr1 ht q, Nat.xor_comm]
    · obtain ⟨b, rfl⟩ : ∃ b, a = 2 ^ n + b := ⟨a - 2 ^ n, by omega⟩
      have hb : b < 2 ^ n := by omega
      have i1 := sum_xor n b g hb
      have i2 := sum_xor n b (fun t => g (2 ^ n + t)) hb
      rw [← i1, ← i2, Int64.add_comm]
      have e1 : sumL (fun t => g ((2 ^ n + b) ^^^ (2 ^ n + t))) (2 ^ n) = sumL (fun t => g (b ^^^ t)) (2 ^ n) := sumL_congr _ (fun t ht => by
        show g ((2 ^ n + b) ^^^ (2 ^ n + t)) = g (b ^^^ t)
        rw [xr2 hb ht])
      have e2 : sumL (fun t => g ((2 ^ n + b) ^^^ t)) (2 ^ n) = sumL (fun t => g (2 ^ n + (b ^^^ t))) (2 ^ n) := sumL_congr _ (fun t ht => by
        show g ((2 ^ n + b) ^^^ t) = g (2 ^ n + (b ^^^ t))
        rw [xr1 hb ht])
      rw [e1, e2]
/-- sums by classes: w (d x) over those with p is the sum of the classes' counts times w -/
theorem sumL_add2 (f g : Nat → Int64) : ∀ n, sumL (fun m => f m + g m) n = sumL f n + sumL g n
  | 0 => by show (0 : Int64) = 0 + 0; rfl
  | n + 1 => by
    show sumL (fun m => f m + g m) n + (f n + g n) = (sumL f n + f n) + (sumL g n + g n)
    rw [sumL_add2 f g n, Int64.add_assoc, Int64.add_assoc, ← Int64.add_assoc (sumL g n), Int64.add_comm (sumL g n) (f n), Int64.add_assoc]
theorem sumL_one (w : Nat → Int64) (d : Nat) : ∀ n, sumL (fun m => if d = m then w m else 0) n = if d < n then w d else 0
  | 0 => rfl
  | n + 1 => by
    show sumL (fun m => if d = m then w m else 0) n + (if d = n then w n else 0) = _
    rw [sumL_one w d n]
    by_cases q : d < n
    · rw [if_pos q, if_neg (by omega), if_pos (by omega), Int64.add_zero]
    · rw [if_neg q]
      by_cases z : d = n
      · subst z; rw [if_pos rfl, if_pos (by omega), Int64.zero_add]
      · rw [if_neg z, if_neg (by omega), Int64.zero_add]
theorem sumL_z (n : Nat) : sumL (fun _ => 0) n = 0 := by
  induction n with
  | zero => rfl
  | succ n ih => show sumL (fun _ => 0) n + 0 = 0; rw [ih]; rfl
theorem by_class (p : Nat → Bool) (d : Nat → Nat) (w : Nat → Int64) (hd : ∀ x, d x < 16) : ∀ n, sumL (fun x => if p x = true then w (d x) else 0) n = sumL (fun m => lN (fb_ct (fun x => p x && decide (d x = m)) n) * w m) 16
  | 0 => by
    show (0 : Int64) = _
    rw [← sumL_z 16]
    refine sumL_congr _ (fun m _ => ?_)
    show (0 : Int64) = lN 0 * w m
    rw [show lN 0 = 0 from rfl, Int64.zero_mul]
  | n + 1 => by
    show sumL (fun x => if p x = true then w (d x) else 0) n + (if p n = true then w (d n) else 0) = _
    rw [by_class p d w hd n]
    have e : ∀ m, m < 16 → lN (fb_ct (fun x => p x && decide (d x = m)) (n + 1)) * w m = lN (fb_ct (fun x => p x && decide (d x = m)) n) * w m + (if p n = true then (if d n = m then w m else 0) else 0) := by
      intro m _
      show lN (fb_ct (fun x => p x && decide (d x = m)) n + (if (p n && decide (d n = m)) = true then 1 else 0)) * w m = _
      rw [← lN_add, Int64.add_mul]
      congr 1
      cases hp : p n with
      | false =>
        rw [Bool.false_and, if_neg Bool.false_ne_true, if_neg Bool.false_ne_true]
        show (0 : Int64) * _ = 0
        rw [Int64.zero_mul]
      | true =>
        rw [Bool.true_and, if_pos rfl]
        by_cases z : d n = m
        · rw [if_pos (decide_eq_true z), if_pos z]
          show (1 : Int64) * _ = _
          rw [Int64.one_mul]
        · rw [if_neg (by rw [decide_eq_false z]; exact Bool.false_ne_true), if_neg z]
          show (0 : Int64) * _ = 0
          rw [Int64.zero_mul]
    rw [sumL_congr 16 e, sumL_add2]
    congr 1
    cases hp : p n with
    | false =>
      rw [if_neg Bool.false_ne_true]
      refine ((sumL_congr 16 (fun m _ => ?_)).trans (sumL_z 16)).symm
      rw [if_neg Bool.false_ne_true]
    | true =>
      rw [if_pos rfl]
      have h2 := sumL_one w (d n) 16
      rw [if_pos (hd n)] at h2
      rw [← h2]
      refine sumL_congr 16 (fun m _ => ?_)
      rw [if_pos rfl]
theorem xx {a t : Nat} : (a ^^^ t) ^^^ a = t := by
  rw [Nat.xor_comm a t, Nat.xor_assoc, Nat.xor_self, Nat.xor_zero]
theorem rd_is {f x r : Nat} (hr : r < 26) : rd f x = nI r ↔ (offx x ≤ f ∧ near x = r) := by
  have hn := near_lt x
  unfold rd
  by_cases q : offx x ≤ f
  · rw [if_pos q, q_eq (by omega) (by omega)]
    exact ⟨fun h => ⟨q, h⟩, fun h => h.2⟩
  · rw [if_neg q]
    constructor
    · intro h
      have h2 : (-4 : Int32).toInt = (nI r).toInt := congrArg Int32.toInt h
      rw [nI_toInt (by omega), show (-4 : Int32).toInt = -4 by decide] at h2
      omega
    · intro h; exact absurd h.1 q
/-- the odds by going through all sets of mistaken cells -/
theorem od_turn {l f c r : Nat} (hr : r < 26) : sumL (fun t => if rd f (shp l ^^^ t) = nI r then wl c (pop t) else 0) (2 ^ 15) = od l f c r := by
  have e1 : ∀ t, t < 2 ^ 15 → (if rd f (shp l ^^^ t) = nI r then wl c (pop t) else 0) = (fun x => if (decide (offx x ≤ f) && decide (near x = r)) = true then wl c (dist x l) else 0) (shp l ^^^ t) := by
    intro t _
    show _ = if (decide (offx (shp l ^^^ t) ≤ f) && decide (near (shp l ^^^ t) = r)) = true then wl c (pop ((shp l ^^^ t) ^^^ shp l)) else 0
    rw [xx]
    by_cases q : rd f (shp l ^^^ t) = nI r
    · obtain ⟨q1, q2⟩ := (rd_is hr).mp q
      rw [if_pos q, decide_eq_true q1, decide_eq_true q2, if_pos (show (true && true) = true from rfl)]
    · rw [if_neg q, if_neg]
      intro z
      rw [Bool.and_eq_true, decide_eq_true_eq, decide_eq_true_eq] at z
      exact q ((rd_is hr).mpr z)
  rw [sumL_congr _ e1, sum_xor 15 (shp l) (fun x => if (decide (offx x ≤ f) && decide (near x = r)) = true then wl c (dist x l) else 0) (shp_lt l), by_class (fun x => decide (offx x ≤ f) && decide (near x = r)) (fun x => dist x l) (wl c) (fun x => by have := dist_le x l; omega)]
  unfold od
  refine sumL_congr 16 (fun m _ => ?_)
  refine congrArg (fun z => lN z * wl c m) ?_
  unfold wayc
  refine (fb_ct_cong (fun x _ => ?_))
  unfold wayp
  rw [Bool.and_assoc]
