/-! a set of 15 cells as 9 high ones and 6 low ones -/
theorem pc_0 : ∀ n, pc n 0 = 0
  | 0 => rfl
  | n + 1 => by simp only [pc]; rw [show 0 / 2 = 0 from rfl, pc_0 n]
theorem xor_split {a b m n : Nat} (hb : b < 64) (hn : n < 64) : (64 * a + b) ^^^ (64 * m + n) = 64 * (a ^^^ m) + (b ^^^ n) := by
  apply Nat.eq_of_testBit_eq
  intro j
  have hbn : b ^^^ n < 2 ^ 6 := Nat.xor_lt_two_pow hb hn
  rw [Nat.testBit_xor, show (64 : Nat) = 2 ^ 6 from rfl, Nat.testBit_two_pow_mul_add a hb, Nat.testBit_two_pow_mul_add m hn, Nat.testBit_two_pow_mul_add _ hbn, Nat.testBit_xor, Nat.testBit_xor]
  split <;> rfl
theorem pop_hl {a b : Nat} (ha : a < 512) (hb : b < 64) : pop (64 * a + b) = pop a + pop b := by
  have h1 := pc_split 6 9 (64 * a + b)
  have h2 := pc_mod 6 (64 * a + b)
  have h3 := pc_split 9 6 a
  have h4 := pc_split 6 9 b
  rw [show (2 : Nat) ^ 6 = 64 from rfl] at h1 h2 h4
  rw [show (2 : Nat) ^ 9 = 512 from rfl, show a / 512 = 0 by omega, pc_0] at h3
  rw [show b / 64 = 0 by omega, pc_0] at h4
  rw [show (64 * a + b) % 64 = b by omega] at h2
  rw [show (64 * a + b) / 64 = a by omega] at h1
  show pc (6 + 9) (64 * a + b) = pc (9 + 6) a + pc (6 + 9) b
  rw [h1, h3, h4, ← h2]
  omega
def hoff (h r : Nat) : Nat := pop (h ^^^ shp r / 64)
def lo (j r : Nat) : Nat := pop (j ^^^ shp r % 64)
theorem hx_lt {h : Nat} (hh : h < 512) (r : Nat) : h ^^^ shp r / 64 < 512 := Nat.xor_lt_two_pow (n := 9) hh (by have := shp_lt r; show _ < 512; omega)
theorem lx_lt {j : Nat} (hj : j < 64) (r : Nat) : j ^^^ shp r % 64 < 64 := Nat.xor_lt_two_pow (n := 6) hj (by show _ < 64; omega)
theorem dsp {h j : Nat} (hh : h < 512) (hj : j < 64) (r : Nat) : dist (64 * h + j) r = hoff h r + lo j r := by
  unfold dist hoff lo
  have e : shp r = 64 * (shp r / 64) + shp r % 64 := by omega
  have e2 : (64 * h + j) ^^^ shp r = 64 * (h ^^^ shp r / 64) + (j ^^^ shp r % 64) := by
    conv => lhs; rw [e]
    exact xor_split hj (by omega)
  rw [e2, pop_hl (hx_lt hh r) (lx_lt hj r)]
theorem hoff_le {h : Nat} (hh : h < 512) (r : Nat) : hoff h r ≤ 9 := by
  have h3 := pc_split 9 6 (h ^^^ shp r / 64)
  rw [show (2 : Nat) ^ 9 = 512 from rfl, show (h ^^^ shp r / 64) / 512 = 0 by have := hx_lt hh r; omega, pc_0] at h3
  have := pc_le 9 (h ^^^ shp r / 64)
  show pc (9 + 6) _ ≤ 9
  omega
theorem lo_le {j : Nat} (hj : j < 64) (r : Nat) : lo j r ≤ 6 := by
  have h3 := pc_split 6 9 (j ^^^ shp r % 64)
  rw [show (2 : Nat) ^ 6 = 64 from rfl, show (j ^^^ shp r % 64) / 64 = 0 by have := lx_lt hj r; omega, pc_0] at h3
  have := pc_le 6 (j ^^^ shp r % 64)
  show pc (6 + 9) _ ≤ 6
  omega
theorem nb_min (x : Nat) : ∀ l r, r ≤ l → dist x (nb x l) ≤ dist x r ∧ (r < nb x l → dist x (nb x l) < dist x r)
  | 0, r, h => by
    have : r = 0 := by omega
    subst this
    exact ⟨Nat.le_refl _, fun q => absurd q (Nat.lt_irrefl _)⟩
  | l + 1, r, h => by
    have ih := nb_min x l
    unfold nb
    by_cases q : dist x (l + 1) < dist x (nb x l)
    · rw [if_pos q]
      by_cases e : r = l + 1
      · subst e; exact ⟨Nat.le_refl _, fun q => absurd q (Nat.lt_irrefl _)⟩
      · have := (ih r (by omega)).1
        exact ⟨by omega, fun _ => by omega⟩
    · rw [if_neg q]
      by_cases e : r = l + 1
      · subst e
        have := nb_le x l
        exact ⟨by omega, fun z => by omega⟩
      · exact ih r (by omega)
theorem near_min {x r : Nat} (hr : r < 26) : offx x ≤ dist x r ∧ (r < near x → offx x < dist x r) := nb_min x 25 r (by omega)
/-- taken by then: nearer than off cells, or just so near to a letter before r -/
def clm (off r x : Nat) : Bool := decide (offx x < off ∨ (offx x = off ∧ near x < r))
def hit (off r x : Nat) : Bool := decide (offx x = off ∧ near x = r)
theorem hit_of {off r x : Nat} (hr : r < 26) : (!(clm off r x) && decide (dist x r = off)) = hit off r x := by
  obtain ⟨h1, h2⟩ := near_min (x := x) hr
  have h3 : near x = r → dist x r = offx x := fun e => by rw [← e]; rfl
  unfold clm hit
  rw [Bool.eq_iff_iff]
  simp only [Bool.and_eq_true, Bool.not_eq_true', decide_eq_false_iff_not, decide_eq_true_eq]
  constructor
  · rintro ⟨q1, q2⟩
    omega
  · rintro ⟨q1, q2⟩
    have := h3 q2
    omega
theorem clm_s {off r x : Nat} : clm off (r + 1) x = (clm off r x || hit off r x) := by
  unfold clm hit
  rw [Bool.eq_iff_iff]
  simp only [Bool.or_eq_true, decide_eq_true_eq]
  omega
theorem clm_26 {off x : Nat} : clm off 26 x = clm (off + 1) 0 x := by
  have := near_lt x
  unfold clm
  rw [decide_eq_decide]
  omega
theorem clm_00 {x : Nat} : clm 0 0 x = false := by
  unfold clm
  simp
theorem hit_clm {off r x : Nat} : ¬ (clm off r x = true ∧ hit off r x = true) := by
  unfold clm hit
  simp only [decide_eq_true_eq]
  omega
/-- the ways to read as r by m mistaken cells, of the sets below 64 h and those of the next 64 that are taken by then -/
def wq (l f h off r r' m : Nat) : Nat := fb_ct (wayp l f r' m) (64 * h) + fb_ct (fun j => clm off r (64 * h + j) && (decide (near (64 * h + j) = r') && decide (dist (64 * h + j) l = m))) 64
theorem add_l {a b c : Nat} (h : b = c) : a + b = a + c := by rw [h]
theorem and_r {a b c : Bool} (h : a = b) : (a && c) = (b && c) := by rw [h]
theorem wq_0 {l f h r' m : Nat} : wq l f h 0 0 r' m = fb_ct (wayp l f r' m) (64 * h) := by
  unfold wq
  have e : fb_ct (fun j => clm 0 0 (64 * h + j) && (decide (near (64 * h + j) = r') && decide (dist (64 * h + j) l = m))) 64 = 0 := by
    apply fb_ct_zero.mpr
    intro k _
    show (clm 0 0 (64 * h + k) && _) = false
    rw [clm_00, Bool.false_and]
  rw [e, Nat.add_zero]
theorem wq_26 {l f h off r' m : Nat} : wq l f h off 26 r' m = wq l f h (off + 1) 0 r' m := by
  unfold wq
  refine add_l (fb_ct_cong (fun j _ => ?_))
  show (clm off 26 (64 * h + j) && _) = (clm (off + 1) 0 (64 * h + j) && _)
  rw [clm_26]
theorem wq_end {l f h r' m : Nat} : wq l f h (f + 1) 0 r' m = fb_ct (wayp l f r' m) (64 * (h + 1)) := by
  unfold wq
  rw [show 64 * (h + 1) = 64 * h + 64 by omega, fb_ct_split]
  refine add_l (fb_ct_cong (fun j _ => ?_))
  show (clm (f + 1) 0 (64 * h + j) && _) = (decide (offx (64 * h + j) ≤ f) && _)
  refine and_r ?_
  unfold clm
  rw [decide_eq_decide]
  omega
theorem wq_all {l f h off r' m : Nat} (ho : off ≤ f) (ha : ∀ j, j < 64 → clm off 0 (64 * h + j) = true) : wq l f h off 0 r' m = fb_ct (wayp l f r' m) (64 * (h + 1)) := by
  unfold wq
  rw [show 64 * (h + 1) = 64 * h + 64 by omega, fb_ct_split]
  refine add_l (fb_ct_cong (fun j hj => ?_))
  have h1 := ha j hj
  show (clm off 0 (64 * h + j) && _) = (decide (offx (64 * h + j) ≤ f) && _)
  refine and_r ?_
  rw [h1]
  unfold clm at h1
  rw [decide_eq_true_eq] at h1
  exact (decide_eq_true (by omega)).symm
/-- what a step adds -/
def cP (P : Nat → Bool) (hm l m : Nat) : Nat := fb_ct (fun j => P j && decide (hm + lo j l = m)) 64
theorem wq_s {l f h off r r' m : Nat} (hh : h < 512) : wq l f h off (r + 1) r' m = wq l f h off r r' m + (if r' = r then cP (fun j => hit off r (64 * h + j)) (hoff h l) l m else 0) := by
  unfold wq
  have e : fb_ct (fun j => clm off (r + 1) (64 * h + j) && (decide (near (64 * h + j) = r') && decide (dist (64 * h + j) l = m))) 64 = fb_ct (fun j => (clm off r (64 * h + j) && (decide (near (64 * h + j) = r') && decide (dist (64 * h + j) l = m))) || (hit off r (64 * h + j) && (decide (near (64 * h + j) = r') && decide (dist (64 * h + j) l = m)))) 64 := by
    apply fb_ct_cong
    intro j _
    rw [clm_s, Bool.and_or_distrib_right]
  have e2 := fb_ct_or (p := fun j => clm off r (64 * h + j) && (decide (near (64 * h + j) = r') && decide (dist (64 * h + j) l = m))) (q := fun j => hit off r (64 * h + j) && (decide (near (64 * h + j) = r') && decide (dist (64 * h + j) l = m))) (n := 64) (fun j _ q => by
    simp only [Bool.and_eq_true] at q
    exact hit_clm ⟨q.1.1, q.2.1⟩)
  rw [e, e2, Nat.add_assoc]
  refine add_l (add_l ?_)
  by_cases z : r' = r
  · rw [if_pos z]
    subst z
    apply fb_ct_cong
    intro j hj
    rw [dsp hh hj]
    show (hit off r' (64 * h + j) && (decide (near (64 * h + j) = r') && decide (hoff h l + lo j l = m))) = (hit off r' (64 * h + j) && decide (hoff h l + lo j l = m))
    clear e e2
    cases e2 : hit off r' (64 * h + j) with
    | false => rw [Bool.false_and, Bool.false_and]
    | true =>
      unfold hit at e2
      rw [decide_eq_true_eq] at e2
      rw [e2.2, decide_eq_true (rfl : r' = r'), Bool.true_and]
  · rw [if_neg z]
    apply fb_ct_zero.mpr
    intro j _
    clear e e2
    show (hit off r (64 * h + j) && _) = false
    cases e2 : hit off r (64 * h + j) with
    | false => rw [Bool.false_and]
    | true =>
      unfold hit at e2
      rw [decide_eq_true_eq] at e2
      have : ¬ near (64 * h + j) = r' := by omega
      simp [this]
theorem cP_0 {P : Nat → Bool} {hm l m : Nat} (h : ∀ j, j < 64 → P j = false) : cP P hm l m = 0 := by
  unfold cP
  apply fb_ct_zero.mpr
  intro j hj
  rw [h j hj]; rfl
theorem cP_out {P : Nat → Bool} {hm l m : Nat} (h : m < hm ∨ hm + 6 < m) : cP P hm l m = 0 := by
  unfold cP
  apply fb_ct_zero.mpr
  intro j hj
  have := lo_le hj l
  have : ¬ hm + lo j l = m := by omega
  simp [this]
theorem wayp_le (l f r m n : Nat) : fb_ct (wayp l f r m) n ≤ n := fb_ct_le _ n
