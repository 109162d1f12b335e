/-! odds: sums over longs -/
def sumL (g : Nat → Int64) : Nat → Int64
  | 0 => 0
  | n + 1 => sumL g n + g n
theorem sumL_congr {f g : Nat → Int64} : ∀ n, (∀ j, j < n → f j = g j) → sumL f n = sumL g n
  | 0, _ => rfl
  | n + 1, h => by
    simp only [sumL]
    rw [sumL_congr n (fun j hj => h j (by omega)), h n (by omega)]
def pw (v : Int64) : Nat → Int64
  | 0 => 1
  | n + 1 => pw v n * v
/-- the odds that just certain m cells are mistaken, in parts of 16 to the 15 -/
def wl (c m : Nat) : Int64 := pw (lN c) m * pw (lN (16 - c)) (15 - m)
def wi (c m i : Nat) : Int64 := if i ≤ m then pw (lN c) i else pw (lN c) m * pw (lN (16 - c)) (i - m)
theorem li_16 : (16 : Int32) = nI 16 := rfl
/-- the odds that the letter l reads as r -/
def od (l f c r : Nat) : Int64 := sumL (fun m => lN (wayc l f r m) * wl c m) 16
/-- thousandths of odds -/
def sur (x : Int64) : Int32 := (((((1000 : Int64) * (x >>> (((30 : Int32)).toInt64 &&& 63))) + (((1000 : Int64) * (x &&& (1073741823 : Int64))) >>> (((30 : Int32)).toInt64 &&& 63))) >>> (((30 : Int32)).toInt64 &&& 63))).toInt32
/-- the other letter of most odds -/
def tk (g : Nat → Int64) (l : Nat) : Nat → Int32 × Int64
  | 0 => (-4, 0)
  | i + 1 => if i = l then tk g l i else if (tk g l i).2 < g i then (nI i, g i) else tk g l i
theorem i64_lt_le {x y : Int64} (h : x < y) : x ≤ y := by
  rw [Int64.lt_iff_toInt_lt] at h
  rw [Int64.le_iff_toInt_le]
  omega
theorem tk_pos (g : Nat → Int64) (l : Nat) : ∀ i, (0 : Int64) ≤ (tk g l i).2
  | 0 => by show (0 : Int64) ≤ 0; decide
  | i + 1 => by
    have h := tk_pos g l i
    simp only [tk]
    split
    · exact h
    · split
      · rename_i q
        show (0 : Int64) ≤ g i
        rw [Int64.lt_iff_toInt_lt] at q
        rw [Int64.le_iff_toInt_le] at h ⊢
        omega
      · exact h
def sp_sure (s : Sg) (a b : Int32) : Int32 := ifr a 26 (fun l => ifr b 9 (fun c => sur (od l (mS s.1 2) c l)) (-1)) (-1)
def sp_taken (s : Sg) (a b : Int32) : Int32 := ifr a 26 (fun l => ifr b 9 (fun c => (tk (fun r => od l (mS s.1 2) c r) l 26).1) (-1)) (-1)
theorem upL_at {L : MemL} {k j : Nat} {v : Int64} : upL L k j v k j = v := by simp [upL]
theorem upL_k {L : MemL} {k j a : Nat} {v : Int64} (h : a ≠ k) : upL L k j v a = L a := by funext b; simp [upL, h]
theorem upL_j {L : MemL} {k j b : Nat} {v : Int64} (h : b ≠ j) : upL L k j v k b = L k b := by simp [upL, h]
section ODD
variable {fu k0 : Nat} {M : Mem} {L : MemL}
theorem countWays_ {l f : Nat} (hf : 600 ≤ fu) (hL : RgC k0 L) (hk : kd (k0 + 28) = 19) (hl : l < 26) (hff : f ≤ 7) (hO : M k0 3 = nI l → M k0 4 = nI f → WyC k0 M (wayc l f)) : ∃ M', f_X1_countWays fu M L k0 (nI l) (nI f) = some M' ∧ (M' k0 3 = nI l ∧ M' k0 4 = nI f ∧ WyC k0 M' (wayc l f)) ∧ ∀ a, (a < k0 ∨ k0 + 55 ≤ a) → M' a = M a := by
  have new : ∃ M', lp_X1_countWays_29 fu L k0 (nI l) (nI f) (fun M6 => lp_X1_countWays_53 fu L k0 (nI l) (nI f) (fun M9 => some M9) fu (0 : Int32) M6) fu (0 : Int32) (up (up M k0 3 (nI l)) k0 4 (nI f)) = some M' ∧ (M' k0 3 = nI l ∧ M' k0 4 = nI f ∧ WyC k0 M' (wayc l f)) ∧ ∀ a, (a < k0 ∨ k0 + 55 ≤ a) → M' a = M a := by
    obtain ⟨M2, a1, a2, a3⟩ := cw29 (fu := fu) (l := l) (f := f) (L := L) (K := fun M6 => lp_X1_countWays_53 fu L k0 (nI l) (nI f) (fun M9 => some M9) fu (0 : Int32) M6) (by omega) hk fu 0 (up (up M k0 3 (nI l)) k0 4 (nI f)) (by omega) (by omega) (fun r hr => by omega)
    obtain ⟨M3, b1, b2, b3⟩ := cw53 (l := l) (f := f) hf hL hk hl hff fu 0 M2 (by omega) (by omega) a2
    refine ⟨M3, a1.trans b1, ⟨?_, ?_, fun r hr m hm => ?_⟩, fun a ha => ?_⟩
    · rw [b3 _ (by omega), a3 _ (by omega), up_j (by omega), up_at]
    · rw [b3 _ (by omega), a3 _ (by omega), up_at]
    · rw [b2 r hr m hm]; rfl
    · rw [b3 _ (by omega), a3 _ (by omega), up_k (by omega), up_k (by omega)]
  unfold f_X1_countWays
  simp only [lt]
  by_cases q1 : nI l = M k0 3
  · rw [if_pos q1]
    by_cases q2 : nI f = M k0 4
    · rw [if_pos q2]
      exact ⟨M, rfl, ⟨q1.symm, q2.symm, hO q1.symm q2.symm⟩, fun _ _ => rfl⟩
    · rw [if_neg q2]
      exact new
  · rw [if_neg q1]
    exact new
theorem weigh13 {c m : Nat} {K : Int64 → Option MemL} (hc : c ≤ 8) (hm : m < 16) : ∀ n i, i ≤ 15 → 15 - i < n → lp_X1_weigh_13 fu M L k0 (nI c) (nI m) K n (wi c m i) (nI i) = K (wl c m) := by
  intro n
  induction n with
  | zero => intro i _ h; omega
  | succ n ih =>
    intro i hi hn
    rw [lp_X1_weigh_13]
    by_cases q : i = 15
    · subst q
      rw [if_pos (by rw [li_15, q_le (by omega) (by omega)]; omega)]
      refine congrArg K ?_
      unfold wi wl
      by_cases z : 15 ≤ m
      · have : m = 15 := by omega
        subst this
        rw [if_pos z, Nat.sub_self]
        show pw _ 15 = pw _ 15 * 1
        rw [Int64.mul_one]
      · rw [if_neg z]
    · rw [if_neg (by rw [li_15, q_le (by omega) (by omega)]; omega)]
      simp only [lt]
      by_cases z : m ≤ i
      · rw [if_pos (by rw [q_le (by omega) (by omega)]; exact z), bd_s, li_16, q_sb (by omega), nI_l (by omega), li_1, q_ad]
        have e : wi c m i * lN (16 - c) = wi c m (i + 1) := by
          unfold wi
          by_cases y : i ≤ m
          · have : i = m := by omega
            subst this
            rw [if_pos y, if_neg (by omega), show i + 1 - i = 0 + 1 by omega]
            show _ = pw _ i * (1 * lN (16 - c))
            rw [Int64.one_mul]
          · rw [if_neg y, if_neg (by omega), show i + 1 - m = (i - m) + 1 by omega, Int64.mul_assoc]
            rfl
        rw [e]
        exact ih (i + 1) (by omega) (by omega)
      · rw [if_neg (by rw [q_le (by omega) (by omega)]; exact z), bd_s, nI_l (by omega), li_1, q_ad]
        have e : wi c m i * lN c = wi c m (i + 1) := by
          unfold wi
          rw [if_pos (by omega), if_pos (by omega)]
          rfl
        rw [e]
        exact ih (i + 1) (by omega) (by omega)
theorem weigh_ {c : Nat} (hf : 50 ≤ fu) (hc : c ≤ 8) : ∃ L', f_X1_weigh fu M L k0 (nI c) = some L' ∧ (∀ m, m < 16 → L' (k0 + 55) m = wl c m) ∧ ∀ a, a ≠ k0 + 55 → L' a = L a := by
  unfold f_X1_weigh
  have key : ∀ n i (Lx : MemL), i ≤ 16 → 16 - i < n → (∀ m, m < i → Lx (k0 + 55) m = wl c m) → (∀ a, a ≠ k0 + 55 → Lx a = L a) → ∃ L', lp_X1_weigh_2 fu M k0 (nI c) (fun L9 => some L9) n (nI i) Lx = some L' ∧ (∀ m, m < 16 → L' (k0 + 55) m = wl c m) ∧ ∀ a, a ≠ k0 + 55 → L' a = L a := by
    intro n
    induction n with
    | zero => intro i _ _ h; omega
    | succ n ih =>
      intro i Lx hi hn h1 h2
      rw [lp_X1_weigh_2]
      by_cases q : i = 16
      · subst q
        rw [if_pos (by rw [li_16, q_le (by omega) (by omega)]; omega)]
        exact ⟨Lx, rfl, h1, h2⟩
      · rw [if_neg (by rw [li_16, q_le (by omega) (by omega)]; omega)]
        have hw := weigh13 (fu := fu) (M := M) (L := Lx) (k0 := k0) (c := c) (m := i) (K := fun v5 => gd (inb (nI i) 16) (lt (upL Lx (k0 + 55) (nI i).toNatClampNeg v5) (fun L7 => lt (nI i + 1) (fun v8 => lp_X1_weigh_2 fu M k0 (nI c) (fun L9 => some L9) n v8 L7)))) hc (by omega) fu 0 (by omega) (by omega)
        have e0 : wi c i 0 = 1 := by unfold wi; rw [if_pos (by omega)]; rfl
        rw [e0, ← li_0] at hw
        rw [hw, gd_t (q_ib (by omega) (by omega)), q_cl (by omega)]
        simp only [lt]
        rw [nI_1]
        refine ih (i + 1) _ (by omega) (by omega) (fun m hm => ?_) (fun a ha => by rw [upL_k ha]; exact h2 a ha)
        by_cases z : m = i
        · subst z; rw [upL_at]
        · rw [upL_j z]; exact h1 m (by omega)
  rw [li_0]
  exact key fu 0 L (by omega) (by omega) (fun m hm => by omega) (fun _ _ => rfl)
theorem oddsToRead_ {l f c r : Nat} (hf : 50 ≤ fu) (hW : WyC k0 M (wayc l f)) (hw : ∀ m, m < 16 → L (k0 + 55) m = wl c m) (hr : r < 26) : f_X1_oddsToRead fu M L k0 (nI r) = some (od l f c r) := by
  unfold f_X1_oddsToRead
  have key := cnt (fun n i => lp_X1_oddsToRead_5 fu M L k0 (nI r) (fun v6 => some v6) n (sumL (fun m => lN (wayc l f r m) * wl c m) i) (nI i)) (some (od l f c r)) 16 (fun n => by
    show lp_X1_oddsToRead_5 _ _ _ _ _ _ (n + 1) _ _ = _
    rw [lp_X1_oddsToRead_5, if_pos (by rw [li_16, q_le (by omega) (by omega)]; omega)]
    rfl) (fun n i hi => by
    show lp_X1_oddsToRead_5 _ _ _ _ _ _ (n + 1) _ _ = lp_X1_oddsToRead_5 _ _ _ _ _ _ n _ _
    have hle : wayc l f r i ≤ 32768 := fb_ct_le _ _
    rw [lp_X1_oddsToRead_5, if_neg (by rw [li_16, q_le (by omega) (by omega)]; omega), gd_t (q_ib (by omega) hr), gd_t (q_ib (by omega) hi), gd_t (q_ib (by omega) hi), q_cl (a := r) (by omega), q_cl (a := i) (by omega), hW r hr i hi, hw i hi, nI_l (by omega)]
    simp only [lt]
    rw [nI_1]
    rfl) fu 0 (by omega) (by omega)
  exact key
theorem sureness_ {l f c : Nat} (hf : 600 ≤ fu) (hL : RgC k0 L) (hk : kd (k0 + 28) = 19) (hl : l < 26) (hff : f ≤ 7) (hc : c ≤ 8) (hO : M k0 3 = nI l → M k0 4 = nI f → WyC k0 M (wayc l f)) : ∃ M' L', f_X1_surenessOf fu M L k0 (nI l) (nI c) (nI f) = some (sur (od l f c l), M', L') ∧ (M' k0 3 = nI l ∧ M' k0 4 = nI f ∧ WyC k0 M' (wayc l f)) ∧ (∀ a, (a < k0 ∨ k0 + 55 ≤ a) → M' a = M a) ∧ ∀ a, a ≠ k0 + 55 → L' a = L a := by
  obtain ⟨L', a1, a2, a3⟩ := weigh_ (fu := fu) (M := M) (L := L) (k0 := k0) (by omega) hc
  have hL' : RgC k0 L' := fun i hi k hk2 => by rw [a3 _ (by omega)]; exact hL i hi k hk2
  obtain ⟨M', b1, b2, b3⟩ := countWays_ hf hL' hk hl hff hO
  refine ⟨M', L', ?_, b2, b3, a3⟩
  unfold f_X1_surenessOf
  rw [a1, bd_s, b1, bd_s, oddsToRead_ (by omega) b2.2.2 a2 hl, bd_s, show ((1 : Int64) <<< (((30 : Int32)).toInt64 &&& 63)) - (1 : Int64) = 1073741823 by decide +kernel]
  rfl
theorem mistake_ {l f c : Nat} (hf : 600 ≤ fu) (hL : RgC k0 L) (hk : kd (k0 + 28) = 19) (hl : l < 26) (hff : f ≤ 7) (hc : c ≤ 8) (hO : M k0 3 = nI l → M k0 4 = nI f → WyC k0 M (wayc l f)) : ∃ M' L', f_X1_mistakeFor fu M L k0 (nI l) (nI c) (nI f) = some ((tk (fun r => od l f c r) l 26).1, M', L') ∧ (M' k0 3 = nI l ∧ M' k0 4 = nI f ∧ WyC k0 M' (wayc l f)) ∧ (∀ a, (a < k0 ∨ k0 + 55 ≤ a) → M' a = M a) ∧ ∀ a, a ≠ k0 + 55 → L' a = L a := by
  obtain ⟨L', a1, a2, a3⟩ := weigh_ (fu := fu) (M := M) (L := L) (k0 := k0) (by omega) hc
  have hL' : RgC k0 L' := fun i hi k hk2 => by rw [a3 _ (by omega)]; exact hL i hi k hk2
  obtain ⟨M', b1, b2, b3⟩ := countWays_ hf hL' hk hl hff hO
  refine ⟨M', L', ?_, b2, b3, a3⟩
  unfold f_X1_mistakeFor
  rw [a1, bd_s, b1, bd_s]
  generalize eg : (fun r => od l f c r) = g
  have hg : ∀ r, od l f c r = g r := fun r => by rw [← eg]
  have key := cnt (fun n i => lp_X1_mistakeFor_21 fu M' L' k0 (nI l) (fun v8 => some (v8, M', L')) n (tk g l i).1 (tk g l i).2 (nI i)) (some ((tk g l 26).1, M', L')) 26 (fun n => by
    show lp_X1_mistakeFor_21 _ _ _ _ _ _ (n + 1) _ _ _ = _
    rw [lp_X1_mistakeFor_21, if_pos (by rw [li_26, q_le (by omega) (by omega)]; omega)]) (fun n i hi => by
    show lp_X1_mistakeFor_21 _ _ _ _ _ _ (n + 1) _ _ _ = lp_X1_mistakeFor_21 _ _ _ _ _ _ n _ _ _
    rw [lp_X1_mistakeFor_21, if_neg (by rw [li_26, q_le (by omega) (by omega)]; omega)]
    simp only [lt]
    by_cases q : i = l
    · subst q
      rw [if_pos rfl, bd_s, if_pos ((lg_cmp_le _ _).mpr (tk_pos g i i)), nI_1]
      simp only [tk]
      rw [if_pos trivial]
    · rw [if_neg (by rw [q_eq (by omega) (by omega)]; exact q), oddsToRead_ (by omega) b2.2.2 a2 hi, bd_s, bd_s, hg, nI_1]
      simp only [tk]
      rw [if_neg q]
      by_cases z : (tk g l i).2 < g i
      · rw [if_neg (fun y => by
          rw [lg_cmp_le, Int64.le_iff_toInt_le] at y
          rw [Int64.lt_iff_toInt_lt] at z
          omega), if_pos z]
      · rw [if_pos ((lg_cmp_le _ _).mpr (by
          rw [Int64.lt_iff_toInt_lt] at z
          rw [Int64.le_iff_toInt_le]
          omega)), if_neg z]) fu 0 (by omega) (by omega)
  exact key
end ODD
section PUB
variable {fu o : Nat} {M : Mem} {L : MemL} {s : Sg}
theorem RC.od {M1 : Mem} (h : RC o M s) (hF : ∀ a, (a < o + 102 ∨ o + 102 + 55 ≤ a) → M1 a = M a) (hO : OdC o M1) : RC o M1 s := by
  obtain ⟨w, m, k, t, sh, -⟩ := h
  refine ⟨w, m.frame (fun a h1 h2 => hF a (by omega)) w.1, k.frame w (hF o (by omega)) (fun a h1 h2 => hF a (by omega)), ⟨by rw [hF _ (by omega)]; exact t.1, fun j hj => by rw [hF _ (by omega)]; exact t.2 j hj⟩, fun q hq => ?_, hO⟩
  rw [hF _ (by omega), hF _ (by omega)]
  exact sh q hq
theorem OdC.now {l f : Nat} (hl : l < 26) (hf : f ≤ 7) (h : M (o + 102) 3 = nI l ∧ M (o + 102) 4 = nI f ∧ WyC (o + 102) M (wayc l f)) : OdC o M := by
  intro l' f' hl' hf' h1 h2
  have e1 : l' = l := (q_eq (by omega) (by omega)).mp (h1.symm.trans h.1)
  have e2 : f' = f := (q_eq (by omega) (by omega)).mp (h2.symm.trans h.2.1)
  subst e1
  subst e2
  exact h.2.2
theorem X7_sure_ (hf : 600 ≤ fu) (hk : kd (o + 102 + 28) = 19) (h : RC o M s) (hL : RgC (o + 102) L) (a b : Int32) : ∃ M' L', f_X7_sure fu M L o a b = some (sp_sure s a b, M', L') ∧ RC o M' s ∧ RgC (o + 102) L' := by
  unfold f_X7_sure sp_sure
  rw [li_26]
  rcases rg a 26 (by omega) with ⟨l, hl, rfl⟩ | ha
  · rw [ifr_t hl (by omega), isb_t hl (by omega), bd_s, if_neg one0]
    rcases rg b 9 (by omega) with ⟨c, hc, rfl⟩ | hb
    · have hff : mS s.1 2 ≤ 7 := h.1.1.1.2.2.1
      obtain ⟨M', L', e, e1, e2, e3⟩ := sureness_ (M := M) (l := l) (f := mS s.1 2) (c := c) hf hL hk hl hff (by omega) (fun h1 h2 => h.2.2.2.2.2 l _ hl hff h1 h2)
      rw [ifr_t hc (by omega), if_neg (nI_pos (by omega)), if_pos (by rw [li_8, q_le (by omega) (by omega)]; omega), li_2, gd_t (q_ib (by omega) (by omega)), q_cl (by omega), h.2.1.2.1 2 (by omega), e, bd_s]
      exact ⟨M', L', rfl, h.od e2 (OdC.now hl hff e1), fun i hi k hk2 => by rw [e3 _ (by omega)]; exact hL i hi k hk2⟩
    · rw [ifr_f (by omega) hb]
      have hn := rg_no (by omega) hb
      refine ⟨M, L, ?_, h, hL⟩
      by_cases q : b < 0
      · rw [if_pos q]
      · rw [if_neg q, if_neg]
        rw [Int32.lt_iff_toInt_lt, Int32.toInt_zero] at q
        rw [li_8, Int32.le_iff_toInt_le, nI_toInt (by omega)]
        omega
  · rw [ifr_f (by omega) ha, isb_f (by omega) ha, bd_s, if_pos rfl]
    exact ⟨M, L, rfl, h, hL⟩
theorem X7_taken_ (hf : 600 ≤ fu) (hk : kd (o + 102 + 28) = 19) (h : RC o M s) (hL : RgC (o + 102) L) (a b : Int32) : ∃ M' L', f_X7_taken fu M L o a b = some (sp_taken s a b, M', L') ∧ RC o M' s ∧ RgC (o + 102) L' := by
  unfold f_X7_taken sp_taken
  rw [li_26]
  rcases rg a 26 (by omega) with ⟨l, hl, rfl⟩ | ha
  · rw [ifr_t hl (by omega), isb_t hl (by omega), bd_s, if_neg one0]
    rcases rg b 9 (by omega) with ⟨c, hc, rfl⟩ | hb
    · have hff : mS s.1 2 ≤ 7 := h.1.1.1.2.2.1
      obtain ⟨M', L', e, e1, e2, e3⟩ := mistake_ (M := M) (l := l) (f := mS s.1 2) (c := c) hf hL hk hl hff (by omega) (fun h1 h2 => h.2.2.2.2.2 l _ hl hff h1 h2)
      rw [ifr_t hc (by omega), if_neg (nI_pos (by omega)), if_pos (by rw [li_8, q_le (by omega) (by omega)]; omega), li_2, gd_t (q_ib (by omega) (by omega)), q_cl (by omega), h.2.1.2.1 2 (by omega), e, bd_s]
      exact ⟨M', L', rfl, h.od e2 (OdC.now hl hff e1), fun i hi k hk2 => by rw [e3 _ (by omega)]; exact hL i hi k hk2⟩
    · rw [ifr_f (by omega) hb]
      have hn := rg_no (by omega) hb
      refine ⟨M, L, ?_, h, hL⟩
      by_cases q : b < 0
      · rw [if_pos q]
      · rw [if_neg q, if_neg]
        rw [Int32.lt_iff_toInt_lt, Int32.toInt_zero] at q
        rw [li_8, Int32.le_iff_toInt_le, nI_toInt (by omega)]
        omega
  · rw [ifr_f (by omega) ha, isb_f (by omega) ha, bd_s, if_pos rfl]
    exact ⟨M, L, rfl, h, hL⟩
end PUB
