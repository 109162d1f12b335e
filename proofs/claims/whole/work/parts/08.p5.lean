/-! forms of words -/
def likx (σ : Md) (u v : Nat) : Bool := decide (mL σ u = mL σ v) && alf (fun j => decide (mT σ u j = mT σ v j)) (mL σ u) 0
/-- the place behind the first letter l of T from i on, k places left -/
def fnd (T : Nat → Nat) (l : Nat) : Nat → Nat → Option Nat
  | 0, _ => none
  | k + 1, i => if T i = l then some (i + 1) else fnd T l k (i + 1)
theorem fnd_le {T : Nat → Nat} {l : Nat} : ∀ k i p, fnd T l k i = some p → i < p ∧ p ≤ i + k
  | 0, i, p, h => by cases h
  | k + 1, i, p, h => by
    unfold fnd at h
    split at h
    · cases h; omega
    · have := fnd_le k (i + 1) p h
      omega
def hfx (T T2 : Nat → Nat) (L2 x : Nat) : Nat → Nat → Nat → Bool
  | 0, _, _ => true
  | k + 1, i, at' => if x.testBit i = true then (match fnd T2 (T i) (L2 - at') at' with
    | some p => hfx T T2 L2 x k (i + 1) p
    | none => false) else hfx T T2 L2 x k (i + 1) at'
def ownx (σ : Md) (w x : Nat) : Bool := alf (fun v => likx σ w v || !(hfx (mT σ w) (mT σ v) (mL σ v) x (mL σ w) 0 0)) (mW σ) 0
/-- the best form among 1 .. n -/
def ltb (r : Option Nat) (x : Nat) : Bool := match r with
  | none => true
  | some b => decide (pop x < pop b)
def brf (σ : Md) (w : Nat) : Nat → Option Nat
  | 0 => none
  | n + 1 => if (ownx σ w (n + 1) && ltb (brf σ w n) (n + 1)) = true then some (n + 1) else brf σ w n
theorem brf_le {σ : Md} {w : Nat} : ∀ n b, brf σ w n = some b → 1 ≤ b ∧ b ≤ n
  | 0, b, h => by cases h
  | n + 1, b, h => by
    unfold brf at h
    split at h
    · cases h; exact ⟨by omega, Nat.le_refl _⟩
    · have := brf_le n b h
      omega
section CL
variable {fu k : Nat} {M : Mem} {σ : Md}
theorem isLike_ {u v : Nat} (hf : 50 ≤ fu) (hw : Wf σ) (h : MdC k M σ) (hu : u < mW σ) (hv : v < mW σ) : f_X6_isLike fu M (k + 3 + 21 + 2 * u) (k + 3 + 21 + 2 * v) = some (if likx σ u v = true then 1 else 0) := by
  obtain ⟨-, -, -, -, -, h7⟩ := id h
  obtain ⟨-, ⟨w1, w2⟩, w3, w4, -⟩ := id hw
  have l1 := w4 u hu
  have l2 := w4 v hv
  unfold f_X6_isLike likx
  rw [(h7 u hu).1, (h7 v hv).1]
  by_cases q : mL σ u = mL σ v
  · rw [if_pos (by rw [q])]
    have key := cnte (fun n j => lp_X6_isLike_15 fu M (k + 3 + 21 + 2 * u) (k + 3 + 21 + 2 * v) (fun _ => some 1) n (nI j)) (fun j => decide (mT σ u j = mT σ v j)) (some 1) (some 0) (mL σ u) (fun n => by
      show lp_X6_isLike_15 _ _ _ _ _ (n + 1) _ = _
      rw [lp_X6_isLike_15, (h7 u hu).1, if_pos (by rw [q_le (by omega) (by omega)]; omega)]) (fun n j hj hp => by
      show lp_X6_isLike_15 _ _ _ _ _ (n + 1) _ = lp_X6_isLike_15 _ _ _ _ _ n _
      rw [lp_X6_isLike_15, (h7 u hu).1, if_neg (by rw [q_le (by omega) (by omega)]; omega), gd_t (q_ib (by omega) (by omega)), gd_t (q_ib (by omega) (by omega)), q_cl (by omega), (h7 u hu).2.2 j hj, (h7 v hv).2.2 j (by omega), if_pos (by rw [of_decide_eq_true hp])]
      simp only [lt]
      rw [li_1, q_ad]) (fun n j hj hp => by
      show lp_X6_isLike_15 _ _ _ _ _ (n + 1) _ = _
      have t1 := l1.2.2.2 j hj
      have t2 := l2.2.2.2 j (by omega)
      rw [lp_X6_isLike_15, (h7 u hu).1, if_neg (by rw [q_le (by omega) (by omega)]; omega), gd_t (q_ib (by omega) (by omega)), gd_t (q_ib (by omega) (by omega)), q_cl (by omega), (h7 u hu).2.2 j hj, (h7 v hv).2.2 j (by omega), if_neg (by rw [q_eq (by omega) (by omega)]; exact of_decide_eq_false hp)]) fu 0 (by omega) (by omega)
    rw [Nat.sub_zero] at key
    refine key.trans ?_
    rw [decide_eq_true q, Bool.true_and]
    split <;> rfl
  · rw [if_neg (by rw [q_eq (by omega) (by omega)]; exact q)]
    simp [q]
def pbv (r : Option Nat) : Int32 := match r with
  | some p => nI p
  | none => -4
theorem placeBehind_ {v l at' : Nat} (hf : 50 ≤ fu) (hw : Wf σ) (h : MdC k M σ) (hv : v < mW σ) (hl : l < 26) (ha : at' ≤ 6) : f_X6_placeBehind fu M (k + 3 + 21 + 2 * v) (nI l) (nI at') = some (pbv (fnd (mT σ v) l (mL σ v - at') at')) := by
  obtain ⟨-, -, -, -, -, h7⟩ := id h
  obtain ⟨-, ⟨w1, w2⟩, w3, w4, -⟩ := id hw
  have l2 := w4 v hv
  unfold f_X6_placeBehind
  have key : ∀ n at', at' ≤ 6 → mL σ v - at' < n → lp_X6_placeBehind_2 fu M (k + 3 + 21 + 2 * v) (nI l) (fun _ => some (-4)) n (nI at') = some (pbv (fnd (mT σ v) l (mL σ v - at') at')) := by
    intro n
    induction n with
    | zero => intro a _ h; omega
    | succ n ih =>
      intro a ha hn
      rw [lp_X6_placeBehind_2, (h7 v hv).1]
      by_cases q : mL σ v ≤ a
      · rw [if_pos (by rw [q_le (by omega) (by omega)]; exact q), show mL σ v - a = 0 by omega]
        rfl
      · rw [if_neg (by rw [q_le (by omega) (by omega)]; exact q), gd_t (q_ib (by omega) (by omega)), q_cl (by omega), (h7 v hv).2.2 a (by omega)]
        have t2 := l2.2.2.2 a (by omega)
        rw [show mL σ v - a = (mL σ v - (a + 1)) + 1 by omega]
        unfold fnd
        by_cases z : mT σ v a = l
        · rw [if_pos (by rw [z]), if_pos z, li_1, q_ad]
          rfl
        · rw [if_neg (by rw [q_eq (by omega) (by omega)]; exact z), if_neg z]
          simp only [lt]
          rw [li_1, q_ad]
          exact ih (a + 1) (by omega) (by omega)
  exact key fu at' ha (by omega)
theorem hasFormIn_ {u v x : Nat} (hf : 50 ≤ fu) (hw : Wf σ) (h : MdC k M σ) (hu : u < mW σ) (hv : v < mW σ) (hx : x < 64) : f_X6_hasFormIn fu M (k + 3 + 21 + 2 * u) (nI x) (k + 3 + 21 + 2 * v) = some (if hfx (mT σ u) (mT σ v) (mL σ v) x (mL σ u) 0 0 = true then 1 else 0) := by
  obtain ⟨-, -, -, -, -, h7⟩ := id h
  obtain ⟨-, ⟨w1, w2⟩, w3, w4, -⟩ := id hw
  have l1 := w4 u hu
  have l2 := w4 v hv
  unfold f_X6_hasFormIn
  have key : ∀ n i at', i ≤ mL σ u → at' ≤ 6 → mL σ u - i < n → lp_X6_hasFormIn_5 fu M (k + 3 + 21 + 2 * u) (nI x) (k + 3 + 21 + 2 * v) (fun _ => some 1) n (nI at') (nI i) = some (if hfx (mT σ u) (mT σ v) (mL σ v) x (mL σ u - i) i at' = true then 1 else 0) := by
    intro n
    induction n with
    | zero => intro i a _ _ h; omega
    | succ n ih =>
      intro i a hi ha hn
      rw [lp_X6_hasFormIn_5, (h7 u hu).1]
      by_cases q : mL σ u ≤ i
      · rw [if_pos (by rw [q_le (by omega) (by omega)]; exact q), show mL σ u - i = 0 by omega]
        rfl
      · rw [if_neg (by rw [q_le (by omega) (by omega)]; exact q)]
        rw [show mL σ u - i = (mL σ u - (i + 1)) + 1 by omega]
        unfold hfx
        have h1 := tbit1 (x := x) (c := i) (by omega) (by omega)
        rw [← li_1] at h1
        by_cases z : x.testBit i = true
        · rw [if_pos (h1.mpr z), if_pos z, gd_t (q_ib (by omega) (by omega)), q_cl (by omega), (h7 u hu).2.2 i (by omega), placeBehind_ hf hw h hv (l1.2.2.2 i (by omega)) ha, bd_s]
          cases e : fnd (mT σ v) (mT σ u i) (mL σ v - a) a with
          | none =>
            show (if (0 : Int32) ≤ -4 then _ else _) = _
            rw [if_neg (by decide)]
            rfl
          | some p =>
            have hp := fnd_le _ _ _ e
            show (if (0 : Int32) ≤ nI p then _ else _) = _
            rw [if_pos (nI_pos' (by omega))]
            simp only [lt]
            rw [li_1, q_ad]
            exact ih (i + 1) p (by omega) (by omega) (by omega)
        · rw [if_neg (fun y => z (h1.mp y)), if_neg z]
          simp only [lt]
          rw [li_1, q_ad]
          exact ih (i + 1) a (by omega) ha (by omega)
  have := key fu 0 0 (by omega) (by omega) (by omega)
  rw [Nat.sub_zero] at this
  exact this
theorem isOwnForm_ {w x : Nat} (hf : 50 ≤ fu) (hw : Wf σ) (h : MdC k M σ) (hwo : w < mW σ) (hx : x < 64) : f_X0_isOwnForm fu M k (k + 3 + 21 + 2 * w) (nI x) = some (if ownx σ w x = true then 1 else 0) := by
  obtain ⟨⟨-, h2⟩, -, -, -, -, h7⟩ := id h
  obtain ⟨-, ⟨w1, w2⟩, w3, w4, -⟩ := id hw
  unfold f_X0_isOwnForm ownx
  have key := cnte (fun n j => lp_X0_isOwnForm_2 fu M k (k + 3 + 21 + 2 * w) (nI x) (fun _ => some 1) n (nI j)) (fun v => likx σ w v || !(hfx (mT σ w) (mT σ v) (mL σ v) x (mL σ w) 0 0)) (some 1) (some 0) (mW σ) (fun n => by
      show lp_X0_isOwnForm_2 _ _ _ _ _ _ (n + 1) _ = _
      rw [lp_X0_isOwnForm_2, h2, if_pos (by rw [q_le (by omega) (by omega)]; omega)]) (fun n j hj hp => by
      show lp_X0_isOwnForm_2 _ _ _ _ _ _ (n + 1) _ = lp_X0_isOwnForm_2 _ _ _ _ _ _ n _
      rw [lp_X0_isOwnForm_2, h2, if_neg (by rw [q_le (by omega) (by omega)]; omega), gd_t (q_ib (by omega) (by omega)), q_cl (by omega), isLike_ hf hw h hwo hj, bd_s]
      by_cases q : likx σ w j = true
      · rw [if_pos q, if_neg one0]
        simp only [lt]
        rw [li_1, q_ad]
      · rw [if_neg q, if_pos rfl, gd_t (q_ib (by omega) (by omega)), hasFormIn_ hf hw h hwo hj hx, bd_s]
        have q2 : likx σ w j = false := by simpa using q
        have hp2 : hfx (mT σ w) (mT σ j) (mL σ j) x (mL σ w) 0 0 = false := by simpa [q2] using hp
        rw [hp2, if_neg Bool.false_ne_true, if_pos rfl]
        simp only [lt]
        rw [li_1, q_ad]) (fun n j hj hp => by
      show lp_X0_isOwnForm_2 _ _ _ _ _ _ (n + 1) _ = _
      have q2 : likx σ w j = false := by
        cases e : likx σ w j with
        | false => rfl
        | true => simp [e] at hp
      have hp2 : hfx (mT σ w) (mT σ j) (mL σ j) x (mL σ w) 0 0 = true := by simpa [q2] using hp
      rw [lp_X0_isOwnForm_2, h2, if_neg (by rw [q_le (by omega) (by omega)]; omega), gd_t (q_ib (by omega) (by omega)), q_cl (by omega), isLike_ hf hw h hwo hj, bd_s, q2, if_neg Bool.false_ne_true, if_pos rfl, gd_t (q_ib (by omega) (by omega)), hasFormIn_ hf hw h hwo hj hx, bd_s, if_pos hp2, if_neg one0]) fu 0 (by omega) (by omega)
  rw [Nat.sub_zero] at key
  refine key.trans ?_
  split <;> rfl
end CL
