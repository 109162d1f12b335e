/-- owners read as the model does: r may still come -/
def rlp (t : Nat → Nat) (L : Nat) : Nat → Nat → Nat → (Nat → Nat) → Nat × Nat × (Nat → Nat)
  | 0, p, m, ow => (p, m, ow)
  | r + 1, p, m, ow => if sk t L p < L ∧ 48 ≤ t (sk t L p) ∧ t (sk t L p) < 48 + 6 then rlp t L r (sk t L p + 1) (m + 1) (updN ow m (t (sk t L p) - 48)) else (sk t L p, m, ow)
theorem rso_skp {t : Nat → Nat} {m : Nat} {ow : Nat → Nat} : ∀ k p, rso t k p m ow = rso t (p + k - skp t k p) (skp t k p) m ow := by
  intro k
  induction k with
  | zero => intro p; rw [show p + 0 - skp t 0 p = 0 by unfold skp; omega]; rfl
  | succ k ih =>
    intro p
    by_cases z : t p = 32
    · have e1 : rso t (k + 1) p m ow = rso t k (p + 1) m ow := by rw [rso, if_pos z]
      have e2 : skp t (k + 1) p = skp t k (p + 1) := by rw [skp, if_pos z]
      rw [e1, e2, ih (p + 1)]
      congr 1
      omega
    · have e2 : skp t (k + 1) p = p := by rw [skp, if_neg z]
      rw [e2, show p + (k + 1) - p = k + 1 by omega]
theorem rso_sk {t : Nat → Nat} {L p m : Nat} {ow : Nat → Nat} (hp : p ≤ L) : rso t (L - p) p m ow = rso t (L - sk t L p) (sk t L p) m ow := by
  rw [rso_skp (L - p) p, show p + (L - p) = L by omega]
  rfl
theorem sk_nb {t : Nat → Nat} {L p : Nat} (h : sk t L p < L) (hp : p ≤ L) : t (sk t L p) ≠ 32 := skp_nb (L - p) p (by rw [show p + (L - p) = L by omega]; exact h)
theorem sk_sk {t : Nat → Nat} {L p : Nat} (hp : p ≤ L) : sk t L (sk t L p) = sk t L p := by
  have h1 := sk_le (t := t) hp
  by_cases z : sk t L p < L
  · have h2 := sk_nb z hp
    show skp t (L - sk t L p) (sk t L p) = sk t L p
    rw [show L - sk t L p = (L - sk t L p - 1) + 1 by omega, skp, if_neg h2]
  · have e : sk t L p = L := by omega
    rw [e]
    show skp t (L - L) L = L
    rw [Nat.sub_self]; rfl
theorem rso_rlp {t : Nat → Nat} {L : Nat} : ∀ r p m ow, p ≤ L → m + r = 9 → rso t (L - p) p m ow = (if (rlp t L r p m ow).2.1 = 0 then .inl (sk t L (rlp t L r p m ow).1) else if sk t L (rlp t L r p m ow).1 < L then .inl (sk t L (rlp t L r p m ow).1) else .inr (rlp t L r p m ow).2) := by
  intro r
  induction r with
  | zero =>
    intro p m ow hp hm
    have h1 := sk_le (t := t) hp
    rw [rso_sk hp]
    show _ = (if m = 0 then _ else if sk t L p < L then _ else .inr (m, ow) : Nat ⊕ (Nat × (Nat → Nat)))
    rw [if_neg (by omega)]
    by_cases z : sk t L p < L
    · have h2 := sk_nb z hp
      rw [if_pos z, show L - sk t L p = (L - sk t L p - 1) + 1 by omega, rso, if_neg h2, if_neg (by omega)]
      rfl
    · rw [if_neg z, show L - sk t L p = 0 by omega, rso, if_neg (by omega)]
  | succ r ih =>
    intro p m ow hp hm
    have h1 := sk_le (t := t) hp
    have hss := sk_sk (t := t) hp
    rw [rso_sk hp]
    by_cases z : sk t L p < L
    · have h2 := sk_nb z hp
      by_cases y : 48 ≤ t (sk t L p) ∧ t (sk t L p) < 48 + 6
      · have er : rlp t L (r + 1) p m ow = rlp t L r (sk t L p + 1) (m + 1) (updN ow m (t (sk t L p) - 48)) := by rw [rlp, if_pos ⟨z, y⟩]
        rw [er, ← ih (sk t L p + 1) (m + 1) (updN ow m (t (sk t L p) - 48)) (by omega) (by omega), show L - sk t L p = (L - (sk t L p + 1)) + 1 by omega, rso, if_neg h2, if_pos ⟨y.1, by omega, by omega⟩]
      · have er : rlp t L (r + 1) p m ow = (sk t L p, m, ow) := by rw [rlp, if_neg (fun w => y w.2)]
        rw [er, show L - sk t L p = (L - sk t L p - 1) + 1 by omega, rso, if_neg h2, if_neg (fun w => y ⟨w.1, by omega⟩)]
        show _ = (if m = 0 then .inl (sk t L (sk t L p)) else if sk t L (sk t L p) < L then .inl (sk t L (sk t L p)) else .inr (m, ow) : Nat ⊕ (Nat × (Nat → Nat)))
        rw [hss]
        by_cases x : m = 0
        · rw [if_pos x]
        · rw [if_neg x, if_pos z]
    · have e : sk t L p = L := by omega
      have er : rlp t L (r + 1) p m ow = (sk t L p, m, ow) := by rw [rlp, if_neg (fun w => z w.1)]
      rw [er]
      show _ = (if m = 0 then .inl (sk t L (sk t L p)) else if sk t L (sk t L p) < L then .inl (sk t L (sk t L p)) else .inr (m, ow) : Nat ⊕ (Nat × (Nat → Nat)))
      rw [hss, e, Nat.sub_self, rso]
      by_cases x : m = 0
      · rw [if_pos x, if_pos x]
      · rw [if_neg x, if_neg x, if_neg (by omega)]
theorem rlp_ge {t : Nat → Nat} {L : Nat} : ∀ r p m ow, m ≤ (rlp t L r p m ow).2.1 := by
  intro r
  induction r with
  | zero => intro p m ow; exact Nat.le_refl _
  | succ r ih =>
    intro p m ow
    rw [rlp]
    split
    · have := ih (sk t L p + 1) (m + 1) (updN ow m (t (sk t L p) - 48)); omega
    · exact Nat.le_refl _
theorem rlp_le {t : Nat → Nat} {L : Nat} : ∀ r p m ow, (rlp t L r p m ow).2.1 ≤ m + r := by
  intro r
  induction r with
  | zero => intro p m ow; exact Nat.le_refl _
  | succ r ih =>
    intro p m ow
    rw [rlp]
    split
    · have := ih (sk t L p + 1) (m + 1) (updN ow m (t (sk t L p) - 48)); omega
    · exact Nat.le_add_right _ _
theorem rlp_z {t : Nat → Nat} {L r p : Nat} {ow : Nat → Nat} (hp : p ≤ L) (h : (rlp t L (r + 1) p 0 ow).2.1 = 0) : sk t L (rlp t L (r + 1) p 0 ow).1 = (rlp t L (r + 1) p 0 ow).1 := by
  by_cases z : sk t L p < L ∧ 48 ≤ t (sk t L p) ∧ t (sk t L p) < 48 + 6
  · have er : rlp t L (r + 1) p 0 ow = rlp t L r (sk t L p + 1) (0 + 1) (updN ow 0 (t (sk t L p) - 48)) := by rw [rlp, if_pos z]
    rw [er] at h
    have := rlp_ge (t := t) (L := L) r (sk t L p + 1) (0 + 1) (updN ow 0 (t (sk t L p) - 48))
    omega
  · have er : rlp t L (r + 1) p 0 ow = (sk t L p, 0, ow) := by rw [rlp, if_neg z]
    rw [er]
    exact sk_sk hp
section PUB
variable {fu b L : Nat} {t : Nat → Nat}
/-- the model's tape with the reading place p, the bytes t -/
def ATM (b L : Nat) (t : Nat → Nat) (M : Mem) (p : Nat) : Prop := M b 10 = nI L ∧ M b 11 = nI p ∧ ∀ j, j < L → M (b + 8) j = nI (t j)
def FrB (b : Nat) (M M1 : Mem) : Prop := (∀ a, a ≠ b → M1 a = M a) ∧ ∀ j, j ≠ 11 → M1 b j = M b j
theorem nb_lp {K : Mem → Option (Int32 × Mem)} (hL : L ≤ 80) (ht : ∀ j, j < L → 32 ≤ t j ∧ t j ≤ 126) : ∀ k p M n, L = p + k → k < n → ATM b L t M p → ∃ M', lp_X8_nextByte_0 fu b K n M = K M' ∧ ATM b L t M' (skp t k p) ∧ FrB b M M' := by
  intro k
  induction k with
  | zero =>
    intro p M n hp hn h
    obtain ⟨n, rfl⟩ : ∃ q, n = q + 1 := ⟨n - 1, by omega⟩
    obtain ⟨h1, h2, h3⟩ := id h
    rw [lp_X8_nextByte_0, h1, h2, if_pos (by rw [q_le (by omega) (by omega)]; omega)]
    exact ⟨M, rfl, h, fun _ _ => rfl, fun _ _ => rfl⟩
  | succ k ih =>
    intro p M n hp hn h
    obtain ⟨n, rfl⟩ : ∃ q, n = q + 1 := ⟨n - 1, by omega⟩
    obtain ⟨h1, h2, h3⟩ := id h
    have h4 : M (b + 8) p = nI (t p) := h3 p (by omega)
    have := ht p (by omega)
    rw [lp_X8_nextByte_0, h1, h2, if_neg (by rw [q_le (by omega) (by omega)]; omega), gd_t (q_ib (by omega) (by omega)), q_cl (by omega), h4, li_32, nI_1]
    simp only [lt]
    unfold skp
    by_cases z : t p = 32
    · rw [if_pos (by rw [q_eq (by omega) (by omega)]; exact z), if_pos z]
      obtain ⟨M', e, i1, i2, i3⟩ := ih (p + 1) (up M b 11 (nI (p + 1))) n (by omega) (by omega) ⟨by rw [up_j (by omega)]; exact h1, up_at, fun j hj => by rw [up_k (by omega)]; exact h3 j hj⟩
      exact ⟨M', e, i1, fun a ha => by rw [i2 a ha, up_k ha], fun j hj => by rw [i3 j hj, up_j hj]⟩
    · rw [if_neg (by rw [q_eq (by omega) (by omega)]; exact z), if_neg z]
      exact ⟨M, rfl, h, fun _ _ => rfl, fun _ _ => rfl⟩
theorem nextByte_ {M : Mem} {p : Nat} (hf : 100 ≤ fu) (hL : L ≤ 80) (ht : ∀ j, j < L → 32 ≤ t j ∧ t j ≤ 126) (hp : p ≤ L) (h : ATM b L t M p) : ∃ M', f_X8_nextByte fu M b = some (sg t L (sk t L p), M') ∧ ATM b L t M' (sk t L p) ∧ FrB b M M' := by
  unfold f_X8_nextByte
  obtain ⟨M', e, i1, i2⟩ := nb_lp (fu := fu) (K := fun M3 => (if (M3 b 10) ≤ (M3 b 11) then some ((-1 : Int32), M3) else gd (inb (M3 b 11) 80) (some ((M3 (b + 8) (M3 b 11).toNatClampNeg), M3)))) hL ht (L - p) p M fu (by omega) (by omega) h
  refine ⟨M', e.trans ?_, i1, i2⟩
  obtain ⟨j1, j2, j3⟩ := i1
  have hs : sk t L p ≤ L := sk_le hp
  have j2' : M' b 11 = nI (sk t L p) := j2
  show (if _ then _ else _) = _
  rw [j1, j2']
  unfold sg
  by_cases z : sk t L p < L
  · have j4 : M' (b + 8) (sk t L p) = nI (t (sk t L p)) := j3 _ z
    rw [if_neg (by rw [q_le (by omega) (by omega)]; omega), if_pos z, gd_t (q_ib (by omega) (by omega)), q_cl (by omega), j4]
  · rw [if_pos (by rw [q_le (by omega) (by omega)]; omega), if_neg z]
theorem in_sg {q c d : Nat} {x y : Int64} (ht : ∀ j, j < L → 32 ≤ t j ∧ t j ≤ 126) (hx : x.toInt = (c : Int)) (hy : y.toInt + 1 = ((c + d : Nat) : Int)) : f_X8_in (sg t L q).toInt64 x y = some (if q < L ∧ c ≤ t q ∧ t q < c + d then 1 else 0) := by
  rw [in_i, t64, hx]
  unfold sg
  by_cases z : q < L
  · have := ht q z
    rw [if_pos z, nI_toInt (by omega)]
    by_cases w : c ≤ t q ∧ t q < c + d
    · rw [if_pos ⟨by omega, by omega⟩, if_pos ⟨z, w⟩]
    · rw [if_neg (by omega), if_neg (fun v => w v.2)]
  · have e2 : (-1 : Int32).toInt = -1 := by decide
    rw [if_neg z, e2, if_neg (by omega), if_neg (fun v => z v.1)]
theorem rlp_ (hf : 100 ≤ fu) (hL : L ≤ 80) (ht : ∀ j, j < L → 32 ≤ t j ∧ t j ≤ 126) : ∀ r p m ow M n, p ≤ L → m + r = 9 → r < n → ATM b L t M p → M b 12 = nI m → (∀ i, i < m → M (b + 9) i = nI (ow i)) → ∃ M', (∀ K, lp_X8_strips_10 fu b K n M = K M') ∧ ATM b L t M' (rlp t L r p m ow).1 ∧ M' b 12 = nI (rlp t L r p m ow).2.1 ∧ (∀ i, i < (rlp t L r p m ow).2.1 → M' (b + 9) i = nI ((rlp t L r p m ow).2.2 i)) ∧ (∀ a, a ≠ b → a ≠ b + 9 → M' a = M a) ∧ (∀ j, j ≠ 11 → j ≠ 12 → M' b j = M b j) ∧ (rlp t L r p m ow).1 ≤ L := by
  intro r
  induction r with
  | zero =>
    intro p m ow M n hp hm hn h h12 hr
    obtain ⟨n, rfl⟩ : ∃ q, n = q + 1 := ⟨n - 1, by omega⟩
    exact ⟨M, fun K => by rw [lp_X8_strips_10, h12, li_9, if_pos (by rw [q_le (by omega) (by omega)]; omega)], h, h12, hr, fun _ _ _ => rfl, fun _ _ _ => rfl, hp⟩
  | succ r ih =>
    intro p m ow M n hp hm hn h h12 hr
    obtain ⟨n, rfl⟩ : ∃ q, n = q + 1 := ⟨n - 1, by omega⟩
    obtain ⟨M1, e1, a1, a2, a3⟩ := nextByte_ hf hL ht hp h
    have hs := sk_le (t := t) hp
    by_cases z : sk t L p < L ∧ 48 ≤ t (sk t L p) ∧ t (sk t L p) < 48 + 6
    · obtain ⟨M2, e2, b1, b2, b3⟩ := nextByte_ hf hL ht hs a1
      rw [sk_sk hp] at e2 b1
      have c12 : M1 b 12 = nI m := by rw [a3 12 (by omega)]; exact h12
      have d12 : M2 b 12 = nI m := by rw [b3 12 (by omega)]; exact c12
      have hsg : sg t L (sk t L p) = nI (t (sk t L p)) := by unfold sg; rw [if_pos z.1]
      have er : rlp t L (r + 1) p m ow = rlp t L r (sk t L p + 1) (m + 1) (updN ow m (t (sk t L p) - 48)) := by rw [rlp, if_pos z]
      obtain ⟨M', e, g1, g2, g3, g4, g5, g6⟩ := ih (sk t L p + 1) (m + 1) (updN ow m (t (sk t L p) - 48)) (up (up (up M2 (b + 9) m (nI (t (sk t L p) - 48))) b 12 (nI (m + 1))) b 11 (nI (sk t L p + 1))) n (by omega) (by omega) (by omega) ⟨by rw [up_j (by omega), up_j (by omega), up_k (by omega)]; exact b1.1, up_at, fun j hj => by rw [up_k (by omega), up_k (by omega), up_k (by omega)]; exact b1.2.2 j hj⟩ (by rw [up_j (by omega), up_at]) (fun i hi => by
        rw [up_k (by omega), up_k (by omega)]
        unfold updN
        by_cases y : i = m
        · subst y; rw [if_pos rfl, up_at]
        · rw [if_neg y, up_j y, b2 _ (by omega), a2 _ (by omega)]; exact hr i (by omega))
      rw [er]
      refine ⟨M', fun K => ?_, g1, g2, g3, fun a x y => by rw [g4 a x y, up_k x, up_k x, up_k y, b2 a x, a2 a x], fun j x y => by rw [g5 j x y, up_j x, up_j y, up_k (by omega), b3 j x, a3 j x], g6⟩
      rw [lp_X8_strips_10, h12, li_9, if_neg (by rw [q_le (by omega) (by omega)]; omega), e1, bd_s, in_sg (c := 48) (d := 6) ht (by decide) (by decide), bd_s, if_pos z, if_neg one0, e2, bd_s]
      simp only [lt]
      rw [c12, gd_t (q_ib (by omega) (by omega)), q_cl (by omega), hsg, li_48, q_sb z.2.1, up_k (a := b) (by omega), d12, nI_1, up_j (by omega), up_k (a := b) (by omega), b1.2.1, nI_1]
      exact e K
    · have er : rlp t L (r + 1) p m ow = (sk t L p, m, ow) := by rw [rlp, if_neg z]
      rw [er]
      refine ⟨M1, fun K => ?_, a1, by rw [a3 12 (by omega)]; exact h12, fun i hi => by rw [a2 _ (by omega)]; exact hr i hi, fun a x _ => a2 a x, fun j x _ => a3 j x, hs⟩
      rw [lp_X8_strips_10, h12, li_9, if_neg (by rw [q_le (by omega) (by omega)]; omega), e1, bd_s, in_sg (c := 48) (d := 6) ht (by decide) (by decide), bd_s, if_neg z, if_pos rfl]
variable {M : Mem} {s : Sg}
theorem Mrepl_ {m : Nat} {ow : Nat → Nat} {σ : Md} {K : Mem → Option (Int32 × Mem)} (hf : 50 ≤ fu) (hw : Wf σ) (h : MdM b M σ) (hm : m ≤ 9) (ho : ∀ i, i < m → ow i < 6) (h12 : M b 12 = nI m) (hr : ∀ i, i < m → M (b + 9) i = nI (ow i)) : ∃ M', lp_X8_strips_119 fu b K fu 0 (up M b 7 0) = K M' ∧ MdM b M' (rpS σ m ow) ∧ FrM b M M' := by
  obtain ⟨M', e, h1, h2⟩ := cntM (fun n i Mx => lp_X8_strips_119 fu b K n (nI i) Mx) (fun i Mx => MdM b Mx (rpS σ i ow) ∧ (∀ q, b + 8 ≤ q → Mx q = M q) ∧ ∀ j, j ≠ 7 → Mx b j = M b j) K m (fun n Mx hI => by
    show lp_X8_strips_119 _ _ _ (n + 1) _ _ = _
    rw [lp_X8_strips_119, hI.2.2 12 (by omega), h12, if_pos (by rw [q_le (by omega) (by omega)]; omega)]) (fun n i Mx hi hI => by
    obtain ⟨i1, i2, i3⟩ := hI
    have hwi : Wf (rpS σ i ow) := ⟨hw.1, ⟨by show i ≤ 9; omega, hw.2.1.2⟩, fun a ha => ⟨ho a (by have : a < i := ha; omega), fun c hc => by show (5 : Nat) ≤ 9; omega⟩, hw.2.2.2⟩
    obtain ⟨M2, e2, j1, -, j2, j3⟩ := MaddStrip_ (a := ow i) hf hwi i1 (by show i < 9; omega)
    refine ⟨M2, ?_, ?_, fun q hq => by rw [j2 q hq]; exact i2 q hq, fun j hj => by rw [j3 j hj]; exact i3 j hj⟩
    · show lp_X8_strips_119 _ _ _ (n + 1) _ _ = lp_X8_strips_119 _ _ _ n _ _
      have : Mx (b + 9) i = nI (ow i) := by rw [i2 _ (by omega)]; exact hr i hi
      rw [lp_X8_strips_119, i3 12 (by omega), h12, if_neg (by rw [q_le (by omega) (by omega)]; omega), gd_t (q_ib (by omega) (by omega)), q_cl (by omega), this, e2, bd_s]
      simp only [lt]
      rw [nI_1]
    · obtain ⟨a1, a2, a3, a4, a5, a6, a7⟩ := j1
      refine ⟨a1, a2, fun q hq => ?_, a4, a5, a6, a7⟩
      obtain ⟨b1, b2⟩ := a3 q hq
      have c1 : M2 (b + 2) q = nI (if q = i then ow i else ow q) := b1
      refine ⟨?_, fun c hc => ?_⟩
      · rw [c1]
        show _ = nI (ow q)
        by_cases z : q = i
        · subst z; rw [if_pos rfl]
        · rw [if_neg z]
      · have c2 : M2 (b + 3) (15 * q + c) = nI (if q = i then 5 else 5) := b2 c hc
        rw [c2]
        show _ = nI 5
        by_cases z : q = i
        · rw [if_pos z]
        · rw [if_neg z]) fu 0 (up M b 7 (0 : Int32)) (by omega) (by omega) (by
    obtain ⟨⟨a0, a1⟩, a2, a3, a4, a5, a6, a7⟩ := h
    refine ⟨⟨⟨by rw [up_at]; rfl, by rw [up_j (by omega)]; exact a1⟩, by rw [up_k (by omega)]; exact a2, fun q hq => ?_, by rw [up_k (by omega)]; exact a4, by rw [up_k (by omega)]; exact a5, by rw [up_k (by omega)]; exact a6, by rw [up_k (by omega)]; exact a7⟩, fun q hq => by rw [up_k (by omega)], fun j hj => by rw [up_j hj]⟩
    have : q < 0 := hq
    omega)
  exact ⟨M', e, h1, fun q hq => h2.1 q (by omega), h2.2 10 (by omega), h2.2 21 (by omega)⟩
theorem McL {M1 : Mem} (h : RM b M s) (hF : ∀ a, b + 1 ≤ a → a ≠ b + 8 → a ≠ b + 9 → M1 a = M a) (hb : ∀ j, j ≠ 10 → j ≠ 11 → j ≠ 12 → M1 b j = M b j) (h0 : M1 b 10 = nI 0) : RM b M1 (clT s) := by
  unfold clT
  exact h.tp hF hb ⟨h0, fun j hj => absurd hj (Nat.not_lt_zero j)⟩ ⟨Nat.zero_le _, fun j hj => absurd hj (Nat.not_lt_zero j)⟩
theorem X8_strips_ (hf : 100 ≤ fu) (h : RM b M s) : ∃ M', f_X8_strips fu M b = some ((sp_strips s).1, M') ∧ RM b M' (sp_strips s).2 := by
  obtain ⟨t80, tOk⟩ := h.1.2.2.1
  obtain ⟨u1, u2⟩ := h.2.2.2.1
  have hmd := h.1.1
  unfold f_X8_strips
  simp only [lt]
  obtain ⟨M1, e1, g1, g2, g3, g4, g5, g6⟩ := rlp_ (fu := fu) hf t80 tOk 9 0 0 (fun _ => 0) (up (up M b 11 0) b 12 0) fu (Nat.zero_le _) rfl (by omega) ⟨by rw [up_j (by omega), up_j (by omega)]; exact u1, by rw [up_j (by omega), up_at]; rfl, fun j hj => by rw [up_k (by omega), up_k (by omega)]; exact u2 j hj⟩ (by rw [up_at]; rfl) (fun i hi => absurd hi (Nat.not_lt_zero i))
  have hrs := rso_rlp (t := s.2.2.1.2) (L := s.2.2.1.1) 9 0 0 (fun _ => 0) (Nat.zero_le _) rfl
  rw [Nat.sub_zero] at hrs
  rw [e1]
  clear e1
  have hok := rso_ok (t := s.2.2.1.2) s.2.2.1.1 0 0 (fun _ => 0) (by omega) (fun i hi => by omega)
  have hz := rlp_z (t := s.2.2.1.2) (L := s.2.2.1.1) (r := 8) (p := 0) (ow := fun _ => 0) (Nat.zero_le _)
  rw [show 8 + 1 = 9 from rfl] at hz
  have h9 := rlp_le (t := s.2.2.1.2) (L := s.2.2.1.1) 9 0 0 (fun _ => 0)
  generalize rlp s.2.2.1.2 s.2.2.1.1 9 0 0 (fun _ => 0) = r at *
  have hF1 : ∀ a, b + 1 ≤ a → a ≠ b + 8 → a ≠ b + 9 → M1 a = M a := fun a x y z => by rw [g4 a (by omega) z, up_k (by omega), up_k (by omega)]
  have hB1 : ∀ j, j ≠ 10 → j ≠ 11 → j ≠ 12 → M1 b j = M b j := fun j x y z => by rw [g5 j y z, up_j z, up_j y]
  obtain ⟨M2, e2, b1, b2, b3⟩ := nextByte_ (fu := fu) hf t80 tOk g6 g1
  have hs := sk_le (t := s.2.2.1.2) g6
  by_cases m0 : r.2.1 = 0
  · rw [if_pos m0, hz m0] at hrs
    have e3 : (up M1 b 10 (0 : Int32)) b 11 = nI r.1 := by rw [up_j (by omega)]; exact g1.2.1
    have hc : RM b (up M1 b 10 (0 : Int32)) (clT s) := McL h (fun a x y z => by rw [up_k (by omega)]; exact hF1 a x y z) (fun j x y z => by rw [up_j x]; exact hB1 j x y z) (by rw [up_at]; rfl)
    rw [if_pos (by rw [g2, m0]; decide), if_pos trivial, e3, spst_l hrs]
    generalize (-20 - nI r.1 : Int32) = v
    exact ⟨_, rfl, hc⟩
  · rw [if_neg m0] at hrs
    have hm9 : r.2.1 ≤ 9 := by omega
    rw [if_neg (by rw [g2, li_0, q_le (by omega) (by omega)]; omega), e2, bd_s]
    have hF2 : ∀ a, b + 1 ≤ a → a ≠ b + 8 → a ≠ b + 9 → M2 a = M a := fun a x y z => by rw [b2 a (by omega)]; exact hF1 a x y z
    have hB2 : ∀ j, j ≠ 10 → j ≠ 11 → j ≠ 12 → M2 b j = M b j := fun j x y z => by rw [b3 j y]; exact hB1 j x y z
    have hc : RM b (up M2 b 10 (0 : Int32)) (clT s) := McL h (fun a x y z => by rw [up_k (by omega)]; exact hF2 a x y z) (fun j x y z => by rw [up_j x]; exact hB2 j x y z) (by rw [up_at]; rfl)
    by_cases y : sk s.2.2.1.2 s.2.2.1.1 r.1 < s.2.2.1.1
    · rw [if_pos y] at hrs
      have hsg : sg s.2.2.1.2 s.2.2.1.1 (sk s.2.2.1.2 s.2.2.1.1 r.1) = nI (s.2.2.1.2 (sk s.2.2.1.2 s.2.2.1.1 r.1)) := by unfold sg; rw [if_pos y]
      have := tOk _ y
      have e3 : (up M2 b 10 (0 : Int32)) b 11 = nI (sk s.2.2.1.2 s.2.2.1.1 r.1) := by rw [up_j (by omega)]; exact b1.2.1
      simp only []
      rw [hsg, if_pos (nI_pos' (by omega)), bd_s, if_pos rfl, e3, spst_l hrs]
      generalize (-20 - nI (sk s.2.2.1.2 s.2.2.1.1 r.1) : Int32) = v
      exact ⟨_, rfl, hc⟩
    · rw [if_neg y] at hrs
      obtain ⟨-, -, r3⟩ := hok _ _ hrs
      have hsg : sg s.2.2.1.2 s.2.2.1.1 (sk s.2.2.1.2 s.2.2.1.1 r.1) = -1 := by unfold sg; rw [if_neg y]
      simp only []
      rw [hsg, if_neg (by decide), bd_s, if_neg one0, spst_r hrs]
      obtain ⟨M3, e4, k1, k2⟩ := Mrepl_ (fu := fu) (K := fun M19 => some ((M19 b 7), M19)) (m := r.2.1) (ow := r.2.2) (by omega) hmd hc.2.1 hm9 r3 (by rw [up_j (by omega), b3 12 (by omega)]; exact g2) (fun i hi => by rw [up_k (by omega), b2 _ (by omega)]; exact g3 i hi)
      refine ⟨M3, e4.trans ?_, hc.md k1 ⟨hmd.1, ⟨hm9, hmd.2.1.2⟩, fun a ha => ⟨r3 a ha, fun c hc => by show (5 : Nat) ≤ 9; omega⟩, hmd.2.2.2⟩ k2⟩
      have e7 : M3 b 7 = nI r.2.1 := k1.1.1
      show some (M3 b 7, M3) = _
      rw [e7]
end PUB
