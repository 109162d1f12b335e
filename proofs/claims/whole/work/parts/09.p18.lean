/-! strips read from the tape -/
def updN (f : Nat → Nat) (i v : Nat) : Nat → Nat := fun j => if j = i then v else f j
/-- owners read: from k signs at p, m owners being read; a place that is wrong, or how many and which -/
def rso (t : Nat → Nat) : Nat → Nat → Nat → (Nat → Nat) → Nat ⊕ (Nat × (Nat → Nat))
  | 0, p, m, ow => if m = 0 then .inl p else .inr (m, ow)
  | k + 1, p, m, ow => if t p = 32 then rso t k (p + 1) m ow else if 48 ≤ t p ∧ t p < 54 ∧ m < 9 then rso t k (p + 1) (m + 1) (updN ow m (t p - 48)) else .inl p
def clT (s : Sg) : Sg := wTp s (0, s.2.2.1.2)
/-- m strips of the owners ow in the place of all -/
def rpS (σ : Md) (m : Nat) (ow : Nat → Nat) : Md := (mS σ, m, ow, fun _ _ => 5, mW σ, mL σ, mP σ, mT σ, mF σ, mH σ)
def sp_strips (s : Sg) : Int32 × Sg := match rso s.2.2.1.2 s.2.2.1.1 0 0 (fun _ => 0) with
  | .inl p => (-20 - nI p, clT s)
  | .inr (m, ow) => (nI m, (rpS s.1 m ow, (clT s).2))
theorem isb_sub {b c n : Nat} (hb : b < 1000) (hc : c < 1000) (hn : n < 1000) : f_X7_isBelow (nI b - nI c) (nI n) = some (if c ≤ b ∧ b < c + n then 1 else 0) := by
  by_cases q : c ≤ b
  · rw [q_sb q]
    by_cases z : b - c < n
    · rw [isb_t z (by omega), if_pos ⟨q, by omega⟩]
    · rw [isb_f (by omega) (fun j hj => by rw [ne_eq, q_eq (by omega) (by omega)]; omega), if_neg (by omega)]
  · rw [isb_f (by omega), if_neg (by omega)]
    intro j hj e
    have := congrArg Int32.toInt e
    rw [pk_sub_toInt (by omega) (by omega), nI_toInt (by omega)] at this
    omega
theorem rso_ok {t : Nat → Nat} : ∀ k p m ow, m ≤ 9 → (∀ i, i < m → ow i < 6) → ∀ r ow', rso t k p m ow = .inr (r, ow') → 1 ≤ r ∧ r ≤ 9 ∧ ∀ i, i < r → ow' i < 6 := by
  intro k
  induction k with
  | zero =>
    intro p m ow hm ho r ow' e
    unfold rso at e
    by_cases z : m = 0
    · rw [if_pos z] at e; exact absurd e (by simp)
    · rw [if_neg z] at e
      obtain ⟨rfl, rfl⟩ := Prod.mk.inj (Sum.inr.inj e)
      exact ⟨by omega, hm, ho⟩
  | succ k ih =>
    intro p m ow hm ho r ow' e
    unfold rso at e
    by_cases z : t p = 32
    · rw [if_pos z] at e; exact ih _ _ _ hm ho _ _ e
    · rw [if_neg z] at e
      by_cases y : 48 ≤ t p ∧ t p < 54 ∧ m < 9
      · rw [if_pos y] at e
        refine ih _ _ _ (by omega) (fun i hi => ?_) _ _ e
        show (if i = m then _ else _) < 6
        by_cases x : i = m
        · rw [if_pos x]; omega
        · rw [if_neg x]; exact ho i (by omega)
      · rw [if_neg y] at e; exact absurd e (by simp)
theorem rso_pl {t : Nat → Nat} : ∀ k p m ow p', rso t k p m ow = .inl p' → p' ≤ p + k := by
  intro k
  induction k with
  | zero =>
    intro p m ow p' e
    unfold rso at e
    by_cases z : m = 0
    · rw [if_pos z] at e
      have := Sum.inl.inj e
      omega
    · rw [if_neg z] at e; exact absurd e (by simp)
  | succ k ih =>
    intro p m ow p' e
    unfold rso at e
    by_cases z : t p = 32
    · rw [if_pos z] at e; have := ih _ _ _ _ e; omega
    · rw [if_neg z] at e
      by_cases y : 48 ≤ t p ∧ t p < 54 ∧ m < 9
      · rw [if_pos y] at e; have := ih _ _ _ _ e; omega
      · rw [if_neg y] at e; have := Sum.inl.inj e; omega
theorem flt_neg : ∀ p, p < 200 → (-20 - nI p : Int32) ≤ 0 := by decide +kernel
section PUB
variable {fu o : Nat} {M : Mem} {s : Sg}
theorem rso_ {K : Int32 → Mem → Option (Int32 × Mem)} {L : Nat} {t : Nat → Nat} {M0 : Mem} (hL : L ≤ 80) (h1 : M0 (o + 158) 1 = nI L) (h2 : ∀ j, j < L → M0 (o + 158 + 1) j = nI (t j)) (ht : ∀ j, j < L → 32 ≤ t j ∧ t j ≤ 126) (hK : ∀ m M', m ≤ 9 → M' (o + 158) 1 = nI L → K (nI m) M' = if m = 0 then some (-20 - nI L, M') else some (nI m, M')) : ∀ k p m ow M n, L = p + k → m ≤ 9 → k < n → (∀ a, a ≠ o + 160 → M a = M0 a) → (∀ i, i < m → M (o + 160) i = nI (ow i)) → ∃ M', lp_X5_readOwners_4 fu (o + 158) K n (nI m) (nI p) M = (match rso t k p m ow with | .inl p' => some (-20 - nI p', M') | .inr (r, _) => some (nI r, M')) ∧ (∀ a, a ≠ o + 160 → M' a = M0 a) ∧ ∀ r ow', rso t k p m ow = .inr (r, ow') → ∀ i, i < r → M' (o + 160) i = nI (ow' i) := by
  intro k
  induction k with
  | zero =>
    intro p m ow M n hp hm hn f1 f2
    obtain ⟨n, rfl⟩ : ∃ q, n = q + 1 := ⟨n - 1, by omega⟩
    have e1 : M (o + 158) 1 = nI L := by rw [f1 _ (by omega)]; exact h1
    rw [lp_X5_readOwners_4, e1, if_pos (by rw [q_le (by omega) (by omega)]; omega), hK m M hm e1]
    refine ⟨M, ?_, f1, ?_⟩
    · unfold rso
      by_cases z : m = 0
      · rw [if_pos z, if_pos z]
        obtain rfl : L = p := by omega
        rfl
      · rw [if_neg z, if_neg z]
    · intro r ow' e
      unfold rso at e
      by_cases z : m = 0
      · rw [if_pos z] at e; exact absurd e (by simp)
      · rw [if_neg z] at e
        obtain ⟨rfl, rfl⟩ := Prod.mk.inj (Sum.inr.inj e)
        exact f2
  | succ k ih =>
    intro p m ow M n hp hm hn f1 f2
    obtain ⟨n, rfl⟩ : ∃ q, n = q + 1 := ⟨n - 1, by omega⟩
    have e1 : M (o + 158) 1 = nI L := by rw [f1 _ (by omega)]; exact h1
    have e2 : M (o + 158 + 1) p = nI (t p) := by rw [f1 _ (by omega)]; exact h2 p (by omega)
    obtain ⟨t1, t2⟩ := ht p (by omega)
    rw [lp_X5_readOwners_4, e1, if_neg (by rw [q_le (by omega) (by omega)]; omega), gd_t (q_ib (by omega) (by omega)), q_cl (by omega), e2, li_32]
    simp only [lt]
    unfold rso
    by_cases z : t p = 32
    · rw [if_pos (by rw [q_eq (by omega) (by omega)]; exact z), if_pos z, nI_1]
      exact ih (p + 1) m ow M n (by omega) hm (by omega) f1 f2
    · rw [if_neg (by rw [q_eq (by omega) (by omega)]; exact z), if_neg z, gd_t (q_ib (by omega) (by omega)), li_48, li_6, isb_sub (by omega) (by omega) (by omega), bd_s]
      by_cases y : 48 ≤ t p ∧ t p < 54 ∧ m < 9
      · have x : 48 ≤ t p ∧ t p < 48 + 6 := ⟨y.1, by omega⟩
        rw [if_pos y, if_pos x, if_neg one0, li_9, if_pos (by rw [q_lt (by omega) (by omega)]; exact y.2.2), gd_t (q_ib (by omega) y.2.2), q_cl (by omega), q_sb y.1, nI_1, nI_1]
        refine ih (p + 1) (m + 1) (updN ow m (t p - 48)) _ n (by omega) (by omega) (by omega) (fun a ha => by rw [up_k (by omega)]; exact f1 a ha) (fun i hi => ?_)
        show _ = nI (if i = m then _ else _)
        by_cases x : i = m
        · subst x; rw [if_pos rfl]; exact up_at
        · rw [if_neg x, up_j x]; exact f2 i (by omega)
      · rw [if_neg y]
        refine ⟨M, ?_, f1, fun r ow' e => absurd e (by simp)⟩
        have ef : f_X5_faultAt (nI p) = some (-20 - nI p) := rfl
        by_cases x : 48 ≤ t p ∧ t p < 48 + 6
        · rw [if_pos x, if_neg one0, li_9, if_neg (by rw [q_lt (by omega) (by omega)]; omega), ef, bd_s]
        · rw [if_neg x, if_pos rfl, ef, bd_s]
theorem readOwners_ (hf : 100 ≤ fu) (h : RC o M s) : ∃ M', f_X5_readOwners fu M (o + 158) = (match rso s.2.2.1.2 s.2.2.1.1 0 0 (fun _ => 0) with | .inl p' => some (-20 - nI p', M') | .inr (r, _) => some (nI r, M')) ∧ (∀ a, a ≠ o + 160 → M' a = M a) ∧ ∀ r ow', rso s.2.2.1.2 s.2.2.1.1 0 0 (fun _ => 0) = .inr (r, ow') → ∀ i, i < r → M' (o + 160) i = nI (ow' i) := by
  obtain ⟨t80, tOk⟩ := h.1.2.2.1
  obtain ⟨u1, u2⟩ := h.2.2.2.1
  unfold f_X5_readOwners
  have key := rso_ (fu := fu) (o := o) (K := fun v M' => if v = 0 then (f_X5_faultAt (M' (o + 158) 1)).bind (fun u => some (u, M')) else some (v, M')) (L := s.2.2.1.1) (t := s.2.2.1.2) (M0 := M) t80 u1 u2 tOk (fun m M' hm e => by
    have ef : f_X5_faultAt (nI s.2.2.1.1) = some (-20 - nI s.2.2.1.1) := rfl
    show (if nI m = 0 then _ else _) = _
    by_cases z : m = 0
    · subst z; rw [if_pos (show nI 0 = 0 from rfl), if_pos rfl, e, ef, bd_s]
    · rw [li_0, if_neg (by rw [q_eq (by omega) (by omega)]; exact z), if_neg z]) s.2.2.1.1 0 0 (fun _ => 0) M fu (by omega) (by omega) (by omega) (fun _ _ => rfl) (fun i hi => by omega)
  exact key
/-- strips begun one after another -/
theorem repl_ {m : Nat} {ow : Nat → Nat} {σ : Md} {k b : Nat} (hf : 50 ≤ fu) (hk : kd k = 1) (hw : Wf σ) (h : MdC k M σ) (hm : m ≤ 9) (ho : ∀ i, i < m → ow i < 6) (hb : k + 44 ≤ b) (hl : ln b = 9) (hr : ∀ i, i < m → M b i = nI (ow i)) : ∃ M', f_X0_replaceStrips fu M k b (nI m) = some M' ∧ MdC k M' (rpS σ m ow) ∧ Fr k M M' := by
  unfold f_X0_replaceStrips
  simp only [lt]
  obtain ⟨M', e, h1, h2⟩ := cntM (fun n i Mx => lp_X0_replaceStrips_7 fu k b (nI m) (fun M5 => some M5) n (nI i) Mx) (fun i Mx => MdC k Mx (rpS σ i ow) ∧ Fr k M Mx) (fun Mx => some Mx) m (fun n Mx _ => by
    show lp_X0_replaceStrips_7 _ _ _ _ _ (n + 1) _ _ = _
    rw [lp_X0_replaceStrips_7, if_pos (by rw [q_le (by omega) (by omega)]; omega)]) (fun n i Mx hi hI => by
    obtain ⟨i1, i2⟩ := hI
    have hwi : Wf (rpS σ i ow) := ⟨hw.1, ⟨by show i ≤ 9; omega, hw.2.1.2⟩, fun a ha => ⟨ho a (by have : a < i := ha; omega), fun c hc => by show (5 : Nat) ≤ 9; omega⟩, hw.2.2.2⟩
    obtain ⟨M2, e2, j1, j2⟩ := addStrip_ (a := ow i) hf hk hwi i1 (by show i < 9; omega)
    refine ⟨M2, ?_, ?_, i2.tr j2⟩
    · show lp_X0_replaceStrips_7 _ _ _ _ _ (n + 1) _ _ = lp_X0_replaceStrips_7 _ _ _ _ _ n _ _
      have : Mx b i = nI (ow i) := by rw [i2 b (by omega)]; exact hr i hi
      rw [lp_X0_replaceStrips_7, if_neg (by rw [q_le (by omega) (by omega)]; omega), gd_t (q_ib (by omega) (by omega)), q_cl (by omega), this, e2, bd_s]
      simp only [lt]
      rw [nI_1]
    · obtain ⟨a1, a2, a3, a4, a5, a6⟩ := j1
      refine ⟨a1, a2, a3, a4, fun q hq => ?_, a6⟩
      obtain ⟨b1, b2⟩ := a5 q hq
      have c1 : M2 (k + 2 + 4 + 2 * q) 0 = nI (if q = i then ow i else ow q) := b1
      refine ⟨?_, fun c hc => ?_⟩
      · rw [c1]
        show _ = nI (ow q)
        by_cases z : q = i
        · subst z; rw [if_pos rfl]
        · rw [if_neg z]
      · have c2 : M2 (k + 2 + 4 + 2 * q + 1) c = nI (if q = i then 5 else 5) := b2 c hc
        rw [c2]
        show _ = nI 5
        by_cases z : q = i
        · rw [if_pos z]
        · rw [if_neg z]) fu 0 (up M k 2 (0 : Int32)) (by omega) (by omega) (by
    obtain ⟨⟨a0, a1⟩, a2, a3, a4, a5, a6⟩ := h
    refine ⟨⟨⟨by rw [up_at]; rfl, by rw [up_j (by omega)]; exact a1⟩, fun j hj => by rw [up_k (by omega)]; exact a2 j hj, fun j hj => by rw [up_k (by omega)]; exact a3 j hj, fun j hj => by rw [up_k (by omega)]; exact a4 j hj, fun q hq => ?_, fun w hw' => ?_⟩, fun a ha => by rw [up_k (by omega)]⟩
    · have : q < 0 := hq
      omega
    · rw [up_k (by omega), up_k (by omega)]; exact a6 w hw')
  exact ⟨M', e, h1, h2⟩
theorem clT_ {M1 : Mem} (h : RC o M s) (f1 : ∀ a, (a < o + 89 ∨ (o + 102 ≤ a ∧ a < o + 158) ∨ o + 170 ≤ a) → M1 a = M a) (f2 : M1 (o + 158) 1 = nI 0) : RC o M1 (clT s) := by
  unfold clT
  exact h.tp f1 ⟨f2, fun j hj => absurd hj (Nat.not_lt_zero j)⟩ ⟨Nat.zero_le _, fun j hj => absurd hj (Nat.not_lt_zero j)⟩
theorem spst_l {p : Nat} (e : rso s.2.2.1.2 s.2.2.1.1 0 0 (fun _ => 0) = .inl p) : sp_strips s = (-20 - nI p, clT s) := by
  unfold sp_strips
  rw [e]
theorem spst_r {r : Nat} {ow : Nat → Nat} (e : rso s.2.2.1.2 s.2.2.1.1 0 0 (fun _ => 0) = .inr (r, ow)) : sp_strips s = (nI r, (rpS s.1 r ow, (clT s).2)) := by
  unfold sp_strips
  rw [e]
theorem X7_strips_ (hf : 100 ≤ fu) (hk : kd (o + 1) = 1) (hl : ln (o + 160) = 9) (h : RC o M s) : ∃ M', f_X7_strips fu M o = some ((sp_strips s).1, M') ∧ RC o M' (sp_strips s).2 := by
  obtain ⟨M1, e1, f1, f2⟩ := readOwners_ hf h
  have hc : RC o (up M1 (o + 158) 1 (nI 0)) (clT s) := clT_ h (fun a ha => by rw [up_k (by omega), f1 a (by omega)]) up_at
  have hmd := h.1.1
  have ht80 := h.1.2.2.1.1
  unfold f_X7_strips
  simp only [lt]
  cases e : rso s.2.2.1.2 s.2.2.1.1 0 0 (fun _ => 0) with
  | inl p =>
    have hp := rso_pl _ _ _ _ _ e
    have hn := flt_neg p (by omega)
    rw [e] at e1
    have e3 : f_X5_readOwners fu M (o + 158) = some (-20 - nI p, M1) := e1
    rw [spst_l e, e3, bd_s]
    generalize (-20 - nI p : Int32) = v at hn ⊢
    refine ⟨up M1 (o + 158) 1 (nI 0), ?_, hc⟩
    rw [if_pos hn]
    rfl
  | inr q =>
    obtain ⟨r, ow⟩ := q
    obtain ⟨r1, r2, r3⟩ := rso_ok _ _ _ _ (by omega) (fun i hi => by omega) _ _ e
    rw [e] at e1
    have e3 : f_X5_readOwners fu M (o + 158) = some (nI r, M1) := e1
    rw [spst_r e, e3, bd_s]
    obtain ⟨M2, e2, g1, g2⟩ := repl_ (fu := fu) (m := r) (ow := ow) (by omega) hk hmd hc.2.1 r2 r3 (b := o + 158 + 2) (by omega) hl (fun i hi => by
      rw [up_k (by omega)]
      exact f2 r ow e i hi)
    refine ⟨M2, ?_, hc.md g1 ⟨hmd.1, ⟨r2, hmd.2.1.2⟩, fun a ha => ⟨r3 a ha, fun c hc => by show (5 : Nat) ≤ 9; omega⟩, hmd.2.2.2⟩ g2⟩
    rw [li_0, if_neg (by rw [q_le (by omega) (by omega)]; omega), e2, bd_s]
end PUB
