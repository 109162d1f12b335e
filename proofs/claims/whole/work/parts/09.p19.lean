/-! words read from the tape -/
def skp (t : Nat → Nat) : Nat → Nat → Nat
  | 0, p => p
  | k + 1, p => if t p = 32 then skp t k (p + 1) else p
/-- the place of the next sign that is no blank -/
def sk (t : Nat → Nat) (L p : Nat) : Nat := skp t (L - p) p
def sg (t : Nat → Nat) (L q : Nat) : Int32 := if q < L then nI (t q) else -1
def lets (t : Nat → Nat) (L : Nat) : Nat → Nat → Nat → (Nat → Nat) → Nat × Nat × (Nat → Nat)
  | 0, p, j, tx => (p, j, tx)
  | k + 1, p, j, tx => if sk t L p < L ∧ 97 ≤ t (sk t L p) ∧ t (sk t L p) < 97 + 26 then lets t L k (sk t L p + 1) (j + 1) (updN tx j (t (sk t L p) - 97)) else (sk t L p, j, tx)
def numb (t : Nat → Nat) : Nat → Nat → Nat → Nat × Nat
  | 0, p, v => (p, v)
  | k + 1, p, v => if 48 ≤ t p ∧ t p < 48 + 10 then numb t k (p + 1) (min 100 (10 * v + (t p - 48))) else (p, v)
/-- pay, from behind the colon -/
def payx (t : Nat → Nat) (L p : Nat) : Nat ⊕ (Nat × Nat) := if sk t L p < L ∧ 48 ≤ t (sk t L p) ∧ t (sk t L p) < 48 + 10 then (if (numb t (L - sk t L p) (sk t L p) 0).2 ≤ 99 then .inr (numb t (L - sk t L p) (sk t L p) 0) else .inl (sk t L p)) else .inl (sk t L p)
/-- a word: the place behind, its length, its pay, its letters -/
def wrd (t : Nat → Nat) (L p : Nat) : Nat ⊕ (Nat × Nat × Nat × (Nat → Nat)) :=
  if (lets t L 6 p 0 (fun _ => 0)).2.1 = 0 then .inl (lets t L 6 p 0 (fun _ => 0)).1 else if sk t L (lets t L 6 p 0 (fun _ => 0)).1 < L ∧ t (sk t L (lets t L 6 p 0 (fun _ => 0)).1) = 58 then (match payx t L (sk t L (lets t L 6 p 0 (fun _ => 0)).1 + 1) with
    | .inl q => .inl q
    | .inr z => .inr (z.1, (lets t L 6 p 0 (fun _ => 0)).2.1, z.2, (lets t L 6 p 0 (fun _ => 0)).2.2)) else .inr (sk t L (lets t L 6 p 0 (fun _ => 0)).1, (lets t L 6 p 0 (fun _ => 0)).2.1, 10, (lets t L 6 p 0 (fun _ => 0)).2.2)
def updW (f : Nat → Nat × Nat × (Nat → Nat)) (i : Nat) (v : Nat × Nat × (Nat → Nat)) : Nat → Nat × Nat × (Nat → Nat) := fun j => if j = i then v else f j
def rws (t : Nat → Nat) (L : Nat) : Nat → Nat → Nat → (Nat → Nat × Nat × (Nat → Nat)) → Nat ⊕ (Nat × (Nat → Nat × Nat × (Nat → Nat)))
  | 0, p, _, _ => .inl p
  | k + 1, p, i, ws => match wrd t L p with
    | .inl q => .inl q
    | .inr z => if L ≤ sk t L z.1 then .inr (i + 1, updW ws i z.2) else if t (sk t L z.1) = 44 ∧ k ≠ 0 then rws t L k (sk t L z.1 + 1) (i + 1) (updW ws i z.2) else .inl (sk t L z.1)
theorem skp_le {t : Nat → Nat} : ∀ k p, p ≤ skp t k p ∧ skp t k p ≤ p + k := by
  intro k
  induction k with
  | zero => intro p; unfold skp; omega
  | succ k ih =>
    intro p
    unfold skp
    split
    · have := ih (p + 1); omega
    · omega
theorem sk_le {t : Nat → Nat} {L p : Nat} (h : p ≤ L) : sk t L p ≤ L := by
  have := skp_le (t := t) (L - p) p
  unfold sk
  omega
theorem sk_ge {t : Nat → Nat} {L p : Nat} : p ≤ sk t L p := (skp_le (t := t) (L - p) p).1
theorem skp_nb {t : Nat → Nat} : ∀ k p, skp t k p < p + k → t (skp t k p) ≠ 32 := by
  intro k
  induction k with
  | zero => intro p h; unfold skp at h; omega
  | succ k ih =>
    intro p h
    unfold skp at h ⊢
    by_cases z : t p = 32
    · rw [if_pos z] at h ⊢
      exact ih (p + 1) (by omega)
    · rw [if_neg z]; exact z
theorem lets_ok {t : Nat → Nat} {L : Nat} : ∀ k p j tx, p ≤ L → (∀ i, i < j → tx i < 26) → (lets t L k p j tx).1 ≤ L ∧ (lets t L k p j tx).2.1 ≤ j + k ∧ ∀ i, i < (lets t L k p j tx).2.1 → (lets t L k p j tx).2.2 i < 26 := by
  intro k
  induction k with
  | zero => intro p j tx hp h; unfold lets; exact ⟨hp, Nat.le_refl _, h⟩
  | succ k ih =>
    intro p j tx hp h
    unfold lets
    by_cases z : sk t L p < L ∧ 97 ≤ t (sk t L p) ∧ t (sk t L p) < 97 + 26
    · rw [if_pos z]
      obtain ⟨a, b, c⟩ := ih (sk t L p + 1) (j + 1) (updN tx j (t (sk t L p) - 97)) (by omega) (fun i hi => by
        show (if i = j then _ else _) < 26
        by_cases y : i = j
        · rw [if_pos y]; omega
        · rw [if_neg y]; exact h i (by omega))
      exact ⟨a, by omega, c⟩
    · rw [if_neg z]
      exact ⟨sk_le hp, Nat.le_add_right _ _, h⟩
theorem numb_ok {t : Nat → Nat} : ∀ k p v, p ≤ (numb t k p v).1 ∧ (numb t k p v).1 ≤ p + k := by
  intro k
  induction k with
  | zero => intro p v; unfold numb; exact ⟨Nat.le_refl _, Nat.le_refl _⟩
  | succ k ih =>
    intro p v
    unfold numb
    by_cases z : 48 ≤ t p ∧ t p < 48 + 10
    · rw [if_pos z]
      have := ih (p + 1) (min 100 (10 * v + (t p - 48)))
      omega
    · rw [if_neg z]
      exact ⟨Nat.le_refl _, by show p ≤ p + (k + 1); omega⟩
theorem payx_l {t : Nat → Nat} {L p q : Nat} (hp : p ≤ L) (e : payx t L p = .inl q) : q = sk t L p := by
  unfold payx at e
  split at e
  · split at e
    · exact absurd e (by simp)
    · exact (Sum.inl.inj e).symm
  · exact (Sum.inl.inj e).symm
theorem payx_r {t : Nat → Nat} {L p : Nat} {z : Nat × Nat} (hp : p ≤ L) (e : payx t L p = .inr z) : z.1 ≤ L ∧ z.2 ≤ 99 := by
  unfold payx at e
  split at e
  · split at e
    · rename_i h2
      rw [← Sum.inr.inj e]
      have := (numb_ok (t := t) (L - sk t L p) (sk t L p) 0).2
      have := sk_le (t := t) hp
      exact ⟨by omega, h2⟩
    · exact absurd e (by simp)
  · exact absurd e (by simp)
/-- a word that may be told -/
def gw (z : Nat × Nat × (Nat → Nat)) : Prop := 1 ≤ z.1 ∧ z.1 ≤ 6 ∧ z.2.1 ≤ 99 ∧ ∀ j, j < z.1 → z.2.2 j < 26
theorem wrd_l {t : Nat → Nat} {L p q : Nat} (hp : p ≤ L) (e : wrd t L p = .inl q) : q ≤ L := by
  obtain ⟨a, b, c⟩ := lets_ok (t := t) (L := L) 6 p 0 (fun _ => 0) hp (fun i hi => by omega)
  unfold wrd at e
  generalize lets t L 6 p 0 (fun _ => 0) = r at *
  by_cases z : r.2.1 = 0
  · rw [if_pos z] at e
    rw [← Sum.inl.inj e]; exact a
  · rw [if_neg z] at e
    by_cases y : sk t L r.1 < L ∧ t (sk t L r.1) = 58
    · rw [if_pos y] at e
      cases e2 : payx t L (sk t L r.1 + 1) with
      | inl q2 =>
        rw [e2] at e
        have e3 : (Sum.inl q2 : Nat ⊕ (Nat × Nat × Nat × (Nat → Nat))) = .inl q := e
        rw [← Sum.inl.inj e3, payx_l (by omega) e2]
        exact sk_le (by omega)
      | inr z2 =>
        rw [e2] at e
        exact absurd e (by simp)
    · rw [if_neg y] at e
      exact absurd e (by simp)
theorem wrd_r {t : Nat → Nat} {L p : Nat} {z : Nat × Nat × Nat × (Nat → Nat)} (hp : p ≤ L) (e : wrd t L p = .inr z) : z.1 ≤ L ∧ gw z.2 := by
  obtain ⟨a, b, c⟩ := lets_ok (t := t) (L := L) 6 p 0 (fun _ => 0) hp (fun i hi => by omega)
  unfold wrd at e
  generalize lets t L 6 p 0 (fun _ => 0) = r at *
  by_cases x : r.2.1 = 0
  · rw [if_pos x] at e; exact absurd e (by simp)
  · rw [if_neg x] at e
    by_cases y : sk t L r.1 < L ∧ t (sk t L r.1) = 58
    · rw [if_pos y] at e
      cases e2 : payx t L (sk t L r.1 + 1) with
      | inl q2 => rw [e2] at e; exact absurd e (by simp)
      | inr z2 =>
        rw [e2] at e
        have e3 : (Sum.inr (z2.1, r.2.1, z2.2, r.2.2) : Nat ⊕ (Nat × Nat × Nat × (Nat → Nat))) = .inr z := e
        rw [← Sum.inr.inj e3]
        obtain ⟨p1, p2⟩ := payx_r (by omega) e2
        exact ⟨p1, by show 1 ≤ r.2.1; omega, by show r.2.1 ≤ 6; omega, p2, c⟩
    · rw [if_neg y] at e
      rw [← Sum.inr.inj e]
      exact ⟨sk_le a, by show 1 ≤ r.2.1; omega, by show r.2.1 ≤ 6; omega, by show 10 ≤ 99; omega, c⟩
theorem rws_l {t : Nat → Nat} {L q : Nat} : ∀ k p i ws, p ≤ L → rws t L k p i ws = .inl q → q ≤ L := by
  intro k
  induction k with
  | zero => intro p i ws hp e; unfold rws at e; rw [← Sum.inl.inj e]; exact hp
  | succ k ih =>
    intro p i ws hp e
    unfold rws at e
    cases e2 : wrd t L p with
    | inl q2 =>
      rw [e2] at e
      have e3 : (Sum.inl q2 : Nat ⊕ (Nat × (Nat → Nat × Nat × (Nat → Nat)))) = .inl q := e
      rw [← Sum.inl.inj e3]; exact wrd_l hp e2
    | inr z =>
      rw [e2] at e
      simp only [] at e
      have hz := wrd_r hp e2
      by_cases y : L ≤ sk t L z.1
      · rw [if_pos y] at e; exact absurd e (by simp)
      · rw [if_neg y] at e
        by_cases x : t (sk t L z.1) = 44 ∧ k ≠ 0
        · rw [if_pos x] at e; exact ih _ _ _ (by omega) e
        · rw [if_neg x] at e; rw [← Sum.inl.inj e]; omega
theorem rws_r {t : Nat → Nat} {L n : Nat} {ws' : Nat → Nat × Nat × (Nat → Nat)} : ∀ k p i ws, p ≤ L → (∀ j, j < i → gw (ws j)) → rws t L k p i ws = .inr (n, ws') → 1 ≤ n ∧ n ≤ i + k ∧ ∀ j, j < n → gw (ws' j) := by
  intro k
  induction k with
  | zero => intro p i ws hp h e; unfold rws at e; exact absurd e (by simp)
  | succ k ih =>
    intro p i ws hp h e
    unfold rws at e
    cases e2 : wrd t L p with
    | inl q2 => rw [e2] at e; exact absurd e (by simp)
    | inr z =>
      rw [e2] at e
      simp only [] at e
      have hz := wrd_r hp e2
      have hu : ∀ j, j < i + 1 → gw (updW ws i z.2 j) := fun j hj => by
        unfold updW
        by_cases y : j = i
        · rw [if_pos y]; exact hz.2
        · rw [if_neg y]; exact h j (by omega)
      by_cases y : L ≤ sk t L z.1
      · rw [if_pos y] at e
        obtain ⟨rfl, rfl⟩ := Prod.mk.inj (Sum.inr.inj e)
        exact ⟨by omega, by omega, hu⟩
      · rw [if_neg y] at e
        by_cases x : t (sk t L z.1) = 44 ∧ k ≠ 0
        · rw [if_pos x] at e
          obtain ⟨a, b, c⟩ := ih _ _ _ (by omega) hu e
          exact ⟨a, by omega, c⟩
        · rw [if_neg x] at e; exact absurd e (by simp)
def adW (σ : Md) (n : Nat) (ws : Nat → Nat × Nat × (Nat → Nat)) : Md := (mS σ, mN σ, mO σ, mG σ, mW σ + n, fun w => if mW σ ≤ w ∧ w < mW σ + n then (ws (w - mW σ)).1 else mL σ w, fun w => if mW σ ≤ w ∧ w < mW σ + n then (ws (w - mW σ)).2.1 else mP σ w, fun w => if mW σ ≤ w ∧ w < mW σ + n then (ws (w - mW σ)).2.2 else mT σ w, mF σ, mH σ)
def sp_words (s : Sg) : Int32 × Sg := match rws s.2.2.1.2 s.2.2.1.1 4 0 0 (fun _ => (0, 0, fun _ => 0)) with
  | .inl p => (-20 - nI p, clT s)
  | .inr (n, ws) => if mW s.1 + n ≤ 10 then (nI n, (adW s.1 n ws, (clT s).2)) else (-3, clT s)
theorem adW_wf {σ : Md} {n : Nat} {ws : Nat → Nat × Nat × (Nat → Nat)} (hw : Wf σ) (hn : mW σ + n ≤ 10) (h : ∀ j, j < n → gw (ws j)) : Wf (adW σ n ws) := by
  obtain ⟨h1, h2, h3, h4, h5⟩ := hw
  refine ⟨h1, ⟨h2.1, hn⟩, h3, fun w hw => ?_, h5⟩
  have hw' : w < mW σ + n := hw
  show 1 ≤ (if _ then _ else _) ∧ (if _ then _ else _) ≤ 6 ∧ (if _ then _ else _) ≤ 99 ∧ ∀ j, j < (if mW σ ≤ w ∧ w < mW σ + n then (ws (w - mW σ)).1 else mL σ w) → (if mW σ ≤ w ∧ w < mW σ + n then (ws (w - mW σ)).2.2 else mT σ w) j < 26
  by_cases z : mW σ ≤ w ∧ w < mW σ + n
  · rw [if_pos z, if_pos z, if_pos z]
    exact h _ (by omega)
  · rw [if_neg z, if_neg z, if_neg z]
    exact h4 w (by omega)
