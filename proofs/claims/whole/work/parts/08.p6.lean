theorem up_at {M : Mem} {k j : Nat} {v : Int32} : up M k j v k j = v := by simp [up]
theorem up_k {M : Mem} {k j a : Nat} {v : Int32} (h : a ≠ k) : up M k j v a = M a := up_eq rfl h
theorem up_j {M : Mem} {k j b : Nat} {v : Int32} (h : b ≠ j) : up M k j v k b = M k b := by simp [up, h]
theorem cutM_k {M : Mem} {k x n a : Nat} (h : a ≠ k) : cutM M k x n a = M a := by funext j; simp [cutM, h]
/-- the first n of a row set -/
def setR (M : Mem) (k : Nat) (f : Nat → Int32) (n : Nat) : Mem := fun a j => if a = k ∧ j < n then f j else M a j
theorem setR_0 {M : Mem} {k : Nat} {f : Nat → Int32} : setR M k f 0 = M := by funext a j; simp [setR]
theorem setR_s {M : Mem} {k n : Nat} {f : Nat → Int32} : up (setR M k f n) k n (f n) = setR M k f (n + 1) := by
  funext a j
  unfold up setR
  by_cases h1 : a = k
  · by_cases h2 : j = n
    · subst h2; simp [h1]
    · have : (j < n) ↔ (j < n + 1) := by omega
      simp [h1, h2, this]
  · simp [h1]
theorem setR_k {M : Mem} {k n a : Nat} {f : Nat → Int32} (h : a ≠ k) : setR M k f n a = M a := by funext j; simp [setR, h]
theorem setR_in {M : Mem} {k n j : Nat} {f : Nat → Int32} (h : j < n) : setR M k f n k j = f j := by simp [setR, h]
theorem setR_out {M : Mem} {k n j : Nat} {f : Nat → Int32} (h : ¬ j < n) : setR M k f n k j = M k j := by simp [setR, h]
theorem cntM {R : Type} (f : Nat → Nat → Mem → R) (I : Nat → Mem → Prop) (out : Mem → R) (N : Nat) (h1 : ∀ n M, I N M → f (n + 1) N M = out M) (h2 : ∀ n i M, i < N → I i M → ∃ M', f (n + 1) i M = f n (i + 1) M' ∧ I (i + 1) M') : ∀ n i M, i ≤ N → N - i < n → I i M → ∃ M', f n i M = out M' ∧ I N M' := by
  intro n
  induction n with
  | zero => intro i _ _ h; omega
  | succ n ih =>
    intro i M hi hn hI
    by_cases h : i = N
    · subst h; exact ⟨M, h1 n M hI, hI⟩
    · obtain ⟨M', e, hI'⟩ := h2 n i M (by omega) hI
      obtain ⟨M2, e2, h3⟩ := ih (i + 1) M' (by omega) (by omega) hI'
      exact ⟨M2, e.trans e2, h3⟩
/-- nothing changes outside a meadow's cells -/
def Fr (k : Nat) (M M1 : Mem) : Prop := ∀ a, (a < k ∨ k + 44 ≤ a) → M1 a = M a
theorem Fr.rf {k : Nat} {M : Mem} : Fr k M M := fun _ _ => rfl
theorem Fr.tr {k : Nat} {M M1 M2 : Mem} (h : Fr k M M1) (h2 : Fr k M1 M2) : Fr k M M2 := fun a ha => (h2 a ha).trans (h a ha)
theorem fill_ {fu k N : Nat} {M : Mem} {v : Int32} (hl : ln k = N) (hN : N ≤ 100) (hf : N < fu) : f_J7_fill_53178 fu M k v = some (setR M k (fun _ => v) N) := by
  unfold f_J7_fill_53178
  subst hl
  have key := cnt (fun n i => lp_J7_fill_53178_5 fu k v (nI (ln k)) (fun M5 => some M5) n (nI i) (setR M k (fun _ => v) i)) (some (setR M k (fun _ => v) (ln k))) (ln k) (fun n => by
    show lp_J7_fill_53178_5 _ _ _ _ _ (n + 1) _ _ = _
    rw [lp_J7_fill_53178_5, if_pos (by rw [q_le (by omega) (by omega)]; omega)]) (fun n i hi => by
    show lp_J7_fill_53178_5 _ _ _ _ _ (n + 1) _ _ = lp_J7_fill_53178_5 _ _ _ _ _ n _ _
    rw [lp_J7_fill_53178_5, if_neg (by rw [q_le (by omega) (by omega)]; omega), gd_t (q_ib (by omega) hi), q_cl (by omega)]
    simp only [lt]
    rw [li_1, q_ad, setR_s (f := fun _ => v)]) fu 0 (by omega) (by omega)
  rw [setR_0] at key
  exact key
/-! what calls make of a meadow -/
def wG (σ : Md) (g : Nat → Nat → Nat) : Md := (mS σ, mN σ, mO σ, g, mW σ, mL σ, mP σ, mT σ, mF σ, mH σ)
def hvS (σ : Md) (i x : Nat) : Md := (mS σ, mN σ, mO σ, fun a c => if a = i ∧ x.testBit c = true then 0 else mG σ a c, mW σ, mL σ, mP σ, mT σ, mF σ, fun a => if a = mO σ i then mH σ a + nI (sm (fun c => x.testBit c) (mG σ i) 15) else mH σ a)
def adS (σ : Md) (a : Nat) : Md := (mS σ, mN σ + 1, fun i => if i = mN σ then a else mO σ i, fun i c => if i = mN σ then 5 else mG σ i c, mW σ, mL σ, mP σ, mT σ, mF σ, mH σ)
theorem hvS_wf {σ : Md} {i x : Nat} (hw : Wf σ) : Wf (hvS σ i x) := by
  obtain ⟨h1, h2, h3, h4⟩ := hw
  refine ⟨h1, h2, fun a ha => ⟨(h3 a ha).1, fun c hc => ?_⟩, h4⟩
  show (if a = i ∧ x.testBit c = true then 0 else mG σ a c) ≤ 9
  split
  · omega
  · exact (h3 a ha).2 c hc
theorem adS_wf {σ : Md} {a : Nat} (hw : Wf σ) (ha : a < 6) (hn : mN σ < 9) : Wf (adS σ a) := by
  obtain ⟨h1, h2, h3, h4⟩ := hw
  refine ⟨h1, ⟨by show mN σ + 1 ≤ 9; omega, h2.2⟩, fun i hi => ?_, h4⟩
  have hi' : i < mN σ + 1 := hi
  show (if i = mN σ then a else mO σ i) < 6 ∧ ∀ c, c < 15 → (if i = mN σ then 5 else mG σ i c) ≤ 9
  by_cases e : i = mN σ
  · simp [e, ha]
  · simp only [e, if_false]
    exact h3 i (by omega)
section CL
variable {fu k : Nat} {M : Mem} {σ : Md}
theorem harvest_ {i x : Nat} (hf : 50 ≤ fu) (hw : Wf σ) (h : MdC k M σ) (hi : i < mN σ) (hx : x < 32768) : ∃ M', f_X0_harvest fu M k (nI i) (nI x) = some (nI (sm (fun c => x.testBit c) (mG σ i) 15), M') ∧ MdC k M' (hvS σ i x) ∧ Fr k M M' := by
  obtain ⟨⟨h1, h2⟩, h3, h4, h5, h6, h7⟩ := id h
  obtain ⟨-, ⟨w1, w2⟩, w3, w4, -⟩ := id hw
  have ho := (w3 i hi).1
  have e0 : ∀ a, a ≠ k + 2 + 4 + 2 * i + 1 → cutM M (k + 2 + 4 + 2 * i + 1) x 15 a = M a := fun a ha => cutM_k ha
  refine ⟨up (cutM M (k + 2 + 4 + 2 * i + 1) x 15) (k + 5) (mO σ i) (mH σ (mO σ i) + nI (sm (fun c => x.testBit c) (mG σ i) 15)), ?_, ?_, ?_⟩
  · unfold f_X0_harvest
    rw [gd_t (q_ib (by omega) (by omega)), q_cl (by omega), grassOf_ (by omega) (h6 i hi).2 hx, bd_s, gd_t (q_ib (by omega) (by omega)), cutDown_ (by omega) hx, bd_s, gd_t (q_ib (by omega) (by omega)), e0 (k + 2 + 4 + 2 * i) (by omega), (h6 i hi).1, gd_t (q_ib (by omega) ho), gd_t (q_ib (by omega) ho), q_cl (by omega), e0 (k + 5) (by omega), h5 _ ho]
    rfl
  · have e1 : ∀ a, a ≠ k + 5 → a ≠ k + 2 + 4 + 2 * i + 1 → (up (cutM M (k + 2 + 4 + 2 * i + 1) x 15) (k + 5) (mO σ i) (mH σ (mO σ i) + nI (sm (fun c => x.testBit c) (mG σ i) 15))) a = M a := fun a ha hb => by rw [up_k ha, e0 a hb]
    refine ⟨⟨by rw [e1 k (by omega) (by omega)]; exact h1, by rw [e1 k (by omega) (by omega)]; exact h2⟩, fun j hj => by rw [e1 _ (by omega) (by omega)]; exact h3 j hj, fun a ha => by rw [e1 _ (by omega) (by omega)]; exact h4 a ha, fun a ha => ?_, fun a ha => ?_, fun w hwo => ?_⟩
    · show _ = if a = mO σ i then _ else _
      by_cases e : a = mO σ i
      · subst e; rw [if_pos rfl, up_at]
      · rw [if_neg e, up_j e, e0 (k + 5) (by omega)]; exact h5 a ha
    · have ha' : a < mN σ := ha
      refine ⟨by rw [e1 _ (by omega) (by omega)]; exact (h6 a ha').1, fun c hc => ?_⟩
      rw [up_k (by omega)]
      show _ = nI (if a = i ∧ x.testBit c = true then 0 else mG σ a c)
      by_cases e : a = i
      · subst e
        by_cases q : x.testBit c = true
        · simp [cutM, hc, q]; rfl
        · simp [cutM, q]; exact (h6 a ha').2 c hc
      · rw [e0 _ (by omega)]
        simp only [e, false_and, if_false]
        exact (h6 a ha').2 c hc
    · have hwo' : w < mW σ := hwo
      rw [e1 _ (by omega) (by omega), e1 _ (by omega) (by omega)]
      exact h7 w hwo'
  · intro a ha
    rw [up_k (by omega), e0 a (by omega)]
theorem addStrip_ {a : Nat} (hf : 50 ≤ fu) (hk : kd k = 1) (hw : Wf σ) (h : MdC k M σ) (hn : mN σ < 9) : ∃ M', f_X0_addStrip fu M k (nI a) = some M' ∧ MdC k M' (adS σ a) ∧ Fr k M M' := by
  obtain ⟨⟨h1, h2⟩, h3, h4, h5, h6, h7⟩ := id h
  obtain ⟨-, ⟨w1, w2⟩, w3, w4, -⟩ := id hw
  have hln : ln (k + 2 + 4 + 2 * mN σ + 1) = 15 := (ch_2_1 (ca_13 (ch_1_1 hk).1 hn).1).2
  refine ⟨up (setR (up M (k + 2 + 4 + 2 * mN σ) 0 (nI a)) (k + 2 + 4 + 2 * mN σ + 1) (fun _ => nI 5) 15) k 2 (nI (mN σ + 1)), ?_, ?_, ?_⟩
  · unfold f_X0_addStrip f_X4_begin
    rw [h1, li_9, if_neg (by rw [q_le (by omega) (by omega)]; omega), gd_t (q_ib (by omega) hn), q_cl (by omega)]
    simp only [lt]
    rw [li_5, fill_ hln (by omega) (by omega), bd_s, bd_s, setR_k (by omega), up_k (by omega), h1, li_1, q_ad]
  · have e1 : ∀ b, b ≠ k → b ≠ k + 2 + 4 + 2 * mN σ → b ≠ k + 2 + 4 + 2 * mN σ + 1 → (up (setR (up M (k + 2 + 4 + 2 * mN σ) 0 (nI a)) (k + 2 + 4 + 2 * mN σ + 1) (fun _ => nI 5) 15) k 2 (nI (mN σ + 1))) b = M b := fun b hb hc hd => by rw [up_k hb, setR_k hd, up_k hc]
    refine ⟨⟨by rw [up_at]; rfl, by rw [up_j (by omega), setR_k (by omega), up_k (by omega)]; exact h2⟩, fun j hj => by rw [e1 _ (by omega) (by omega) (by omega)]; exact h3 j hj, fun a ha => by rw [e1 _ (by omega) (by omega) (by omega)]; exact h4 a ha, fun a ha => by rw [e1 _ (by omega) (by omega) (by omega)]; exact h5 a ha, fun i hi => ?_, fun w hwo => ?_⟩
    · have hi' : i < mN σ + 1 := hi
      show _ = nI (if i = mN σ then a else mO σ i) ∧ ∀ c, c < 15 → _ = nI (if i = mN σ then 5 else mG σ i c)
      by_cases e : i = mN σ
      · subst e
        refine ⟨by rw [up_k (by omega), setR_k (by omega), up_at, if_pos rfl], fun c hc => by rw [up_k (by omega), setR_in hc, if_pos rfl]⟩
      · rw [if_neg e]
        refine ⟨by rw [e1 _ (by omega) (by omega) (by omega)]; exact (h6 i (by omega)).1, fun c hc => by rw [e1 _ (by omega) (by omega) (by omega), if_neg e]; exact (h6 i (by omega)).2 c hc⟩
    · have hwo' : w < mW σ := hwo
      rw [e1 _ (by omega) (by omega) (by omega), e1 _ (by omega) (by omega) (by omega)]
      exact h7 w hwo'
  · intro b hb
    rw [up_k (by omega), setR_k (by omega), up_k (by omega)]
end CL
