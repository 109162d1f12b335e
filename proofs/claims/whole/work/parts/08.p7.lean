def capx (g : Nat → Nat) (m : Nat) : Nat → Nat := fun c => if g c + m < 9 then g c + m else 9
def cn9 (g : Nat → Nat) : Nat → Nat := sumf (fun c => if g c = 9 then 1 else 0)
theorem cn9_le (g : Nat → Nat) (n : Nat) : cn9 g n ≤ n := by
  have := sumf_le (f := fun c => if g c = 9 then 1 else 0) (B := 1) n (fun j _ => by split <;> omega)
  unfold cn9
  omega
def grS (σ : Md) (m : Nat) : Md := wG σ (fun a => capx (mG σ a) m)
def grP (σ : Md) (m i : Nat) : Md := wG σ (fun a => if a < i then capx (mG σ a) m else mG σ a)
theorem capx_le (g : Nat → Nat) (m c : Nat) : capx g m c ≤ 9 := by unfold capx; split <;> omega
theorem grP_wf {σ : Md} {m i : Nat} (hw : Wf σ) : Wf (grP σ m i) := by
  obtain ⟨h1, h2, h3, h4⟩ := hw
  refine ⟨h1, h2, fun a ha => ⟨(h3 a ha).1, fun c hc => ?_⟩, h4⟩
  show (if a < i then capx (mG σ a) m else mG σ a) c ≤ 9
  split
  · exact capx_le _ _ _
  · exact (h3 a ha).2 c hc
theorem cpy0 {f g : Nat → Int32} {n j : Nat} : va_cpy f g 0 0 n j = if j < n then f j else g j := by
  unfold va_cpy
  by_cases h : j < n
  · rw [if_pos ⟨Nat.zero_le _, by omega⟩, if_pos h, Nat.zero_add, Nat.sub_zero]
  · rw [if_neg (fun q => h (by omega)), if_neg h]
theorem upR_at {M : Mem} {k : Nat} {f : Nat → Int32} : upR M k f k = f := by funext b; simp [upR]
theorem upR_k {M : Mem} {k a : Nat} {f : Nat → Int32} (h : a ≠ k) : upR M k f a = M a := by funext b; simp [upR, h]
section CL
variable {fu k : Nat} {M : Mem} {σ : Md}
theorem growBy_ {b m : Nat} {g : Nat → Nat} (hf : 50 ≤ fu) (hr : Rw M (b + 1) g) (hg9 : ∀ c, c < 15 → g c ≤ 9) (hm : m ≤ 1000) : f_X4_growBy fu M b (nI m) = some (nI (cn9 (capx g m) 15), setR M (b + 1) (fun c => nI (capx g m c)) 15) := by
  unfold f_X4_growBy
  have key := cnt (fun n i => lp_X4_growBy_4 fu b (nI m) (fun v8 M9 => some (v8, M9)) n (nI (cn9 (capx g m) i)) (nI i) (setR M (b + 1) (fun c => nI (capx g m c)) i)) (some (nI (cn9 (capx g m) 15), setR M (b + 1) (fun c => nI (capx g m c)) 15)) 15 (fun n => by
    show lp_X4_growBy_4 _ _ _ _ (n + 1) _ _ _ = _
    rw [lp_X4_growBy_4, li_15, if_pos (by rw [q_le (by omega) (by omega)]; omega)]) (fun n i hi => by
    show lp_X4_growBy_4 _ _ _ _ (n + 1) _ _ _ = lp_X4_growBy_4 _ _ _ _ n _ _ _
    have hgi := hg9 i hi
    rw [lp_X4_growBy_4, li_15, if_neg (by rw [q_le (by omega) (by omega)]; omega), gd_t (q_ib (by omega) hi), gd_t (q_ib (by omega) hi), q_cl (by omega), setR_out (by omega), hr i hi, q_ad]
    have e : (if nI (g i + m) < (9 : Int32) then nI (g i + m) else (9 : Int32)) = nI (capx g m i) := by
      unfold capx
      by_cases q : g i + m < 9
      · rw [if_pos (by rw [li_9, q_lt (by omega) (by omega)]; exact q), if_pos q]
      · rw [if_neg (by rw [li_9, q_lt (by omega) (by omega)]; exact q), if_neg q]
        rfl
    have hc := capx_le g m i
    simp only [lt]
    rw [e, setR_s (f := fun c => nI (capx g m c)), gd_t (q_ib (by omega) hi), setR_in (by omega)]
    have e2 : cn9 (capx g m) (i + 1) = cn9 (capx g m) i + (if capx g m i = 9 then 1 else 0) := rfl
    by_cases q : capx g m i = 9
    · rw [if_pos (by rw [q]; rfl), e2, if_pos q, li_1, q_ad, q_ad]
    · rw [if_neg (by rw [li_9, q_eq (by omega) (by omega)]; exact q), e2, if_neg q, li_1, q_ad]
      rfl) fu 0 (by omega) (by omega)
  rw [setR_0] at key
  exact key
def c9s (σ : Md) (m : Nat) : Nat → Nat := sumf (fun a => cn9 (capx (mG σ a) m) 15)
theorem growFor_ {w : Nat} (hf : 50 ≤ fu) (hw : Wf σ) (h : MdC k M σ) (hwk : w ≤ 30) : ∃ M', f_X0_growFor fu M k (nI w) = some (nI (c9s σ (w * mS σ 0) (mN σ)), M') ∧ MdC k M' (grP σ (w * mS σ 0) (mN σ)) ∧ Fr k M M' := by
  have hm : w * mS σ 0 ≤ 150 := Nat.mul_le_mul hwk hw.1.1
  have hN := hw.2.1.1
  unfold f_X0_growFor
  obtain ⟨M', e, hI⟩ := cntM (fun n i Mx => lp_X0_growFor_4 fu k (nI w) (fun v6 M7 => some (v6, M7)) n (nI (c9s σ (w * mS σ 0) i)) (nI i) Mx) (fun i Mx => MdC k Mx (grP σ (w * mS σ 0) i) ∧ Fr k M Mx) (fun Mx => some (nI (c9s σ (w * mS σ 0) (mN σ)), Mx)) (mN σ) (fun n Mx hI => by
    obtain ⟨⟨⟨h1, -⟩, -⟩, -⟩ := hI
    show lp_X0_growFor_4 _ _ _ _ (n + 1) _ _ _ = _
    rw [lp_X0_growFor_4, h1, if_pos (by rw [q_le (by show mN σ < _; omega) (by omega)]; exact Nat.le_refl _)]) (fun n i Mx hi hI => by
    obtain ⟨hM, hF⟩ := hI
    obtain ⟨⟨h1, h2⟩, h3, h4, h5, h6, h7⟩ := id hM
    have hrow : Rw Mx (k + 2 + 4 + 2 * i + 1) (mG σ i) := by
      have := (h6 i hi).2
      show Rw Mx _ _
      have e : mG (grP σ (w * mS σ 0) i) i = mG σ i := by show (if i < i then _ else _) = _; rw [if_neg (by omega)]
      rw [← e]; exact this
    refine ⟨setR Mx (k + 2 + 4 + 2 * i + 1) (fun c => nI (capx (mG σ i) (w * mS σ 0) c)) 15, ?_, ⟨⟨?_, ?_⟩, ?_, ?_, ?_, ?_, ?_⟩, ?_⟩
    · show lp_X0_growFor_4 _ _ _ _ (n + 1) _ _ _ = lp_X0_growFor_4 _ _ _ _ n _ _ _
      rw [lp_X0_growFor_4, h1, if_neg (by rw [q_le (by show mN σ < _; omega) (by omega)]; show ¬ mN σ ≤ i; omega), gd_t (q_ib (by omega) (by omega)), li_0, gd_t (q_ib (by omega) (by omega)), q_cl (by omega), q_cl (by omega), h3 0 (by omega)]
      show ((f_X4_growBy fu Mx (k + 2 + 4 + 2 * i) (nI w * nI (mS σ 0))).bind _) = _
      rw [q_mu, growBy_ hf hrow (hw.2.2.1 i hi).2 (by omega), bd_s]
      simp only [lt]
      rw [q_ad, li_1, q_ad]
      rfl
    · rw [setR_k (by omega)]; exact h1
    · rw [setR_k (by omega)]; exact h2
    · intro j hj; rw [setR_k (by omega)]; exact h3 j hj
    · intro a ha; rw [setR_k (by omega)]; exact h4 a ha
    · intro a ha; rw [setR_k (by omega)]; exact h5 a ha
    · intro a ha
      have ha' : a < mN σ := ha
      rw [setR_k (by omega)]
      refine ⟨(h6 a ha').1, fun c hc => ?_⟩
      show _ = nI ((if a < i + 1 then capx (mG σ a) (w * mS σ 0) else mG σ a) c)
      by_cases e : a = i
      · subst e
        rw [setR_in hc, if_pos (by omega)]
      · rw [setR_k (by omega), (h6 a ha').2 c hc]
        show nI ((if a < i then capx (mG σ a) (w * mS σ 0) else mG σ a) c) = _
        by_cases z : a < i
        · rw [if_pos z, if_pos (by omega)]
        · rw [if_neg z, if_neg (by omega)]
    · intro u hu
      have hu' : u < mW σ := hu
      have := hw.2.1.2
      rw [setR_k (by omega), setR_k (by omega)]
      exact h7 u hu'
    · intro a ha
      rw [setR_k (by omega)]
      exact hF a ha) fu 0 M (by omega) (by omega) ⟨by
        have e : grP σ (w * mS σ 0) 0 = σ := by
          unfold grP wG
          simp
        rw [e]; exact h, Fr.rf⟩
  exact ⟨M', e, hI.1, hI.2⟩
end CL
