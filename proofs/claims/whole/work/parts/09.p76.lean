/-- the first state: settings, nothing else -/
def σ0 : Md := (fun j => [2, 2, 3, 1].getD j 0, 0, fun _ => 0, fun _ _ => 0, 0, fun _ => 0, fun _ => 0, fun _ _ => 0, fun _ _ => false, fun _ => 0)
def Z0 : Sg := (σ0, none, (0, fun _ => 0), (fun _ => 3, fun _ => 0, fun _ _ => 0))
theorem WfS_0 : WfS Z0 := by
  refine ⟨⟨⟨by decide, by decide, by decide, by decide⟩, ⟨by decide, by decide⟩, fun i hi => absurd hi (Nat.not_lt_zero i), fun w hw => absurd hw (Nat.not_lt_zero w), fun _ _ => rfl, fun _ => rfl⟩, fun σk h => (by cases h), ⟨by decide, fun j hj => absurd hj (Nat.not_lt_zero j)⟩, fun q hq => ⟨Nat.le_refl 3, Nat.zero_le _⟩⟩
theorem M0_2 : M0 2 = vFs := by
  funext j
  unfold M0
  rw [if_neg (by decide +kernel), if_neg (by decide +kernel), if_neg (by decide +kernel), if_pos (by decide +kernel)]
theorem M0_i {a j : Nat} {c : Nat} (h : M0 a = fun _ => 0) (hc : c = 0) : M0 a j = nI c := by
  subst hc
  rw [h]
  rfl
theorem s4 {j : Nat} (hj : j < 4) : vFs j = nI (mS σ0 j) := by
  rcases (show j = 0 ∨ j = 1 ∨ j = 2 ∨ j = 3 by omega) with rfl | rfl | rfl | rfl <;> rfl
theorem RC_0 : RC 0 M0 Z0 := by
  refine ⟨WfS_0, ⟨⟨?_, ?_⟩, ?_, ?_, ?_, fun i hi => absurd hi (Nat.not_lt_zero i), fun w hw => absurd hw (Nat.not_lt_zero w)⟩, ?_, ⟨?_, fun j hj => absurd hj (Nat.not_lt_zero j)⟩, fun q hq => ?_, ?_⟩
  · exact M0_i (a := 1) (M0z (by decide +kernel) (by decide +kernel) (by decide +kernel) (by decide +kernel) (by decide +kernel) (by decide +kernel) (by decide +kernel)) rfl
  · exact M0_i (a := 1) (M0z (by decide +kernel) (by decide +kernel) (by decide +kernel) (by decide +kernel) (by decide +kernel) (by decide +kernel) (by decide +kernel)) rfl
  · intro j hj
    show M0 2 j = _
    rw [M0_2]
    exact s4 hj
  · intro a ha
    refine M0_i (a := 5) (M0z (by decide +kernel) (by decide +kernel) (by decide +kernel) (by decide +kernel) (by decide +kernel) (by decide +kernel) (by decide +kernel)) ?_
    rfl
  · intro a ha
    show M0 6 a = 0
    rw [show M0 6 = fun _ => 0 from M0z (by decide +kernel) (by decide +kernel) (by decide +kernel) (by decide +kernel) (by decide +kernel) (by decide +kernel) (by decide +kernel)]
  · show M0 0 2 = 0
    rw [show M0 0 = fun _ => 0 from M0z (by decide +kernel) (by decide +kernel) (by decide +kernel) (by decide +kernel) (by decide +kernel) (by decide +kernel) (by decide +kernel)]
  · exact M0_i (a := 158) (M0z (by decide +kernel) (by decide +kernel) (by decide +kernel) (by decide +kernel) (by decide +kernel) (by decide +kernel) (by decide +kernel)) rfl
  · have h1 := (by decide +kernel : ∀ q, q < 4 → kd (0 + 170 + 1 + 2 * q) = 7) q hq
    have h2 := (by decide +kernel : ∀ q, q < 4 → kd (0 + 170 + 1 + 2 * q + 1) = 10) q hq
    refine ⟨?_, ?_, fun j hj => ?_⟩
    · unfold M0
      rw [if_neg (by rw [h1]; decide), if_pos h1]
      rfl
    · unfold M0
      rw [if_neg (by rw [h1]; decide), if_pos h1]
      rfl
    · show M0 (0 + 170 + 1 + 2 * q + 1) j = 0
      rw [show M0 (0 + 170 + 1 + 2 * q + 1) = fun _ => 0 from M0z (by rw [h2]; decide) (by rw [h2]; decide) (by rw [h2]; decide) (by omega) (by omega) (by omega) (by omega)]
  · intro l f hl hf h1
    exfalso
    have e : M0 (0 + 102) 3 = -4 := by
      unfold M0
      rw [if_neg (by decide +kernel), if_neg (by decide +kernel), if_pos (by decide +kernel)]
      rfl
    rw [e] at h1
    have h2 := congrArg Int32.toInt h1
    rw [nI_toInt (by omega)] at h2
    have h3 : ((-4 : Int32)).toInt = -4 := by decide
    omega
theorem RgC_0 : RgC (0 + 102) L0 := by
  intro i hi k hk
  show L0 (0 + 102 + 1 + 1 + i) k = _
  unfold L0
  rw [if_pos (by omega), show 0 + 102 + 1 + 1 + i - 104 = i by omega]
theorem RM_0 : RM 179 M0 Z0 := by
  refine ⟨WfS_0, ⟨⟨?_, ?_⟩, ?_, fun i hi => absurd hi (Nat.not_lt_zero i), ?_, ?_, ?_, fun w hw => absurd hw (Nat.not_lt_zero w)⟩, ?_, ⟨?_, fun j hj => absurd hj (Nat.not_lt_zero j)⟩, fun q hq => ⟨?_, ?_, fun j hj => ?_⟩⟩
  · exact M0_i (a := 179) (M0z (by decide +kernel) (by decide +kernel) (by decide +kernel) (by decide +kernel) (by decide +kernel) (by decide +kernel) (by decide +kernel)) rfl
  · exact M0_i (a := 179) (M0z (by decide +kernel) (by decide +kernel) (by decide +kernel) (by decide +kernel) (by decide +kernel) (by decide +kernel) (by decide +kernel)) rfl
  · intro l hl
    show M0 180 l = _
    rw [M0_180]
    exact v26_ l hl
  · intro a ha
    show M0 183 a = 0
    rw [show M0 183 = fun _ => 0 from M0z (by decide +kernel) (by decide +kernel) (by decide +kernel) (by decide +kernel) (by decide +kernel) (by decide +kernel) (by decide +kernel)]
  · intro j hj
    show M0 184 j = _
    rw [M0_184]
    exact s4 hj
  · intro a c ha hc
    exact M0_i (a := 185) (M0z (by decide +kernel) (by decide +kernel) (by decide +kernel) (by decide +kernel) (by decide +kernel) (by decide +kernel) (by decide +kernel)) rfl
  · show M0 179 21 = 0
    rw [show M0 179 = fun _ => 0 from M0z (by decide +kernel) (by decide +kernel) (by decide +kernel) (by decide +kernel) (by decide +kernel) (by decide +kernel) (by decide +kernel)]
  · exact M0_i (a := 179) (M0z (by decide +kernel) (by decide +kernel) (by decide +kernel) (by decide +kernel) (by decide +kernel) (by decide +kernel) (by decide +kernel)) rfl
  · show M0 197 q = _
    rw [M0_197]
    unfold vMi
    rw [if_pos hq]
    rfl
  · exact M0_i (a := 198) (M0z (by decide +kernel) (by decide +kernel) (by decide +kernel) (by decide +kernel) (by decide +kernel) (by decide +kernel) (by decide +kernel)) rfl
  · show M0 199 _ = 0
    rw [show M0 199 = fun _ => 0 from M0z (by decide +kernel) (by decide +kernel) (by decide +kernel) (by decide +kernel) (by decide +kernel) (by decide +kernel) (by decide +kernel)]
theorem LI_0 : LI Z0 M0 L0 M0 := ⟨RC_0, RgC_0, RM_0⟩
