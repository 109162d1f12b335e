/-- where the image's place x is carried from -/
def cr (b x : Nat) : Nat := if x < 9 then b + 2 else if x < 144 then b + 3 else if x < 150 then b + 4 else if x < 154 then b + 5 else if x < 190 then b + 6 else b + 7
def ci (x : Nat) : Nat := if x < 9 then x else if x < 144 then x - 9 else if x < 150 then x - 144 else if x < 154 then x - 150 else if x < 190 then x - 154 else x - 190
theorem up_self {M : Mem} {k j : Nat} : up M k j (M k j) = M := by
  funext a c
  by_cases e : a = k
  · subst e
    by_cases z : c = j
    · subst z; rw [up_at]
    · rw [up_j z]
  · rw [up_k e]
theorem crx {b x : Nat} (h : x < 270) : (x < 9 ∧ cr b x = b + 2 ∧ ci x = x) ∨ (9 ≤ x ∧ x < 144 ∧ cr b x = b + 3 ∧ ci x = x - 9) ∨ (144 ≤ x ∧ x < 150 ∧ cr b x = b + 4 ∧ ci x = x - 144) ∨ (150 ≤ x ∧ x < 154 ∧ cr b x = b + 5 ∧ ci x = x - 150) ∨ (154 ≤ x ∧ x < 190 ∧ cr b x = b + 6 ∧ ci x = x - 154) ∨ (190 ≤ x ∧ cr b x = b + 7 ∧ ci x = x - 190) := by
  unfold cr ci
  by_cases h1 : x < 9
  · rw [if_pos h1, if_pos h1]; exact Or.inl ⟨h1, rfl, rfl⟩
  · rw [if_neg h1, if_neg h1]
    by_cases h2 : x < 144
    · rw [if_pos h2, if_pos h2]; exact Or.inr (Or.inl ⟨by omega, h2, rfl, rfl⟩)
    · rw [if_neg h2, if_neg h2]
      by_cases h3 : x < 150
      · rw [if_pos h3, if_pos h3]; exact Or.inr (Or.inr (Or.inl ⟨by omega, h3, rfl, rfl⟩))
      · rw [if_neg h3, if_neg h3]
        by_cases h4 : x < 154
        · rw [if_pos h4, if_pos h4]; exact Or.inr (Or.inr (Or.inr (Or.inl ⟨by omega, h4, rfl, rfl⟩)))
        · rw [if_neg h4, if_neg h4]
          by_cases h5 : x < 190
          · rw [if_pos h5, if_pos h5]; exact Or.inr (Or.inr (Or.inr (Or.inr (Or.inl ⟨by omega, h5, rfl, rfl⟩))))
          · rw [if_neg h5, if_neg h5]; exact Or.inr (Or.inr (Or.inr (Or.inr (Or.inr ⟨by omega, rfl, rfl⟩))))
theorem crci {b x y : Nat} (hx : x < 270) (hy : y < 270) (h : x ≠ y) : ¬ (cr b x = cr b y ∧ ci x = ci y) := by
  rintro ⟨e1, e2⟩
  rcases crx (b := b) hx with a | a | a | a | a | a <;> rcases crx (b := b) hy with c | c | c | c | c | c <;> omega
theorem cr_in {b x : Nat} (h : x < 270) : b + 2 ≤ cr b x ∧ cr b x ≤ b + 7 := by
  rcases crx (b := b) h with a | a | a | a | a | a <;> omega
theorem carb0 {M : Mem} {k n j : Nat} {v : Int32} (hj : j < n) (hn : n < 1000) : ((if (0 : Int32) = 0 then gd (inb (nI j) n) (some (M k (nI j).toNatClampNeg)) else some v).bind fun t => gd (inb (nI j) n) (lt (up M k (nI j).toNatClampNeg t) fun M5 => gd (inb (nI j) n) (some (M5 k (nI j).toNatClampNeg, M5)))) = some (M k j, M) := by
  unfold lt
  rw [if_pos rfl, gd_t (q_ib (by omega) hj), bd_s, gd_t (q_ib (by omega) hj)]
  show gd _ _ = _
  rw [gd_t (q_ib (by omega) hj), q_cl (by omega), up_self]
theorem carb1 {M : Mem} {k n j : Nat} {v : Int32} (hj : j < n) (hn : n < 1000) : ((if (1 : Int32) = 0 then gd (inb (nI j) n) (some (M k (nI j).toNatClampNeg)) else some v).bind fun t => gd (inb (nI j) n) (lt (up M k (nI j).toNatClampNeg t) fun M5 => gd (inb (nI j) n) (some (M5 k (nI j).toNatClampNeg, M5)))) = some (v, up M k j v) := by
  unfold lt
  rw [if_neg one0, bd_s, gd_t (q_ib (by omega) hj)]
  show gd _ _ = _
  rw [gd_t (q_ib (by omega) hj), q_cl (by omega), up_at]
theorem ad9 {x c : Nat} (h : c ≤ x) : nI x + -(nI c) = nI (x - c) := by rw [← Int32.sub_eq_add_neg, q_sb h]
section PUB
variable {fu b : Nat} {M : Mem} {s : Sg}
theorem car0 {x : Nat} {v : Int32} (hx : x < 270) : f_X8_carried M b (nI x) v 0 = some (M (cr b x) (ci x), M) := by
  unfold f_X8_carried
  by_cases g9 : x < 9
  · rw [(show cr b x = b + 2 by rcases crx (b := b) hx with a | a | a | a | a | a <;> omega), (show ci x = x by rcases crx (b := b) hx with a | a | a | a | a | a <;> omega), if_neg (by rw [li_9, q_le (by omega) (by omega)]; omega)]
    exact carb0 (n := 9) (j := x) (by omega) (by omega)
  · rw [if_pos (by rw [li_9, q_le (by omega) (by omega)]; omega)]
    have e9 : nI (x) + (-9) = nI (x - 9) := by
      rw [li_9, ad9 (by omega)]
    rw [e9]
    rw [lt]
    by_cases g144 : x < 144
    · rw [(show cr b x = b + 3 by rcases crx (b := b) hx with a | a | a | a | a | a <;> omega), (show ci x = x - 9 by rcases crx (b := b) hx with a | a | a | a | a | a <;> omega), if_neg (by rw [li_135, q_le (by omega) (by omega)]; omega)]
      exact carb0 (n := 135) (j := x - 9) (by omega) (by omega)
    · rw [if_pos (by rw [li_135, q_le (by omega) (by omega)]; omega)]
      have e144 : nI (x - 9) + (-135) = nI (x - 144) := by
        rw [li_135, ad9 (by omega), show x - 9 - 135 = x - 144 by omega]
      rw [e144]
      rw [lt]
      by_cases g150 : x < 150
      · rw [(show cr b x = b + 4 by rcases crx (b := b) hx with a | a | a | a | a | a <;> omega), (show ci x = x - 144 by rcases crx (b := b) hx with a | a | a | a | a | a <;> omega), if_neg (by rw [li_6, q_le (by omega) (by omega)]; omega)]
        exact carb0 (n := 6) (j := x - 144) (by omega) (by omega)
      · rw [if_pos (by rw [li_6, q_le (by omega) (by omega)]; omega)]
        have e150 : nI (x - 144) + (-6) = nI (x - 150) := by
          rw [li_6, ad9 (by omega), show x - 144 - 6 = x - 150 by omega]
        rw [e150]
        rw [lt]
        by_cases g154 : x < 154
        · rw [(show cr b x = b + 5 by rcases crx (b := b) hx with a | a | a | a | a | a <;> omega), (show ci x = x - 150 by rcases crx (b := b) hx with a | a | a | a | a | a <;> omega), if_neg (by rw [li_4, q_le (by omega) (by omega)]; omega)]
          exact carb0 (n := 4) (j := x - 150) (by omega) (by omega)
        · rw [if_pos (by rw [li_4, q_le (by omega) (by omega)]; omega)]
          have e154 : nI (x - 150) + (-4) = nI (x - 154) := by
            rw [li_4, ad9 (by omega), show x - 150 - 4 = x - 154 by omega]
          rw [e154]
          rw [lt]
          by_cases g190 : x < 190
          · rw [(show cr b x = b + 6 by rcases crx (b := b) hx with a | a | a | a | a | a <;> omega), (show ci x = x - 154 by rcases crx (b := b) hx with a | a | a | a | a | a <;> omega), if_neg (by rw [li_36, q_le (by omega) (by omega)]; omega)]
            exact carb0 (n := 36) (j := x - 154) (by omega) (by omega)
          · rw [if_pos (by rw [li_36, q_le (by omega) (by omega)]; omega)]
            have e190 : nI (x - 154) + (-36) = nI (x - 190) := by
              rw [li_36, ad9 (by omega), show x - 154 - 36 = x - 190 by omega]
            rw [e190]
            rw [lt]
            rw [(show cr b x = b + 7 by rcases crx (b := b) hx with a | a | a | a | a | a <;> omega), (show ci x = x - 190 by rcases crx (b := b) hx with a | a | a | a | a | a <;> omega)]
            exact carb0 (n := 80) (j := x - 190) (by omega) (by omega)
theorem car1 {x : Nat} {v : Int32} (hx : x < 270) : f_X8_carried M b (nI x) v 1 = some (v, up M (cr b x) (ci x) v) := by
  unfold f_X8_carried
  by_cases g9 : x < 9
  · rw [(show cr b x = b + 2 by rcases crx (b := b) hx with a | a | a | a | a | a <;> omega), (show ci x = x by rcases crx (b := b) hx with a | a | a | a | a | a <;> omega), if_neg (by rw [li_9, q_le (by omega) (by omega)]; omega)]
    exact carb1 (n := 9) (j := x) (by omega) (by omega)
  · rw [if_pos (by rw [li_9, q_le (by omega) (by omega)]; omega)]
    have e9 : nI (x) + (-9) = nI (x - 9) := by
      rw [li_9, ad9 (by omega)]
    rw [e9]
    rw [lt]
    by_cases g144 : x < 144
    · rw [(show cr b x = b + 3 by rcases crx (b := b) hx with a | a | a | a | a | a <;> omega), (show ci x = x - 9 by rcases crx (b := b) hx with a | a | a | a | a | a <;> omega), if_neg (by rw [li_135, q_le (by omega) (by omega)]; omega)]
      exact carb1 (n := 135) (j := x - 9) (by omega) (by omega)
    · rw [if_pos (by rw [li_135, q_le (by omega) (by omega)]; omega)]
      have e144 : nI (x - 9) + (-135) = nI (x - 144) := by
        rw [li_135, ad9 (by omega), show x - 9 - 135 = x - 144 by omega]
      rw [e144]
      rw [lt]
      by_cases g150 : x < 150
      · rw [(show cr b x = b + 4 by rcases crx (b := b) hx with a | a | a | a | a | a <;> omega), (show ci x = x - 144 by rcases crx (b := b) hx with a | a | a | a | a | a <;> omega), if_neg (by rw [li_6, q_le (by omega) (by omega)]; omega)]
        exact carb1 (n := 6) (j := x - 144) (by omega) (by omega)
      · rw [if_pos (by rw [li_6, q_le (by omega) (by omega)]; omega)]
        have e150 : nI (x - 144) + (-6) = nI (x - 150) := by
          rw [li_6, ad9 (by omega), show x - 144 - 6 = x - 150 by omega]
        rw [e150]
        rw [lt]
        by_cases g154 : x < 154
        · rw [(show cr b x = b + 5 by rcases crx (b := b) hx with a | a | a | a | a | a <;> omega), (show ci x = x - 150 by rcases crx (b := b) hx with a | a | a | a | a | a <;> omega), if_neg (by rw [li_4, q_le (by omega) (by omega)]; omega)]
          exact carb1 (n := 4) (j := x - 150) (by omega) (by omega)
        · rw [if_pos (by rw [li_4, q_le (by omega) (by omega)]; omega)]
          have e154 : nI (x - 150) + (-4) = nI (x - 154) := by
            rw [li_4, ad9 (by omega), show x - 150 - 4 = x - 154 by omega]
          rw [e154]
          rw [lt]
          by_cases g190 : x < 190
          · rw [(show cr b x = b + 6 by rcases crx (b := b) hx with a | a | a | a | a | a <;> omega), (show ci x = x - 154 by rcases crx (b := b) hx with a | a | a | a | a | a <;> omega), if_neg (by rw [li_36, q_le (by omega) (by omega)]; omega)]
            exact carb1 (n := 36) (j := x - 154) (by omega) (by omega)
          · rw [if_pos (by rw [li_36, q_le (by omega) (by omega)]; omega)]
            have e190 : nI (x - 154) + (-36) = nI (x - 190) := by
              rw [li_36, ad9 (by omega), show x - 154 - 36 = x - 190 by omega]
            rw [e190]
            rw [lt]
            rw [(show cr b x = b + 7 by rcases crx (b := b) hx with a | a | a | a | a | a <;> omega), (show ci x = x - 190 by rcases crx (b := b) hx with a | a | a | a | a | a <;> omega)]
            exact carb1 (n := 80) (j := x - 190) (by omega) (by omega)
end PUB
