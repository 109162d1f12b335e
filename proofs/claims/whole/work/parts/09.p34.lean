theorem and255 (x : Int64) : (x &&& (255 : Int64)).toInt = (byv x : Int) := by
  have h : (x &&& (255 : Int64)).toBitVec.toNat = byv x := by
    show (x.toBitVec &&& (255 : Int64).toBitVec).toNat = _
    rw [BitVec.toNat_and]
    exact Nat.and_two_pow_sub_one_eq_mod x.toBitVec.toNat 8
  show (x &&& (255 : Int64)).toBitVec.toInt = _
  have hb : byv x < 256 := Nat.mod_lt _ (by decide)
  rw [BitVec.toInt_eq_toNat_of_lt (by rw [h]; omega), h]
theorem and255n (x : Int64) : (x &&& (255 : Int64)).toInt32 = nI (byv x) := by
  have hb : byv x < 256 := Nat.mod_lt _ (by decide)
  apply Int32.toInt_inj.mp
  rw [Int64.toInt_toInt32, and255, nI_toInt (by omega), Int.bmod_def]
  split <;> omega
theorem alf_s {P : Nat → Bool} {k i : Nat} : alf P (k + 1) i = (alf P k i && P (i + k)) := by
  apply Bool.eq_iff_iff.mpr
  rw [Bool.and_eq_true, alf_iff, alf_iff]
  constructor
  · intro h
    exact ⟨fun j h1 h2 => h j h1 (by omega), h _ (by omega) (by omega)⟩
  · rintro ⟨h1, h2⟩ j h3 h4
    by_cases e : j = i + k
    · rw [e]; exact h2
    · exact h1 j h3 (by omega)
section PUB
variable {fu b : Nat} {M : Mem} {s : Sg}
theorem RM.tp {M1 : Mem} {t : Nat × (Nat → Nat)} (h : RM b M s) (hF : ∀ a, b + 1 ≤ a → a ≠ b + 8 → a ≠ b + 9 → M1 a = M a) (hb : ∀ j, j ≠ 10 → j ≠ 11 → j ≠ 12 → M1 b j = M b j) (ht : TpM b M1 t) (hw : t.1 ≤ 80 ∧ ∀ j, j < t.1 → 32 ≤ t.2 j ∧ t.2 j ≤ 126) : RM b M1 (wTp s t) := by
  obtain ⟨w, m, k, _, z⟩ := h
  refine ⟨⟨w.1, w.2.1, hw, w.2.2.2⟩, m.frame (hb 7 (by omega) (by omega) (by omega)) (hb 8 (by omega) (by omega) (by omega)) (fun a h1 h2 => hF a h1 (by omega) (by omega)), k.frame (hb 21 (by omega) (by omega) (by omega)) (hF _ (by omega) (by omega) (by omega)) (hF _ (by omega) (by omega) (by omega)), ht, fun q hq => ?_⟩
  rw [hF (b + 18) (by omega) (by omega) (by omega), hF (b + 19) (by omega) (by omega) (by omega), hF (b + 20) (by omega) (by omega) (by omega)]
  exact z q hq
theorem mtyp {w : Int64} {a3 : Int32} {K : Unit → Option (Int32 × Mem)} {k0 : Nat} : ∀ i n, i < n → i ≤ 8 → lp_X8_type_19 fu M k0 w a3 K n (nI i - 1) = if alf (okb w) i 0 = true then K () else some (-1, M) := by
  intro i
  induction i with
  | zero =>
    intro n hn _
    obtain ⟨m, rfl⟩ : ∃ m, n = m + 1 := ⟨n - 1, by omega⟩
    rw [lp_X8_type_19, if_pos (by decide)]
    rfl
  | succ i ih =>
    intro n hn hi
    obtain ⟨m, rfl⟩ : ∃ m, n = m + 1 := ⟨n - 1, by omega⟩
    have e0 : nI (i + 1) - 1 = nI i := by rw [li_1, q_sb (by omega), Nat.add_sub_cancel]
    rw [e0, lp_X8_type_19, if_neg (nI_pos (by omega)), in_i]
    have e1 : ((w >>> ((((8 : Int32) * nI i)).toInt64 &&& 63)) &&& (255 : Int64)).toInt = (byv (shx w i) : Int) := and255 (shx w i)
    have e2 : (32 : Int64).toInt = 32 := by decide
    have e3 : (126 : Int64).toInt = 126 := by decide
    have e4 : alf (okb w) (i + 1) 0 = (alf (okb w) i 0 && okb w i) := by rw [alf_s, Nat.zero_add]
    have e5 : nI i + (-1) = nI i - 1 := by rw [Int32.sub_eq_add_neg]
    rw [e1, e2, e3, bd_s, e4]
    by_cases z : 32 ≤ byv (shx w i) ∧ byv (shx w i) ≤ 126
    · have z1 : okb w i = true := decide_eq_true z
      have c1 : (32 : Int) ≤ (byv (shx w i) : Int) ∧ (byv (shx w i) : Int) ≤ 126 := by omega
      rw [if_pos c1, if_neg one0, z1, Bool.and_true]
      simp only [lt]
      rw [e5]
      exact ih m (by omega) (by omega)
    · have z1 : okb w i = false := decide_eq_false z
      have c1 : ¬ ((32 : Int) ≤ (byv (shx w i) : Int) ∧ (byv (shx w i) : Int) ≤ 126) := by omega
      rw [if_neg c1, if_pos rfl, z1, Bool.and_false, if_neg Bool.false_ne_true]
theorem X8_type_ (hf : 50 ≤ fu) (h : RM b M s) (w : Int64) (a : Int32) : ∃ M', f_X8_type fu M b w a = some ((sp_type s w a).1, M') ∧ RM b M' (sp_type s w a).2 := by
  obtain ⟨t80, tOk⟩ := h.1.2.2.1
  obtain ⟨u1, u2⟩ := h.2.2.2.1
  have e1 : (1 : Int64).toInt = 1 := by decide
  have e8 : (8 : Int64).toInt = 8 := by decide
  unfold f_X8_type sp_type
  rcases rg a 9 (by omega) with ⟨n, hn, rfl⟩ | ha
  · rw [ifr_t hn (by omega)]
    by_cases n0 : n = 0
    · subst n0
      rw [if_pos rfl, in_f (by rw [e1, nI_toInt (by omega)]; omega), bd_s, if_pos rfl]
      exact ⟨M, rfl, h⟩
    · rw [if_neg n0, in_t (by rw [e1, nI_toInt (by omega)]; omega) (by rw [e8, nI_toInt (by omega)]; omega), bd_s, if_neg one0]
      simp only [lt]
      rw [mtyp n fu (by omega) (by omega)]
      by_cases ok : alf (okb w) n 0 = true
      · rw [if_pos ok, if_pos ok, u1, li_80, q_ad]
        by_cases fit : s.2.2.1.1 + n ≤ 80
        · rw [if_pos (by rw [q_le (by omega) (by omega)]; omega), if_pos fit]
          have okj := (alf_iff n 0).mp ok
          obtain ⟨M', e, hI⟩ := cntD (fun m x Mx => lp_X8_type_74 fu b w (fun M8 => some (M8 b 10, M8)) m x Mx) (fun i Mx => i ≤ n ∧ (∀ a, (a ≠ b ∧ a ≠ b + 8) → Mx a = M a) ∧ (∀ j, j ≠ 10 → Mx b j = M b j) ∧ Mx b 10 = nI (s.2.2.1.1 + (n - i)) ∧ ∀ j, j < s.2.2.1.1 + (n - i) → Mx (b + 8) j = nI ((tyT s.2.2.1 w n).2 j)) (fun Mx => some (Mx b 10, Mx)) (fun m Mx _ => by
            show lp_X8_type_74 _ _ _ _ (m + 1) _ _ = _
            rw [lp_X8_type_74, if_pos (by decide)]) (fun m i Mx hI => by
            obtain ⟨i1, i2, i2b, i3, i4⟩ := hI
            have e : (((w >>> ((((8 : Int32) * nI i)).toInt64 &&& 63)) &&& (255 : Int64))).toInt32 = nI (byv (shx w i)) := and255n (shx w i)
            have e5 : s.2.2.1.1 + (n - (i + 1)) + 1 = s.2.2.1.1 + (n - i) := by omega
            refine ⟨up (up Mx (b + 8) (s.2.2.1.1 + (n - (i + 1))) (nI (byv (shx w i)))) b 10 (nI (s.2.2.1.1 + (n - i))), ?_, by omega, fun a ha => by rw [up_k ha.1, up_k ha.2]; exact i2 a ha, fun j hj => by rw [up_j hj, up_k (by omega)]; exact i2b j hj, by rw [up_at], fun j hj => ?_⟩
            · show lp_X8_type_74 _ _ _ _ (m + 1) _ _ = lp_X8_type_74 _ _ _ _ m _ _
              rw [lp_X8_type_74, if_neg (nI_pos (by omega)), i3, gd_t (q_ib (by omega) (by omega)), e, q_cl (by omega)]
              simp only [lt]
              rw [up_k (by omega), i3, nI_1, e5]
            · rw [up_k (by omega)]
              by_cases z : j = s.2.2.1.1 + (n - (i + 1))
              · subst z
                rw [up_at]
                show _ = nI (if _ then _ else _)
                rw [if_pos ⟨by omega, by omega⟩]
                congr 3
                omega
              · rw [up_j z]
                exact i4 j (by omega)) n fu M (by omega) ⟨Nat.le_refl n, fun _ _ => rfl, fun _ _ => rfl, by rw [Nat.sub_self]; exact u1, fun j hj => by
              rw [Nat.sub_self] at hj
              show _ = nI (if _ then _ else _)
              rw [if_neg (by omega)]
              exact u2 j hj⟩
          obtain ⟨-, i2, i2b, i3, i4⟩ := hI
          rw [Nat.sub_zero] at i3 i4
          refine ⟨M', ?_, h.tp (fun a h1 h2 h3 => i2 a ⟨by omega, by omega⟩) (fun j h1 _ _ => i2b j h1) ⟨i3, i4⟩ ⟨fit, fun j hj => ?_⟩⟩
          · rw [e, i3]
          · show 32 ≤ (if _ then _ else _) ∧ (if _ then _ else _) ≤ 126
            by_cases z : s.2.2.1.1 ≤ j ∧ j < s.2.2.1.1 + n
            · rw [if_pos z]
              exact of_decide_eq_true (okj _ (by omega) (by omega))
            · rw [if_neg z]
              have hj' : j < s.2.2.1.1 + n := hj
              exact tOk j (by omega)
        · rw [if_neg (by rw [q_le (by omega) (by omega)]; omega), if_neg fit]
          exact ⟨M, rfl, h⟩
      · rw [if_neg ok, if_neg ok]
        exact ⟨M, rfl, h⟩
  · have hr := rg_no (by omega) ha
    rw [ifr_f (by omega) ha, in_f (by rw [e1, e8]; omega), bd_s, if_pos rfl]
    exact ⟨M, rfl, h⟩
end PUB
