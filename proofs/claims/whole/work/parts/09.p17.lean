/-! the tape: what is typed -/
def cb (x : Int64) : Int32 := x.toInt32.toInt8.toInt32
theorem cb_i (x : Int64) : (cb x).toInt = (x.toBitVec.toNat : Int).bmod 256 := by
  unfold cb
  rw [Int8.toInt_toInt32, Int32.toInt_toInt8, Int64.toInt_toInt32, Int.bmod_bmod_of_dvd (by decide)]
  show (x.toBitVec.toInt).bmod 256 = _
  rw [BitVec.toInt_eq_toNat_bmod, Int.bmod_bmod_of_dvd (by decide)]
def byv (x : Int64) : Nat := x.toBitVec.toNat % 256
theorem cb_lo {x : Int64} (h : byv x < 128) : cb x = nI (byv x) := by
  apply Int32.toInt_inj.mp
  rw [cb_i, nI_toInt (by omega)]
  unfold byv at h ⊢
  rw [Int.bmod_def]
  split <;> omega
theorem cb_hi {x : Int64} (h : 128 ≤ byv x) : cb x < 32 := by
  rw [Int32.lt_iff_toInt_lt, cb_i]
  unfold byv at h
  have : (32 : Int32).toInt = 32 := by decide
  rw [this, Int.bmod_def]
  split <;> omega
theorem cb_cb {x : Int64} : (cb x).toInt8.toInt32 = cb x := by
  apply Int32.toInt_inj.mp
  rw [Int8.toInt_toInt32, Int32.toInt_toInt8, cb_i, Int.bmod_bmod]
def shx (w : Int64) (i : Nat) : Int64 := w >>> ((((8 : Int32) * nI i)).toInt64 &&& 63)
def okb (w : Int64) (i : Nat) : Bool := decide (32 ≤ byv (shx w i) ∧ byv (shx w i) ≤ 126)
/-- the tape with n bytes of w behind it -/
def tyT (t : Nat × (Nat → Nat)) (w : Int64) (n : Nat) : Nat × (Nat → Nat) := (t.1 + n, fun j => if t.1 ≤ j ∧ j < t.1 + n then byv (shx w (t.1 + n - 1 - j)) else t.2 j)
def wTp (s : Sg) (t : Nat × (Nat → Nat)) : Sg := (s.1, s.2.1, t, s.2.2.2)
def sp_type (s : Sg) (w : Int64) (a : Int32) : Int32 × Sg := ifr a 9 (fun n => if n = 0 then (-1, s) else if alf (okb w) n 0 = true then (if s.2.2.1.1 + n ≤ 80 then (nI (s.2.2.1.1 + n), wTp s (tyT s.2.2.1 w n)) else (-3, s)) else (-1, s)) (-1, s)
theorem RC.tp {o : Nat} {M M1 : Mem} {s : Sg} {t : Nat × (Nat → Nat)} (h : RC o M s) (hF : ∀ a, (a < o + 89 ∨ (o + 102 ≤ a ∧ a < o + 158) ∨ o + 170 ≤ a) → M1 a = M a) (ht : TpC o M1 t) (hw : t.1 ≤ 80 ∧ ∀ j, j < t.1 → 32 ≤ t.2 j ∧ t.2 j ≤ 126) : RC o M1 (wTp s t) := by
  obtain ⟨w, m, k, _, z, od⟩ := h
  refine ⟨⟨w.1, w.2.1, hw, w.2.2.2⟩, m.frame (fun a h1 h2 => hF a (by omega)) w.1, k.frame w (hF o (by omega)) (fun a h1 h2 => hF a (by omega)), ht, fun q hq => ?_, od.frame (fun a h1 h2 => hF a (by omega))⟩
  rw [hF _ (by omega), hF _ (by omega)]
  exact z q hq
section PUB
variable {fu o : Nat} {M : Mem} {s : Sg}
theorem app1 {w : Int64} {n : Nat} {K : Unit → Option (Int32 × Mem)} {k0 : Nat} (hf : 50 ≤ fu) (hn : n ≤ 8) : lp_X5_append_3 fu M k0 w (nI n) K fu (0 : Int32) = if alf (okb w) n 0 = true then K () else some (-1, M) := by
  have key := cnte (fun m i => lp_X5_append_3 fu M k0 w (nI n) K m (nI i)) (okb w) (K ()) (some (-1, M)) n (fun m => by
    show lp_X5_append_3 _ _ _ _ _ _ (m + 1) _ = _
    rw [lp_X5_append_3, if_pos (by rw [q_le (by omega) (by omega)]; omega)]) (fun m i hi hp => by
    have ho : 32 ≤ byv (shx w i) ∧ byv (shx w i) ≤ 126 := of_decide_eq_true hp
    have e : ((((w >>> ((((8 : Int32) * nI i)).toInt64 &&& 63))).toInt32).toInt8.toInt32) = nI (byv (shx w i)) := cb_lo (x := shx w i) (by omega)
    show lp_X5_append_3 _ _ _ _ _ _ (m + 1) _ = lp_X5_append_3 _ _ _ _ _ _ m _
    rw [lp_X5_append_3, if_neg (by rw [q_le (by omega) (by omega)]; omega), e]
    simp only [lt]
    rw [li_32, li_126, if_neg (by rw [q_lt (by omega) (by omega)]; omega), if_pos (by rw [q_le (by omega) (by omega)]; omega), nI_1]) (fun m i hi hp => by
    have ho : ¬ (32 ≤ byv (shx w i) ∧ byv (shx w i) ≤ 126) := of_decide_eq_false hp
    show lp_X5_append_3 _ _ _ _ _ _ (m + 1) _ = _
    rw [lp_X5_append_3, if_neg (by rw [q_le (by omega) (by omega)]; omega)]
    simp only [lt]
    by_cases h1 : byv (shx w i) < 128
    · have e : ((((w >>> ((((8 : Int32) * nI i)).toInt64 &&& 63))).toInt32).toInt8.toInt32) = nI (byv (shx w i)) := cb_lo (x := shx w i) h1
      rw [e, li_32, li_126]
      by_cases h2 : byv (shx w i) < 32
      · rw [if_pos (by rw [q_lt (by omega) (by omega)]; omega)]
      · rw [if_neg (by rw [q_lt (by omega) (by omega)]; omega), if_neg (by rw [q_le (by omega) (by omega)]; omega)]
    · exact if_pos (cb_hi (x := shx w i) (by omega))) fu 0 (by omega) (by omega)
  rw [Nat.sub_zero] at key
  exact key
/-- a counter that goes down to -1 -/
theorem cntD {R : Type} (f : Nat → Int32 → Mem → R) (I : Nat → Mem → Prop) (out : Mem → R) (h1 : ∀ n M, I 0 M → f (n + 1) (-1) M = out M) (h2 : ∀ n i M, I (i + 1) M → ∃ M', f (n + 1) (nI i) M = f n (nI i + (-1)) M' ∧ I i M') : ∀ i n M, i < n → I i M → ∃ M', f n (nI i - 1) M = out M' ∧ I 0 M' := by
  intro i
  induction i with
  | zero =>
    intro n M hn hI
    obtain ⟨m, rfl⟩ : ∃ m, n = m + 1 := ⟨n - 1, by omega⟩
    exact ⟨M, h1 m M hI, hI⟩
  | succ i ih =>
    intro n M hn hI
    obtain ⟨m, rfl⟩ : ∃ m, n = m + 1 := ⟨n - 1, by omega⟩
    obtain ⟨M', e, h3⟩ := h2 m i M hI
    obtain ⟨M2, e2, h4⟩ := ih m M' (by omega) h3
    refine ⟨M2, ?_, h4⟩
    rw [li_1, q_sb (by omega), Nat.add_sub_cancel, e]
    rw [Int32.sub_eq_add_neg] at e2
    exact e2
theorem X7_type_ (hf : 50 ≤ fu) (h : RC o M s) (w : Int64) (a : Int32) : ∃ M', f_X7_type fu M o w a = some ((sp_type s w a).1, M') ∧ RC o M' (sp_type s w a).2 := by
  obtain ⟨t80, tOk⟩ := h.1.2.2.1
  obtain ⟨u1, u2⟩ := h.2.2.2.1
  unfold f_X7_type sp_type
  rcases rg a 9 (by omega) with ⟨n, hn, rfl⟩ | ha
  · rw [ifr_t hn (by omega)]
    by_cases n0 : n = 0
    · subst n0
      rw [if_pos rfl, if_pos (by decide)]
      exact ⟨M, rfl, h⟩
    · rw [if_neg n0, li_1, li_8, if_neg (by rw [q_lt (by omega) (by omega)]; omega), if_neg (by rw [q_lt (by omega) (by omega)]; omega)]
      unfold f_X5_append
      rw [app1 hf (by omega)]
      by_cases ok : alf (okb w) n 0 = true
      · rw [if_pos ok, if_pos ok, u1, li_80, q_sb t80]
        by_cases fit : s.2.2.1.1 + n ≤ 80
        · rw [if_pos (by rw [q_le (by omega) (by omega)]; omega), if_pos fit]
          simp only [lt]
          have okj := (alf_iff n 0).mp ok
          obtain ⟨M', e, hI⟩ := cntD (fun m x Mx => lp_X5_append_61 fu (o + 158) w (fun M8 => some (M8 (o + 158) 1, M8)) m x Mx) (fun i Mx => i ≤ n ∧ (∀ a, (a ≠ o + 158 ∧ a ≠ o + 158 + 1) → Mx a = M a) ∧ Mx (o + 158) 1 = nI (s.2.2.1.1 + (n - i)) ∧ ∀ j, j < s.2.2.1.1 + (n - i) → Mx (o + 158 + 1) j = nI ((tyT s.2.2.1 w n).2 j)) (fun Mx => some (Mx (o + 158) 1, Mx)) (fun m Mx _ => by
            show lp_X5_append_61 _ _ _ _ (m + 1) _ _ = _
            rw [lp_X5_append_61, if_pos (by decide)]) (fun m i Mx hI => by
            obtain ⟨i1, i2, i3, i4⟩ := hI
            have ho : 32 ≤ byv (shx w i) ∧ byv (shx w i) ≤ 126 := of_decide_eq_true (okj i (by omega) (by omega))
            have e : ((((w >>> ((((8 : Int32) * nI i)).toInt64 &&& 63))).toInt32).toInt8.toInt32) = nI (byv (shx w i)) := cb_lo (x := shx w i) (by omega)
            have e2 : (nI (byv (shx w i))).toInt8.toInt32 = nI (byv (shx w i)) := by
              rw [← cb_lo (x := shx w i) (by omega)]; exact cb_cb
            have e5 : s.2.2.1.1 + (n - (i + 1)) + 1 = s.2.2.1.1 + (n - i) := by omega
            refine ⟨up (up Mx (o + 158 + 1) (s.2.2.1.1 + (n - (i + 1))) (nI (byv (shx w i)))) (o + 158) 1 (nI (s.2.2.1.1 + (n - i))), ?_, by omega, fun a ha => by rw [up_k ha.1, up_k ha.2]; exact i2 a ha, by rw [up_at], fun j hj => ?_⟩
            · show lp_X5_append_61 _ _ _ _ (m + 1) _ _ = lp_X5_append_61 _ _ _ _ m _ _
              rw [lp_X5_append_61, if_neg (nI_pos (by omega)), i3, gd_t (q_ib (by omega) (by omega)), e, e2, q_cl (by omega)]
              simp only [lt]
              rw [up_k (by omega), i3, nI_1, e5]
            · rw [up_k (by omega)]
              by_cases z : j = s.2.2.1.1 + (n - (i + 1))
              · subst z
                rw [up_at]
                show _ = nI (if _ then _ else _)
                rw [if_pos ⟨by omega, by omega⟩]
                congr 3
                omega
              · rw [up_j z]
                exact i4 j (by omega)) n fu M (by omega) ⟨Nat.le_refl n, fun _ _ => rfl, by rw [Nat.sub_self]; exact u1, fun j hj => by
              rw [Nat.sub_self] at hj
              show _ = nI (if _ then _ else _)
              rw [if_neg (by omega)]
              exact u2 j hj⟩
          obtain ⟨-, i2, i3, i4⟩ := hI
          rw [Nat.sub_zero] at i3 i4
          refine ⟨M', ?_, h.tp (fun a ha => i2 a (by omega)) ⟨i3, i4⟩ ⟨fit, fun j hj => ?_⟩⟩
          · rw [e, bd_s, i3]
          · show 32 ≤ (if _ then _ else _) ∧ (if _ then _ else _) ≤ 126
            by_cases z : s.2.2.1.1 ≤ j ∧ j < s.2.2.1.1 + n
            · rw [if_pos z]
              exact of_decide_eq_true (okj _ (by omega) (by omega))
            · rw [if_neg z]
              have hj' : j < s.2.2.1.1 + n := hj
              exact tOk j (by omega)
        · rw [if_neg (by rw [q_le (by omega) (by omega)]; omega), if_neg fit]
          exact ⟨M, rfl, h⟩
      · rw [if_neg ok, if_neg ok]
        exact ⟨M, rfl, h⟩
  · rw [ifr_f (by omega) ha]
    by_cases z : a < 1
    · rw [if_pos z]
      exact ⟨M, rfl, h⟩
    · rw [if_neg z, if_pos]
      · exact ⟨M, rfl, h⟩
      · apply Classical.byContradiction
        intro y
        have z1 : (1 : Int) ≤ a.toInt := by
          have := Int32.not_lt.mp z
          rw [Int32.le_iff_toInt_le] at this
          simpa using this
        have y1 : a.toInt ≤ 8 := by
          have := Int32.not_lt.mp y
          rw [Int32.le_iff_toInt_le] at this
          simpa using this
        refine ha a.toInt.toNat (by omega) ?_
        apply Int32.toInt_inj.mp
        rw [nI_toInt (by omega)]
        omega
end PUB
