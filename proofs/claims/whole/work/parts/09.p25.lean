section WAY
variable {fu k0 : Nat} {L : MemL}
/-- the rings of the class's odds at k0 -/
def RgC (k0 : Nat) (L : MemL) : Prop := ∀ i, i < 26 → ∀ k, k < 7 → L (k0 + 1 + 1 + i) k = sN (fun j => decide (lo j i = k))
theorem highOff_ {M : Mem} {h r : Nat} (hh : h < 512) (hr : r < 26) : f_X1_highOff M (nI h) (nI r) = some (nI (hoff h r)) := by
  unfold f_X1_highOff
  rw [gd_t (q_ib (by omega) hr), gd_t (by decide), q_cl (by omega), v26_ r hr, show (64 : Int32) = nI 64 from rfl, pk_div (by have := shp_lt r; omega) (by omega) (by omega), i_xor, bc (by have := hx_lt hh r; omega), bd_s]
  rfl
theorem addWays_ {M : Mem} {b l hm : Nat} {P : Nat → Bool} {W0 : Nat → Nat} (hf : 50 ≤ fu) (hL : RgC k0 L) (hb : ln b = 16) (hl : l < 26) (hhm : hm ≤ 9) (hW : ∀ m, m < 16 → M b m = nI (W0 m)) : ∃ M', f_X1_addWays fu M L k0 b (sN P) (nI l) (nI hm) = some M' ∧ (∀ m, m < 16 → M' b m = nI (W0 m + cP P hm l m)) ∧ ∀ a, a ≠ b → M' a = M a := by
  unfold f_X1_addWays
  have key : ∀ n i (Mx : Mem), i ≤ 7 → 7 - i < n → (∀ m, m < 16 → Mx b m = nI (W0 m + if m < hm + i then cP P hm l m else 0)) → (∀ a, a ≠ b → Mx a = M a) → ∃ M', lp_X1_addWays_3 fu L k0 b (sN P) (nI l) (nI hm) (fun M8 => some M8) n (nI i) Mx = some M' ∧ (∀ m, m < 16 → M' b m = nI (W0 m + cP P hm l m)) ∧ ∀ a, a ≠ b → M' a = M a := by
    intro n
    induction n with
    | zero => intro i _ _ h; omega
    | succ n ih =>
      intro i Mx hi hn h1 h2
      rw [lp_X1_addWays_3]
      by_cases q : i = 7
      · subst q
        rw [if_pos (by rw [li_6, q_lt (by omega) (by omega)]; omega)]
        refine ⟨Mx, rfl, fun m hm2 => ?_, h2⟩
        rw [h1 m hm2]
        by_cases z : m < hm + 7
        · rw [if_pos z]
        · rw [if_neg z, cP_out (by omega)]
      · rw [if_neg (by rw [li_6, q_lt (by omega) (by omega)]; omega)]
        by_cases z0 : sN P = 0
        · rw [if_pos ((lg_cmp_eq _ _).mpr z0)]
          refine ⟨Mx, rfl, fun m hm2 => ?_, h2⟩
          rw [h1 m hm2, cP_0 ((sN_0 P).mp z0)]
          split <;> rfl
        · rw [if_neg (fun y => z0 ((lg_cmp_eq _ _).mp y)), q_ad, hb, gd_t (q_ib (by omega) (by omega)), gd_t (q_ib (by omega) hl), gd_t (q_ib (by omega) (by omega)), q_cl (a := l) (by omega), q_cl (a := i) (by omega), hL l hl i (by omega), sN_and, bcS, bd_s, gd_t (q_ib (by omega) (by omega)), q_cl (by omega), h1 (hm + i) (by omega), q_ad]
          simp only [lt]
          rw [li_1, q_ad]
          refine ih (i + 1) _ (by omega) (by omega) (fun m hm2 => ?_) (fun a ha => by rw [up_k ha]; exact h2 a ha)
          by_cases z : m = hm + i
          · subst z
            rw [up_at, if_neg (by omega), if_pos (by omega), Nat.add_zero]
            refine congrArg nI (add_l (fb_ct_cong (fun j _ => ?_)))
            show (P j && decide (lo j l = i)) = (P j && decide (hm + lo j l = hm + i))
            rw [show decide (lo j l = i) = decide (hm + lo j l = hm + i) from decide_eq_decide.mpr (by omega)]
          · rw [up_j z, h1 m hm2]
            by_cases y : m < hm + i
            · rw [if_pos y, if_pos (by omega)]
            · rw [if_neg y, if_neg (by omega)]
  exact key fu 0 M (by omega) (by omega) (fun m hm2 => by
    rw [hW m hm2]
    by_cases y : m < hm + 0
    · rw [if_pos y, cP_out (by omega), Nat.add_zero]
    · rw [if_neg y, Nat.add_zero]) (fun _ _ => rfl)
/-- the ways as told by w -/
def WyC (k0 : Nat) (M : Mem) (w : Nat → Nat → Nat) : Prop := ∀ r, r < 26 → ∀ m, m < 16 → M (k0 + 28 + 1 + r) m = nI (w r m)
def FrO (k0 : Nat) (M M1 : Mem) : Prop := ∀ a, (a < k0 + 29 ∨ k0 + 55 ≤ a) → M1 a = M a
theorem cwo24 {l h f off : Nat} {K : Int64 → Mem → Option Mem} (hf : 50 ≤ fu) (hL : RgC k0 L) (hk : kd (k0 + 28) = 19) (hl : l < 26) (hh : h < 512) (hof : off ≤ 15) : ∀ n r (M : Mem), r ≤ 26 → 26 - r < n → WyC k0 M (wq l f h off r) → ∃ M', lp_X1_countWaysOf_24 fu L k0 (nI h) (nI l) (nI f) (nI off) K n (sN (fun j => !(clm off r (64 * h + j)))) (nI r) M = K (sN (fun j => !(clm off 26 (64 * h + j)))) M' ∧ WyC k0 M' (wq l f h off 26) ∧ FrO k0 M M' := by
  intro n
  induction n with
  | zero => intro r _ _ h; omega
  | succ n ih =>
    intro r M hr hn hW
    rw [lp_X1_countWaysOf_24]
    by_cases q : r = 26
    · subst q
      rw [if_pos (by rw [li_26, q_le (by omega) (by omega)]; omega)]
      exact ⟨M, rfl, hW, fun _ _ => rfl⟩
    · rw [if_neg (by rw [li_26, q_le (by omega) (by omega)]; omega), highOff_ hh (by omega), bd_s]
      have hr' : r < 26 := by omega
      have h9 := hoff_le hh r
      have h9l := hoff_le hh l
      -- what is hit
      have ehit : ∀ j, j < 64 → (hoff h r ≤ off → (!(clm off r (64 * h + j)) && decide (lo j r = off - hoff h r)) = hit off r (64 * h + j)) := by
        intro j hj hle
        rw [← hit_of (off := off) (x := 64 * h + j) hr', dsp hh hj]
        rw [show decide (lo j r = off - hoff h r) = decide (hoff h r + lo j r = off) from decide_eq_decide.mpr (by omega)]
      have enot : (off < hoff h r ∨ hoff h r + 6 < off) → ∀ j, j < 64 → hit off r (64 * h + j) = false := by
        intro hno j hj
        rw [← hit_of (off := off) (x := 64 * h + j) hr', dsp hh hj]
        have := lo_le hj r
        have : ¬ (hoff h r + lo j r = off) := by omega
        simp [this]
      have skip : (∀ j, j < 64 → hit off r (64 * h + j) = false) → ∃ M', lp_X1_countWaysOf_24 fu L k0 (nI h) (nI l) (nI f) (nI off) K n (sN (fun j => !(clm off r (64 * h + j)))) (nI (r + 1)) M = K (sN (fun j => !(clm off 26 (64 * h + j)))) M' ∧ WyC k0 M' (wq l f h off 26) ∧ FrO k0 M M' := by
        intro hno
        have e : sN (fun j => !(clm off r (64 * h + j))) = sN (fun j => !(clm off (r + 1) (64 * h + j))) := sN_ext (fun j hj => by rw [clm_s, hno j hj, Bool.or_false])
        rw [e]
        refine ih (r + 1) M (by omega) (by omega) (fun r' hr2 m hm => ?_)
        rw [hW r' hr2 m hm, wq_s hh]
        by_cases z : r' = r
        · rw [if_pos z, cP_0 hno, Nat.add_zero]
        · rw [if_neg z, Nat.add_zero]
      simp only [lt]
      by_cases c1 : off < hoff h r
      · rw [if_pos (pk_sneg (by omega) c1), li_1, q_ad]
        exact skip (enot (Or.inl c1))
      · rw [q_sb (by omega), if_neg (nI_pos (by omega))]
        by_cases c2 : hoff h r + 6 < off
        · rw [if_pos (by rw [li_6, q_lt (by omega) (by omega)]; omega), li_1, q_ad]
          exact skip (enot (Or.inr c2))
        · rw [if_neg (by rw [li_6, q_lt (by omega) (by omega)]; omega), gd_t (q_ib (by omega) hr'), gd_t (q_ib (by omega) (by omega)), q_cl (a := r) (by omega), q_cl (a := off - hoff h r) (by omega), hL r hr' _ (by omega), sN_and, gd_t (q_ib (by omega) hr'), highOff_ hh hl, bd_s]
          have e1 : sN (fun j => !(clm off r (64 * h + j)) && decide (lo j r = off - hoff h r)) = sN (fun j => hit off r (64 * h + j)) := sN_ext (fun j hj => ehit j hj (by omega))
          rw [e1, sN_not, sN_and]
          have e2 : sN (fun j => !(clm off r (64 * h + j)) && !(hit off r (64 * h + j))) = sN (fun j => !(clm off (r + 1) (64 * h + j))) := sN_ext (fun j hj => by rw [clm_s, Bool.not_or])
          rw [e2]
          obtain ⟨M2, a1, a2, a3⟩ := addWays_ (fu := fu) (M := M) (b := k0 + 28 + 1 + r) (l := l) (hm := hoff h l) (P := fun j => hit off r (64 * h + j)) (W0 := fun m => wq l f h off r r m) hf hL (ca_19 hk hr').2 hl h9l (hW r hr')
          rw [a1, bd_s, li_1, q_ad]
          obtain ⟨M3, b1, b2, b3⟩ := ih (r + 1) M2 (by omega) (by omega) (fun r' hr2 m hm => by
            rw [wq_s hh]
            by_cases z : r' = r
            · subst z
              rw [if_pos rfl, a2 m hm]
            · rw [if_neg z, a3 _ (by omega), hW r' hr2 m hm, Nat.add_zero])
          exact ⟨M3, b1, b2, fun a ha => by rw [b3 a ha, a3 a (by omega)]⟩
theorem countWaysOf_ {l h f : Nat} {M : Mem} (hf : 50 ≤ fu) (hL : RgC k0 L) (hk : kd (k0 + 28) = 19) (hl : l < 26) (hh : h < 512) (hff : f ≤ 7) (hW : WyC k0 M (fun r m => fb_ct (wayp l f r m) (64 * h))) : ∃ M', f_X1_countWaysOf fu M L k0 (nI h) (nI l) (nI f) = some M' ∧ WyC k0 M' (fun r m => fb_ct (wayp l f r m) (64 * (h + 1))) ∧ FrO k0 M M' := by
  unfold f_X1_countWaysOf
  have key : ∀ n off (Mx : Mem), off ≤ f + 1 → f + 1 - off < n → WyC k0 Mx (wq l f h off 0) → FrO k0 M Mx → ∃ M', lp_X1_countWaysOf_8 fu L k0 (nI h) (nI l) (nI f) (fun M16 => some M16) n (sN (fun j => !(clm off 0 (64 * h + j)))) (nI off) Mx = some M' ∧ WyC k0 M' (fun r m => fb_ct (wayp l f r m) (64 * (h + 1))) ∧ FrO k0 M M' := by
    intro n
    induction n with
    | zero => intro off _ _ h; omega
    | succ n ih =>
      intro off Mx ho hn hW hF
      rw [lp_X1_countWaysOf_8]
      by_cases q : off = f + 1
      · subst q
        rw [if_pos (by rw [q_lt (by omega) (by omega)]; omega)]
        refine ⟨Mx, rfl, fun r hr m hm => ?_, hF⟩
        rw [hW r hr m hm, wq_end]
      · rw [if_neg (by rw [q_lt (by omega) (by omega)]; omega)]
        by_cases z : sN (fun j => !(clm off 0 (64 * h + j))) = 0
        · rw [if_pos ((lg_cmp_eq _ _).mpr z)]
          refine ⟨Mx, rfl, fun r hr m hm => ?_, hF⟩
          rw [hW r hr m hm, wq_all (by omega) (fun j hj => by simpa using (sN_0 _).mp z j hj)]
        · rw [if_neg (fun y => z ((lg_cmp_eq _ _).mp y)), li_0]
          obtain ⟨M2, a1, a2, a3⟩ := cwo24 (f := f) (off := off) (K := fun v13 M14 => lt (nI off + 1) (fun v15 => lp_X1_countWaysOf_8 fu L k0 (nI h) (nI l) (nI f) (fun M16 => some M16) n v13 v15 M14)) hf hL hk hl hh (by omega) fu 0 Mx (by omega) (by omega) hW
          rw [a1]
          simp only [lt]
          rw [nI_1]
          have e : sN (fun j => !(clm off 26 (64 * h + j))) = sN (fun j => !(clm (off + 1) 0 (64 * h + j))) := sN_ext (fun j hj => by rw [clm_26])
          rw [e]
          exact ih (off + 1) M2 (by omega) (by omega) (fun r hr m hm => by rw [a2 r hr m hm, wq_26]) (fun a ha => by rw [a3 a ha, hF a ha])
  have e0 : (-1 : Int64) = sN (fun j => !(clm 0 0 (64 * h + j))) := by
    rw [sN_1]
    exact sN_ext (fun j hj => by rw [clm_00]; rfl)
  rw [e0, li_0]
  exact key fu 0 M (by omega) (by omega) (fun r hr m hm => by rw [hW r hr m hm, wq_0]) (fun _ _ => rfl)
theorem cw29 {l f : Nat} {K : Mem → Option Mem} (hf : 50 ≤ fu) (hk : kd (k0 + 28) = 19) : ∀ n i (M : Mem), i ≤ 26 → 26 - i < n → (∀ r, r < i → ∀ m, m < 16 → M (k0 + 28 + 1 + r) m = nI 0) → ∃ M', lp_X1_countWays_29 fu L k0 (nI l) (nI f) K n (nI i) M = K M' ∧ WyC k0 M' (fun _ _ => 0) ∧ FrO k0 M M' := by
  intro n
  induction n with
  | zero => intro i _ _ h; omega
  | succ n ih =>
    intro i M hi hn hW
    rw [lp_X1_countWays_29]
    by_cases q : i = 26
    · subst q
      rw [if_pos (by rw [li_26, q_le (by omega) (by omega)]; omega)]
      exact ⟨M, rfl, fun r hr => hW r hr, fun _ _ => rfl⟩
    · have hi' : i < 26 := by omega
      rw [if_neg (by rw [li_26, q_le (by omega) (by omega)]; omega), gd_t (q_ib (by omega) hi'), q_cl (by omega), fill_ (N := 16) (ca_19 hk hi').2 (by omega) (by omega), bd_s]
      simp only [lt]
      rw [li_1, q_ad]
      obtain ⟨M2, a1, a2, a3⟩ := ih (i + 1) (setR M (k0 + 28 + 1 + i) (fun _ => 0) 16) (by omega) (by omega) (fun r hr m hm => by
        by_cases z : r = i
        · subst z; rw [setR_in hm]; rfl
        · rw [setR_k (by omega)]; exact hW r (by omega) m hm)
      exact ⟨M2, a1, a2, fun a ha => by rw [a3 a ha, setR_k (by omega)]⟩
theorem cw53 {l f : Nat} (hf : 600 ≤ fu) (hL : RgC k0 L) (hk : kd (k0 + 28) = 19) (hl : l < 26) (hff : f ≤ 7) : ∀ n h (M : Mem), h ≤ 512 → 512 - h < n → WyC k0 M (fun r m => fb_ct (wayp l f r m) (64 * h)) → ∃ M', lp_X1_countWays_53 fu L k0 (nI l) (nI f) (fun M9 => some M9) n (nI h) M = some M' ∧ WyC k0 M' (fun r m => fb_ct (wayp l f r m) (64 * 512)) ∧ FrO k0 M M' := by
  intro n
  induction n with
  | zero => intro i _ _ h; omega
  | succ n ih =>
    intro h M hh hn hW
    rw [lp_X1_countWays_53]
    by_cases q : h = 512
    · subst q
      rw [if_pos (by rw [li_512, q_le (by omega) (by omega)]; omega)]
      exact ⟨M, rfl, hW, fun _ _ => rfl⟩
    · rw [if_neg (by rw [li_512, q_le (by omega) (by omega)]; omega)]
      obtain ⟨M2, a1, a2, a3⟩ := countWaysOf_ (fu := fu) (by omega) hL hk hl (show h < 512 by omega) hff hW
      rw [a1, bd_s]
      simp only [lt]
      rw [li_1, q_ad]
      obtain ⟨M3, b1, b2, b3⟩ := ih (h + 1) M2 (by omega) (by omega) a2
      exact ⟨M3, b1, b2, fun a ha => by rw [b3 a ha, a3 a ha]⟩
end WAY
