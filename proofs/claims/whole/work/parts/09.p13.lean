/-! the row for most: B whether a word lies at a strip, V what it is worth there, L how long it is -/
def mx (B : Nat → Nat → Bool) (V : Nat → Nat → Int32) (L : Nat → Nat) (T : Nat → Int32) (s : Nat) : Nat → Int32
  | 0 => T (s + 1)
  | w + 1 => if B s w = true then (if mx B V L T s w < V s w + T (s + L w) then V s w + T (s + L w) else mx B V L T s w) else mx B V L T s w
def tb (N W : Nat) (B : Nat → Nat → Bool) (V : Nat → Nat → Int32) (L : Nat → Nat) : Nat → Nat → Int32
  | 0 => fun _ => 0
  | k + 1 => fun q => if q = N - (k + 1) then mx B V L (tb N W B V L k) (N - (k + 1)) W else tb N W B V L k q
def fm (B : Nat → Nat → Bool) (V : Nat → Nat → Int32) (L : Nat → Nat) (T : Nat → Int32) (s : Nat) : Nat → Nat → Option Nat
  | 0, _ => none
  | k + 1, w => if (B s w && decide (V s w + T (s + L w) = T s)) = true then some w else fm B V L T s k (w + 1)
theorem fm_some {B : Nat → Nat → Bool} {V : Nat → Nat → Int32} {L : Nat → Nat} {T : Nat → Int32} {s : Nat} : ∀ k w r, fm B V L T s k w = some r → w ≤ r ∧ r < w + k ∧ B s r = true
  | 0, _, _, h => by cases h
  | k + 1, w, r, h => by
    unfold fm at h
    split at h
    · rename_i q
      rw [Bool.and_eq_true] at q
      cases h
      exact ⟨Nat.le_refl _, by omega, q.1⟩
    · obtain ⟨h1, h2, h3⟩ := fm_some k (w + 1) r h
      exact ⟨by omega, by omega, h3⟩
def chs (W : Nat) (B : Nat → Nat → Bool) (V : Nat → Nat → Int32) (L : Nat → Nat) (T : Nat → Int32) : Nat → Nat → Nat → List Nat → List Nat
  | 0, _, _, acc => acc
  | k + 1, s, nx, acc => if s < nx then chs W B V L T k (s + 1) nx acc else (match fm B V L T s W 0 with
    | none => chs W B V L T k (s + 1) nx acc
    | some w => chs W B V L T k (s + 1) (s + L w) (acc ++ [10 * s + w]))
/-- the whole: what is most, and the row -/
def rowx (N W : Nat) (B : Nat → Nat → Bool) (V : Nat → Nat → Int32) (L : Nat → Nat) : Int32 × List Nat := (tb N W B V L N 0, chs W B V L (tb N W B V L N) N 0 0 [])
def tellx (r : Int32 × List Nat) (a : Int32) : Int32 := if a = -1 then r.1 else if a = -2 then nI r.2.length else ifr a r.2.length (fun i => nI (r.2.getD i 0)) (-4)
def okV (N W : Nat) (B : Nat → Nat → Bool) (V : Nat → Nat → Int32) (L : Nat → Nat) : Prop := ∀ s, s < N → ∀ w, w < W → B s w = true → V s w ≠ -1000000 ∧ s + L w ≤ N
def wv (B : Nat → Nat → Bool) (V : Nat → Nat → Int32) (s w : Nat) : Int32 := if B s w = true then V s w else -1000000
/-- nothing changes but the row's cells -/
def FrR (o : Nat) (M M1 : Mem) : Prop := ∀ a, (a < o + 89 ∨ o + 102 ≤ a) → M1 a = M a
theorem tb_stay (N W : Nat) (B : Nat → Nat → Bool) (V : Nat → Nat → Int32) (L : Nat → Nat) (k q : Nat) (h : N - k ≤ q) (hk : k < N) : tb N W B V L (k + 1) q = tb N W B V L k q := by
  show (if q = N - (k + 1) then _ else _) = _
  rw [if_neg (by omega)]
section ROW
variable {fu o : Nat} {M : Mem} {σ : Md} {B : Nat → Nat → Bool} {V : Nat → Nat → Int32}
/-- what the rows must tell: the meadow, and the worths -/
def Wo (o : Nat) (M : Mem) (σ : Md) (B : Nat → Nat → Bool) (V : Nat → Nat → Int32) : Prop := MdC (o + 1) M σ ∧ ∀ s, s < mN σ → ∀ w, w < mW σ → M (o + 89 + 1 + 1 + s) w = wv B V s w
theorem Wo.frame {M1 : Mem} (h : Wo o M σ B V) (hw : Wf σ) (he : ∀ a, (a < o + 89 ∨ (o + 91 ≤ a ∧ a < o + 100)) → M1 a = M a) : Wo o M1 σ B V := by
  have := hw.2.1.1
  exact ⟨h.1.frame (fun a h1 h2 => he a (by omega)) hw, fun s hs w hw => by rw [he _ (by omega)]; exact h.2 s hs w hw⟩
theorem mostBy_ {s w : Nat} {T : Nat → Int32} (hw : Wf σ) (h : Wo o M σ B V) (hs : s < mN σ) (hwo : w < mW σ) (hB : B s w = true) (hok : okV (mN σ) (mW σ) B V (mL σ)) (hT : M (o + 89 + 11) (s + mL σ w) = T (s + mL σ w)) : f_X2_mostBy M (o + 89) (o + 1) (nI s) (nI w) = some (V s w + T (s + mL σ w)) := by
  obtain ⟨-, ⟨w1, w2⟩, -⟩ := id hw
  have h2 := (hok s hs w hwo hB).2
  have h3 : wv B V s w = V s w := by unfold wv; rw [if_pos hB]
  unfold f_X2_mostBy
  rw [gd_t (q_ib (by omega) (by omega)), gd_t (q_ib (by omega) (by omega)), gd_t (q_ib (by omega) (by omega)), q_cl (by omega), q_cl (by omega), (h.1.2.2.2.2.2 w hwo).1, q_ad, gd_t (q_ib (by omega) (by omega)), q_cl (by omega), h.2 s hs w hwo, hT, h3]
theorem sumUp_ (hf : 50 ≤ fu) (hw : Wf σ) (h : Wo o M σ B V) (hok : okV (mN σ) (mW σ) B V (mL σ)) (hl : ∀ w, w < mW σ → 1 ≤ mL σ w) : ∃ M', f_X2_sumUp fu M (o + 89) (o + 1) = some M' ∧ (∀ q, q ≤ mN σ → M' (o + 89 + 11) q = tb (mN σ) (mW σ) B V (mL σ) (mN σ) q) ∧ ∀ a, a ≠ o + 89 + 11 → M' a = M a := by
  obtain ⟨-, ⟨w1, w2⟩, -⟩ := id hw
  unfold f_X2_sumUp
  rw [h.1.1.1, gd_t (q_ib (by omega) (by omega)), q_cl (by omega)]
  simp only [lt]
  rw [up_k (by omega), h.1.1.1, li_1]
  obtain ⟨M', e, hI⟩ := cntM (fun n k Mx => lp_X2_sumUp_17 fu (o + 89) (o + 1) (fun M17 => some M17) n (nI (mN σ - k) - nI 1) Mx) (fun k Mx => (∀ q, mN σ - k ≤ q → q ≤ mN σ → Mx (o + 89 + 11) q = tb (mN σ) (mW σ) B V (mL σ) k q) ∧ ∀ a, a ≠ o + 89 + 11 → Mx a = M a) (fun Mx => some Mx) (mN σ) (fun n Mx hI => by
    show lp_X2_sumUp_17 _ _ _ _ (n + 1) _ _ = _
    rw [lp_X2_sumUp_17, Nat.sub_self, if_pos (by decide)]) (fun n k Mx hk hI => by
    obtain ⟨i1, i2⟩ := hI
    show ∃ M', lp_X2_sumUp_17 _ _ _ _ (n + 1) _ _ = lp_X2_sumUp_17 _ _ _ _ n _ _ ∧ _
    generalize hs : mN σ - (k + 1) = s
    have hs1 : mN σ - k = s + 1 := by omega
    have hsN : s < mN σ := by omega
    rw [hs1, q_sb (by omega), Nat.add_sub_cancel]
    have hWx : Wo o Mx σ B V := h.frame hw (fun a ha => i2 a (by omega))
    obtain ⟨M2, e2, j1, j2, j3⟩ := cntM (fun n2 w My => lp_X2_sumUp_37 fu (o + 89) (o + 1) (nI s) (fun M15 => lt (nI s + (-1)) (fun v16 => lp_X2_sumUp_17 fu (o + 89) (o + 1) (fun M17 => some M17) n v16 M15)) n2 (nI w) My) (fun w My => My (o + 89 + 11) s = mx B V (mL σ) (tb (mN σ) (mW σ) B V (mL σ) k) s w ∧ (∀ q, s + 1 ≤ q → q ≤ mN σ → My (o + 89 + 11) q = tb (mN σ) (mW σ) B V (mL σ) k q) ∧ ∀ a, a ≠ o + 89 + 11 → My a = M a) (fun My => lt (nI s + (-1)) (fun v16 => lp_X2_sumUp_17 fu (o + 89) (o + 1) (fun M17 => some M17) n v16 My)) (mW σ) (fun n2 My hJ => by
      have hWy : Wo o My σ B V := h.frame hw (fun a ha => hJ.2.2 a (by omega))
      show lp_X2_sumUp_37 _ _ _ _ _ (n2 + 1) _ _ = _
      rw [lp_X2_sumUp_37, hWy.1.1.2, if_pos (by rw [q_le (by omega) (by omega)]; omega)]) (fun n2 w My hwo hJ => by
      obtain ⟨j1, j2, j3⟩ := hJ
      have hWy : Wo o My σ B V := h.frame hw (fun a ha => j3 a (by omega))
      show ∃ M', lp_X2_sumUp_37 _ _ _ _ _ (n2 + 1) _ _ = lp_X2_sumUp_37 _ _ _ _ _ n2 _ _ ∧ _
      rw [lp_X2_sumUp_37, hWy.1.1.2, if_neg (by rw [q_le (by omega) (by omega)]; omega), gd_t (q_ib (by omega) (by omega)), gd_t (q_ib (by omega) (by omega)), q_cl (by omega), q_cl (by omega), hWy.2 s hsN w hwo]
      by_cases hB : B s w = true
      · have hv := hok s hsN w hwo hB
        have h3 : wv B V s w = V s w := by unfold wv; rw [if_pos hB]
        have hlw := hl w hwo
        rw [h3, if_neg hv.1, gd_t (q_ib (by omega) (by omega)), mostBy_ (T := tb (mN σ) (mW σ) B V (mL σ) k) hw hWy hsN hwo hB hok (j2 _ (by omega) hv.2), bd_s, gd_t (q_ib (by omega) (by omega))]
        simp only [lt]
        rw [nI_1, j1]
        refine ⟨_, rfl, ?_, fun q h1 h2 => by rw [up_j (by omega)]; exact j2 q h1 h2, fun a ha => by rw [up_k ha]; exact j3 a ha⟩
        rw [up_at]
        show _ = (if B s w = true then _ else _)
        rw [if_pos hB]
      · have h3 : wv B V s w = -1000000 := by unfold wv; rw [if_neg hB]
        rw [h3, if_pos rfl]
        simp only [lt]
        rw [nI_1]
        refine ⟨My, rfl, ?_, j2, j3⟩
        rw [j1]
        show _ = (if B s w = true then _ else _)
        rw [if_neg hB]) fu 0 (up Mx (o + 89 + 11) s (Mx (o + 89 + 11) (s + 1))) (by omega) (by omega) ⟨by rw [up_at, i1 (s + 1) (by omega) (by omega)]; rfl, fun q h1 h2 => by rw [up_j (by omega)]; exact i1 q (by omega) h2, fun a ha => by rw [up_k ha]; exact i2 a ha⟩
    refine ⟨M2, ?_, fun q h1 h2 => ?_, j3⟩
    · rw [lp_X2_sumUp_17, if_neg (nI_pos (by omega)), nI_1, gd_t (q_ib (by omega) (by omega)), gd_t (q_ib (by omega) (by omega)), q_cl (by omega), q_cl (by omega)]
      refine Eq.trans e2 ?_
      simp only [lt]
      rw [Int32.sub_eq_add_neg]
      rfl
    · by_cases z : q = s
      · subst z
        rw [j1]
        show _ = (if q = mN σ - (k + 1) then _ else _)
        rw [if_pos hs.symm, hs]
      · rw [j2 q (by omega) h2, tb_stay _ _ _ _ _ _ _ (by omega) hk]) fu 0 (up M (o + 89 + 11) (mN σ) 0) (by omega) (by omega) ⟨fun q h1 h2 => by
      have : q = mN σ := by omega
      subst this
      rw [up_at]; rfl, fun a ha => up_k ha⟩
  refine ⟨M', e, fun q hq => hI.1 q (by omega) hq, hI.2⟩
end ROW
