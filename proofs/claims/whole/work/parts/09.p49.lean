section PUB
variable {fu b : Nat} {M : Mem} {s : Sg}
theorem RM.x {M1 : Mem} (h : RM b M s) (hF : ∀ a, a ≠ b → a ≠ b + 10 → a ≠ b + 11 → a ≠ b + 12 → a ≠ b + 13 → M1 a = M a) (h0 : ∀ j, j ≠ 16 → M1 b j = M b j) : RM b M1 s := by
  obtain ⟨w, m, k, t, sh⟩ := h
  refine ⟨w, m.frame (h0 7 (by omega)) (h0 8 (by omega)) (fun a h1 h2 => hF a (by omega) (by omega) (by omega) (by omega) (by omega)), k.frame (h0 21 (by omega)) (hF _ (by omega) (by omega) (by omega) (by omega) (by omega)) (hF _ (by omega) (by omega) (by omega) (by omega) (by omega)), ⟨by rw [h0 10 (by omega)]; exact t.1, fun j hj => by rw [hF _ (by omega) (by omega) (by omega) (by omega) (by omega)]; exact t.2 j hj⟩, fun q hq => ?_⟩
  rw [hF _ (by omega) (by omega) (by omega) (by omega) (by omega), hF _ (by omega) (by omega) (by omega) (by omega) (by omega), hF _ (by omega) (by omega) (by omega) (by omega) (by omega)]
  exact sh q hq
theorem fl_01 (x : Bool) : (if fl x = 0 then some (0 : Int32) else some (1 : Int32)) = some (fl x) := by
  cases x <;> rfl
/-- lies and worths change alone -/
def FrL (b : Nat) (M M1 : Mem) : Prop := ∀ a, a ≠ b + 12 → a ≠ b + 13 → M1 a = M a
theorem MdM.l {M1 : Mem} {σ : Md} (h : MdM b M σ) (hF : FrL b M M1) : MdM b M1 σ := h.frame (by rw [hF b (by omega) (by omega)]) (by rw [hF b (by omega) (by omega)]) (fun a h1 h2 => hF a (by omega) (by omega))
/-- rows below i are told, and of row i the words below u -/
def WoI (b : Nat) (M : Mem) (W : Nat) (B : Nat → Nat → Bool) (V : Nat → Nat → Int32) (i u : Nat) : Prop := ∀ q v, v < W → (q < i ∨ (q = i ∧ v < u)) → M (b + 12) (10 * q + v) = fl (B q v) ∧ (B q v = true → M (b + 13) (10 * q + v) = V q v)
theorem WoI.put {W i u : Nat} {B : Nat → Nat → Bool} {V : Nat → Nat → Int32} {x y : Int32} (h : WoI b M W B V i u) (hW : W ≤ 10) (hu : u < W) (hx : x = fl (B i u)) (hy : B i u = true → y = V i u) : WoI b (up (up M (b + 12) (10 * i + u) x) (b + 13) (10 * i + u) y) W B V i (u + 1) := by
  intro q v hv hq
  by_cases z : q = i ∧ v = u
  · obtain ⟨rfl, rfl⟩ := z
    rw [up_k (by omega), up_at, up_at]
    exact ⟨hx, hy⟩
  · have hne : 10 * q + v ≠ 10 * i + u := by omega
    rw [up_k (show b + 12 ≠ b + 13 by omega), up_j hne, up_j hne, up_k (show b + 13 ≠ b + 12 by omega)]
    exact h q v hv (by omega)
theorem Mread18 {σ : Md} {a : Int32} {K : Mem → Option (Int32 × Mem)} (hf : 100 ≤ fu) (hw : Wf σ) (h : MdM b M σ) : ∃ M', lp_X8_read_18 fu b a K fu (0 : Int32) M = K M' ∧ WoI b M' (mW σ) (fun i w => wri σ w i) (vR σ) (mN σ) 0 ∧ FrL b M M' := by
  obtain ⟨w1, w2⟩ := hw.2.1
  have key := cntM (fun n i Mx => lp_X8_read_18 fu b a K n (nI i) Mx) (fun i Mx => WoI b Mx (mW σ) (fun i w => wri σ w i) (vR σ) i 0 ∧ FrL b M Mx) (fun Mx => K Mx) (mN σ) (fun n Mx hI => by
    have mm := h.l hI.2
    show lp_X8_read_18 _ _ _ _ (n + 1) _ _ = _
    rw [lp_X8_read_18, mm.1.1, if_pos (by rw [q_le (by omega) (by omega)]; omega)]) (fun n i Mx hi hI => by
    have mm := h.l hI.2
    show ∃ M', lp_X8_read_18 _ _ _ _ (n + 1) _ _ = lp_X8_read_18 _ _ _ _ n _ _ ∧ _
    obtain ⟨M2, e2, j1, j2⟩ := cntM (fun n2 u My => lp_X8_read_28 fu b a (nI i) (fun M11 => lt (nI i + 1) (fun v12 => lp_X8_read_18 fu b a K n v12 M11)) n2 (nI u) My) (fun u My => WoI b My (mW σ) (fun i w => wri σ w i) (vR σ) i u ∧ FrL b M My) (fun My => lt (nI i + 1) (fun v12 => lp_X8_read_18 fu b a K n v12 My)) (mW σ) (fun n2 My hJ => by
      have my := h.l hJ.2
      show lp_X8_read_28 _ _ _ _ _ (n2 + 1) _ _ = _
      rw [lp_X8_read_28, my.1.2, if_pos (by rw [q_le (by omega) (by omega)]; omega)]) (fun n2 u My hu hJ => by
      have my := h.l hJ.2
      show ∃ M', lp_X8_read_28 _ _ _ _ _ (n2 + 1) _ _ = lp_X8_read_28 _ _ _ _ _ n2 _ _ ∧ _
      generalize (fun M11 => lt (nI i + 1) (fun v12 => lp_X8_read_18 fu b a K n v12 M11)) = K2
      rw [lp_X8_read_28, my.1.2, if_neg (by rw [q_le (by omega) (by omega)]; omega), MisWritten_ (by omega) hw my hu hi, bd_s, fl_01, bd_s, li_10, q_mu, q_ad, gd_t (q_ib (by omega) (by omega)), q_cl (a := 10 * i + u) (by omega)]
      simp only [lt]
      rw [li_8, li_1, q_mu, q_ad, gd_t (q_ib (by omega) (by omega)), gd_t (q_ib (by omega) (by omega)), q_cl (a := 8 * u + 1) (by omega), up_k (show b + 7 ≠ b + 12 by omega), (my.2.2.2.2.2.2 u hu).2.1, q_ad]
      exact ⟨_, rfl, hJ.1.put w2 hu rfl (fun _ => rfl), fun c h1 h2 => by rw [up_k h2, up_k h1]; exact hJ.2 c h1 h2⟩) fu 0 Mx (by omega) (by omega) ⟨hI.1, hI.2⟩
    refine ⟨M2, ?_, fun q v hv hq => j1 q v hv (by omega), j2⟩
    rw [lp_X8_read_18, mm.1.1, if_neg (by rw [q_le (by omega) (by omega)]; omega)]
    refine Eq.trans e2 ?_
    simp only [lt]
    rw [nI_1]) fu 0 M (by omega) (by omega) ⟨fun q v _ hq => by omega, fun _ _ _ => rfl⟩
  exact key
theorem Mplan18 {σ : Md} {a : Int32} {K : Mem → Option (Int32 × Mem)} (hf : 100 ≤ fu) (hw : Wf σ) (h : MdM b M σ) : ∃ M', lp_X8_plan_18 fu b a K fu (0 : Int32) M = K M' ∧ WoI b M' (mW σ) (fun i w => alw σ w i) (vP σ) (mN σ) 0 ∧ FrL b M M' := by
  obtain ⟨w1, w2⟩ := hw.2.1
  have key := cntM (fun n i Mx => lp_X8_plan_18 fu b a K n (nI i) Mx) (fun i Mx => WoI b Mx (mW σ) (fun i w => alw σ w i) (vP σ) i 0 ∧ FrL b M Mx) (fun Mx => K Mx) (mN σ) (fun n Mx hI => by
    have mm := h.l hI.2
    show lp_X8_plan_18 _ _ _ _ (n + 1) _ _ = _
    rw [lp_X8_plan_18, mm.1.1, if_pos (by rw [q_le (by omega) (by omega)]; omega)]) (fun n i Mx hi hI => by
    have mm := h.l hI.2
    show ∃ M', lp_X8_plan_18 _ _ _ _ (n + 1) _ _ = lp_X8_plan_18 _ _ _ _ n _ _ ∧ _
    obtain ⟨M2, e2, j1, j2⟩ := cntM (fun n2 u My => lp_X8_plan_28 fu b a (nI i) (fun M15 => lt (nI i + 1) (fun v16 => lp_X8_plan_18 fu b a K n v16 M15)) n2 (nI u) My) (fun u My => WoI b My (mW σ) (fun i w => alw σ w i) (vP σ) i u ∧ FrL b M My) (fun My => lt (nI i + 1) (fun v16 => lp_X8_plan_18 fu b a K n v16 My)) (mW σ) (fun n2 My hJ => by
      have my := h.l hJ.2
      show lp_X8_plan_28 _ _ _ _ _ (n2 + 1) _ _ = _
      rw [lp_X8_plan_28, my.1.2, if_pos (by rw [q_le (by omega) (by omega)]; omega)]) (fun n2 u My hu hJ => by
      have my := h.l hJ.2
      show ∃ M', lp_X8_plan_28 _ _ _ _ _ (n2 + 1) _ _ = lp_X8_plan_28 _ _ _ _ _ n2 _ _ ∧ _
      generalize (fun M15 => lt (nI i + 1) (fun v16 => lp_X8_plan_18 fu b a K n v16 M15)) = K2
      rw [lp_X8_plan_28, my.1.2, if_neg (by rw [q_le (by omega) (by omega)]; omega), MmayBe_ (by omega) hw my hu hi, bd_s, fl_01, bd_s, li_10, q_mu, q_ad, gd_t (q_ib (by omega) (by omega)), q_cl (a := 10 * i + u) (by omega)]
      simp only [lt]
      have hF6 : FrL b M (up My (b + 12) (10 * i + u) (fl (alw σ u i))) := fun c h1 h2 => by rw [up_k h1]; exact hJ.2 c h1 h2
      have m6 := h.l hF6
      rw [MhasRoom_ hw m6 hu hi, bd_s, li_8, li_1, q_mu, q_ad, gd_t (q_ib (by omega) (by omega)), q_cl (a := 8 * u + 1) (by omega), (m6.2.2.2.2.2.2 u hu).2.1, q_ad]
      have e9 : (if fl (room σ u i) = 0 then some (0 : Int32) else (f_X8_lostBy fu (up My (b + 12) (10 * i + u) (fl (alw σ u i))) b (nI u) (nI i)).bind (fun u11 => some (nI (mP σ u) - u11))) = some (if room σ u i = true then vP σ i u else 0) := by
        by_cases z : room σ u i = true
        · rw [fl_t z, if_neg one0, if_pos z, MlostBy_ (by omega) hw m6 hu (of_decide_eq_true z), bd_s]
          rfl
        · rw [fl_f z, if_pos rfl, if_neg z]
      rw [e9, bd_s, gd_t (q_ib (by omega) (by omega))]
      refine ⟨_, rfl, hJ.1.put w2 hu rfl (fun hB => ?_), fun c h1 h2 => by rw [up_k h2, up_k h1]; exact hJ.2 c h1 h2⟩
      have hr : room σ u i = true := decide_eq_true (alw_room hB)
      rw [if_pos hr]) fu 0 Mx (by omega) (by omega) ⟨hI.1, hI.2⟩
    refine ⟨M2, ?_, fun q v hv hq => j1 q v hv (by omega), j2⟩
    rw [lp_X8_plan_18, mm.1.1, if_neg (by rw [q_le (by omega) (by omega)]; omega)]
    refine Eq.trans e2 ?_
    simp only [lt]
    rw [nI_1]) fu 0 M (by omega) (by omega) ⟨fun q v _ hq => by omega, fun _ _ _ => rfl⟩
  exact key
theorem in28_f {a : Int32} (h : a < -2 ∨ 9 ≤ a) : f_X8_in a.toInt64 (-2) 8 = some 0 := by
  apply in_f
  rw [show (-2 : Int64).toInt = -2 by decide, show (8 : Int64).toInt = 8 by decide]
  rcases h with h | h
  · rw [Int32.lt_iff_toInt_lt, show (-2 : Int32).toInt = -2 by decide] at h; omega
  · rw [Int32.le_iff_toInt_le, show (9 : Int32).toInt = 9 by decide] at h; omega
theorem in28_t {a : Int32} (h : ¬ a < -2) (h2 : ¬ 9 ≤ a) : f_X8_in a.toInt64 (-2) 8 = some 1 := by
  rw [Int32.lt_iff_toInt_lt, show (-2 : Int32).toInt = -2 by decide] at h
  rw [Int32.le_iff_toInt_le, show (9 : Int32).toInt = 9 by decide] at h2
  apply in_t
  · rw [show (-2 : Int64).toInt = -2 by decide]; omega
  · rw [show (8 : Int64).toInt = 8 by decide]; omega
theorem X8_read_ (hf : 100 ≤ fu) (h : RM b M s) (a : Int32) : ∃ M', f_X8_read fu M b a = some ((sp_read s a).1, M') ∧ RM b M' (sp_read s a).2 := by
  unfold f_X8_read sp_read
  by_cases a1 : a < -2
  · rw [in28_f (Or.inl a1), bd_s, if_pos rfl, if_pos a1]
    exact ⟨M, rfl, h⟩
  · by_cases a2 : 9 ≤ a
    · rw [in28_f (Or.inr a2), bd_s, if_pos rfl, if_neg a1, if_pos a2]
      exact ⟨M, rfl, h⟩
    · obtain ⟨M1, e1, w1, f1⟩ := Mread18 (a := a) (K := fun M13 => (f_X8_findRow fu M13 b).bind (fun u14 => (f_X8_tellRow u14 b a).bind (fun u15 => some (u15, u14)))) hf h.1.1 h.2.1
      have hW : WoM b M1 s.1 (fun i w => wri s.1 w i) (vR s.1) := ⟨h.2.1.l f1, fun q hq w hw => w1 q w hw (Or.inl hq)⟩
      obtain ⟨M2, e2, t2, g1, g2⟩ := MfindRow_ (fu := fu) (by omega) h.1.1 hW (okR h.1.1) (fun w hw => (h.1.1.2.2.2.1 w hw).1)
      rw [in28_t a1 a2, bd_s, if_neg one0, if_neg a1, if_neg a2, e1, e2, bd_s, t2 a a1, bd_s]
      exact ⟨M2, rfl, h.x (fun c h1 h2 h3 h4 h5 => by rw [g1 c h1 h2 h3, f1 c h4 h5]) (fun j hj => by rw [g2 j hj, f1 b (by omega) (by omega)])⟩
theorem X8_plan_ (hf : 100 ≤ fu) (h : RM b M s) (a : Int32) : ∃ M', f_X8_plan fu M b a = some ((sp_plan s a).1, M') ∧ RM b M' (sp_plan s a).2 := by
  unfold f_X8_plan sp_plan
  by_cases a1 : a < -2
  · rw [in28_f (Or.inl a1), bd_s, if_pos rfl, if_pos a1]
    exact ⟨M, rfl, h⟩
  · by_cases a2 : 9 ≤ a
    · rw [in28_f (Or.inr a2), bd_s, if_pos rfl, if_neg a1, if_pos a2]
      exact ⟨M, rfl, h⟩
    · obtain ⟨M1, e1, w1, f1⟩ := Mplan18 (a := a) (K := fun M17 => (f_X8_findRow fu M17 b).bind (fun u18 => (f_X8_tellRow u18 b a).bind (fun u19 => some (u19, u18)))) hf h.1.1 h.2.1
      have hW : WoM b M1 s.1 (fun i w => alw s.1 w i) (vP s.1) := ⟨h.2.1.l f1, fun q hq w hw => w1 q w hw (Or.inl hq)⟩
      obtain ⟨M2, e2, t2, g1, g2⟩ := MfindRow_ (fu := fu) (by omega) h.1.1 hW (okP h.1.1) (fun w hw => (h.1.1.2.2.2.1 w hw).1)
      rw [in28_t a1 a2, bd_s, if_neg one0, if_neg a1, if_neg a2, e1, e2, bd_s, t2 a a1, bd_s]
      exact ⟨M2, rfl, h.x (fun c h1 h2 h3 h4 h5 => by rw [g1 c h1 h2 h3, f1 c h4 h5]) (fun j hj => by rw [g2 j hj, f1 b (by omega) (by omega)])⟩
end PUB
