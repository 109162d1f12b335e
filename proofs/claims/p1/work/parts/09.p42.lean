/-- where the image's place x is carried from -/
def cr (b x : Nat) : Nat := if x < 9 then b + 2 else if x < 144 then b + 3 else if x < 150 then b + 4 else if x < 154 then b + 5 else if x < 190 then b + 6 else b + 7
def ci (x : Nat) : Nat := if x < 9 then x else if x < 144 then x - 9 else if x < 150 then x - 144 else if x < 154 then x - 150 else if x < 190 then x - 154 else x - 190
theorem up_self {M : Mem} {k j : Nat} : up M k j (M k j) = M := by
  funext a c
  by_cases e : a = k
  · subst e
    by_cases z : c = j
    · subst z; rw [up_at]
    · rw [up_j z]
  · rw [up_k e]
theorem crx {b x : Nat} (h : x < 270) : (x < 9 ∧ cr b x = b + 2 ∧ ci x = x) ∨ (9 ≤ x ∧ x < 144 ∧ cr b x = b + 3 ∧ ci x = x - 9) ∨ (144 ≤ x ∧ x < 150 ∧ cr b x = b + 4 ∧ ci x = x - 144) ∨ (150 ≤ x ∧ x < 154 ∧ cr b x = b + 5 ∧ ci x = x - 150) ∨ (154 ≤ x ∧ x < 190 ∧ cr b x = b + 6 ∧ ci x = x - 154) ∨ (190 ≤ x ∧ cr b x = b + 7 ∧ ci x = x - 190) := by
  unfold cr ci
  by_cases h1 : x < 9
  · rw [if_pos h1, if_pos h1]; exact Or.inl ⟨h1, rfl, rfl⟩
  · rw [if_neg h1, if_neg h1]
    by_cases h2 : x < 144
    · rw [if_pos h2, if_pos h2]; exact Or.inr (Or.inl ⟨by omega, h2, rfl, rfl⟩)
    · rw [if_neg h2, if_neg h2]
      by_cases h3 : x < 150
      · rw [if_pos h3, if_pos h3]; exact Or.inr (Or.inr (Or.inl ⟨by omega, h3, rfl, rfl⟩))
      · rw [if_neg h3, if_neg h3]
        by_cases h4 : x < 154
        · rw [if_pos h4, if_pos h4]; exact Or.inr (Or.inr (Or.inr (Or.inl ⟨by omega, h4, rfl, rfl⟩)))
        · rw [if_neg h4, if_neg h4]
          by_cases h5 : x < 190
          · rw [if_pos h5, if_pos h5]; exact Or.inr (Or.inr (Or.inr (Or.inr (Or.inl ⟨by omega, h5, rfl, rfl⟩))))
          · rw [if_neg h5, if_neg h5]; exact Or.inr (Or.inr (Or.inr (Or.inr (Or.inr ⟨by omega, rfl, rfl⟩))))
theorem crci {b x y : Nat} (hx : x < 270) (hy : y < 270) (h : x ≠ y) : ¬ (cr b x = cr b y ∧ ci x = ci y) := by
  rintro ⟨e1, e2⟩
  rcases crx (b := b) hx with a | a | a | a | a | a <;> rcases crx (b := b) hy with c | c | c | c | c | c <;> omega
theorem cr_in {b x : Nat} (h : x < 270) : b + 2 ≤ cr b x ∧ cr b x ≤ b + 7 := by
  rcases crx (b := b) h with a | a | a | a | a | a <;> omega
section PUB
variable {fu b : Nat} {M : Mem} {s : Sg}
theorem car0 {x : Nat} {v : Int32} (hx : x < 270) : f_X9_carried M b (nI x) v 0 = some (M (cr b x) (ci x), M) := by
  unfold f_X9_carried cr ci lt
  by_cases h1 : x < 9
  · rw [if_neg (by rw [li_9, q_le (by omega) (by omega)]; omega), if_pos rfl, gd_t (q_ib (by omega) (by omega)), bd_s, gd_t (q_ib (by omega) (by omega)), gd_t (q_ib (by omega) (by omega)), q_cl (by omega), up_self, if_pos h1, if_pos h1]
  · have e1 : nI x + (-9) = nI (x - 9) := by rw [← Int32.sub_eq_add_neg, li_9, q_sb (by omega)]
    rw [if_pos (by rw [li_9, q_le (by omega) (by omega)]; omega), e1, if_neg h1, if_neg h1]
    by_cases h2 : x < 144
    · rw [if_neg (by rw [li_135, q_le (by omega) (by omega)]; omega), if_pos rfl, gd_t (q_ib (by omega) (by omega)), bd_s, gd_t (q_ib (by omega) (by omega)), gd_t (q_ib (by omega) (by omega)), q_cl (by omega), up_self, if_pos h2, if_pos h2]
    · have e2 : nI (x - 9) + (-135) = nI (x - 144) := by rw [← Int32.sub_eq_add_neg, li_135, q_sb (by omega)] <;> (congr 1; omega)
      rw [if_pos (by rw [li_135, q_le (by omega) (by omega)]; omega), e2, if_neg h2, if_neg h2]
      by_cases h3 : x < 150
      · rw [if_neg (by rw [li_6, q_le (by omega) (by omega)]; omega), if_pos rfl, gd_t (q_ib (by omega) (by omega)), bd_s, gd_t (q_ib (by omega) (by omega)), gd_t (q_ib (by omega) (by omega)), q_cl (by omega), up_self, if_pos h3, if_pos h3]
      · have e3 : nI (x - 144) + (-6) = nI (x - 150) := by rw [← Int32.sub_eq_add_neg, li_6, q_sb (by omega)] <;> (congr 1; omega)
        rw [if_pos (by rw [li_6, q_le (by omega) (by omega)]; omega), e3, if_neg h3, if_neg h3]
        by_cases h4 : x < 154
        · rw [if_neg (by rw [li_4, q_le (by omega) (by omega)]; omega), if_pos rfl, gd_t (q_ib (by omega) (by omega)), bd_s, gd_t (q_ib (by omega) (by omega)), gd_t (q_ib (by omega) (by omega)), q_cl (by omega), up_self, if_pos h4, if_pos h4]
        · have e4 : nI (x - 150) + (-4) = nI (x - 154) := by rw [← Int32.sub_eq_add_neg, li_4, q_sb (by omega)] <;> (congr 1; omega)
          rw [if_pos (by rw [li_4, q_le (by omega) (by omega)]; omega), e4, if_neg h4, if_neg h4]
          by_cases h5 : x < 190
          · rw [if_neg (by rw [li_36, q_le (by omega) (by omega)]; omega), if_pos rfl, gd_t (q_ib (by omega) (by omega)), bd_s, gd_t (q_ib (by omega) (by omega)), gd_t (q_ib (by omega) (by omega)), q_cl (by omega), up_self, if_pos h5, if_pos h5]
          · have e5 : nI (x - 154) + (-36) = nI (x - 190) := by rw [← Int32.sub_eq_add_neg, li_36, q_sb (by omega)] <;> (congr 1; omega)
            rw [if_pos (by rw [li_36, q_le (by omega) (by omega)]; omega), e5, if_neg h5, if_neg h5, if_pos rfl, gd_t (q_ib (by omega) (by omega)), bd_s, gd_t (q_ib (by omega) (by omega)), gd_t (q_ib (by omega) (by omega)), q_cl (by omega), up_self]
theorem car1 {x : Nat} {v : Int32} (hx : x < 270) : f_X9_carried M b (nI x) v 1 = some (v, up M (cr b x) (ci x) v) := by
  unfold f_X9_carried cr ci lt
  by_cases h1 : x < 9
  · rw [if_neg (by rw [li_9, q_le (by omega) (by omega)]; omega), if_neg one0, bd_s, gd_t (q_ib (by omega) (by omega)), gd_t (q_ib (by omega) (by omega)), q_cl (by omega), up_at, if_pos h1, if_pos h1]
  · have e1 : nI x + (-9) = nI (x - 9) := by rw [← Int32.sub_eq_add_neg, li_9, q_sb (by omega)]
    rw [if_pos (by rw [li_9, q_le (by omega) (by omega)]; omega), e1, if_neg h1, if_neg h1]
    by_cases h2 : x < 144
    · rw [if_neg (by rw [li_135, q_le (by omega) (by omega)]; omega), if_neg one0, bd_s, gd_t (q_ib (by omega) (by omega)), gd_t (q_ib (by omega) (by omega)), q_cl (by omega), up_at, if_pos h2, if_pos h2]
    · have e2 : nI (x - 9) + (-135) = nI (x - 144) := by rw [← Int32.sub_eq_add_neg, li_135, q_sb (by omega)] <;> (congr 1; omega)
      rw [if_pos (by rw [li_135, q_le (by omega) (by omega)]; omega), e2, if_neg h2, if_neg h2]
      by_cases h3 : x < 150
      · rw [if_neg (by rw [li_6, q_le (by omega) (by omega)]; omega), if_neg one0, bd_s, gd_t (q_ib (by omega) (by omega)), gd_t (q_ib (by omega) (by omega)), q_cl (by omega), up_at, if_pos h3, if_pos h3]
      · have e3 : nI (x - 144) + (-6) = nI (x - 150) := by rw [← Int32.sub_eq_add_neg, li_6, q_sb (by omega)] <;> (congr 1; omega)
        rw [if_pos (by rw [li_6, q_le (by omega) (by omega)]; omega), e3, if_neg h3, if_neg h3]
        by_cases h4 : x < 154
        · rw [if_neg (by rw [li_4, q_le (by omega) (by omega)]; omega), if_neg one0, bd_s, gd_t (q_ib (by omega) (by omega)), gd_t (q_ib (by omega) (by omega)), q_cl (by omega), up_at, if_pos h4, if_pos h4]
        · have e4 : nI (x - 150) + (-4) = nI (x - 154) := by rw [← Int32.sub_eq_add_neg, li_4, q_sb (by omega)] <;> (congr 1; omega)
          rw [if_pos (by rw [li_4, q_le (by omega) (by omega)]; omega), e4, if_neg h4, if_neg h4]
          by_cases h5 : x < 190
          · rw [if_neg (by rw [li_36, q_le (by omega) (by omega)]; omega), if_neg one0, bd_s, gd_t (q_ib (by omega) (by omega)), gd_t (q_ib (by omega) (by omega)), q_cl (by omega), up_at, if_pos h5, if_pos h5]
          · have e5 : nI (x - 154) + (-36) = nI (x - 190) := by rw [← Int32.sub_eq_add_neg, li_36, q_sb (by omega)] <;> (congr 1; omega)
            rw [if_pos (by rw [li_36, q_le (by omega) (by omega)]; omega), e5, if_neg h5, if_neg h5, if_neg one0, bd_s, gd_t (q_ib (by omega) (by omega)), gd_t (q_ib (by omega) (by omega)), q_cl (by omega), up_at]
/-- a row of 270 that holds a meadow -/
def K27 (f : Nat → Int32) (σ : Md) : Prop := (∀ i, i < mN σ → f i = nI (mO σ i) ∧ ∀ c, c < 15 → f (9 + (15 * i + c)) = nI (mG σ i c)) ∧ (∀ a, a < 6 → f (144 + a) = mH σ a) ∧ (∀ j, j < 4 → f (150 + j) = nI (mS σ j)) ∧ (∀ a c, a < 6 → c < 6 → f (154 + (6 * a + c)) = nI (if mF σ a c = true then 1 else 0)) ∧ ∀ w, w < mW σ → f (190 + 8 * w) = nI (mL σ w) ∧ f (190 + (8 * w + 1)) = nI (mP σ w) ∧ ∀ j, j < mL σ w → f (190 + (8 * w + 2 + j)) = nI (mT σ w j)
theorem c27 : (∀ i, i < 9 → cr b i = b + 2 ∧ ci i = i) ∧ (∀ i, i < 135 → cr b (9 + i) = b + 3 ∧ ci (9 + i) = i) ∧ (∀ i, i < 6 → cr b (144 + i) = b + 4 ∧ ci (144 + i) = i) ∧ (∀ i, i < 4 → cr b (150 + i) = b + 5 ∧ ci (150 + i) = i) ∧ (∀ i, i < 36 → cr b (154 + i) = b + 6 ∧ ci (154 + i) = i) ∧ ∀ i, i < 80 → cr b (190 + i) = b + 7 ∧ ci (190 + i) = i := by
  refine ⟨fun i hi => ?_, fun i hi => ?_, fun i hi => ?_, fun i hi => ?_, fun i hi => ?_, fun i hi => ?_⟩
  · rcases crx (b := b) (x := i) (by omega) with a | a | a | a | a | a <;> omega
  · rcases crx (b := b) (x := 9 + i) (by omega) with a | a | a | a | a | a <;> omega
  · rcases crx (b := b) (x := 144 + i) (by omega) with a | a | a | a | a | a <;> omega
  · rcases crx (b := b) (x := 150 + i) (by omega) with a | a | a | a | a | a <;> omega
  · rcases crx (b := b) (x := 154 + i) (by omega) with a | a | a | a | a | a <;> omega
  · rcases crx (b := b) (x := 190 + i) (by omega) with a | a | a | a | a | a <;> omega
theorem MdM.k27 {σ : Md} (hw : Wf σ) (h : MdM b M σ) : K27 (fun x => M (cr b x) (ci x)) σ := by
  obtain ⟨t1, t2, t3, t4, t5, t6⟩ := c27 (b := b)
  obtain ⟨h1, h3, h4, h5, h6, h7, h8⟩ := h
  have hN := hw.2.1.1
  have hW := hw.2.1.2
  refine ⟨fun i hi => ⟨?_, fun c hc => ?_⟩, fun a ha => ?_, fun j hj => ?_, fun a c ha hc => ?_, fun w hwo => ?_⟩
  · show M (cr b i) (ci i) = _
    rw [(t1 i (by omega)).1, (t1 i (by omega)).2]; exact (h4 i hi).1
  · show M (cr b _) (ci _) = _
    rw [(t2 (15 * i + c) (by omega)).1, (t2 (15 * i + c) (by omega)).2]; exact (h4 i hi).2 c hc
  · show M (cr b _) (ci _) = _
    rw [(t3 a ha).1, (t3 a ha).2]; exact h5 a ha
  · show M (cr b _) (ci _) = _
    rw [(t4 j hj).1, (t4 j hj).2]; exact h6 j hj
  · show M (cr b _) (ci _) = _
    rw [(t5 (6 * a + c) (by omega)).1, (t5 (6 * a + c) (by omega)).2]; exact h7 a c ha hc
  · have l6 := (hw.2.2.2.1 w hwo).2.1
    obtain ⟨g1, g2, g3⟩ := h8 w hwo
    refine ⟨?_, ?_, fun j hj => ?_⟩
    · show M (cr b _) (ci _) = _
      rw [(t6 (8 * w) (by omega)).1, (t6 (8 * w) (by omega)).2]; exact g1
    · show M (cr b _) (ci _) = _
      rw [(t6 (8 * w + 1) (by omega)).1, (t6 (8 * w + 1) (by omega)).2]; exact g2
    · show M (cr b _) (ci _) = _
      rw [(t6 (8 * w + 2 + j) (by omega)).1, (t6 (8 * w + 2 + j) (by omega)).2]; exact g3 j hj
theorem k27_md {σ : Md} (hw : Wf σ) (h : K27 (fun x => M (cr b x) (ci x)) σ) (h7 : M b 7 = nI (mN σ)) (h8 : M b 8 = nI (mW σ)) (h1 : ∀ l, l < 26 → M (b + 1) l = nI (shp l)) : MdM b M σ := by
  obtain ⟨t1, t2, t3, t4, t5, t6⟩ := c27 (b := b)
  obtain ⟨k1, k2, k3, k4, k5⟩ := h
  have hN := hw.2.1.1
  have hW := hw.2.1.2
  refine ⟨⟨h7, h8⟩, h1, fun i hi => ⟨?_, fun c hc => ?_⟩, fun a ha => ?_, fun j hj => ?_, fun a c ha hc => ?_, fun w hwo => ?_⟩
  · have := (k1 i hi).1
    rw [(t1 i (by omega)).1, (t1 i (by omega)).2] at this; exact this
  · have := (k1 i hi).2 c hc
    rw [(t2 (15 * i + c) (by omega)).1, (t2 (15 * i + c) (by omega)).2] at this; exact this
  · have := k2 a ha
    rw [(t3 a ha).1, (t3 a ha).2] at this; exact this
  · have := k3 j hj
    rw [(t4 j hj).1, (t4 j hj).2] at this; exact this
  · have := k4 a c ha hc
    rw [(t5 (6 * a + c) (by omega)).1, (t5 (6 * a + c) (by omega)).2] at this; exact this
  · have l6 := (hw.2.2.2.1 w hwo).2.1
    obtain ⟨g1, g2, g3⟩ := k5 w hwo
    refine ⟨?_, ?_, fun j hj => ?_⟩
    · rw [(t6 (8 * w) (by omega)).1, (t6 (8 * w) (by omega)).2] at g1; exact g1
    · rw [(t6 (8 * w + 1) (by omega)).1, (t6 (8 * w + 1) (by omega)).2] at g2; exact g2
    · have := g3 j hj
      rw [(t6 (8 * w + 2 + j) (by omega)).1, (t6 (8 * w + 2 + j) (by omega)).2] at this; exact this
theorem K27.congr {f g : Nat → Int32} {σ : Md} (hw : Wf σ) (h : K27 f σ) (e : ∀ x, x < 270 → g x = f x) : K27 g σ := by
  obtain ⟨k1, k2, k3, k4, k5⟩ := h
  have hN := hw.2.1.1
  have hW := hw.2.1.2
  refine ⟨fun i hi => ⟨by rw [e _ (by omega)]; exact (k1 i hi).1, fun c hc => by rw [e _ (by omega)]; exact (k1 i hi).2 c hc⟩, fun a ha => by rw [e _ (by omega)]; exact k2 a ha, fun j hj => by rw [e _ (by omega)]; exact k3 j hj, fun a c ha hc => by rw [e _ (by omega)]; exact k4 a c ha hc, fun w hwo => ?_⟩
  have l6 := (hw.2.2.2.1 w hwo).2.1
  exact ⟨by rw [e _ (by omega)]; exact (k5 w hwo).1, by rw [e _ (by omega)]; exact (k5 w hwo).2.1, fun j hj => by rw [e _ (by omega)]; exact (k5 w hwo).2.2 j hj⟩
theorem X9_image_ (hf : 300 ≤ fu) (h : RM b M s) : ∃ M', f_X9_image fu M b = some ((sp_image s).1, M') ∧ RM b M' (sp_image s).2 := by
  obtain ⟨w, m, k, t, sh⟩ := id h
  unfold f_X9_image sp_image
  obtain ⟨M1, e, i1, i2⟩ := cntM (fun n x Mx => lp_X9_image_2 fu b (fun (M5 : Mem) => gd (inb (0 : Int32) 2) (lt (up M5 (b + 17) (0 : Int32).toNatClampNeg (M5 b 7)) (fun M7 : Mem => gd (inb (1 : Int32) 2) (lt (up M7 (b + 17) (1 : Int32).toNatClampNeg (M7 b 8)) (fun M9 : Mem => lt (up M9 b 21 (1 : Int32)) (fun M10 : Mem => some ((1 : Int32), M10))))))) n (nI x) Mx) (fun x Mx => (∀ a, a ≠ b + 16 → Mx a = M a) ∧ ∀ y, y < x → Mx (b + 16) y = M (cr b y) (ci y)) (fun M5 => some ((1 : Int32), up (up (up M5 (b + 17) 0 (M5 b 7)) (b + 17) 1 (M5 b 8)) b 21 1)) 270 (fun n Mx _ => by
    show lp_X9_image_2 _ _ _ (n + 1) _ _ = _
    rw [lp_X9_image_2, if_pos (by decide), gd_t (by decide)]
    simp only [lt]
    rw [gd_t (by decide), li_0, li_1, q_cl (by omega), q_cl (by omega), up_k (a := b) (by omega)]) (fun n x Mx hx hI => by
    obtain ⟨i1, i2⟩ := hI
    have hc := cr_in (b := b) hx
    refine ⟨up Mx (b + 16) x (Mx (cr b x) (ci x)), ?_, fun a ha => by rw [up_k ha]; exact i1 a ha, fun y hy => ?_⟩
    · show lp_X9_image_2 _ _ _ (n + 1) _ _ = lp_X9_image_2 _ _ _ n _ _
      rw [lp_X9_image_2, li_270, if_neg (by rw [q_le (by omega) (by omega)]; omega), car0 hx, bd_s, gd_t (q_ib (by omega) hx), q_cl (by omega)]
      simp only [lt]
      rw [nI_1]
    · by_cases e : y = x
      · subst e; rw [up_at, i1 _ (by omega)]
      · rw [up_j e]; exact i2 y (by omega)) fu 0 M (by omega) (by omega) ⟨fun _ _ => rfl, fun y hy => absurd hy (Nat.not_lt_zero y)⟩
  refine ⟨up (up (up M1 (b + 17) 0 (M1 b 7)) (b + 17) 1 (M1 b 8)) b 21 1, e, ⟨w.1, fun σk hk => by cases hk; exact w.1, w.2.2⟩, m.frame ?_ ?_ (fun a p1 p2 => ?_), ?_, ⟨?_, fun j hj => ?_⟩, fun q hq => ?_⟩
  · rw [up_j (by omega), up_k (by omega), up_k (by omega), i1 b (by omega)]
  · rw [up_j (by omega), up_k (by omega), up_k (by omega), i1 b (by omega)]
  · rw [up_k (by omega), up_k (by omega), up_k (by omega), i1 a (by omega)]
  · have hk : K27 (M1 (b + 16)) s.1 := (m.k27 w.1).congr w.1 (fun x hx => i2 x hx)
    refine ⟨up_at, ?_, ?_, ?_⟩
    · rw [up_k (by omega), up_j (by omega), up_at, i1 b (by omega)]; exact m.1.1
    · rw [up_k (by omega), up_at, i1 b (by omega)]; exact m.1.2
    · rw [up_k (by omega), up_k (by omega), up_k (by omega)]; exact hk
  · rw [up_j (by omega), up_k (by omega), up_k (by omega), i1 b (by omega)]; exact t.1
  · rw [up_k (by omega), up_k (by omega), up_k (by omega), i1 _ (by omega)]; exact t.2 j hj
  · rw [up_k (by omega), up_k (by omega), up_k (by omega), i1 _ (by omega), up_k (by omega), up_k (by omega), up_k (by omega), i1 _ (by omega), up_k (by omega), up_k (by omega), up_k (by omega), i1 _ (by omega)]; exact sh q hq
theorem X9_restore_ (hf : 300 ≤ fu) (h : RM b M s) : ∃ M', f_X9_restore fu M b = some ((sp_restore s).1, M') ∧ RM b M' (sp_restore s).2 := by
  obtain ⟨w, m, k, t, sh⟩ := id h
  unfold f_X9_restore sp_restore
  revert k
  cases e : s.2.1 with
  | none =>
    intro k
    have k' : M b 21 = 0 := k
    rw [if_pos k']
    exact ⟨M, rfl, h⟩
  | some σk =>
    intro k
    have wk := w.2.1 σk e
    obtain ⟨k1, k2, k3, k4⟩ : M b 21 = 1 ∧ M (b + 17) 0 = nI (mN σk) ∧ M (b + 17) 1 = nI (mW σk) ∧ K27 (M (b + 16)) σk := k
    rw [if_neg (by rw [k1]; decide)]
    obtain ⟨M1, e1, i1, i2⟩ := cntM (fun n x Mx => lp_X9_restore_12 fu b (fun (M4 : Mem) => gd (inb (0 : Int32) 2) (lt (up M4 b 7 (M4 (b + 17) (0 : Int32).toNatClampNeg)) (fun M6 : Mem => gd (inb (1 : Int32) 2) (lt (up M6 b 8 (M6 (b + 17) (1 : Int32).toNatClampNeg)) (fun M8 : Mem => some ((1 : Int32), M8)))))) n (nI x) Mx) (fun x Mx => (∀ a, (a < b + 2 ∨ b + 8 ≤ a) → Mx a = M a) ∧ ∀ y, y < x → Mx (cr b y) (ci y) = M (b + 16) y) (fun M4 => some ((1 : Int32), up (up M4 b 7 (M4 (b + 17) 0)) b 8 (M4 (b + 17) 1))) 270 (fun n Mx _ => by
      show lp_X9_restore_12 _ _ _ (n + 1) _ _ = _
      rw [lp_X9_restore_12, if_pos (by decide), gd_t (by decide)]
      simp only [lt]
      rw [gd_t (by decide), li_0, li_1, q_cl (by omega), q_cl (by omega), up_k (a := b + 17) (by omega)]) (fun n x Mx hx hI => by
      obtain ⟨i1, i2⟩ := hI
      have hc := cr_in (b := b) hx
      refine ⟨up Mx (cr b x) (ci x) (M (b + 16) x), ?_, fun a ha => by rw [up_k (by omega)]; exact i1 a ha, fun y hy => ?_⟩
      · show lp_X9_restore_12 _ _ _ (n + 1) _ _ = lp_X9_restore_12 _ _ _ n _ _
        rw [lp_X9_restore_12, li_270, if_neg (by rw [q_le (by omega) (by omega)]; omega), gd_t (q_ib (by omega) hx), q_cl (by omega), car1 hx, bd_s, i1 (b + 16) (by omega)]
        simp only [lt]
        rw [nI_1]
      · by_cases e : y = x
        · subst e; rw [up_at]
        · have hn := crci (b := b) (x := y) (y := x) (by omega) hx e
          rw [← i2 y (by omega)]
          unfold up
          rw [if_neg hn]) fu 0 M (by omega) (by omega) ⟨fun _ _ => rfl, fun y hy => absurd hy (Nat.not_lt_zero y)⟩
    have hF : ∀ a, a ≠ b → up (up M1 b 7 (M1 (b + 17) 0)) b 8 (M1 (b + 17) 1) a = M1 a := fun a ha => by rw [up_k ha, up_k ha]
    refine ⟨up (up M1 b 7 (M1 (b + 17) 0)) b 8 (M1 (b + 17) 1), e1, h.md (k27_md wk (k4.congr wk (fun x hx => ?_)) ?_ ?_ ?_) wk ⟨fun a ha => by rw [hF a (by omega), i1 a (by omega)], by rw [up_j (by omega), up_j (by omega), i1 b (by omega)], by rw [up_j (by omega), up_j (by omega), i1 b (by omega)]⟩⟩
    · have hc := cr_in (b := b) hx
      rw [hF _ (by omega)]; exact i2 x hx
    · rw [up_j (by omega), up_at, i1 (b + 17) (by omega)]; exact k2
    · rw [up_at, i1 (b + 17) (by omega)]; exact k3
    · rw [hF _ (by omega), i1 (b + 1) (by omega)]; exact m.2.1
end PUB
