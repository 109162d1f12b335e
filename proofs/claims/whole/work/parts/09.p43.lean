section PUB
variable {fu b : Nat} {M : Mem} {s : Sg}
/-- a row of 270 that holds a meadow -/
def K27 (f : Nat → Int32) (σ : Md) : Prop := (∀ i, i < mN σ → f i = nI (mO σ i) ∧ ∀ c, c < 15 → f (9 + (15 * i + c)) = nI (mG σ i c)) ∧ (∀ a, a < 6 → f (144 + a) = mH σ a) ∧ (∀ j, j < 4 → f (150 + j) = nI (mS σ j)) ∧ (∀ a c, a < 6 → c < 6 → f (154 + (6 * a + c)) = nI (if mF σ a c = true then 1 else 0)) ∧ ∀ w, w < mW σ → f (190 + 8 * w) = nI (mL σ w) ∧ f (190 + (8 * w + 1)) = nI (mP σ w) ∧ ∀ j, j < mL σ w → f (190 + (8 * w + 2 + j)) = nI (mT σ w j)
theorem c27 : (∀ i, i < 9 → cr b i = b + 2 ∧ ci i = i) ∧ (∀ i, i < 135 → cr b (9 + i) = b + 3 ∧ ci (9 + i) = i) ∧ (∀ i, i < 6 → cr b (144 + i) = b + 4 ∧ ci (144 + i) = i) ∧ (∀ i, i < 4 → cr b (150 + i) = b + 5 ∧ ci (150 + i) = i) ∧ (∀ i, i < 36 → cr b (154 + i) = b + 6 ∧ ci (154 + i) = i) ∧ ∀ i, i < 80 → cr b (190 + i) = b + 7 ∧ ci (190 + i) = i := by
  refine ⟨fun i hi => ?_, fun i hi => ?_, fun i hi => ?_, fun i hi => ?_, fun i hi => ?_, fun i hi => ?_⟩
  · rcases crx (b := b) (x := i) (by omega) with a | a | a | a | a | a <;> omega
  · rcases crx (b := b) (x := 9 + i) (by omega) with a | a | a | a | a | a <;> omega
  · rcases crx (b := b) (x := 144 + i) (by omega) with a | a | a | a | a | a <;> omega
  · rcases crx (b := b) (x := 150 + i) (by omega) with a | a | a | a | a | a <;> omega
  · rcases crx (b := b) (x := 154 + i) (by omega) with a | a | a | a | a | a <;> omega
  · rcases crx (b := b) (x := 190 + i) (by omega) with a | a | a | a | a | a <;> omega
theorem MdM.k27 {σ : Md} (hw : Wf σ) (h : MdM b M σ) : K27 (fun x => M (cr b x) (ci x)) σ := by
  obtain ⟨t1, t2, t3, t4, t5, t6⟩ := c27 (b := b)
  obtain ⟨h1, h3, h4, h5, h6, h7, h8⟩ := h
  have hN := hw.2.1.1
  have hW := hw.2.1.2
  refine ⟨fun i hi => ⟨?_, fun c hc => ?_⟩, fun a ha => ?_, fun j hj => ?_, fun a c ha hc => ?_, fun w hwo => ?_⟩
  · show M (cr b i) (ci i) = _
    rw [(t1 i (by omega)).1, (t1 i (by omega)).2]; exact (h4 i hi).1
  · show M (cr b _) (ci _) = _
    rw [(t2 (15 * i + c) (by omega)).1, (t2 (15 * i + c) (by omega)).2]; exact (h4 i hi).2 c hc
  · show M (cr b _) (ci _) = _
    rw [(t3 a ha).1, (t3 a ha).2]; exact h5 a ha
  · show M (cr b _) (ci _) = _
    rw [(t4 j hj).1, (t4 j hj).2]; exact h6 j hj
  · show M (cr b _) (ci _) = _
    rw [(t5 (6 * a + c) (by omega)).1, (t5 (6 * a + c) (by omega)).2]; exact h7 a c ha hc
  · have l6 := (hw.2.2.2.1 w hwo).2.1
    obtain ⟨g1, g2, g3⟩ := h8 w hwo
    refine ⟨?_, ?_, fun j hj => ?_⟩
    · show M (cr b _) (ci _) = _
      rw [(t6 (8 * w) (by omega)).1, (t6 (8 * w) (by omega)).2]; exact g1
    · show M (cr b _) (ci _) = _
      rw [(t6 (8 * w + 1) (by omega)).1, (t6 (8 * w + 1) (by omega)).2]; exact g2
    · show M (cr b _) (ci _) = _
      rw [(t6 (8 * w + 2 + j) (by omega)).1, (t6 (8 * w + 2 + j) (by omega)).2]; exact g3 j hj
theorem k27_md {σ : Md} (hw : Wf σ) (h : K27 (fun x => M (cr b x) (ci x)) σ) (h7 : M b 7 = nI (mN σ)) (h8 : M b 8 = nI (mW σ)) (h1 : ∀ l, l < 26 → M (b + 1) l = nI (shp l)) : MdM b M σ := by
  obtain ⟨t1, t2, t3, t4, t5, t6⟩ := c27 (b := b)
  obtain ⟨k1, k2, k3, k4, k5⟩ := h
  have hN := hw.2.1.1
  have hW := hw.2.1.2
  refine ⟨⟨h7, h8⟩, h1, fun i hi => ⟨?_, fun c hc => ?_⟩, fun a ha => ?_, fun j hj => ?_, fun a c ha hc => ?_, fun w hwo => ?_⟩
  · have this : M (cr b i) (ci i) = nI (mO σ i) := (k1 i hi).1
    rw [(t1 i (by omega)).1, (t1 i (by omega)).2] at this; exact this
  · have this : M (cr b (9 + (15 * i + c))) (ci (9 + (15 * i + c))) = nI (mG σ i c) := (k1 i hi).2 c hc
    rw [(t2 (15 * i + c) (by omega)).1, (t2 (15 * i + c) (by omega)).2] at this; exact this
  · have this : M (cr b (144 + a)) (ci (144 + a)) = mH σ a := k2 a ha
    rw [(t3 a ha).1, (t3 a ha).2] at this; exact this
  · have this : M (cr b (150 + j)) (ci (150 + j)) = nI (mS σ j) := k3 j hj
    rw [(t4 j hj).1, (t4 j hj).2] at this; exact this
  · have this : M (cr b (154 + (6 * a + c))) (ci (154 + (6 * a + c))) = nI (if mF σ a c = true then 1 else 0) := k4 a c ha hc
    rw [(t5 (6 * a + c) (by omega)).1, (t5 (6 * a + c) (by omega)).2] at this; exact this
  · have l6 := (hw.2.2.2.1 w hwo).2.1
    obtain ⟨g1, g2, g3⟩ := k5 w hwo
    refine ⟨?_, ?_, fun j hj => ?_⟩
    · have g1' : M (cr b (190 + 8 * w)) (ci (190 + 8 * w)) = nI (mL σ w) := g1
      rw [(t6 (8 * w) (by omega)).1, (t6 (8 * w) (by omega)).2] at g1'; exact g1'
    · have g2' : M (cr b (190 + (8 * w + 1))) (ci (190 + (8 * w + 1))) = nI (mP σ w) := g2
      rw [(t6 (8 * w + 1) (by omega)).1, (t6 (8 * w + 1) (by omega)).2] at g2'; exact g2'
    · have this : M (cr b (190 + (8 * w + 2 + j))) (ci (190 + (8 * w + 2 + j))) = nI (mT σ w j) := g3 j hj
      rw [(t6 (8 * w + 2 + j) (by omega)).1, (t6 (8 * w + 2 + j) (by omega)).2] at this; exact this
theorem K27.congr {f g : Nat → Int32} {σ : Md} (hw : Wf σ) (h : K27 f σ) (e : ∀ x, x < 270 → g x = f x) : K27 g σ := by
  obtain ⟨k1, k2, k3, k4, k5⟩ := h
  have hN := hw.2.1.1
  have hW := hw.2.1.2
  refine ⟨fun i hi => ⟨by rw [e _ (by omega)]; exact (k1 i hi).1, fun c hc => by rw [e _ (by omega)]; exact (k1 i hi).2 c hc⟩, fun a ha => by rw [e _ (by omega)]; exact k2 a ha, fun j hj => by rw [e _ (by omega)]; exact k3 j hj, fun a c ha hc => by rw [e _ (by omega)]; exact k4 a c ha hc, fun w hwo => ?_⟩
  have l6 := (hw.2.2.2.1 w hwo).2.1
  exact ⟨by rw [e _ (by omega)]; exact (k5 w hwo).1, by rw [e _ (by omega)]; exact (k5 w hwo).2.1, fun j hj => by rw [e _ (by omega)]; exact (k5 w hwo).2.2 j hj⟩
end PUB
