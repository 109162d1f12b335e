section PUB
variable {fu b : Nat} {M : Mem} {s : Sg}
theorem X8_image_ (hf : 300 ≤ fu) (h : RM b M s) : ∃ M', f_X8_image fu M b = some ((sp_image s).1, M') ∧ RM b M' (sp_image s).2 := by
  obtain ⟨w, m, k, t, sh⟩ := id h
  unfold f_X8_image sp_image
  obtain ⟨M1, e, i1, i2⟩ := cntM (fun n x Mx => lp_X8_image_2 fu b (fun (M5 : Mem) => gd (inb (0 : Int32) 2) (lt (up M5 (b + 17) (0 : Int32).toNatClampNeg (M5 b 7)) (fun M7 : Mem => gd (inb (1 : Int32) 2) (lt (up M7 (b + 17) (1 : Int32).toNatClampNeg (M7 b 8)) (fun M9 : Mem => lt (up M9 b 21 (1 : Int32)) (fun M10 : Mem => some ((1 : Int32), M10))))))) n (nI x) Mx) (fun x Mx => (∀ a, a ≠ b + 16 → Mx a = M a) ∧ ∀ y, y < x → Mx (b + 16) y = M (cr b y) (ci y)) (fun M5 => some ((1 : Int32), up (up (up M5 (b + 17) 0 (M5 b 7)) (b + 17) 1 (M5 b 8)) b 21 1)) 270 (fun n Mx _ => by
    show lp_X8_image_2 _ _ _ (n + 1) _ _ = _
    rw [lp_X8_image_2, li_270, if_pos (by rw [q_le (by omega) (by omega)]; omega), gd_t (by decide)]
    simp only [lt]
    rw [gd_t (by decide), li_0, li_1, q_cl (by omega), q_cl (by omega), up_k (a := b) (by omega)]) (fun n x Mx hx hI => by
    obtain ⟨i1, i2⟩ := hI
    have hc := cr_in (b := b) hx
    refine ⟨up Mx (b + 16) x (Mx (cr b x) (ci x)), ?_, fun a ha => by rw [up_k ha]; exact i1 a ha, fun y hy => ?_⟩
    · show lp_X8_image_2 _ _ _ (n + 1) _ _ = lp_X8_image_2 _ _ _ n _ _
      rw [lp_X8_image_2, li_270, if_neg (by rw [q_le (by omega) (by omega)]; omega), car0 hx, bd_s, gd_t (q_ib (by omega) hx), q_cl (by omega)]
      simp only [lt]
      rw [nI_1]
    · by_cases e : y = x
      · subst e; rw [up_at, i1 _ (by omega)]
      · rw [up_j e]; exact i2 y (by omega)) fu 0 M (by omega) (by omega) ⟨fun _ _ => rfl, fun y hy => absurd hy (Nat.not_lt_zero y)⟩
  refine ⟨up (up (up M1 (b + 17) 0 (M1 b 7)) (b + 17) 1 (M1 b 8)) b 21 1, e, ⟨w.1, fun σk hk => by cases hk; exact w.1, w.2.2⟩, m.frame ?_ ?_ (fun a p1 p2 => ?_), ?_, ⟨?_, fun j hj => ?_⟩, fun q hq => ?_⟩
  · rw [up_j (by omega), up_k (by omega), up_k (by omega), i1 b (by omega)]
  · rw [up_j (by omega), up_k (by omega), up_k (by omega), i1 b (by omega)]
  · rw [up_k (by omega), up_k (by omega), up_k (by omega), i1 a (by omega)]
  · have hk : K27 (M1 (b + 16)) s.1 := (m.k27 w.1).congr w.1 (fun x hx => i2 x hx)
    refine ⟨up_at, ?_, ?_, ?_⟩
    · rw [up_k (by omega), up_j (by omega), up_at, i1 b (by omega)]; exact m.1.1
    · rw [up_k (by omega), up_at, i1 b (by omega)]; exact m.1.2
    · rw [up_k (by omega), up_k (by omega), up_k (by omega)]; exact hk
  · rw [up_j (by omega), up_k (by omega), up_k (by omega), i1 b (by omega)]; exact t.1
  · rw [up_k (by omega), up_k (by omega), up_k (by omega), i1 _ (by omega)]; exact t.2 j hj
  · rw [up_k (by omega), up_k (by omega), up_k (by omega), i1 _ (by omega), up_k (by omega), up_k (by omega), up_k (by omega), i1 _ (by omega), up_k (by omega), up_k (by omega), up_k (by omega), i1 _ (by omega)]; exact sh q hq
theorem X8_restore_ (hf : 300 ≤ fu) (h : RM b M s) : ∃ M', f_X8_restore fu M b = some ((sp_restore s).1, M') ∧ RM b M' (sp_restore s).2 := by
  obtain ⟨w, m, k, t, sh⟩ := id h
  unfold f_X8_restore sp_restore
  revert k
  cases e : s.2.1 with
  | none =>
    intro k
    have k' : M b 21 = 0 := k
    rw [if_pos k']
    exact ⟨M, rfl, h⟩
  | some σk =>
    intro k
    have wk := w.2.1 σk e
    obtain ⟨k1, k2, k3, k4⟩ : M b 21 = 1 ∧ M (b + 17) 0 = nI (mN σk) ∧ M (b + 17) 1 = nI (mW σk) ∧ K27 (M (b + 16)) σk := k
    rw [if_neg (by rw [k1]; decide)]
    obtain ⟨M1, e1, i1, i2⟩ := cntM (fun n x Mx => lp_X8_restore_12 fu b (fun (M4 : Mem) => gd (inb (0 : Int32) 2) (lt (up M4 b 7 (M4 (b + 17) (0 : Int32).toNatClampNeg)) (fun M6 : Mem => gd (inb (1 : Int32) 2) (lt (up M6 b 8 (M6 (b + 17) (1 : Int32).toNatClampNeg)) (fun M8 : Mem => some ((1 : Int32), M8)))))) n (nI x) Mx) (fun x Mx => (∀ a, (a < b + 2 ∨ b + 8 ≤ a) → Mx a = M a) ∧ ∀ y, y < x → Mx (cr b y) (ci y) = M (b + 16) y) (fun M4 => some ((1 : Int32), up (up M4 b 7 (M4 (b + 17) 0)) b 8 (M4 (b + 17) 1))) 270 (fun n Mx _ => by
      show lp_X8_restore_12 _ _ _ (n + 1) _ _ = _
      rw [lp_X8_restore_12, li_270, if_pos (by rw [q_le (by omega) (by omega)]; omega), gd_t (by decide)]
      simp only [lt]
      rw [gd_t (by decide), li_0, li_1, q_cl (by omega), q_cl (by omega), up_k (a := b + 17) (by omega)]) (fun n x Mx hx hI => by
      obtain ⟨i1, i2⟩ := hI
      have hc := cr_in (b := b) hx
      refine ⟨up Mx (cr b x) (ci x) (M (b + 16) x), ?_, fun a ha => by rw [up_k (by omega)]; exact i1 a ha, fun y hy => ?_⟩
      · show lp_X8_restore_12 _ _ _ (n + 1) _ _ = lp_X8_restore_12 _ _ _ n _ _
        rw [lp_X8_restore_12, li_270, if_neg (by rw [q_le (by omega) (by omega)]; omega), gd_t (q_ib (by omega) hx), q_cl (by omega), car1 hx, bd_s, i1 (b + 16) (by omega)]
        simp only [lt]
        rw [nI_1]
      · by_cases e : y = x
        · subst e; rw [up_at]
        · have hn := crci (b := b) (x := y) (y := x) (by omega) hx e
          rw [← i2 y (by omega)]
          by_cases u : cr b y = cr b x
          · rw [u, up_j (fun v => hn ⟨u, v⟩)]
          · rw [up_k u]) fu 0 M (by omega) (by omega) ⟨fun _ _ => rfl, fun y hy => absurd hy (Nat.not_lt_zero y)⟩
    have hF : ∀ a, a ≠ b → up (up M1 b 7 (M1 (b + 17) 0)) b 8 (M1 (b + 17) 1) a = M1 a := fun a ha => by rw [up_k ha, up_k ha]
    refine ⟨up (up M1 b 7 (M1 (b + 17) 0)) b 8 (M1 (b + 17) 1), e1, h.md (k27_md wk (k4.congr wk (fun x hx => ?_)) ?_ ?_ ?_) wk ⟨fun a ha => by rw [hF a (by omega), i1 a (by omega)], by rw [up_j (by omega), up_j (by omega), i1 b (by omega)], by rw [up_j (by omega), up_j (by omega), i1 b (by omega)]⟩⟩
    · have hc := cr_in (b := b) hx
      rw [hF _ (by omega)]; exact i2 x hx
    · rw [up_j (by omega), up_at, i1 (b + 17) (by omega)]; exact k2
    · rw [up_at, i1 (b + 17) (by omega)]; exact k3
    · rw [hF _ (by omega), i1 (b + 1) (by omega)]; exact m.2.1
end PUB
