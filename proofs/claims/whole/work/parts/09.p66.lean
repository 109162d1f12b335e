set_option maxHeartbeats 4000000 in
set_option maxRecDepth 100000 in
theorem lz_X5_40 {p : Program} {l : Launch} {e : Env} {R : Room} {s : State} {m : MethodId} {args : Array Value} {below : List Frame} {meth : Method} {c : Code} {Q : State → Prop} {D : va_G} {cid : Nat → ClassId} {A : Nat → Prop} {ad0 : Nat → Nat} {ov0 : Nat → Option va_E} {E : List Value} {q0 c0 s0 : Nat} (S : Kx D cid A p s m args meth c cX5_init 2 RX5) (hE : E[3]? = some (.ref (ad0 (161)))) (hov : ov0 158 = some (.inr (5, E))) (hno : ∀ j, 162 ≤ j → ov0 j = none) (hq : ad0 158 = q0) (hrC : c0 + 2 * 4 ≤ R.cells) (hrS : s0 + 4 * 9 ≤ R.slots) (hrF : 2 ≤ R.frames ∧ 32 ≤ R.locals)
    (hK : ∀ (ad : Nat → Nat) (H : Heap) (locs : List Loc) (ls : Array Slot), (∀ j, j < 162 → ad j = ad0 j) → Dz D cid A s 158 (4 + 2 * 4) ad (va_up ov0 (161) (some (.inl (cid 4, 4, .inr (.inr (.inr (.inr (fun j => if j < 4 then some (ad (162 + 2 * j)) else none)))))))) H locs → lv_has ls 2 [(1, .int (nI 4)), (0, .ref q0)] → W p l e R s m args below meth c H locs (c0 + 2 * 4) (s0 + 4 * 9) Q (F0 m 64 ls [])) :
    ∀ (r i : Nat) (ad : Nat → Nat) (H : Heap) (locs : List Loc) (ls : Array Slot), i + r = 4 → (∀ j, j < 162 → ad j = ad0 j) → Dz D cid A s 158 (4 + 2 * i) ad (va_up ov0 (161) (some (.inl (cid 4, 4, .inr (.inr (.inr (.inr (fun j => if j < i then some (ad (162 + 2 * j)) else none)))))))) H locs → lv_has ls 2 [(1, .int (nI i)), (0, .ref q0)] → W p l e R s m args below meth c H locs (c0 + 2 * i) (s0 + i * 9) Q (F0 m 40 ls []) := by
  intro r
  induction r with
  | zero =>
    intro i ad H locs ls hir hag d hl
    have hi9 : i = 4 := by omega
    subst hi9
    refine lv_iload_n S.1 S.2.1 dX5_init_40 rfl (lv_at hl 0 rfl) ?_
    refine lv_iconst (v := 4) S.1 S.2.1 dX5_init_41 (by decide) ?_
    exact lv_icmp_ge (tgt := 64) S.1 S.2.1 dX5_init_42 (by decide) (fun cc => hK ad H locs ls hag d hl) (fun cc => absurd (show (4 : Int32) ≤ nI 4 by decide) cc)
  | succ r ih =>
    intro i ad H locs ls hir hag d hl
    have hi : i < 4 := by omega
    have hkd : kd (162 + 2 * i) = 3 := (by decide +kernel : ∀ i, i < 4 → kd (162 + 2 * i) = 3) i hi
    refine lv_iload_n S.1 S.2.1 dX5_init_40 rfl (lv_at hl 0 rfl) ?_
    refine lv_iconst (v := 4) S.1 S.2.1 dX5_init_41 (by decide) ?_
    refine lv_icmp_ge (tgt := 64) S.1 S.2.1 dX5_init_42 (by decide) (fun cc => absurd cc (by rw [show (4 : Int32) = nI 4 from rfl, q_le (by omega) (by omega)]; omega)) (fun cc => ?_)
    refine lv_aload_n S.1 S.2.1 dX5_init_45 rfl (lv_at hl 1 rfl) ?_
    refine z_get S d (j := 158) (f := 3) (fs := E) ⟨by omega, by omega⟩ ((va_up_ne _ _ (by omega)).trans hov) (by rfl : vwCl[5]? = some (RX5, TX5, 5)) fx_X5 (by decide) fl_RX5_25 hE dX5_init_46 ((hag 158 (by omega)).trans hq).symm ?_
    refine lv_iload_n S.1 S.2.1 dX5_init_49 rfl (lv_at hl 0 rfl) ?_
    refine z_new (C := RX6) (T := TX6) (N := 3) (ci := 6) (ty := tyX6) (fs := [.int 0, .int 0, .null]) S d fx_X6 tyX6_ok cl_RX5_23 it_RX6 in_RX6 rfl (fun j hj => by rcases (show j = 0 ∨ j = 1 ∨ j = 2 by omega) with rfl | rfl | rfl <;> rfl) ⟨by omega, by omega⟩ dX5_init_50 (fun q ad1 H1 ha1 hq1 d => ?_)
    refine lv_dup S.1 S.2.1 dX5_init_53 rfl ?_
    have et : 158 + (4 + 2 * i) = 162 + 2 * i := by omega
    rw [et] at hq1 ha1 d
    refine z_callN (t := 162 + 2 * i) S hl d et.symm (ct_X6 l hkd) (va_up_self _ _ _) (by decide) (blk_3 hkd) (nv_RX5_32 S.2.2.2.2.2.2.2.1.2.2.2) in_RX6 im_yX6_init co_yX6_init rfl (by decide +kernel) ⟨rfl, rfl⟩ ⟨by show 1 + 1 ≤ _; omega, by show 8 + (1 + 11) + 12 ≤ _; omega⟩ (by show _ ≤ 8; exact Nat.le_of_ble_eq_true rfl) ⟨by omega, by omega⟩ dX5_init_54 hq1.symm (fun ad2 H2 locs2 ha2 d => ?_)
    have h02 : ∀ j, j < 162 + 2 * i → ad2 j = ad j := fun j hj => (ha2 j (by omega)).trans (ha1 j hj)
    refine z_aast (C := RX6) (T := TX6) (N := 3) (t0 := 4) (jk := 162 + 2 * i) (j := 161) (i0 := i) S d ⟨by omega, by omega⟩ (by rw [va_up_ne _ _ (by omega), va_up_ne _ _ (by omega), va_up_self]) rfl ⟨by omega, by omega⟩ ((zc_n (va_up_self _ _ _)).trans (wo_3 hkd)) (by rfl : vwCl[6]? = some (RX6, TX6, 3)) rfl hi (by omega) dX5_init_57 (((h02 (161) (by omega)).trans (hag _ (by omega))).symm) (((ha2 _ (Nat.le_refl _)).trans hq1).symm) (fun H3 locs3 d => ?_)
    refine lv_iinc (v := nI (i + 1)) (lv' := [(1, .int (nI (i + 1))), (0, .ref q0)]) S.1 S.2.1 dX5_init_58 hl (k := 0) rfl (by rw [← nI_1]; rfl) (by decide) rfl (fun ls hl => ?_)
    refine lv_goto (tgt := 40) S.1 S.2.1 dX5_init_61 (by decide) ?_
    refine W.widen (k := c0 + 2 * (i + 1)) (n := s0 + (i + 1) * 9) (by omega) (by omega) ?_
    rw [show 4 + 2 * i + 2 = 4 + 2 * (i + 1) by omega] at d
    have eov : ∀ X : va_E, va_up (va_up (va_up (va_up ov0 (161) (some X)) (162 + 2 * i) (some (.inr (6, [.int 0, .int 0, .null])))) (162 + 2 * i) none) (161) (some (.inl (cid 4, 4, .inr (.inr (.inr (.inr (va_up (fun j => if j < i then some (ad (162 + 2 * j)) else none) i (some q)))))))) = va_up ov0 (161) (some (.inl (cid 4, 4, .inr (.inr (.inr (.inr (fun j => if j < (i + 1) then some (ad2 (162 + 2 * j)) else none))))))) := fun X => by
      funext j
      by_cases z : j = 161
      · subst z
        rw [va_up_self, va_up_self]
        congr 8
        funext w
        by_cases z1 : w = i
        · subst z1
          rw [va_up_self, if_pos (by omega), ha2 _ (Nat.le_refl _), hq1]
        · rw [va_up_ne _ _ z1]
          by_cases z2 : w < i
          · rw [if_pos z2, if_pos (by omega), h02 _ (by omega)]
          · rw [if_neg z2, if_neg (by omega)]
      · rw [va_up_ne _ _ z, va_up_ne _ _ z]
        by_cases z1 : j = 162 + 2 * i
        · subst z1
          rw [va_up_self, hno _ (by omega)]
        · rw [va_up_ne _ _ z1, va_up_ne _ _ z1, va_up_ne _ _ z]
    rw [eov] at d
    exact ih (i + 1) ad2 H3 locs3 ls (by omega) (fun j hj => (h02 j (by omega)).trans (hag j hj)) d hl
set_option maxHeartbeats 4000000 in
set_option maxRecDepth 100000 in
theorem ct_X5 (l : Launch)  : Ctr l yX5_init cX5_init 2 { frames := 2, cells := 11, slots := 129, locals := 32 } 5 [.null, .int 0, .null, .null, .int 0] 158 12 11 129 := by
  refine z_in (by decide) rfl (by decide) (fun D cid A q0 p e s m args below meth c S hnam hr ad ov hq hov hno d ls hl => ?_)
  have S : Kx D cid A p s m args meth c cX5_init 2 RX5 := S
  have hl : lv_has ls 2 [(0, .ref q0)] := hl
  refine lv_aload_n S.1 S.2.1 dX5_init_0 rfl (lv_at hl 0 rfl) ?_
  refine k_obj S hl ml_RX5_3 dX5_init_1 ⟨by decide, by decide⟩ ?_
  refine lv_aload_n S.1 S.2.1 dX5_init_4 rfl (lv_at hl 0 rfl) ?_
  refine lv_bipush (v := 80) S.1 S.2.1 dX5_init_5 (by decide) ?_
  refine z_newa (atype := .byte) (ty := .byte) (i := 1) (N' := 80) (a0 := (80, .inl (fun _ => 0))) S d ac_byte rfl rfl (fun _ => rfl) (by decide) (by decide) (by decide) ⟨by decide, by decide⟩ dX5_init_7 (fun qn1 ad1 H1 ha1 hn1 d => ?_)
  refine z_putF S hnam d (j := 158) (f := 0) (fs := [.null, .int 0, .null, .null, .int 0]) ⟨by omega, by omega⟩ (by simp [va_up, hov]) (by rfl : vwCl[5]? = some (RX5, TX5, 5)) fx_X5 tyX5_ok nmX5 (by decide) fl_RX5_9 rfl rfl rfl rfl rfl (Nat.le_of_ble_eq_true rfl) dX5_init_9 ((ha1 158 (by omega)).trans hq).symm (fun H locs1 d => ?_)
  refine lv_aload_n S.1 S.2.1 dX5_init_12 rfl (lv_at hl 0 rfl) ?_
  refine lv_iconst (v := 0) S.1 S.2.1 dX5_init_13 (by decide) ?_
  refine z_put S d (j := 158) (f := 1) (fs := [.ref qn1, .int 0, .null, .null, .int 0]) ⟨by omega, by omega⟩ (by simp [va_up, hov]) (by rfl : vwCl[5]? = some (RX5, TX5, 5)) fx_X5 tyX5_ok nmX5 (by decide) fl_RX5_15 rfl rfl rfl rfl (Nat.le_of_ble_eq_true rfl) dX5_init_14 ((ha1 158 (by omega)).trans hq).symm (fun H locs1 d => ?_)
  refine lv_aload_n S.1 S.2.1 dX5_init_17 rfl (lv_at hl 0 rfl) ?_
  refine lv_bipush (v := 9) S.1 S.2.1 dX5_init_18 (by decide) ?_
  refine z_newa (atype := .int) (ty := .int) (i := 0) (N' := 9) (a0 := (9, .inl (fun _ => 0))) S d ac_int rfl rfl (fun _ => rfl) (by decide) (by decide) (by decide) ⟨by decide, by decide⟩ dX5_init_20 (fun qn2 ad2 H2 ha2 hn2 d => ?_)
  refine z_putF S hnam d (j := 158) (f := 2) (fs := [.ref qn1, .int 0, .null, .null, .int 0]) ⟨by omega, by omega⟩ (by simp [va_up, hov]) (by rfl : vwCl[5]? = some (RX5, TX5, 5)) fx_X5 tyX5_ok nmX5 (by decide) fl_RX5_19 rfl rfl rfl rfl rfl (Nat.le_of_ble_eq_true rfl) dX5_init_22 ((ha2 158 (by omega)).trans ((ha1 158 (by omega)).trans hq)).symm (fun H locs1 d => ?_)
  refine lv_aload_n S.1 S.2.1 dX5_init_25 rfl (lv_at hl 0 rfl) ?_
  refine lv_iconst (v := 4) S.1 S.2.1 dX5_init_26 (by decide) ?_
  refine z_newq (C := "MownWords$Word") (i := 4) (N' := 4) S d cl_RX5_23 S.2.2.2.2.2.2.2.2.1.2.1 rfl (by decide) (by decide) (by decide) ⟨by decide, by decide⟩ dX5_init_27 (fun qn3 ad3 H3 ha3 hn3 d => ?_)
  refine z_putF S hnam d (j := 158) (f := 3) (fs := [.ref qn1, .int 0, .ref qn2, .null, .int 0]) ⟨by omega, by omega⟩ (by simp [va_up, hov]) (by rfl : vwCl[5]? = some (RX5, TX5, 5)) fx_X5 tyX5_ok nmX5 (by decide) fl_RX5_25 rfl rfl rfl rfl rfl (Nat.le_of_ble_eq_true rfl) dX5_init_30 ((ha3 158 (by omega)).trans ((ha2 158 (by omega)).trans ((ha1 158 (by omega)).trans hq))).symm (fun H locs1 d => ?_)
  refine lv_aload_n S.1 S.2.1 dX5_init_33 rfl (lv_at hl 0 rfl) ?_
  refine lv_iconst (v := 0) S.1 S.2.1 dX5_init_34 (by decide) ?_
  refine z_put S d (j := 158) (f := 4) (fs := [.ref qn1, .int 0, .ref qn2, .ref qn3, .int 0]) ⟨by omega, by omega⟩ (by simp [va_up, hov]) (by rfl : vwCl[5]? = some (RX5, TX5, 5)) fx_X5 tyX5_ok nmX5 (by decide) fl_RX5_29 rfl rfl rfl rfl (Nat.le_of_ble_eq_true rfl) dX5_init_35 ((ha3 158 (by omega)).trans ((ha2 158 (by omega)).trans ((ha1 158 (by omega)).trans hq))).symm (fun H locs1 d => ?_)
  refine lv_iconst (v := 0) S.1 S.2.1 dX5_init_38 (by decide) ?_
  refine lv_istore_n (lv' := [(1, .int 0), (0, .ref q0)]) S.1 S.2.1 dX5_init_39 rfl hl (by decide) rfl (fun ls hl => ?_)
  refine dz_gen d (fun OV hOV d => ?_)
  have hO0 : OV 158 = some (.inr (5, [.ref qn1, .int 0, .ref qn2, .ref qn3, .int 0])) := by rw [hOV]; simp [va_up, hov]
  have hO1 : OV 159 = some (.inl (cid 1, 80, .inl (fun _ => 0))) := by rw [hOV]; simp [va_up, hov]
  have hO2 : OV 160 = some (.inl (cid 0, 9, .inl (fun _ => 0))) := by rw [hOV]; simp [va_up, hov]
  have hO3 : OV 161 = some (.inl (cid 4, 4, .inr (.inr (.inr (.inr (fun _ => none)))))) := by rw [hOV]; simp [va_up, hov]
  have hOn : ∀ j, 162 ≤ j → OV j = none := fun j hj => d.2.2 j hj
  have g1 : ad3 (158 + 1) = qn1 := ((ha3 (158 + 1) (by omega)).trans ((ha2 (158 + 1) (by omega)).trans hn1))
  have g2 : ad3 (158 + 2) = qn2 := ((ha3 (158 + 2) (by omega)).trans hn2)
  have g3 : ad3 (158 + 3) = qn3 := hn3
  have gq := ((ha3 158 (by omega)).trans ((ha2 158 (by omega)).trans ((ha1 158 (by omega)).trans hq)))
  clear hOV
  have e0 : va_up OV 161 (some (.inl (cid 4, 4, .inr (.inr (.inr (.inr (fun j => if j < 0 then some (ad3 (162 + 2 * j)) else none))))))) = OV := by
    funext j
    by_cases z : j = 161
    · subst z
      rw [va_up_self, hO3]
      congr 8
    · rw [va_up_ne _ _ z]
  rw [← e0] at d
  refine W.widen (k := 3 + 2 * 0) (n := 93 + 0 * 9) (by decide) (by decide) ?_
  refine lz_X5_40 (c0 := 3) (s0 := 93) (ad0 := ad3) (ov0 := OV) (E := [.ref qn1, .int 0, .ref qn2, .ref qn3, .int 0]) S (by rw [g3]; rfl) hO0 (fun j hj => hOn j (by omega)) gq (by decide) (by decide) ⟨by decide, by decide⟩ (fun adA H locs ls hagA d hl => ?_) 4 0 ad3 _ _ ls rfl (fun _ _ => rfl) d hl
  refine z_end S hr d (fun j hj1 hj2 => ?_) ((hagA 158 (by omega)).trans gq) dX5_init_64 (by decide) (by decide)
  rcases (show j = 158 ∨ j = 159 ∨ j = 160 ∨ j = 161 ∨ 162 ≤ j by omega) with rfl | rfl | rfl | rfl | hj
  · rw [wo_6 (by decide +kernel), hagA (158 + 1) (by omega), hagA (158 + 2) (by omega), hagA (158 + 3) (by omega), g1, g2, g3]
    exact zc_s ((va_up_ne _ _ (by omega)).trans hO0)
  · rw [wc_b0 (N := 80) (by decide +kernel) (by decide +kernel)]
    exact zc_s ((va_up_ne _ _ (by omega)).trans hO1)
  · rw [wc_i0 (N := 9) (by decide +kernel) (by decide +kernel) (by decide) (by decide)]
    exact zc_s ((va_up_ne _ _ (by omega)).trans hO2)
  · show _ = wcell _ _ _ _ _
    rw [wc_15 (by decide +kernel)]
    exact zc_s (va_up_self _ _ _)
  · exact zc_n ((va_up_ne _ _ (by omega)).trans (hOn j hj))
