theorem M0z {a : Nat} (h3 : kd a ≠ 3) (h7 : kd a ≠ 7) (h5 : kd a ≠ 5) (h10 : ¬ (kd a = 10 ∧ (a = 2 ∨ a = 46))) (h184 : ¬ (kd a = 21 ∧ a = 184)) (h180 : ¬ (kd a = 21 ∧ a = 180)) (h197 : ¬ (kd a = 21 ∧ a = 197)) : M0 a = fun _ => 0 := by
  funext j
  unfold M0
  rw [if_neg h3, if_neg h7, if_neg h5, if_neg h10, if_neg h184, if_neg h180, if_neg h197]
theorem kne {k c : Nat} (hk : kd k = c) (hc : c = 2 ∨ c = 3 ∨ c = 7) : k + 1 ≠ 2 ∧ k + 1 ≠ 46 := by
  constructor
  · intro z
    have h1 : k = 1 := by omega
    subst h1
    have h2 : kd 1 = 1 := by decide +kernel
    omega
  · intro z
    have h1 : k = 45 := by omega
    subst h1
    have h2 : kd 45 = 1 := by decide +kernel
    omega
section WO
variable {cid : Nat → ClassId} {ad : Nat → Nat} {a N : Nat}
theorem wc_i0 (h : kd a = 10) (hn : ln a = N) (h2 : a ≠ 2) (h3 : a ≠ 46) : wc cid ad a = .inl (cid 0, N, .inl (fun _ => 0)) := by
  show wcell _ _ _ _ _ = _
  rw [wc_10 h, hn, M0z (by rw [h]; decide) (by rw [h]; decide) (by rw [h]; decide) (by omega) (by omega) (by omega) (by omega)]
theorem wc_b0 (h : kd a = 11) (hn : ln a = N) : wc cid ad a = .inl (cid 1, N, .inl (fun _ => 0)) := by
  show wcell _ _ _ _ _ = _
  rw [wc_11 h, hn, M0z (by rw [h]; decide) (by rw [h]; decide) (by rw [h]; decide) (by omega) (by omega) (by omega) (by omega)]
theorem wc_m0 (h : kd a = 21) (hn : ln a = N) (h1 : a ≠ 184) (h2 : a ≠ 180) (h3 : a ≠ 197) : wc cid ad a = .inl (cid 0, N, .inl (fun _ => 0)) := by
  show wcell _ _ _ _ _ = _
  rw [wc_21 h, hn, M0z (by rw [h]; decide) (by rw [h]; decide) (by rw [h]; decide) (by omega) (by omega) (by omega) (by omega)]
theorem L0z (h : ¬ (104 ≤ a ∧ a < 130)) : L0 a = fun _ => 0 := by
  funext j
  unfold L0
  rw [if_neg h]
theorem wc_l0 (h : kd a = 12) (hn : ln a = N) (h2 : ¬ (104 ≤ a ∧ a < 130)) : wc cid ad a = .inl (cid 2, N, .inr (.inl (fun _ => 0))) := by
  show wcell _ _ _ _ _ = _
  rw [wc_12 h, hn, L0z h2]
theorem wc_ml0 (h : kd a = 22) (hn : ln a = N) (h2 : ¬ (104 ≤ a ∧ a < 130)) : wc cid ad a = .inl (cid 2, N, .inr (.inl (fun _ => 0))) := by
  show wcell _ _ _ _ _ = _
  rw [wc_22 h, hn, L0z h2]
theorem wo_0 (h : kd a = 0) : wc cid ad a = .inr (7, [.ref (ad (a + 1)), .ref (ad (a + 45)), .int 0, .ref (ad (a + 89)), .ref (ad (a + 102)), .ref (ad (a + 158)), .ref (ad (a + 170))]) := by
  show wcell _ _ _ _ _ = _
  rw [wc_0 h]
  simp [M0, h]
theorem wo_1 (h : kd a = 1) : wc cid ad a = .inr (0, [.ref (ad (a + 1)), .ref (ad (a + 2)), .int 0, .ref (ad (a + 3)), .int 0, .ref (ad (a + 4)), .ref (ad (a + 5))]) := by
  show wcell _ _ _ _ _ = _
  rw [wc_1 h]
  simp [M0, h]
theorem wo_2 (h : kd a = 2) : wc cid ad a = .inr (4, [.int 0, .ref (ad (a + 1))]) := by
  show wcell _ _ _ _ _ = _
  rw [wc_2 h]
  simp [M0, h]
theorem wo_3 (h : kd a = 3) : wc cid ad a = .inr (6, [.int 0, .int 10, .ref (ad (a + 1))]) := by
  show wcell _ _ _ _ _ = _
  rw [wc_3 h]
  simp [M0, h]
theorem wo_4 (h : kd a = 4) : wc cid ad a = .inr (2, [.ref (ad (a + 1)), .ref (ad (a + 11)), .ref (ad (a + 12)), .int 0]) := by
  show wcell _ _ _ _ _ = _
  rw [wc_4 h]
  simp [M0, h]
theorem wo_5 (h : kd a = 5) : wc cid ad a = .inr (1, [.ref (ad (a + 1)), .ref (ad (a + 28)), .ref (ad (a + 55)), .int (-4), .int (-4)]) := by
  show wcell _ _ _ _ _ = _
  rw [wc_5 h]
  simp [M0, h]
theorem wo_6 (h : kd a = 6) : wc cid ad a = .inr (5, [.ref (ad (a + 1)), .int 0, .ref (ad (a + 2)), .ref (ad (a + 3)), .int 0]) := by
  show wcell _ _ _ _ _ = _
  rw [wc_6 h]
  simp [M0, h]
theorem wo_7 (h : kd a = 7) : wc cid ad a = .inr (3, [.int (-1), .int 0, .ref (ad (a + 1))]) := by
  show wcell _ _ _ _ _ = _
  rw [wc_7 h]
  simp [M0, h]
theorem wo_20 (h : kd a = 20) : wc cid ad a = .inr (8, [.ref (ad (a + 1)), .ref (ad (a + 2)), .ref (ad (a + 3)), .ref (ad (a + 4)), .ref (ad (a + 5)), .ref (ad (a + 6)), .ref (ad (a + 7)), .int 0, .int 0, .ref (ad (a + 8)), .int 0, .int 0, .int 0, .ref (ad (a + 9)), .ref (ad (a + 10)), .ref (ad (a + 11)), .int 0, .ref (ad (a + 12)), .ref (ad (a + 13)), .ref (ad (a + 14)), .ref (ad (a + 15)), .int 0, .ref (ad (a + 16)), .ref (ad (a + 17)), .ref (ad (a + 18)), .ref (ad (a + 19)), .ref (ad (a + 20))]) := by
  show wcell _ _ _ _ _ = _
  rw [wc_20 h]
  simp [M0, h]
end WO
set_option maxHeartbeats 4000000 in
set_option maxRecDepth 100000 in
theorem ct_X4 (l : Launch) {k : Nat} (hk : kd k = 2) : Ctr l yX4_init cX4_init 1 { frames := 1, cells := 1, slots := 15, locals := 12 } 4 [.int 0, .null] k 2 1 15 := by
  refine z_in (by decide) rfl (by decide) (fun D cid A q0 p e s m args below meth c S hnam hr ad ov hq hov hno d ls hl => ?_)
  have S : Kx D cid A p s m args meth c cX4_init 1 RX4 := S
  have hl : lv_has ls 1 [(0, .ref q0)] := hl
  refine lv_aload_n S.1 S.2.1 dX4_init_0 rfl (lv_at hl 0 rfl) ?_
  refine k_obj S hl ml_RX4_3 dX4_init_1 ⟨by decide, by decide⟩ ?_
  refine lv_aload_n S.1 S.2.1 dX4_init_4 rfl (lv_at hl 0 rfl) ?_
  refine lv_iconst (v := 0) S.1 S.2.1 dX4_init_5 (by decide) ?_
  refine z_put S d (j := k) (f := 0) (fs := [.int 0, .null]) ⟨by omega, by omega⟩ (by simp [va_up, hov]) (by rfl : vwCl[4]? = some (RX4, TX4, 2)) fx_X4 tyX4_ok nmX4 (by decide) fl_RX4_9 rfl rfl rfl rfl (Nat.le_of_ble_eq_true rfl) dX4_init_6 hq.symm (fun H locs1 d => ?_)
  refine lv_aload_n S.1 S.2.1 dX4_init_9 rfl (lv_at hl 0 rfl) ?_
  refine lv_bipush (v := 15) S.1 S.2.1 dX4_init_10 (by decide) ?_
  refine z_newa (atype := .int) (ty := .int) (i := 0) (N' := 15) (a0 := (15, .inl (fun _ => 0))) S d ac_int rfl rfl (fun _ => rfl) (by decide) (by decide) (by decide) ⟨by decide, by decide⟩ dX4_init_12 (fun qn1 ad1 H1 ha1 hn1 d => ?_)
  refine z_putF S hnam d (j := k) (f := 1) (fs := [.int 0, .null]) ⟨by omega, by omega⟩ (by simp [va_up, hov]) (by rfl : vwCl[4]? = some (RX4, TX4, 2)) fx_X4 tyX4_ok nmX4 (by decide) fl_RX4_15 rfl rfl rfl rfl rfl (Nat.le_of_ble_eq_true rfl) dX4_init_14 ((ha1 k (by omega)).trans hq).symm (fun H locs1 d => ?_)
  refine z_end S hr d (fun j hj1 hj2 => ?_) ((ha1 k (by omega)).trans hq) dX4_init_17 (by decide) (by decide)
  rcases (show j = k ∨ j = k + 1 by omega) with rfl | rfl
  · rw [wo_2 hk, hn1]
    exact zc_s (by simp [va_up])
  · rw [wc_i0 (ch_2_1 hk).1 (ch_2_1 hk).2 (kne hk (by decide)).1 (kne hk (by decide)).2]
    exact zc_s (by simp [va_up])
set_option maxHeartbeats 4000000 in
set_option maxRecDepth 100000 in
theorem ct_X6 (l : Launch) {k : Nat} (hk : kd k = 3) : Ctr l yX6_init cX6_init 1 { frames := 1, cells := 1, slots := 6, locals := 12 } 6 [.int 0, .int 0, .null] k 2 1 6 := by
  refine z_in (by decide) rfl (by decide) (fun D cid A q0 p e s m args below meth c S hnam hr ad ov hq hov hno d ls hl => ?_)
  have S : Kx D cid A p s m args meth c cX6_init 1 RX6 := S
  have hl : lv_has ls 1 [(0, .ref q0)] := hl
  refine lv_aload_n S.1 S.2.1 dX6_init_0 rfl (lv_at hl 0 rfl) ?_
  refine k_obj S hl ml_RX6_3 dX6_init_1 ⟨by decide, by decide⟩ ?_
  refine lv_aload_n S.1 S.2.1 dX6_init_4 rfl (lv_at hl 0 rfl) ?_
  refine lv_iconst (v := 0) S.1 S.2.1 dX6_init_5 (by decide) ?_
  refine z_put S d (j := k) (f := 0) (fs := [.int 0, .int 0, .null]) ⟨by omega, by omega⟩ (by simp [va_up, hov]) (by rfl : vwCl[6]? = some (RX6, TX6, 3)) fx_X6 tyX6_ok nmX6 (by decide) fl_RX6_9 rfl rfl rfl rfl (Nat.le_of_ble_eq_true rfl) dX6_init_6 hq.symm (fun H locs1 d => ?_)
  refine lv_aload_n S.1 S.2.1 dX6_init_9 rfl (lv_at hl 0 rfl) ?_
  refine lv_bipush (v := 10) S.1 S.2.1 dX6_init_10 (by decide) ?_
  refine z_put S d (j := k) (f := 1) (fs := [.int 0, .int 0, .null]) ⟨by omega, by omega⟩ (by simp [va_up, hov]) (by rfl : vwCl[6]? = some (RX6, TX6, 3)) fx_X6 tyX6_ok nmX6 (by decide) fl_RX6_15 rfl rfl rfl rfl (Nat.le_of_ble_eq_true rfl) dX6_init_12 hq.symm (fun H locs1 d => ?_)
  refine lv_aload_n S.1 S.2.1 dX6_init_15 rfl (lv_at hl 0 rfl) ?_
  refine lv_bipush (v := 6) S.1 S.2.1 dX6_init_16 (by decide) ?_
  refine z_newa (atype := .int) (ty := .int) (i := 0) (N' := 6) (a0 := (6, .inl (fun _ => 0))) S d ac_int rfl rfl (fun _ => rfl) (by decide) (by decide) (by decide) ⟨by decide, by decide⟩ dX6_init_18 (fun qn1 ad1 H1 ha1 hn1 d => ?_)
  refine z_putF S hnam d (j := k) (f := 2) (fs := [.int 0, .int 10, .null]) ⟨by omega, by omega⟩ (by simp [va_up, hov]) (by rfl : vwCl[6]? = some (RX6, TX6, 3)) fx_X6 tyX6_ok nmX6 (by decide) fl_RX6_18 rfl rfl rfl rfl rfl (Nat.le_of_ble_eq_true rfl) dX6_init_20 ((ha1 k (by omega)).trans hq).symm (fun H locs1 d => ?_)
  refine z_end S hr d (fun j hj1 hj2 => ?_) ((ha1 k (by omega)).trans hq) dX6_init_23 (by decide) (by decide)
  rcases (show j = k ∨ j = k + 1 by omega) with rfl | rfl
  · rw [wo_3 hk, hn1]
    exact zc_s (by simp [va_up])
  · rw [wc_i0 (ch_3_2 hk).1 (ch_3_2 hk).2 (kne hk (by decide)).1 (kne hk (by decide)).2]
    exact zc_s (by simp [va_up])
set_option maxHeartbeats 4000000 in
set_option maxRecDepth 100000 in
theorem ct_X3 (l : Launch) {k : Nat} (hk : kd k = 7) : Ctr l yX3_init cX3_init 1 { frames := 1, cells := 1, slots := 24, locals := 12 } 3 [.int 0, .int 0, .null] k 2 1 24 := by
  refine z_in (by decide) rfl (by decide) (fun D cid A q0 p e s m args below meth c S hnam hr ad ov hq hov hno d ls hl => ?_)
  have S : Kx D cid A p s m args meth c cX3_init 1 RX3 := S
  have hl : lv_has ls 1 [(0, .ref q0)] := hl
  refine lv_aload_n S.1 S.2.1 dX3_init_0 rfl (lv_at hl 0 rfl) ?_
  refine k_obj S hl ml_RX3_3 dX3_init_1 ⟨by decide, by decide⟩ ?_
  refine lv_aload_n S.1 S.2.1 dX3_init_4 rfl (lv_at hl 0 rfl) ?_
  refine lv_iconst (v := (-1)) S.1 S.2.1 dX3_init_5 (by decide) ?_
  refine z_put S d (j := k) (f := 0) (fs := [.int 0, .int 0, .null]) ⟨by omega, by omega⟩ (by simp [va_up, hov]) (by rfl : vwCl[3]? = some (RX3, TX3, 3)) fx_X3 tyX3_ok nmX3 (by decide) fl_RX3_9 rfl rfl rfl rfl (Nat.le_of_ble_eq_true rfl) dX3_init_6 hq.symm (fun H locs1 d => ?_)
  refine lv_aload_n S.1 S.2.1 dX3_init_9 rfl (lv_at hl 0 rfl) ?_
  refine lv_iconst (v := 0) S.1 S.2.1 dX3_init_10 (by decide) ?_
  refine z_put S d (j := k) (f := 1) (fs := [.int (-1), .int 0, .null]) ⟨by omega, by omega⟩ (by simp [va_up, hov]) (by rfl : vwCl[3]? = some (RX3, TX3, 3)) fx_X3 tyX3_ok nmX3 (by decide) fl_RX3_15 rfl rfl rfl rfl (Nat.le_of_ble_eq_true rfl) dX3_init_11 hq.symm (fun H locs1 d => ?_)
  refine lv_aload_n S.1 S.2.1 dX3_init_14 rfl (lv_at hl 0 rfl) ?_
  refine lv_bipush (v := 24) S.1 S.2.1 dX3_init_15 (by decide) ?_
  refine z_newa (atype := .int) (ty := .int) (i := 0) (N' := 24) (a0 := (24, .inl (fun _ => 0))) S d ac_int rfl rfl (fun _ => rfl) (by decide) (by decide) (by decide) ⟨by decide, by decide⟩ dX3_init_17 (fun qn1 ad1 H1 ha1 hn1 d => ?_)
  refine z_putF S hnam d (j := k) (f := 2) (fs := [.int (-1), .int 0, .null]) ⟨by omega, by omega⟩ (by simp [va_up, hov]) (by rfl : vwCl[3]? = some (RX3, TX3, 3)) fx_X3 tyX3_ok nmX3 (by decide) fl_RX3_18 rfl rfl rfl rfl rfl (Nat.le_of_ble_eq_true rfl) dX3_init_19 ((ha1 k (by omega)).trans hq).symm (fun H locs1 d => ?_)
  refine z_end S hr d (fun j hj1 hj2 => ?_) ((ha1 k (by omega)).trans hq) dX3_init_22 (by decide) (by decide)
  rcases (show j = k ∨ j = k + 1 by omega) with rfl | rfl
  · rw [wo_7 hk, hn1]
    exact zc_s (by simp [va_up])
  · rw [wc_i0 (ch_7_2 hk).1 (ch_7_2 hk).2 (kne hk (by decide)).1 (kne hk (by decide)).2]
    exact zc_s (by simp [va_up])
set_option maxHeartbeats 4000000 in
set_option maxRecDepth 100000 in
theorem ct_X2 (l : Launch)  : Ctr l yX2_init cX2_init 1 { frames := 1, cells := 12, slots := 118, locals := 12 } 2 [.null, .null, .null, .int 0] 89 13 12 118 := by
  refine z_in (by decide) rfl (by decide) (fun D cid A q0 p e s m args below meth c S hnam hr ad ov hq hov hno d ls hl => ?_)
  have S : Kx D cid A p s m args meth c cX2_init 1 RX2 := S
  have hl : lv_has ls 1 [(0, .ref q0)] := hl
  refine lv_aload_n S.1 S.2.1 dX2_init_0 rfl (lv_at hl 0 rfl) ?_
  refine k_obj S hl ml_RX2_3 dX2_init_1 ⟨by decide, by decide⟩ ?_
  refine lv_aload_n S.1 S.2.1 dX2_init_4 rfl (lv_at hl 0 rfl) ?_
  refine lv_bipush (v := 9) S.1 S.2.1 dX2_init_5 (by decide) ?_
  refine lv_bipush (v := 10) S.1 S.2.1 dX2_init_7 (by decide) ?_
  refine z_mna (ty := .int) (iy := 0) (t0 := 5) (N' := 9) (K' := 10) (z := (10, .inl (fun _ => 0))) S d rfl cl_RX2_9 S.2.2.2.2.2.2.2.2.1.2.2.2.1 ac_int (S.K.2 0 _ rfl).2 rfl (by decide) (by decide) (by decide) (by decide) (by decide) rfl rfl ⟨by decide, by decide⟩ (fun c => (arrV_new c 10 _)) dX2_init_9 (fun ad => wc_16 (by decide +kernel)) (by decide +kernel) (fun qn1 ad1 H1 ha1 hn1 d => ?_)
  refine z_putF S hnam d (j := 89) (f := 0) (fs := [.null, .null, .null, .int 0]) ⟨by omega, by omega⟩ (by simp [va_up, hov]) (by rfl : vwCl[2]? = some (RX2, TX2, 4)) fx_X2 tyX2_ok nmX2 (by decide) fl_RX2_11 rfl rfl rfl rfl rfl (Nat.le_of_ble_eq_true rfl) dX2_init_13 ((ha1 89 (by omega)).trans hq).symm (fun H locs1 d => ?_)
  refine lv_aload_n S.1 S.2.1 dX2_init_16 rfl (lv_at hl 0 rfl) ?_
  refine lv_bipush (v := 10) S.1 S.2.1 dX2_init_17 (by decide) ?_
  refine z_newa (atype := .int) (ty := .int) (i := 0) (N' := 10) (a0 := (10, .inl (fun _ => 0))) S d ac_int rfl rfl (fun _ => rfl) (by decide) (by decide) (by decide) ⟨by decide, by decide⟩ dX2_init_19 (fun qn2 ad2 H2 ha2 hn2 d => ?_)
  refine z_putF S hnam d (j := 89) (f := 1) (fs := [.ref qn1, .null, .null, .int 0]) ⟨by omega, by omega⟩ (by simp [va_up, hov]) (by rfl : vwCl[2]? = some (RX2, TX2, 4)) fx_X2 tyX2_ok nmX2 (by decide) fl_RX2_16 rfl rfl rfl rfl rfl (Nat.le_of_ble_eq_true rfl) dX2_init_21 ((ha2 89 (by omega)).trans ((ha1 89 (by omega)).trans hq)).symm (fun H locs1 d => ?_)
  refine lv_aload_n S.1 S.2.1 dX2_init_24 rfl (lv_at hl 0 rfl) ?_
  refine lv_bipush (v := 9) S.1 S.2.1 dX2_init_25 (by decide) ?_
  refine z_newa (atype := .int) (ty := .int) (i := 0) (N' := 9) (a0 := (9, .inl (fun _ => 0))) S d ac_int rfl rfl (fun _ => rfl) (by decide) (by decide) (by decide) ⟨by decide, by decide⟩ dX2_init_27 (fun qn3 ad3 H3 ha3 hn3 d => ?_)
  refine z_putF S hnam d (j := 89) (f := 2) (fs := [.ref qn1, .ref qn2, .null, .int 0]) ⟨by omega, by omega⟩ (by simp [va_up, hov]) (by rfl : vwCl[2]? = some (RX2, TX2, 4)) fx_X2 tyX2_ok nmX2 (by decide) fl_RX2_20 rfl rfl rfl rfl rfl (Nat.le_of_ble_eq_true rfl) dX2_init_29 ((ha3 89 (by omega)).trans ((ha2 89 (by omega)).trans ((ha1 89 (by omega)).trans hq))).symm (fun H locs1 d => ?_)
  refine lv_aload_n S.1 S.2.1 dX2_init_32 rfl (lv_at hl 0 rfl) ?_
  refine lv_iconst (v := 0) S.1 S.2.1 dX2_init_33 (by decide) ?_
  refine z_put S d (j := 89) (f := 3) (fs := [.ref qn1, .ref qn2, .ref qn3, .int 0]) ⟨by omega, by omega⟩ (by simp [va_up, hov]) (by rfl : vwCl[2]? = some (RX2, TX2, 4)) fx_X2 tyX2_ok nmX2 (by decide) fl_RX2_23 rfl rfl rfl rfl (Nat.le_of_ble_eq_true rfl) dX2_init_34 ((ha3 89 (by omega)).trans ((ha2 89 (by omega)).trans ((ha1 89 (by omega)).trans hq))).symm (fun H locs1 d => ?_)
  refine z_end S hr d (fun j hj1 hj2 => ?_) ((ha3 89 (by omega)).trans ((ha2 89 (by omega)).trans ((ha1 89 (by omega)).trans hq))) dX2_init_37 (by decide) (by decide)
  rcases (show j = 89 ∨ j = 90 ∨ (91 ≤ j ∧ j < 100) ∨ j = 100 ∨ j = 101 by omega) with rfl | rfl | hj | rfl | rfl
  · rw [wo_4 (by decide +kernel), ((ha3 (89 + 1) (by omega)).trans ((ha2 (89 + 1) (by omega)).trans hn1)), ((ha3 (89 + 11) (by omega)).trans hn2), hn3]
    exact zc_s (by simp [va_up])
  · exact zc_n (by simp [va_up])
  · rw [wc_i0 (N := 10) ((by decide +kernel : ∀ j, j < 100 → 91 ≤ j → kd j = 10) j hj.2 hj.1) ((by decide +kernel : ∀ j, j < 100 → 91 ≤ j → ln j = 10) j hj.2 hj.1) (by omega) (by omega)]
    refine zc_s ?_
    have e1 : j ≠ 89 := by omega
    have e2 : j ≠ 100 := by omega
    have e3 : j ≠ 101 := by omega
    have e4 : ¬ j < 90 := by omega
    have e5 : j ≠ 90 := by omega
    have e6 : j < 100 := by omega
    simp [va_up, e1, e2, e3, e4, e5, e6]
  · rw [wc_i0 (N := 10) (by decide +kernel) (by decide +kernel) (by decide) (by decide)]
    exact zc_s (by simp [va_up])
  · rw [wc_i0 (N := 9) (by decide +kernel) (by decide +kernel) (by decide) (by decide)]
    exact zc_s (by simp [va_up])
