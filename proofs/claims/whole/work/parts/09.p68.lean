theorem blkd {t w : Nat} (h : ∀ j, j < w → ∀ c ∈ kids (t + j), t ≤ c ∧ c < t + w) : ∀ j, t ≤ j → j < t + w → ∀ c ∈ kids j, t ≤ c ∧ c < t + w := fun j h1 h2 c hc => h (j - t) (by omega) c (by rw [show t + (j - t) = j by omega]; exact hc)
set_option maxHeartbeats 4000000 in
set_option maxRecDepth 100000 in
theorem lz_X7_74 {p : Program} {l : Launch} {e : Env} {R : Room} {s : State} {m : MethodId} {args : Array Value} {below : List Frame} {meth : Method} {c : Code} {Q : State → Prop} {D : va_G} {cid : Nat → ClassId} {A : Nat → Prop} {ad0 : Nat → Nat} {ov0 : Nat → Option va_E} {E : List Value} {q0 c0 s0 : Nat} (S : Kx D cid A p s m args meth c cX7_init 2 RX7) (hE : E[6]? = some (.ref (ad0 (170)))) (hov : ov0 0 = some (.inr (7, E))) (hno : ∀ j, 171 ≤ j → ov0 j = none) (hq : ad0 0 = q0) (hrC : c0 + 2 * 4 ≤ R.cells) (hrS : s0 + 4 * 27 ≤ R.slots) (hrF : 2 ≤ R.frames ∧ 32 ≤ R.locals)
    (hK : ∀ (ad : Nat → Nat) (H : Heap) (locs : List Loc) (ls : Array Slot), (∀ j, j < 171 → ad j = ad0 j) → Dz D cid A s 0 (171 + 2 * 4) ad (va_up ov0 (170) (some (.inl (cid 6, 4, .inr (.inr (.inr (.inr (fun j => if j < 4 then some (ad (171 + 2 * j)) else none)))))))) H locs → lv_has ls 2 [(1, .int (nI 4)), (0, .ref q0)] → W p l e R s m args below meth c H locs (c0 + 2 * 4) (s0 + 4 * 27) Q (F0 m 98 ls [])) :
    ∀ (r i : Nat) (ad : Nat → Nat) (H : Heap) (locs : List Loc) (ls : Array Slot), i + r = 4 → (∀ j, j < 171 → ad j = ad0 j) → Dz D cid A s 0 (171 + 2 * i) ad (va_up ov0 (170) (some (.inl (cid 6, 4, .inr (.inr (.inr (.inr (fun j => if j < i then some (ad (171 + 2 * j)) else none)))))))) H locs → lv_has ls 2 [(1, .int (nI i)), (0, .ref q0)] → W p l e R s m args below meth c H locs (c0 + 2 * i) (s0 + i * 27) Q (F0 m 74 ls []) := by
  intro r
  induction r with
  | zero =>
    intro i ad H locs ls hir hag d hl
    have hi9 : i = 4 := by omega
    subst hi9
    refine lv_iload_n S.1 S.2.1 dX7_init_74 rfl (lv_at hl 0 rfl) ?_
    refine lv_iconst (v := 4) S.1 S.2.1 dX7_init_75 (by decide) ?_
    exact lv_icmp_ge (tgt := 98) S.1 S.2.1 dX7_init_76 (by decide) (fun cc => hK ad H locs ls hag d hl) (fun cc => absurd (show (4 : Int32) ≤ nI 4 by decide) cc)
  | succ r ih =>
    intro i ad H locs ls hir hag d hl
    have hi : i < 4 := by omega
    have hkd : kd (171 + 2 * i) = 7 := (by decide +kernel : ∀ i, i < 4 → kd (171 + 2 * i) = 7) i hi
    refine lv_iload_n S.1 S.2.1 dX7_init_74 rfl (lv_at hl 0 rfl) ?_
    refine lv_iconst (v := 4) S.1 S.2.1 dX7_init_75 (by decide) ?_
    refine lv_icmp_ge (tgt := 98) S.1 S.2.1 dX7_init_76 (by decide) (fun cc => absurd cc (by rw [show (4 : Int32) = nI 4 from rfl, q_le (by omega) (by omega)]; omega)) (fun cc => ?_)
    refine lv_aload_n S.1 S.2.1 dX7_init_79 rfl (lv_at hl 1 rfl) ?_
    refine z_get S d (j := 0) (f := 6) (fs := E) ⟨by omega, by omega⟩ ((va_up_ne _ _ (by omega)).trans hov) (by rfl : vwCl[7]? = some (RX7, TX7, 7)) fx_X7 (by decide) fl_RX7_46 hE dX7_init_80 ((hag 0 (by omega)).trans hq).symm ?_
    refine lv_iload_n S.1 S.2.1 dX7_init_83 rfl (lv_at hl 0 rfl) ?_
    refine z_new (C := RX3) (T := TX3) (N := 3) (ci := 3) (ty := tyX3) (fs := [.int 0, .int 0, .null]) S d fx_X3 tyX3_ok cl_RX7_44 it_RX3 in_RX3 rfl (fun j hj => by rcases (show j = 0 ∨ j = 1 ∨ j = 2 by omega) with rfl | rfl | rfl <;> rfl) ⟨by omega, by omega⟩ dX7_init_84 (fun q ad1 H1 ha1 hq1 d => ?_)
    refine lv_dup S.1 S.2.1 dX7_init_87 rfl ?_
    have et : 0 + (171 + 2 * i) = 171 + 2 * i := by omega
    rw [et] at hq1 ha1 d
    refine z_callN (t := 171 + 2 * i) S hl d et.symm (ct_X3 l hkd) (va_up_self _ _ _) (by decide) (blk_7 hkd) (nv_RX7_50 S.2.2.2.2.2.2.2.1.2.2.2) in_RX3 im_yX3_init co_yX3_init rfl (by decide +kernel) ⟨rfl, rfl⟩ ⟨by show 1 + 1 ≤ _; omega, by show 8 + (1 + 11) + 12 ≤ _; omega⟩ (by show _ ≤ 8; exact Nat.le_of_ble_eq_true rfl) ⟨by omega, by omega⟩ dX7_init_88 hq1.symm (fun ad2 H2 locs2 ha2 d => ?_)
    have h02 : ∀ j, j < 171 + 2 * i → ad2 j = ad j := fun j hj => (ha2 j (by omega)).trans (ha1 j hj)
    refine z_aast (C := RX3) (T := TX3) (N := 3) (t0 := 6) (jk := 171 + 2 * i) (j := 170) (i0 := i) S d ⟨by omega, by omega⟩ (by rw [va_up_ne _ _ (by omega), va_up_ne _ _ (by omega), va_up_self]) rfl ⟨by omega, by omega⟩ ((zc_n (va_up_self _ _ _)).trans (wo_7 hkd)) (by rfl : vwCl[3]? = some (RX3, TX3, 3)) rfl hi (by omega) dX7_init_91 (((h02 (170) (by omega)).trans (hag _ (by omega))).symm) (((ha2 _ (Nat.le_refl _)).trans hq1).symm) (fun H3 locs3 d => ?_)
    refine lv_iinc (v := nI (i + 1)) (lv' := [(1, .int (nI (i + 1))), (0, .ref q0)]) S.1 S.2.1 dX7_init_92 hl (k := 0) rfl (by rw [← nI_1]; rfl) (by decide) rfl (fun ls hl => ?_)
    refine lv_goto (tgt := 74) S.1 S.2.1 dX7_init_95 (by decide) ?_
    refine W.widen (k := c0 + 2 * (i + 1)) (n := s0 + (i + 1) * 27) (by omega) (by omega) ?_
    rw [show 171 + 2 * i + 2 = 171 + 2 * (i + 1) by omega] at d
    have eov : ∀ X : va_E, va_up (va_up (va_up (va_up ov0 (170) (some X)) (171 + 2 * i) (some (.inr (3, [.int 0, .int 0, .null])))) (171 + 2 * i) none) (170) (some (.inl (cid 6, 4, .inr (.inr (.inr (.inr (va_up (fun j => if j < i then some (ad (171 + 2 * j)) else none) i (some q)))))))) = va_up ov0 (170) (some (.inl (cid 6, 4, .inr (.inr (.inr (.inr (fun j => if j < (i + 1) then some (ad2 (171 + 2 * j)) else none))))))) := fun X => by
      funext j
      by_cases z : j = 170
      · subst z
        rw [va_up_self, va_up_self]
        congr 8
        funext w
        by_cases z1 : w = i
        · subst z1
          rw [va_up_self, if_pos (by omega), ha2 _ (Nat.le_refl _), hq1]
        · rw [va_up_ne _ _ z1]
          by_cases z2 : w < i
          · rw [if_pos z2, if_pos (by omega), h02 _ (by omega)]
          · rw [if_neg z2, if_neg (by omega)]
      · rw [va_up_ne _ _ z, va_up_ne _ _ z]
        by_cases z1 : j = 171 + 2 * i
        · subst z1
          rw [va_up_self, hno _ (by omega)]
        · rw [va_up_ne _ _ z1, va_up_ne _ _ z1, va_up_ne _ _ z]
    rw [eov] at d
    exact ih (i + 1) ad2 H3 locs3 ls (by omega) (fun j hj => (h02 j (by omega)).trans (hag j hj)) d hl
set_option maxHeartbeats 4000000 in
set_option maxRecDepth 100000 in
theorem ct_X7 (l : Launch)  : Ctr l yX7_init cX7_init 2 { frames := 3, cells := 178, slots := 1609, locals := 53 } 7 [.null, .null, .int 0, .null, .null, .null, .null] 0 179 178 1609 := by
  refine z_in (by decide) rfl (by decide) (fun D cid A q0 p e s m args below meth c S hnam hr ad ov hq hov hno d ls hl => ?_)
  have S : Kx D cid A p s m args meth c cX7_init 2 RX7 := S
  have hl : lv_has ls 2 [(0, .ref q0)] := hl
  refine lv_aload_n S.1 S.2.1 dX7_init_0 rfl (lv_at hl 0 rfl) ?_
  refine k_obj S hl ml_RX7_3 dX7_init_1 ⟨by decide, by decide⟩ ?_
  refine lv_aload_n S.1 S.2.1 dX7_init_4 rfl (lv_at hl 0 rfl) ?_
  refine z_new (C := RX0) (T := TX0) (N := 7) (ci := 0) (ty := tyX0) (fs := [.null, .null, .int 0, .null, .int 0, .null, .null]) S d fx_X0 tyX0_ok cl_RX7_9 it_RX0 in_RX0 rfl (fun j hj => by rcases (show j = 0 ∨ j = 1 ∨ j = 2 ∨ j = 3 ∨ j = 4 ∨ j = 5 ∨ j = 6 by omega) with rfl | rfl | rfl | rfl | rfl | rfl | rfl <;> rfl) ⟨by decide, by decide⟩ dX7_init_5 (fun qn1 ad1 H1 ha1 hn1 d => ?_)
  refine lv_dup S.1 S.2.1 dX7_init_8 rfl ?_
  refine z_call (k := 0) (n := 1) (t := 1) S hl d rfl (ct_X0 l (k := 1) (by decide +kernel)) (va_up_self _ _ _) (by decide) (blkd (t := 1) (w := 44) (by decide +kernel)) ml_RX7_11 in_RX0 im_yX0_init co_yX0_init rfl (by decide +kernel) ⟨rfl, rfl⟩ ⟨by decide, by decide⟩ (by show _ ≤ 8; exact Nat.le_of_ble_eq_true rfl) ⟨by decide, by decide⟩ dX7_init_9 hn1.symm (fun ad2 H2 locs2 ha2 d => ?_)
  refine z_putF S hnam d (j := 0) (f := 0) (fs := [.null, .null, .int 0, .null, .null, .null, .null]) ⟨by omega, by omega⟩ (by simp [va_up, hov]) (by rfl : vwCl[7]? = some (RX7, TX7, 7)) fx_X7 tyX7_ok nmX7 (by decide) fl_RX7_12 rfl rfl rfl rfl rfl (Nat.le_of_ble_eq_true rfl) dX7_init_12 ((ha2 0 (by omega)).trans ((ha1 0 (by omega)).trans hq)).symm (fun H locs1 d => ?_)
  refine lv_aload_n S.1 S.2.1 dX7_init_15 rfl (lv_at hl 0 rfl) ?_
  refine z_new (C := RX0) (T := TX0) (N := 7) (ci := 0) (ty := tyX0) (fs := [.null, .null, .int 0, .null, .int 0, .null, .null]) S d fx_X0 tyX0_ok cl_RX7_9 it_RX0 in_RX0 rfl (fun j hj => by rcases (show j = 0 ∨ j = 1 ∨ j = 2 ∨ j = 3 ∨ j = 4 ∨ j = 5 ∨ j = 6 by omega) with rfl | rfl | rfl | rfl | rfl | rfl | rfl <;> rfl) ⟨by decide, by decide⟩ dX7_init_16 (fun qn3 ad3 H3 ha3 hn3 d => ?_)
  refine lv_dup S.1 S.2.1 dX7_init_19 rfl ?_
  refine z_call (k := 0) (n := 45) (t := 45) S hl d rfl (ct_X0 l (k := 45) (by decide +kernel)) (va_up_self _ _ _) (by decide) (blkd (t := 45) (w := 44) (by decide +kernel)) ml_RX7_11 in_RX0 im_yX0_init co_yX0_init rfl (by decide +kernel) ⟨rfl, rfl⟩ ⟨by decide, by decide⟩ (by show _ ≤ 8; exact Nat.le_of_ble_eq_true rfl) ⟨by decide, by decide⟩ dX7_init_20 hn3.symm (fun ad4 H4 locs4 ha4 d => ?_)
  refine z_putF S hnam d (j := 0) (f := 1) (fs := [.ref qn1, .null, .int 0, .null, .null, .null, .null]) ⟨by omega, by omega⟩ (by simp [va_up, hov]) (by rfl : vwCl[7]? = some (RX7, TX7, 7)) fx_X7 tyX7_ok nmX7 (by decide) fl_RX7_16 rfl rfl rfl rfl rfl (Nat.le_of_ble_eq_true rfl) dX7_init_23 ((ha4 0 (by omega)).trans ((ha3 0 (by omega)).trans ((ha2 0 (by omega)).trans ((ha1 0 (by omega)).trans hq)))).symm (fun H locs1 d => ?_)
  refine lv_aload_n S.1 S.2.1 dX7_init_26 rfl (lv_at hl 0 rfl) ?_
  refine lv_iconst (v := 0) S.1 S.2.1 dX7_init_27 (by decide) ?_
  refine z_put S d (j := 0) (f := 2) (fs := [.ref qn1, .ref qn3, .int 0, .null, .null, .null, .null]) ⟨by omega, by omega⟩ (by simp [va_up, hov]) (by rfl : vwCl[7]? = some (RX7, TX7, 7)) fx_X7 tyX7_ok nmX7 (by decide) fl_RX7_19 rfl rfl rfl rfl (Nat.le_of_ble_eq_true rfl) dX7_init_28 ((ha4 0 (by omega)).trans ((ha3 0 (by omega)).trans ((ha2 0 (by omega)).trans ((ha1 0 (by omega)).trans hq)))).symm (fun H locs1 d => ?_)
  refine lv_aload_n S.1 S.2.1 dX7_init_31 rfl (lv_at hl 0 rfl) ?_
  refine z_new (C := RX2) (T := TX2) (N := 4) (ci := 2) (ty := tyX2) (fs := [.null, .null, .null, .int 0]) S d fx_X2 tyX2_ok cl_RX7_23 it_RX2 in_RX2 rfl (fun j hj => by rcases (show j = 0 ∨ j = 1 ∨ j = 2 ∨ j = 3 by omega) with rfl | rfl | rfl | rfl <;> rfl) ⟨by decide, by decide⟩ dX7_init_32 (fun qn5 ad5 H5 ha5 hn5 d => ?_)
  refine lv_dup S.1 S.2.1 dX7_init_35 rfl ?_
  refine z_callN (k := 0) (n := 89) (t := 89) S hl d rfl (ct_X2 l) (va_up_self _ _ _) (by decide) (blkd (t := 89) (w := 13) (by decide +kernel)) (nv_RX7_25 S.2.2.2.2.2.2.2.1.2.2.2) in_RX2 im_yX2_init co_yX2_init rfl (by decide +kernel) ⟨rfl, rfl⟩ ⟨by decide, by decide⟩ (by show _ ≤ 8; exact Nat.le_of_ble_eq_true rfl) ⟨by decide, by decide⟩ dX7_init_36 hn5.symm (fun ad6 H6 locs6 ha6 d => ?_)
  refine z_putF S hnam d (j := 0) (f := 3) (fs := [.ref qn1, .ref qn3, .int 0, .null, .null, .null, .null]) ⟨by omega, by omega⟩ (by simp [va_up, hov]) (by rfl : vwCl[7]? = some (RX7, TX7, 7)) fx_X7 tyX7_ok nmX7 (by decide) fl_RX7_26 rfl rfl rfl rfl rfl (Nat.le_of_ble_eq_true rfl) dX7_init_39 ((ha6 0 (by omega)).trans ((ha5 0 (by omega)).trans ((ha4 0 (by omega)).trans ((ha3 0 (by omega)).trans ((ha2 0 (by omega)).trans ((ha1 0 (by omega)).trans hq)))))).symm (fun H locs1 d => ?_)
  refine lv_aload_n S.1 S.2.1 dX7_init_42 rfl (lv_at hl 0 rfl) ?_
  refine z_new (C := RX1) (T := TX1) (N := 5) (ci := 1) (ty := tyX1) (fs := [.null, .null, .null, .int 0, .int 0]) S d fx_X1 tyX1_ok cl_RX7_30 it_RX1 in_RX1 rfl (fun j hj => by rcases (show j = 0 ∨ j = 1 ∨ j = 2 ∨ j = 3 ∨ j = 4 by omega) with rfl | rfl | rfl | rfl | rfl <;> rfl) ⟨by decide, by decide⟩ dX7_init_43 (fun qn7 ad7 H7 ha7 hn7 d => ?_)
  refine lv_dup S.1 S.2.1 dX7_init_46 rfl ?_
  refine z_call (k := 0) (n := 102) (t := 102) S hl d rfl (ct_X1 l) (va_up_self _ _ _) (by decide) (blkd (t := 102) (w := 56) (by decide +kernel)) ml_RX7_32 in_RX1 im_yX1_init co_yX1_init rfl (by decide +kernel) ⟨rfl, rfl⟩ ⟨by decide, by decide⟩ (by show _ ≤ 8; exact Nat.le_of_ble_eq_true rfl) ⟨by decide, by decide⟩ dX7_init_47 hn7.symm (fun ad8 H8 locs8 ha8 d => ?_)
  refine z_putF S hnam d (j := 0) (f := 4) (fs := [.ref qn1, .ref qn3, .int 0, .ref qn5, .null, .null, .null]) ⟨by omega, by omega⟩ (by simp [va_up, hov]) (by rfl : vwCl[7]? = some (RX7, TX7, 7)) fx_X7 tyX7_ok nmX7 (by decide) fl_RX7_33 rfl rfl rfl rfl rfl (Nat.le_of_ble_eq_true rfl) dX7_init_50 ((ha8 0 (by omega)).trans ((ha7 0 (by omega)).trans ((ha6 0 (by omega)).trans ((ha5 0 (by omega)).trans ((ha4 0 (by omega)).trans ((ha3 0 (by omega)).trans ((ha2 0 (by omega)).trans ((ha1 0 (by omega)).trans hq)))))))).symm (fun H locs1 d => ?_)
  refine lv_aload_n S.1 S.2.1 dX7_init_53 rfl (lv_at hl 0 rfl) ?_
  refine z_new (C := RX5) (T := TX5) (N := 5) (ci := 5) (ty := tyX5) (fs := [.null, .int 0, .null, .null, .int 0]) S d fx_X5 tyX5_ok cl_RX7_37 it_RX5 in_RX5 rfl (fun j hj => by rcases (show j = 0 ∨ j = 1 ∨ j = 2 ∨ j = 3 ∨ j = 4 by omega) with rfl | rfl | rfl | rfl | rfl <;> rfl) ⟨by decide, by decide⟩ dX7_init_54 (fun qn9 ad9 H9 ha9 hn9 d => ?_)
  refine lv_dup S.1 S.2.1 dX7_init_57 rfl ?_
  refine z_call (k := 0) (n := 158) (t := 158) S hl d rfl (ct_X5 l) (va_up_self _ _ _) (by decide) (blkd (t := 158) (w := 12) (by decide +kernel)) ml_RX7_39 in_RX5 im_yX5_init co_yX5_init rfl (by decide +kernel) ⟨rfl, rfl⟩ ⟨by decide, by decide⟩ (by show _ ≤ 8; exact Nat.le_of_ble_eq_true rfl) ⟨by decide, by decide⟩ dX7_init_58 hn9.symm (fun ad10 H10 locs10 ha10 d => ?_)
  refine z_putF S hnam d (j := 0) (f := 5) (fs := [.ref qn1, .ref qn3, .int 0, .ref qn5, .ref qn7, .null, .null]) ⟨by omega, by omega⟩ (by simp [va_up, hov]) (by rfl : vwCl[7]? = some (RX7, TX7, 7)) fx_X7 tyX7_ok nmX7 (by decide) fl_RX7_40 rfl rfl rfl rfl rfl (Nat.le_of_ble_eq_true rfl) dX7_init_61 ((ha10 0 (by omega)).trans ((ha9 0 (by omega)).trans ((ha8 0 (by omega)).trans ((ha7 0 (by omega)).trans ((ha6 0 (by omega)).trans ((ha5 0 (by omega)).trans ((ha4 0 (by omega)).trans ((ha3 0 (by omega)).trans ((ha2 0 (by omega)).trans ((ha1 0 (by omega)).trans hq)))))))))).symm (fun H locs1 d => ?_)
  refine lv_aload_n S.1 S.2.1 dX7_init_64 rfl (lv_at hl 0 rfl) ?_
  refine lv_iconst (v := 4) S.1 S.2.1 dX7_init_65 (by decide) ?_
  refine z_newq (C := "MownWords$Sheet") (i := 6) (N' := 4) S d cl_RX7_44 S.2.2.2.2.2.2.2.2.1.2.2.1 rfl (by decide) (by decide) (by decide) ⟨by decide, by decide⟩ dX7_init_66 (fun qn11 ad11 H11 ha11 hn11 d => ?_)
  refine z_putF S hnam d (j := 0) (f := 6) (fs := [.ref qn1, .ref qn3, .int 0, .ref qn5, .ref qn7, .ref qn9, .null]) ⟨by omega, by omega⟩ (by simp [va_up, hov]) (by rfl : vwCl[7]? = some (RX7, TX7, 7)) fx_X7 tyX7_ok nmX7 (by decide) fl_RX7_46 rfl rfl rfl rfl rfl (Nat.le_of_ble_eq_true rfl) dX7_init_69 ((ha11 0 (by omega)).trans ((ha10 0 (by omega)).trans ((ha9 0 (by omega)).trans ((ha8 0 (by omega)).trans ((ha7 0 (by omega)).trans ((ha6 0 (by omega)).trans ((ha5 0 (by omega)).trans ((ha4 0 (by omega)).trans ((ha3 0 (by omega)).trans ((ha2 0 (by omega)).trans ((ha1 0 (by omega)).trans hq))))))))))).symm (fun H locs1 d => ?_)
  refine lv_iconst (v := 0) S.1 S.2.1 dX7_init_72 (by decide) ?_
  refine lv_istore_n (lv' := [(1, .int 0), (0, .ref q0)]) S.1 S.2.1 dX7_init_73 rfl hl (by decide) rfl (fun ls hl => ?_)
  refine dz_gen d (fun OV hOV d => ?_)
  have hO0 : OV 0 = some (.inr (7, [.ref qn1, .ref qn3, .int 0, .ref qn5, .ref qn7, .ref qn9, .ref qn11])) := by rw [hOV]; simp [va_up, hov]
  have hO1 : ∀ j, 0 < j → j < 170 → OV j = none := fun j h1 h2 => by
    have n0 : j ≠ 0 := by omega
    have n1 : j ≠ 170 := by omega
    have n2 := hno j n0
    rw [hOV]
    rcases (show j = 1 ∨ j = 45 ∨ j = 89 ∨ j = 102 ∨ j = 158 ∨ (j ≠ 1 ∧ j ≠ 45 ∧ j ≠ 89 ∧ j ≠ 102 ∧ j ≠ 158) by omega) with rfl | rfl | rfl | rfl | rfl | ⟨m1, m2, m3, m4, m5⟩
    · simp [va_up]
    · simp [va_up]
    · simp [va_up]
    · simp [va_up]
    · simp [va_up]
    · simp [va_up, n0, n1, n2, m1, m2, m3, m4, m5]
  have hO2 : OV 170 = some (.inl (cid 6, 4, .inr (.inr (.inr (.inr (fun _ => none)))))) := by rw [hOV]; simp [va_up, hov]
  have hOn : ∀ j, 171 ≤ j → OV j = none := fun j hj => d.2.2 j hj
  have g1 : ad11 (0 + 1) = qn1 := ((ha11 (0 + 1) (by omega)).trans ((ha10 1 (by omega)).trans ((ha9 (0 + 1) (by omega)).trans ((ha8 1 (by omega)).trans ((ha7 (0 + 1) (by omega)).trans ((ha6 1 (by omega)).trans ((ha5 (0 + 1) (by omega)).trans ((ha4 1 (by omega)).trans ((ha3 (0 + 1) (by omega)).trans ((ha2 1 (by omega)).trans hn1))))))))))
  have g2 : ad11 (0 + 45) = qn3 := ((ha11 (0 + 45) (by omega)).trans ((ha10 45 (by omega)).trans ((ha9 (0 + 45) (by omega)).trans ((ha8 45 (by omega)).trans ((ha7 (0 + 45) (by omega)).trans ((ha6 45 (by omega)).trans ((ha5 (0 + 45) (by omega)).trans ((ha4 45 (by omega)).trans hn3))))))))
  have g3 : ad11 (0 + 89) = qn5 := ((ha11 (0 + 89) (by omega)).trans ((ha10 89 (by omega)).trans ((ha9 (0 + 89) (by omega)).trans ((ha8 89 (by omega)).trans ((ha7 (0 + 89) (by omega)).trans ((ha6 89 (by omega)).trans hn5))))))
  have g4 : ad11 (0 + 102) = qn7 := ((ha11 (0 + 102) (by omega)).trans ((ha10 102 (by omega)).trans ((ha9 (0 + 102) (by omega)).trans ((ha8 102 (by omega)).trans hn7))))
  have g5 : ad11 (0 + 158) = qn9 := ((ha11 (0 + 158) (by omega)).trans ((ha10 158 (by omega)).trans hn9))
  have g6 : ad11 (0 + 170) = qn11 := hn11
  have gq := ((ha11 0 (by omega)).trans ((ha10 0 (by omega)).trans ((ha9 0 (by omega)).trans ((ha8 0 (by omega)).trans ((ha7 0 (by omega)).trans ((ha6 0 (by omega)).trans ((ha5 0 (by omega)).trans ((ha4 0 (by omega)).trans ((ha3 0 (by omega)).trans ((ha2 0 (by omega)).trans ((ha1 0 (by omega)).trans hq)))))))))))
  clear hOV
  have e0 : va_up OV 170 (some (.inl (cid 6, 4, .inr (.inr (.inr (.inr (fun j => if j < 0 then some (ad11 (171 + 2 * j)) else none))))))) = OV := by
    funext j
    by_cases z : j = 170
    · subst z
      rw [va_up_self, hO2]
      congr 8
    · rw [va_up_ne _ _ z]
  rw [← e0] at d
  refine W.widen (k := 170 + 2 * 0) (n := 1501 + 0 * 27) (by decide) (by decide) ?_
  refine lz_X7_74 (c0 := 170) (s0 := 1501) (ad0 := ad11) (ov0 := OV) (E := [.ref qn1, .ref qn3, .int 0, .ref qn5, .ref qn7, .ref qn9, .ref qn11]) S (by rw [← g6]; rfl) hO0 (fun j hj => hOn j (by omega)) gq (by decide) (by decide) ⟨by decide, by decide⟩ (fun adA H locs ls hagA d hl => ?_) 4 0 ad11 _ _ ls rfl (fun _ _ => rfl) d hl
  refine z_end S hr d (fun j hj1 hj2 => ?_) ((hagA 0 (by omega)).trans gq) dX7_init_98 (by decide) (by decide)
  rcases (show j = 0 ∨ (0 < j ∧ j < 170) ∨ j = 170 ∨ 171 ≤ j by omega) with rfl | hj | rfl | hj
  · rw [wo_0 (by decide +kernel), hagA (0 + 1) (by omega), hagA (0 + 45) (by omega), hagA (0 + 89) (by omega), hagA (0 + 102) (by omega), hagA (0 + 158) (by omega), hagA (0 + 170) (by omega), g1, g2, g3, g4, g5, g6]
    exact zc_s ((va_up_ne _ _ (by omega)).trans hO0)
  · exact zc_n ((va_up_ne _ _ (by omega)).trans (hO1 j hj.1 hj.2))
  · show _ = wcell _ _ _ _ _
    rw [wc_17 (by decide +kernel)]
    exact zc_s (va_up_self _ _ _)
  · exact zc_n ((va_up_ne _ _ (by omega)).trans (hOn j hj))
