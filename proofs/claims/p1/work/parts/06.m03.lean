theorem hyV_X9_mowSet : yX9_mowSet.cls = RX9 ∧ yX9_mowSet.cls ≠ "java/lang/invoke/MethodHandle" ∧ yX9_mowSet.cls ≠ "java/lang/invoke/VarHandle" ∧ (parseMethodDescriptor yX9_mowSet.desc).map (fun d => d.parameters.length) = some 2 := by decide +kernel
abbrev rm_X9_mowSet : Room := { frames := 1, cells := 0, slots := 0, locals := 21 }
def lp_X9_mowSet_5 (fu : Nat) (b0 : Nat) (b1 : Int32) (b2 : Int32) (K : Int32 → Mem → Option (Int32 × Mem)) : Nat → Int32 → Int32 → Mem → Option (Int32 × Mem)
  | 0, _, _, _ => none
  | n + 1, x3, x4, Mx =>
    (if (15 : Int32) ≤ x4 then (K x3 Mx)
    else lt ((((15 : Int32) * b1) + x4)) (fun v1 : Int32 =>
      (f_X9_has b2 x4).bind (fun u2 =>
      (if u2 = 0 then lt (x4 + 1) (fun v10 : Int32 =>
        (lp_X9_mowSet_5 fu b0 b1 b2 K n x3 v10 Mx))
      else gd (inb v1 135) (
        (if (Mx (b0 + 3) v1.toNatClampNeg) ≤ (2 : Int32) then lt (x4 + 1) (fun v9 : Int32 =>
          (lp_X9_mowSet_5 fu b0 b1 b2 K n x3 v9 Mx))
        else gd (inb v1 135) (
          lt ((x3 + (Mx (b0 + 3) v1.toNatClampNeg))) (fun v5 : Int32 =>
          gd (inb v1 135) (
          lt (up Mx (b0 + 3) v1.toNatClampNeg (0 : Int32)) (fun M7 : Mem =>
          lt (x4 + 1) (fun v8 : Int32 =>
          (lp_X9_mowSet_5 fu b0 b1 b2 K n v5 v8 M7))))))))))))
def f_X9_mowSet (fu : Nat) (M : Mem) (k0 : Nat) (a1 : Int32) (a2 : Int32) : Option (Int32 × Mem) :=
  (lp_X9_mowSet_5 fu k0 a1 a2 (fun (v11 : Int32) (M12 : Mem) =>
    gd (inb a1 9) (
    gd (inb (M12 (k0 + 2) a1.toNatClampNeg) 6) (
    gd (inb (M12 (k0 + 2) a1.toNatClampNeg) 6) (
    lt (up M12 (k0 + 4) (M12 (k0 + 2) a1.toNatClampNeg).toNatClampNeg ((M12 (k0 + 4) (M12 (k0 + 2) a1.toNatClampNeg).toNatClampNeg) + v11)) (fun M16 : Mem =>
    some (v11, M16)))))) fu (0 : Int32) (0 : Int32) M)
set_option maxHeartbeats 4000000 in
set_option maxRecDepth 100000 in
theorem lc_X9_mowSet_5 {p : Program} {l : Launch} {e : Env} {s : State} {m : MethodId} {args : Array Value} {below : List Frame} {meth : Method} {c : Code} {G : Gx} {L : MemL} {fu : Nat} {b0 : Nat} {b1 : Int32} {b2 : Int32} {z : Int32 × Mem} (S : Sx G true p s m args meth c cX9_mowSet 6 RX9) (hr : meth.sig.returnType = (Option.some Jvm.ClassFile.FieldType.int)) (hb0 : kd b0 = 20) (K : Int32 → Mem → Option (Int32 × Mem)) (hK : ∀ (y3 : Int32) (My : Mem) (H : Heap) (locs : List Loc), Dy G s My L H locs → ∀ ls : Array Slot, lv_has ls 6 [(0, .ref (ad G b0)), (1, .int b1), (3, .int y3)] → K y3 My = some z → W p l e rm_X9_mowSet s m args below meth c H locs 0 0 (MQ below (Qi G z.1 z.2 L) args s 0 0 (gA G)) (F0 m 65 ls [])) :
    ∀ (n : Nat) (x3 : Int32) (x4 : Int32) (Mx : Mem), lp_X9_mowSet_5 fu b0 b1 b2 K n x3 x4 Mx = some z → ∀ (H : Heap) (locs : List Loc), Dy G s Mx L H locs → ∀ ls : Array Slot, lv_has ls 6 [(0, .ref (ad G b0)), (1, .int b1), (2, .int b2), (3, .int x3), (4, .int x4)] → W p l e rm_X9_mowSet s m args below meth c H locs 0 0 (MQ below (Qi G z.1 z.2 L) args s 0 0 (gA G)) (F0 m 5 ls []) := by
  intro n
  induction n with
  | zero =>
    intro x3 x4 Mx h
    have h : (none : Option (Int32 × Mem)) = some z := h
    cases h
  | succ n ih =>
    intro x3 x4 Mx h H locs d ls hl
    rw [lp_X9_mowSet_5] at h
    refine lv_iload S.1 S.2.1 dX9_mowSet_5 (lv_at hl 4 rfl) ?_
    refine lv_bipush (v := 15) S.1 S.2.1 dX9_mowSet_7 (by decide) ?_
    refine lv_icmp_ge (tgt := 65) S.1 S.2.1 dX9_mowSet_9 (by decide) (fun cc => ?_) (fun cc => ?_)
    · replace h := it_p cc h
      exact hK _ _ _ _ d _ (lv_sub hl [0, 1, 3] rfl) h
    · replace h := it_n cc h
      refine lv_bipush (v := 15) S.1 S.2.1 dX9_mowSet_12 (by decide) ?_
      refine lv_iload_n S.1 S.2.1 dX9_mowSet_14 rfl (lv_at hl 1 rfl) ?_
      refine lv_imul S.1 S.2.1 dX9_mowSet_15 ?_
      refine lv_iload S.1 S.2.1 dX9_mowSet_16 (lv_at hl 4 rfl) ?_
      refine lv_iadd S.1 S.2.1 dX9_mowSet_18 ?_
      obtain ⟨v1, ev1, h⟩ := lt_e h
      refine r_top ev1 ?_
      refine lv_istore (lv' := [(5, .int v1), (0, .ref (ad G b0)), (1, .int b1), (2, .int b2), (3, .int x3), (4, .int x4)]) S.1 S.2.1 dX9_mowSet_19 hl (by decide) rfl (fun ls hl => ?_)
      refine lv_iload_n S.1 S.2.1 dX9_mowSet_21 rfl (lv_at hl 3 rfl) ?_
      refine lv_iload S.1 S.2.1 dX9_mowSet_22 (lv_at hl 5 rfl) ?_
      obtain ⟨u2, hu2, h⟩ := bd_e h
      refine r_ri d (r_cS (As := [.int b2, .int x4]) (rest := []) S d (c_X9_has l G Mx L b2 x4 hu2) ml_RX9_117 sm_yX9_has in_RX9 co_yX9_has hyS_X9_has ⟨rfl, rfl⟩ ⟨by decide, by decide⟩ rfl hl rfl (Nat.le_of_ble_eq_true rfl) dX9_mowSet_24 ⟨Nat.zero_le _, Nat.zero_le _⟩) (fun H locs d => ?_)
      refine lv_if_eq (tgt := 59) S.1 S.2.1 dX9_mowSet_27 (by decide) (fun cc => ?_) (fun cc => ?_)
      · replace h := it_p cc h
        obtain ⟨v10, ev10, h⟩ := lt_e h
        refine lv_iinc (v := v10) (lv' := [(4, .int v10), (5, .int v1), (0, .ref (ad G b0)), (1, .int b1), (2, .int b2), (3, .int x3)]) S.1 S.2.1 dX9_mowSet_59 hl (k := 5) rfl (by rw [ev10]; rfl) (by decide) rfl (fun ls hl => ?_)
        refine lv_goto (tgt := 5) S.1 S.2.1 dX9_mowSet_62 (by decide) ?_
        exact ih _ _ _ h _ _ d _ (lv_sub hl [2, 3, 4, 5, 0] rfl)
      · replace h := it_n cc h
        refine lv_aload_n S.1 S.2.1 dX9_mowSet_30 rfl (lv_at hl 1 rfl) ?_
        refine gf_20_2 S d hb0 fl_RX9_16 dX9_mowSet_31 ?_
        refine lv_iload S.1 S.2.1 dX9_mowSet_34 (lv_at hl 0 rfl) ?_
        obtain ⟨g3, h⟩ := gd_e h
        refine r_iald S d (ksdM S (ch_20_2 hb0).1) (wc_21 (ch_20_2 hb0).1) (ch_20_2 hb0).2 g3 dX9_mowSet_36 ?_
        refine lv_iconst (v := 2) S.1 S.2.1 dX9_mowSet_37 (by decide) ?_
        refine lv_icmp_le (tgt := 59) S.1 S.2.1 dX9_mowSet_38 (by decide) (fun cc => ?_) (fun cc => ?_)
        · replace h := it_p cc h
          obtain ⟨v9, ev9, h⟩ := lt_e h
          refine lv_iinc (v := v9) (lv' := [(4, .int v9), (5, .int v1), (0, .ref (ad G b0)), (1, .int b1), (2, .int b2), (3, .int x3)]) S.1 S.2.1 dX9_mowSet_59 hl (k := 5) rfl (by rw [ev9]; rfl) (by decide) rfl (fun ls hl => ?_)
          refine lv_goto (tgt := 5) S.1 S.2.1 dX9_mowSet_62 (by decide) ?_
          exact ih _ _ _ h _ _ d _ (lv_sub hl [2, 3, 4, 5, 0] rfl)
        · replace h := it_n cc h
          refine lv_iload_n S.1 S.2.1 dX9_mowSet_41 rfl (lv_at hl 4 rfl) ?_
          refine lv_aload_n S.1 S.2.1 dX9_mowSet_42 rfl (lv_at hl 1 rfl) ?_
          refine gf_20_2 S d hb0 fl_RX9_16 dX9_mowSet_43 ?_
          refine lv_iload S.1 S.2.1 dX9_mowSet_46 (lv_at hl 0 rfl) ?_
          obtain ⟨g4, h⟩ := gd_e h
          refine r_iald S d (ksdM S (ch_20_2 hb0).1) (wc_21 (ch_20_2 hb0).1) (ch_20_2 hb0).2 g4 dX9_mowSet_48 ?_
          refine lv_iadd S.1 S.2.1 dX9_mowSet_49 ?_
          obtain ⟨v5, ev5, h⟩ := lt_e h
          refine r_top ev5 ?_
          refine lv_istore_n (lv' := [(3, .int v5), (5, .int v1), (0, .ref (ad G b0)), (1, .int b1), (2, .int b2), (4, .int x4)]) S.1 S.2.1 dX9_mowSet_50 rfl hl (by decide) rfl (fun ls hl => ?_)
          refine lv_aload_n S.1 S.2.1 dX9_mowSet_51 rfl (lv_at hl 2 rfl) ?_
          refine gf_20_2 S d hb0 fl_RX9_16 dX9_mowSet_52 ?_
          refine lv_iload S.1 S.2.1 dX9_mowSet_55 (lv_at hl 1 rfl) ?_
          refine lv_iconst (v := 0) S.1 S.2.1 dX9_mowSet_57 (by decide) ?_
          obtain ⟨g6, h⟩ := gd_e h
          obtain ⟨M7, eM7, h⟩ := lt_e h
          refine r_iast S d eM7 (ksdM S (ch_20_2 hb0).1) (fun _ => wc_21 (ch_20_2 hb0).1) (ch_20_2 hb0).2 g6 dX9_mowSet_58 (fun H locs d => ?_)
          obtain ⟨v8, ev8, h⟩ := lt_e h
          refine lv_iinc (v := v8) (lv' := [(4, .int v8), (3, .int v5), (5, .int v1), (0, .ref (ad G b0)), (1, .int b1), (2, .int b2)]) S.1 S.2.1 dX9_mowSet_59 hl (k := 5) rfl (by rw [ev8]; rfl) (by decide) rfl (fun ls hl => ?_)
          refine lv_goto (tgt := 5) S.1 S.2.1 dX9_mowSet_62 (by decide) ?_
          exact ih _ _ _ h _ _ d _ (lv_sub hl [3, 4, 5, 1, 0] rfl)
set_option maxHeartbeats 4000000 in
set_option maxRecDepth 100000 in
theorem c_X9_mowSet (l : Launch) (G : Gx) (M : Mem) (L : MemL) (fu : Nat) (k0 : Nat) (a1 : Int32) (a2 : Int32) (hk0 : kd k0 = 20) {z : Int32 × Mem} (h : f_X9_mowSet fu M k0 a1 a2 = some z) : Met l yX9_mowSet (.code yX9_mowSet cX9_mowSet 6 (Option.some Jvm.ClassFile.FieldType.int) :: UW) rm_X9_mowSet (va_Pc [.ref (ad G k0), .int a1, .int a2] (PreG G true M L)) (Qi G z.1 z.2 L) 0 0 (gA G) := by
  refine r_in (by decide) (fun p e s m args below meth c S hr d ha ls hl => ?_) (Nat.le_of_ble_eq_true rfl)
  have S : Sx G true p s m args meth c cX9_mowSet 6 RX9 := S
  have hl : lv_has ls 6 [(0, .ref (ad G k0)), (1, .int a1), (2, .int a2)] := hl
  unfold f_X9_mowSet at h
  refine lv_iconst (v := 0) S.1 S.2.1 dX9_mowSet_0 (by decide) ?_
  refine lv_istore_n (lv' := [(3, .int (0 : Int32)), (0, .ref (ad G k0)), (1, .int a1), (2, .int a2)]) S.1 S.2.1 dX9_mowSet_1 rfl hl (by decide) rfl (fun ls hl => ?_)
  refine lv_iconst (v := 0) S.1 S.2.1 dX9_mowSet_2 (by decide) ?_
  refine lv_istore (lv' := [(4, .int (0 : Int32)), (3, .int (0 : Int32)), (0, .ref (ad G k0)), (1, .int a1), (2, .int a2)]) S.1 S.2.1 dX9_mowSet_3 hl (by decide) rfl (fun ls hl => ?_)
  refine lc_X9_mowSet_5 S hr hk0 _ (fun v11 M12 H locs d ls hl h => ?_) _ _ _ _  h _ _ d _ (lv_sub hl [2, 3, 4, 1, 0] rfl)
  refine lv_aload_n S.1 S.2.1 dX9_mowSet_65 rfl (lv_at hl 0 rfl) ?_
  refine gf_20_3 S d hk0 fl_RX9_19 dX9_mowSet_66 ?_
  refine lv_aload_n S.1 S.2.1 dX9_mowSet_69 rfl (lv_at hl 0 rfl) ?_
  refine gf_20_1 S d hk0 fl_RX9_13 dX9_mowSet_70 ?_
  refine lv_iload_n S.1 S.2.1 dX9_mowSet_73 rfl (lv_at hl 1 rfl) ?_
  obtain ⟨g13, h⟩ := gd_e h
  refine r_iald S d (ksdM S (ch_20_1 hk0).1) (wc_21 (ch_20_1 hk0).1) (ch_20_1 hk0).2 g13 dX9_mowSet_74 ?_
  refine lv_dup2_11 S.1 S.2.1 dX9_mowSet_75 rfl rfl ?_
  obtain ⟨g14, h⟩ := gd_e h
  refine r_iald S d (ksdM S (ch_20_3 hk0).1) (wc_21 (ch_20_3 hk0).1) (ch_20_3 hk0).2 g14 dX9_mowSet_76 ?_
  refine lv_iload_n S.1 S.2.1 dX9_mowSet_77 rfl (lv_at hl 2 rfl) ?_
  refine lv_iadd S.1 S.2.1 dX9_mowSet_78 ?_
  obtain ⟨g15, h⟩ := gd_e h
  obtain ⟨M16, eM16, h⟩ := lt_e h
  refine r_iast S d eM16 (ksdM S (ch_20_3 hk0).1) (fun _ => wc_21 (ch_20_3 hk0).1) (ch_20_3 hk0).2 g15 dX9_mowSet_79 (fun H locs d => ?_)
  refine lv_iload_n S.1 S.2.1 dX9_mowSet_80 rfl (lv_at hl 2 rfl) ?_
  obtain rfl := Option.some.inj h
  exact r_iret S d hr rfl rfl dX9_mowSet_81
theorem hyV_X9_mow : yX9_mow.cls = RX9 ∧ yX9_mow.cls ≠ "java/lang/invoke/MethodHandle" ∧ yX9_mow.cls ≠ "java/lang/invoke/VarHandle" ∧ (parseMethodDescriptor yX9_mow.desc).map (fun d => d.parameters.length) = some 2 := by decide +kernel
abbrev rm_X9_mow : Room := { frames := 2, cells := 0, slots := 0, locals := 46 }
def f_X9_mow (fu : Nat) (M : Mem) (k0 : Nat) (a1 : Int32) (a2 : Int32) : Option (Int32 × Mem) :=
  (f_X9_isStrip M k0 a1).bind (fun u1 =>
  (if u1 = 0 then some ((-1 : Int32), M)
  else (f_X9_isLetter a2).bind (fun u2 =>
    (if u2 = 0 then some ((-1 : Int32), M)
    else gd (inb a2 26) (
      (f_X9_hasGrown fu M k0 a1 (M (k0 + 1) a2.toNatClampNeg)).bind (fun u4 =>
      (if u4 = 0 then some ((-2 : Int32), M)
      else gd (inb a2 26) (
        (f_X9_mowSet fu M k0 a1 (M (k0 + 1) a2.toNatClampNeg)).bind (fun u6 =>
        some (u6.1, u6.2))))))))))
set_option maxHeartbeats 4000000 in
set_option maxRecDepth 100000 in
theorem c_X9_mow (l : Launch) (G : Gx) (M : Mem) (L : MemL) (fu : Nat) (k0 : Nat) (a1 : Int32) (a2 : Int32) (hk0 : kd k0 = 20) {z : Int32 × Mem} (h : f_X9_mow fu M k0 a1 a2 = some z) : Met l yX9_mow (.code yX9_mow cX9_mow 3 (Option.some Jvm.ClassFile.FieldType.int) :: UW) rm_X9_mow (va_Pc [.ref (ad G k0), .int a1, .int a2] (PreG G true M L)) (Qi G z.1 z.2 L) 0 0 (gA G) := by
  refine r_in (by decide) (fun p e s m args below meth c S hr d ha ls hl => ?_) (Nat.le_of_ble_eq_true rfl)
  have S : Sx G true p s m args meth c cX9_mow 3 RX9 := S
  have hl : lv_has ls 3 [(0, .ref (ad G k0)), (1, .int a1), (2, .int a2)] := hl
  unfold f_X9_mow at h
  refine lv_aload_n S.1 S.2.1 dX9_mow_0 rfl (lv_at hl 0 rfl) ?_
  refine lv_iload_n S.1 S.2.1 dX9_mow_1 rfl (lv_at hl 1 rfl) ?_
  obtain ⟨u1, hu1, h⟩ := bd_e h
  refine r_ri d (r_cV (As := [.int a1]) (rest := []) S d (c_X9_isStrip l G M L k0 a1 hk0 hu1) (ksdM S hk0) (wc_20 hk0) rfl ml_RX9_94 im_yX9_isStrip se_yX9_isStrip in_RX9 co_yX9_isStrip hyV_X9_isStrip ⟨rfl, rfl⟩ ⟨by decide, by decide⟩ rfl hl rfl (Nat.le_of_ble_eq_true rfl) dX9_mow_2 ⟨Nat.zero_le _, Nat.zero_le _⟩) (fun H locs d => ?_)
  refine lv_if_eq (tgt := 15) S.1 S.2.1 dX9_mow_5 (by decide) (fun cc => ?_) (fun cc => ?_)
  · replace h := it_p cc h
    refine lv_iconst (v := (-1)) S.1 S.2.1 dX9_mow_15 (by decide) ?_
    obtain rfl := Option.some.inj h
    exact r_iret S d hr rfl rfl dX9_mow_16
  · replace h := it_n cc h
    refine lv_iload_n S.1 S.2.1 dX9_mow_8 rfl (lv_at hl 2 rfl) ?_
    obtain ⟨u2, hu2, h⟩ := bd_e h
    refine r_ri d (r_cS (As := [.int a2]) (rest := []) S d (c_X9_isLetter l G M L a2 hu2) ml_RX9_101 sm_yX9_isLetter in_RX9 co_yX9_isLetter hyS_X9_isLetter ⟨rfl, rfl⟩ ⟨by decide, by decide⟩ rfl hl rfl (Nat.le_of_ble_eq_true rfl) dX9_mow_9 ⟨Nat.zero_le _, Nat.zero_le _⟩) (fun H locs d => ?_)
    refine lv_if_ne (tgt := 17) S.1 S.2.1 dX9_mow_12 (by decide) (fun cc => ?_) (fun cc => ?_)
    · replace h := it_n cc h
      refine lv_aload_n S.1 S.2.1 dX9_mow_17 rfl (lv_at hl 0 rfl) ?_
      refine lv_iload_n S.1 S.2.1 dX9_mow_18 rfl (lv_at hl 1 rfl) ?_
      refine lv_aload_n S.1 S.2.1 dX9_mow_19 rfl (lv_at hl 0 rfl) ?_
      refine gf_20_0 S d hk0 fl_RX9_7 dX9_mow_20 ?_
      refine lv_iload_n S.1 S.2.1 dX9_mow_23 rfl (lv_at hl 2 rfl) ?_
      obtain ⟨g3, h⟩ := gd_e h
      refine r_iald S d (ksdM S (ch_20_0 hk0).1) (wc_21 (ch_20_0 hk0).1) (ch_20_0 hk0).2 g3 dX9_mow_24 ?_
      obtain ⟨u4, hu4, h⟩ := bd_e h
      refine r_ri d (r_cV (As := [.int a1, .int (M (k0 + 1) a2.toNatClampNeg)]) (rest := []) S d (c_X9_hasGrown l G M L fu k0 a1 (M (k0 + 1) a2.toNatClampNeg) hk0 hu4) (ksdM S hk0) (wc_20 hk0) rfl ml_RX9_121 im_yX9_hasGrown se_yX9_hasGrown in_RX9 co_yX9_hasGrown hyV_X9_hasGrown ⟨rfl, rfl⟩ ⟨by decide, by decide⟩ rfl hl rfl (Nat.le_of_ble_eq_true rfl) dX9_mow_25 ⟨Nat.zero_le _, Nat.zero_le _⟩) (fun H locs d => ?_)
      refine lv_if_eq (tgt := 45) S.1 S.2.1 dX9_mow_28 (by decide) (fun cc => ?_) (fun cc => ?_)
      · replace h := it_p cc h
        refine lv_bipush (v := (-2)) S.1 S.2.1 dX9_mow_45 (by decide) ?_
        obtain rfl := Option.some.inj h
        exact r_iret S d hr rfl rfl dX9_mow_47
      · replace h := it_n cc h
        refine lv_aload_n S.1 S.2.1 dX9_mow_31 rfl (lv_at hl 0 rfl) ?_
        refine lv_iload_n S.1 S.2.1 dX9_mow_32 rfl (lv_at hl 1 rfl) ?_
        refine lv_aload_n S.1 S.2.1 dX9_mow_33 rfl (lv_at hl 0 rfl) ?_
        refine gf_20_0 S d hk0 fl_RX9_7 dX9_mow_34 ?_
        refine lv_iload_n S.1 S.2.1 dX9_mow_37 rfl (lv_at hl 2 rfl) ?_
        obtain ⟨g5, h⟩ := gd_e h
        refine r_iald S d (ksdM S (ch_20_0 hk0).1) (wc_21 (ch_20_0 hk0).1) (ch_20_0 hk0).2 g5 dX9_mow_38 ?_
        obtain ⟨u6, hu6, h⟩ := bd_e h
        refine r_ri d (r_cV (As := [.int a1, .int (M (k0 + 1) a2.toNatClampNeg)]) (rest := []) S d (c_X9_mowSet l G M L fu k0 a1 (M (k0 + 1) a2.toNatClampNeg) hk0 hu6) (ksdM S hk0) (wc_20 hk0) rfl ml_RX9_124 im_yX9_mowSet se_yX9_mowSet in_RX9 co_yX9_mowSet hyV_X9_mowSet ⟨rfl, rfl⟩ ⟨by decide, by decide⟩ rfl hl rfl (Nat.le_of_ble_eq_true rfl) dX9_mow_39 ⟨Nat.zero_le _, Nat.zero_le _⟩) (fun H locs d => ?_)
        refine lv_goto (tgt := 47) S.1 S.2.1 dX9_mow_42 (by decide) ?_
        obtain rfl := Option.some.inj h
        exact r_iret S d hr rfl rfl dX9_mow_47
    · replace h := it_p cc h
      refine lv_iconst (v := (-1)) S.1 S.2.1 dX9_mow_15 (by decide) ?_
      obtain rfl := Option.some.inj h
      exact r_iret S d hr rfl rfl dX9_mow_16
theorem hyV_X9_cut : yX9_cut.cls = RX9 ∧ yX9_cut.cls ≠ "java/lang/invoke/MethodHandle" ∧ yX9_cut.cls ≠ "java/lang/invoke/VarHandle" ∧ (parseMethodDescriptor yX9_cut.desc).map (fun d => d.parameters.length) = some 1 := by decide +kernel
abbrev rm_X9_cut : Room := { frames := 2, cells := 0, slots := 0, locals := 46 }
def f_X9_cut (fu : Nat) (M : Mem) (k0 : Nat) (a1 : Int32) : Option (Int32 × Mem) :=
  (f_X9_isStrip M k0 a1).bind (fun u1 =>
  (if u1 = 0 then some ((-1 : Int32), M)
  else (f_X9_mowSet fu M k0 a1 (32767 : Int32)).bind (fun u2 =>
    some (u2.1, u2.2))))
set_option maxHeartbeats 4000000 in
set_option maxRecDepth 100000 in
theorem c_X9_cut (l : Launch) (G : Gx) (M : Mem) (L : MemL) (fu : Nat) (k0 : Nat) (a1 : Int32) (hk0 : kd k0 = 20) {z : Int32 × Mem} (h : f_X9_cut fu M k0 a1 = some z) : Met l yX9_cut (.code yX9_cut cX9_cut 2 (Option.some Jvm.ClassFile.FieldType.int) :: UW) rm_X9_cut (va_Pc [.ref (ad G k0), .int a1] (PreG G true M L)) (Qi G z.1 z.2 L) 0 0 (gA G) := by
  refine r_in (by decide) (fun p e s m args below meth c S hr d ha ls hl => ?_) (Nat.le_of_ble_eq_true rfl)
  have S : Sx G true p s m args meth c cX9_cut 2 RX9 := S
  have hl : lv_has ls 2 [(0, .ref (ad G k0)), (1, .int a1)] := hl
  unfold f_X9_cut at h
  refine lv_aload_n S.1 S.2.1 dX9_cut_0 rfl (lv_at hl 0 rfl) ?_
  refine lv_iload_n S.1 S.2.1 dX9_cut_1 rfl (lv_at hl 1 rfl) ?_
  obtain ⟨u1, hu1, h⟩ := bd_e h
  refine r_ri d (r_cV (As := [.int a1]) (rest := []) S d (c_X9_isStrip l G M L k0 a1 hk0 hu1) (ksdM S hk0) (wc_20 hk0) rfl ml_RX9_94 im_yX9_isStrip se_yX9_isStrip in_RX9 co_yX9_isStrip hyV_X9_isStrip ⟨rfl, rfl⟩ ⟨by decide, by decide⟩ rfl hl rfl (Nat.le_of_ble_eq_true rfl) dX9_cut_2 ⟨Nat.zero_le _, Nat.zero_le _⟩) (fun H locs d => ?_)
  refine lv_if_eq (tgt := 19) S.1 S.2.1 dX9_cut_5 (by decide) (fun cc => ?_) (fun cc => ?_)
  · replace h := it_p cc h
    refine lv_iconst (v := (-1)) S.1 S.2.1 dX9_cut_19 (by decide) ?_
    obtain rfl := Option.some.inj h
    exact r_iret S d hr rfl rfl dX9_cut_20
  · replace h := it_n cc h
    refine lv_aload_n S.1 S.2.1 dX9_cut_8 rfl (lv_at hl 0 rfl) ?_
    refine lv_iload_n S.1 S.2.1 dX9_cut_9 rfl (lv_at hl 1 rfl) ?_
    refine lv_sipush (v := 32767) S.1 S.2.1 dX9_cut_10 (by decide) ?_
    obtain ⟨u2, hu2, h⟩ := bd_e h
    refine r_ri d (r_cV (As := [.int a1, .int (32767 : Int32)]) (rest := []) S d (c_X9_mowSet l G M L fu k0 a1 (32767 : Int32) hk0 hu2) (ksdM S hk0) (wc_20 hk0) rfl ml_RX9_124 im_yX9_mowSet se_yX9_mowSet in_RX9 co_yX9_mowSet hyV_X9_mowSet ⟨rfl, rfl⟩ ⟨by decide, by decide⟩ rfl hl rfl (Nat.le_of_ble_eq_true rfl) dX9_cut_13 ⟨Nat.zero_le _, Nat.zero_le _⟩) (fun H locs d => ?_)
    refine lv_goto (tgt := 20) S.1 S.2.1 dX9_cut_16 (by decide) ?_
    obtain rfl := Option.some.inj h
    exact r_iret S d hr rfl rfl dX9_cut_20
theorem hyV_X9_fault : yX9_fault.cls = RX9 ∧ yX9_fault.cls ≠ "java/lang/invoke/MethodHandle" ∧ yX9_fault.cls ≠ "java/lang/invoke/VarHandle" ∧ (parseMethodDescriptor yX9_fault.desc).map (fun d => d.parameters.length) = some 3 := by decide +kernel
abbrev rm_X9_fault : Room := { frames := 2, cells := 0, slots := 0, locals := 46 }
def f_X9_fault (M : Mem) (k0 : Nat) (a1 : Int32) (a2 : Int32) (a3 : Int32) : Option (Int32 × Mem) :=
  (f_X9_isStrip M k0 a1).bind (fun u1 =>
  (if u1 = 0 then some ((-1 : Int32), M)
  else (f_X9_isCell a2).bind (fun u2 =>
    (if u2 = 0 then some ((-1 : Int32), M)
    else (f_X9_in ((a3).toInt64) (0 : Int64) (1 : Int64)).bind (fun u3 =>
      (if u3 = 0 then some ((-1 : Int32), M)
      else gd (inb (((15 : Int32) * a1) + a2) 135) (
        lt ((M (k0 + 3) (((15 : Int32) * a1) + a2).toNatClampNeg)) (fun v5 : Int32 =>
        (if a3 = 0 then some (0 : Int32)
        else some (9 : Int32)).bind (fun t6 : Int32 =>
        gd (inb (((15 : Int32) * a1) + a2) 135) (
        lt (up M (k0 + 3) (((15 : Int32) * a1) + a2).toNatClampNeg t6) (fun M9 : Mem =>
        some (v5, M9))))))))))))
set_option maxHeartbeats 4000000 in
set_option maxRecDepth 100000 in
theorem c_X9_fault (l : Launch) (G : Gx) (M : Mem) (L : MemL) (k0 : Nat) (a1 : Int32) (a2 : Int32) (a3 : Int32) (hk0 : kd k0 = 20) {z : Int32 × Mem} (h : f_X9_fault M k0 a1 a2 a3 = some z) : Met l yX9_fault (.code yX9_fault cX9_fault 5 (Option.some Jvm.ClassFile.FieldType.int) :: UW) rm_X9_fault (va_Pc [.ref (ad G k0), .int a1, .int a2, .int a3] (PreG G true M L)) (Qi G z.1 z.2 L) 0 0 (gA G) := by
  refine r_in (by decide) (fun p e s m args below meth c S hr d ha ls hl => ?_) (Nat.le_of_ble_eq_true rfl)
  have S : Sx G true p s m args meth c cX9_fault 5 RX9 := S
  have hl : lv_has ls 5 [(0, .ref (ad G k0)), (1, .int a1), (2, .int a2), (3, .int a3)] := hl
  unfold f_X9_fault at h
  refine lv_aload_n S.1 S.2.1 dX9_fault_0 rfl (lv_at hl 0 rfl) ?_
  refine lv_iload_n S.1 S.2.1 dX9_fault_1 rfl (lv_at hl 1 rfl) ?_
  obtain ⟨u1, hu1, h⟩ := bd_e h
  refine r_ri d (r_cV (As := [.int a1]) (rest := []) S d (c_X9_isStrip l G M L k0 a1 hk0 hu1) (ksdM S hk0) (wc_20 hk0) rfl ml_RX9_94 im_yX9_isStrip se_yX9_isStrip in_RX9 co_yX9_isStrip hyV_X9_isStrip ⟨rfl, rfl⟩ ⟨by decide, by decide⟩ rfl hl rfl (Nat.le_of_ble_eq_true rfl) dX9_fault_2 ⟨Nat.zero_le _, Nat.zero_le _⟩) (fun H locs d => ?_)
  refine lv_if_eq (tgt := 25) S.1 S.2.1 dX9_fault_5 (by decide) (fun cc => ?_) (fun cc => ?_)
  · replace h := it_p cc h
    refine lv_iconst (v := (-1)) S.1 S.2.1 dX9_fault_25 (by decide) ?_
    obtain rfl := Option.some.inj h
    exact r_iret S d hr rfl rfl dX9_fault_26
  · replace h := it_n cc h
    refine lv_iload_n S.1 S.2.1 dX9_fault_8 rfl (lv_at hl 2 rfl) ?_
    obtain ⟨u2, hu2, h⟩ := bd_e h
    refine r_ri d (r_cS (As := [.int a2]) (rest := []) S d (c_X9_isCell l G M L a2 hu2) ml_RX9_98 sm_yX9_isCell in_RX9 co_yX9_isCell hyS_X9_isCell ⟨rfl, rfl⟩ ⟨by decide, by decide⟩ rfl hl rfl (Nat.le_of_ble_eq_true rfl) dX9_fault_9 ⟨Nat.zero_le _, Nat.zero_le _⟩) (fun H locs d => ?_)
    refine lv_if_eq (tgt := 25) S.1 S.2.1 dX9_fault_12 (by decide) (fun cc => ?_) (fun cc => ?_)
    · replace h := it_p cc h
      refine lv_iconst (v := (-1)) S.1 S.2.1 dX9_fault_25 (by decide) ?_
      obtain rfl := Option.some.inj h
      exact r_iret S d hr rfl rfl dX9_fault_26
    · replace h := it_n cc h
      refine lv_iload_n S.1 S.2.1 dX9_fault_15 rfl (lv_at hl 3 rfl) ?_
      refine lv_i2l S.1 S.2.1 dX9_fault_16 rfl ?_
      refine lv_lconst (v := 0) S.1 S.2.1 dX9_fault_17 (by decide) ?_
      refine lv_lconst (v := 1) S.1 S.2.1 dX9_fault_18 (by decide) ?_
      obtain ⟨u3, hu3, h⟩ := bd_e h
      refine r_ri d (r_cS (As := [.long ((a3).toInt64), .long (0 : Int64), .long (1 : Int64)]) (rest := []) S d (c_X9_in l G M L ((a3).toInt64) (0 : Int64) (1 : Int64) hu3) ml_RX9_75 sm_yX9_in in_RX9 co_yX9_in hyS_X9_in ⟨rfl, rfl⟩ ⟨by decide, by decide⟩ rfl hl rfl (Nat.le_of_ble_eq_true rfl) dX9_fault_19 ⟨Nat.zero_le _, Nat.zero_le _⟩) (fun H locs d => ?_)
      refine lv_if_ne (tgt := 27) S.1 S.2.1 dX9_fault_22 (by decide) (fun cc => ?_) (fun cc => ?_)
      · replace h := it_n cc h
        refine lv_aload_n S.1 S.2.1 dX9_fault_27 rfl (lv_at hl 0 rfl) ?_
        refine gf_20_2 S d hk0 fl_RX9_16 dX9_fault_28 ?_
        refine lv_bipush (v := 15) S.1 S.2.1 dX9_fault_31 (by decide) ?_
        refine lv_iload_n S.1 S.2.1 dX9_fault_33 rfl (lv_at hl 1 rfl) ?_
        refine lv_imul S.1 S.2.1 dX9_fault_34 ?_
        refine lv_iload_n S.1 S.2.1 dX9_fault_35 rfl (lv_at hl 2 rfl) ?_
        refine lv_iadd S.1 S.2.1 dX9_fault_36 ?_
        obtain ⟨g4, h⟩ := gd_e h
        refine r_iald S d (ksdM S (ch_20_2 hk0).1) (wc_21 (ch_20_2 hk0).1) (ch_20_2 hk0).2 g4 dX9_fault_37 ?_
        obtain ⟨v5, ev5, h⟩ := lt_e h
        refine r_top ev5 ?_
        refine lv_istore (lv' := [(4, .int v5), (0, .ref (ad G k0)), (1, .int a1), (2, .int a2), (3, .int a3)]) S.1 S.2.1 dX9_fault_38 hl (by decide) rfl (fun ls hl => ?_)
        refine lv_aload_n S.1 S.2.1 dX9_fault_40 rfl (lv_at hl 1 rfl) ?_
        refine gf_20_2 S d hk0 fl_RX9_16 dX9_fault_41 ?_
        refine lv_bipush (v := 15) S.1 S.2.1 dX9_fault_44 (by decide) ?_
        refine lv_iload_n S.1 S.2.1 dX9_fault_46 rfl (lv_at hl 2 rfl) ?_
        refine lv_imul S.1 S.2.1 dX9_fault_47 ?_
        refine lv_iload_n S.1 S.2.1 dX9_fault_48 rfl (lv_at hl 3 rfl) ?_
        refine lv_iadd S.1 S.2.1 dX9_fault_49 ?_
        refine lv_iload_n S.1 S.2.1 dX9_fault_50 rfl (lv_at hl 4 rfl) ?_
        obtain ⟨t6, g7, h⟩ := bd_e h
        have Jt6 : ∀ (H : Heap) (locs : List Loc), Dy G s M L H locs → W p l e rm_X9_fault s m args below meth c H locs 0 0 (MQ below (Qi G z.1 z.2 L) args s 0 0 (gA G)) (F0 m 60 ls [.int t6, .int (((15 : Int32) * a1) + a2), .ref (ad G (k0 + 3))]) := by
          intro H locs d
          obtain ⟨g8, h⟩ := gd_e h
          obtain ⟨M9, eM9, h⟩ := lt_e h
          refine r_iast S d eM9 (ksdM S (ch_20_2 hk0).1) (fun _ => wc_21 (ch_20_2 hk0).1) (ch_20_2 hk0).2 g8 dX9_fault_60 (fun H locs d => ?_)
          refine lv_iload S.1 S.2.1 dX9_fault_61 (lv_at hl 0 rfl) ?_
          obtain rfl := Option.some.inj h
          exact r_iret S d hr rfl rfl dX9_fault_63
        have h := g7
        refine lv_if_ne (tgt := 58) S.1 S.2.1 dX9_fault_51 (by decide) (fun cc => ?_) (fun cc => ?_)
        · replace h := it_n cc h
          refine lv_bipush (v := 9) S.1 S.2.1 dX9_fault_58 (by decide) ?_
          obtain ej := Option.some.inj h
          refine r_top ej.symm ?_
          exact Jt6 _ _ d
        · replace h := it_p cc h
          refine lv_iconst (v := 0) S.1 S.2.1 dX9_fault_54 (by decide) ?_
          refine lv_goto (tgt := 60) S.1 S.2.1 dX9_fault_55 (by decide) ?_
          obtain ej := Option.some.inj h
          refine r_top ej.symm ?_
          exact Jt6 _ _ d
      · replace h := it_p cc h
        refine lv_iconst (v := (-1)) S.1 S.2.1 dX9_fault_25 (by decide) ?_
        obtain rfl := Option.some.inj h
        exact r_iret S d hr rfl rfl dX9_fault_26
theorem hyV_X9_goWeek : yX9_goWeek.cls = RX9 ∧ yX9_goWeek.cls ≠ "java/lang/invoke/MethodHandle" ∧ yX9_goWeek.cls ≠ "java/lang/invoke/VarHandle" ∧ (parseMethodDescriptor yX9_goWeek.desc).map (fun d => d.parameters.length) = some 0 := by decide +kernel
abbrev rm_X9_goWeek : Room := { frames := 0, cells := 0, slots := 0, locals := 0 }
def lp_X9_goWeek_2 (fu : Nat) (b0 : Nat) (K : Mem → Option (Mem)) : Nat → Int32 → Mem → Option (Mem)
  | 0, _, _ => none
  | n + 1, x1, Mx =>
    (if ((15 : Int32) * (Mx b0 7)) ≤ x1 then (K Mx)
    else gd (inb x1 135) (
      gd (inb (0 : Int32) 4) (
      lt (((Mx (b0 + 3) x1.toNatClampNeg) + (Mx (b0 + 5) (0 : Int32).toNatClampNeg))) (fun v3 : Int32 =>
      (if v3 ≤ (9 : Int32) then some v3
      else some (9 : Int32)).bind (fun t4 : Int32 =>
      gd (inb x1 135) (
      lt (up Mx (b0 + 3) x1.toNatClampNeg t4) (fun M7 : Mem =>
      lt (x1 + 1) (fun v8 : Int32 =>
      (lp_X9_goWeek_2 fu b0 K n v8 M7)))))))))
def f_X9_goWeek (fu : Nat) (M : Mem) (k0 : Nat) : Option (Mem) :=
  (lp_X9_goWeek_2 fu k0 (fun (M9 : Mem) =>
    some (M9)) fu (0 : Int32) M)
set_option maxHeartbeats 4000000 in
set_option maxRecDepth 100000 in
theorem lc_X9_goWeek_2 {p : Program} {l : Launch} {e : Env} {s : State} {m : MethodId} {args : Array Value} {below : List Frame} {meth : Method} {c : Code} {G : Gx} {L : MemL} {fu : Nat} {b0 : Nat} {z : Mem} (S : Sx G true p s m args meth c cX9_goWeek 3 RX9) (hr : meth.sig.returnType = (Option.none : Option Jvm.ClassFile.FieldType)) (hb0 : kd b0 = 20) (K : Mem → Option (Mem)) (hK : ∀ (My : Mem) (H : Heap) (locs : List Loc), Dy G s My L H locs → ∀ ls : Array Slot, lv_has ls 3 [] → K My = some z → W p l e rm_X9_goWeek s m args below meth c H locs 0 0 (MQ below (Qv G z L) args s 0 0 (gA G)) (F0 m 51 ls [])) :
    ∀ (n : Nat) (x1 : Int32) (Mx : Mem), lp_X9_goWeek_2 fu b0 K n x1 Mx = some z → ∀ (H : Heap) (locs : List Loc), Dy G s Mx L H locs → ∀ ls : Array Slot, lv_has ls 3 [(0, .ref (ad G b0)), (1, .int x1)] → W p l e rm_X9_goWeek s m args below meth c H locs 0 0 (MQ below (Qv G z L) args s 0 0 (gA G)) (F0 m 2 ls []) := by
  intro n
  induction n with
  | zero =>
    intro x1 Mx h
    have h : (none : Option (Mem)) = some z := h
    cases h
  | succ n ih =>
    intro x1 Mx h H locs d ls hl
    rw [lp_X9_goWeek_2] at h
    refine lv_iload_n S.1 S.2.1 dX9_goWeek_2 rfl (lv_at hl 1 rfl) ?_
    refine lv_bipush (v := 15) S.1 S.2.1 dX9_goWeek_3 (by decide) ?_
    refine lv_aload_n S.1 S.2.1 dX9_goWeek_5 rfl (lv_at hl 0 rfl) ?_
    refine gf_20_7 S d hb0 fl_RX9_71 dX9_goWeek_6 ?_
    refine lv_imul S.1 S.2.1 dX9_goWeek_9 ?_
    refine lv_icmp_ge (tgt := 51) S.1 S.2.1 dX9_goWeek_10 (by decide) (fun cc => ?_) (fun cc => ?_)
    · replace h := it_p cc h
      exact hK _ _ _ d _ (lv_sub hl [] rfl) h
    · replace h := it_n cc h
      refine lv_aload_n S.1 S.2.1 dX9_goWeek_13 rfl (lv_at hl 0 rfl) ?_
      refine gf_20_2 S d hb0 fl_RX9_16 dX9_goWeek_14 ?_
      refine lv_iload_n S.1 S.2.1 dX9_goWeek_17 rfl (lv_at hl 1 rfl) ?_
      obtain ⟨g1, h⟩ := gd_e h
      refine r_iald S d (ksdM S (ch_20_2 hb0).1) (wc_21 (ch_20_2 hb0).1) (ch_20_2 hb0).2 g1 dX9_goWeek_18 ?_
      refine lv_aload_n S.1 S.2.1 dX9_goWeek_19 rfl (lv_at hl 0 rfl) ?_
      refine gf_20_4 S d hb0 fl_RX9_22 dX9_goWeek_20 ?_
      refine lv_iconst (v := 0) S.1 S.2.1 dX9_goWeek_23 (by decide) ?_
      obtain ⟨g2, h⟩ := gd_e h
      refine r_iald S d (ksdM S (ch_20_4 hb0).1) (wc_21 (ch_20_4 hb0).1) (ch_20_4 hb0).2 g2 dX9_goWeek_24 ?_
      refine lv_iadd S.1 S.2.1 dX9_goWeek_25 ?_
      obtain ⟨v3, ev3, h⟩ := lt_e h
      refine r_top ev3 ?_
      refine lv_istore_n (lv' := [(2, .int v3), (0, .ref (ad G b0)), (1, .int x1)]) S.1 S.2.1 dX9_goWeek_26 rfl hl (by decide) rfl (fun ls hl => ?_)
      refine lv_aload_n S.1 S.2.1 dX9_goWeek_27 rfl (lv_at hl 1 rfl) ?_
      refine gf_20_2 S d hb0 fl_RX9_16 dX9_goWeek_28 ?_
      refine lv_iload_n S.1 S.2.1 dX9_goWeek_31 rfl (lv_at hl 2 rfl) ?_
      refine lv_iload_n S.1 S.2.1 dX9_goWeek_32 rfl (lv_at hl 0 rfl) ?_
      refine lv_bipush (v := 9) S.1 S.2.1 dX9_goWeek_33 (by decide) ?_
      obtain ⟨t4, g5, h⟩ := bd_e h
      have Jt4 : ∀ (H : Heap) (locs : List Loc), Dy G s Mx L H locs → W p l e rm_X9_goWeek s m args below meth c H locs 0 0 (MQ below (Qv G z L) args s 0 0 (gA G)) (F0 m 44 ls [.int t4, .int x1, .ref (ad G (b0 + 3))]) := by
        intro H locs d
        obtain ⟨g6, h⟩ := gd_e h
        obtain ⟨M7, eM7, h⟩ := lt_e h
        refine r_iast S d eM7 (ksdM S (ch_20_2 hb0).1) (fun _ => wc_21 (ch_20_2 hb0).1) (ch_20_2 hb0).2 g6 dX9_goWeek_44 (fun H locs d => ?_)
        obtain ⟨v8, ev8, h⟩ := lt_e h
        refine lv_iinc (v := v8) (lv' := [(1, .int v8), (2, .int v3), (0, .ref (ad G b0))]) S.1 S.2.1 dX9_goWeek_45 hl (k := 2) rfl (by rw [ev8]; rfl) (by decide) rfl (fun ls hl => ?_)
        refine lv_goto (tgt := 2) S.1 S.2.1 dX9_goWeek_48 (by decide) ?_
        exact ih _ _ h _ _ d _ (lv_sub hl [2, 0] rfl)
      have h := g5
      refine lv_icmp_le (tgt := 43) S.1 S.2.1 dX9_goWeek_35 (by decide) (fun cc => ?_) (fun cc => ?_)
      · replace h := it_p cc h
        refine lv_iload_n S.1 S.2.1 dX9_goWeek_43 rfl (lv_at hl 0 rfl) ?_
        obtain ej := Option.some.inj h
        refine r_top ej.symm ?_
        exact Jt4 _ _ d
      · replace h := it_n cc h
        refine lv_bipush (v := 9) S.1 S.2.1 dX9_goWeek_38 (by decide) ?_
        refine lv_goto (tgt := 44) S.1 S.2.1 dX9_goWeek_40 (by decide) ?_
        obtain ej := Option.some.inj h
        refine r_top ej.symm ?_
        exact Jt4 _ _ d
set_option maxHeartbeats 4000000 in
set_option maxRecDepth 100000 in
theorem c_X9_goWeek (l : Launch) (G : Gx) (M : Mem) (L : MemL) (fu : Nat) (k0 : Nat) (hk0 : kd k0 = 20) {z : Mem} (h : f_X9_goWeek fu M k0 = some z) : Met l yX9_goWeek (.code yX9_goWeek cX9_goWeek 3 (Option.none : Option Jvm.ClassFile.FieldType) :: UW) rm_X9_goWeek (va_Pc [.ref (ad G k0)] (PreG G true M L)) (Qv G z L) 0 0 (gA G) := by
  refine r_in (by decide) (fun p e s m args below meth c S hr d ha ls hl => ?_) (Nat.le_of_ble_eq_true rfl)
  have S : Sx G true p s m args meth c cX9_goWeek 3 RX9 := S
  have hl : lv_has ls 3 [(0, .ref (ad G k0))] := hl
  unfold f_X9_goWeek at h
  refine lv_iconst (v := 0) S.1 S.2.1 dX9_goWeek_0 (by decide) ?_
  refine lv_istore_n (lv' := [(1, .int (0 : Int32)), (0, .ref (ad G k0))]) S.1 S.2.1 dX9_goWeek_1 rfl hl (by decide) rfl (fun ls hl => ?_)
  refine lc_X9_goWeek_2 S hr hk0 _ (fun M9 H locs d ls hl h => ?_) _ _ _  h _ _ d _ (lv_sub hl [1, 0] rfl)
  obtain rfl := Option.some.inj h
  exact r_vret S d hr dX9_goWeek_51
theorem hyV_X9_weeks : yX9_weeks.cls = RX9 ∧ yX9_weeks.cls ≠ "java/lang/invoke/MethodHandle" ∧ yX9_weeks.cls ≠ "java/lang/invoke/VarHandle" ∧ (parseMethodDescriptor yX9_weeks.desc).map (fun d => d.parameters.length) = some 1 := by decide +kernel
abbrev rm_X9_weeks : Room := { frames := 1, cells := 0, slots := 0, locals := 25 }
def lp_X9_weeks_16 (fu : Nat) (b0 : Nat) (b1 : Int32) (K : Mem → Option (Int32 × Mem)) : Nat → Int32 → Mem → Option (Int32 × Mem)
  | 0, _, _ => none
  | n + 1, x2, Mx =>
    (if b1 ≤ x2 then (K Mx)
    else (f_X9_goWeek fu Mx b0).bind (fun u2 =>
      lt (x2 + 1) (fun v3 : Int32 =>
      (lp_X9_weeks_16 fu b0 b1 K n v3 u2))))
def lp_X9_weeks_35 (fu : Nat) (M : Mem) (b0 : Nat) (K : Int32 → Option (Int32 × Mem)) : Nat → Int32 → Int32 → Option (Int32 × Mem)
  | 0, _, _ => none
  | n + 1, x2, x3 =>
    (if ((15 : Int32) * (M b0 7)) ≤ x3 then (K x2)
    else gd (inb x3 135) (
      (if (M (b0 + 3) x3.toNatClampNeg) = (9 : Int32) then some (1 : Int32)
      else some (0 : Int32)).bind (fun t6 : Int32 =>
      lt ((x2 + t6)) (fun v8 : Int32 =>
      lt (x3 + 1) (fun v9 : Int32 =>
      (lp_X9_weeks_35 fu M b0 K n v8 v9))))))
def f_X9_weeks (fu : Nat) (M : Mem) (k0 : Nat) (a1 : Int32) : Option (Int32 × Mem) :=
  (f_X9_in ((a1).toInt64) (1 : Int64) (30 : Int64)).bind (fun u1 =>
  (if u1 = 0 then some ((-1 : Int32), M)
  else (lp_X9_weeks_16 fu k0 a1 (fun (M4 : Mem) =>
      (lp_X9_weeks_35 fu M4 k0 (fun (v10 : Int32) =>
        some (v10, M4)) fu (0 : Int32) (0 : Int32))) fu (0 : Int32) M)))
set_option maxHeartbeats 4000000 in
set_option maxRecDepth 100000 in
theorem lc_X9_weeks_16 {p : Program} {l : Launch} {e : Env} {s : State} {m : MethodId} {args : Array Value} {below : List Frame} {meth : Method} {c : Code} {G : Gx} {L : MemL} {fu : Nat} {b0 : Nat} {b1 : Int32} {z : Int32 × Mem} (S : Sx G true p s m args meth c cX9_weeks 4 RX9) (hr : meth.sig.returnType = (Option.some Jvm.ClassFile.FieldType.int)) (hb0 : kd b0 = 20) (K : Mem → Option (Int32 × Mem)) (hK : ∀ (My : Mem) (H : Heap) (locs : List Loc), Dy G s My L H locs → ∀ ls : Array Slot, lv_has ls 4 [(0, .ref (ad G b0))] → K My = some z → W p l e rm_X9_weeks s m args below meth c H locs 0 0 (MQ below (Qi G z.1 z.2 L) args s 0 0 (gA G)) (F0 m 31 ls [])) :
    ∀ (n : Nat) (x2 : Int32) (Mx : Mem), lp_X9_weeks_16 fu b0 b1 K n x2 Mx = some z → ∀ (H : Heap) (locs : List Loc), Dy G s Mx L H locs → ∀ ls : Array Slot, lv_has ls 4 [(0, .ref (ad G b0)), (1, .int b1), (2, .int x2)] → W p l e rm_X9_weeks s m args below meth c H locs 0 0 (MQ below (Qi G z.1 z.2 L) args s 0 0 (gA G)) (F0 m 16 ls []) := by
  intro n
  induction n with
  | zero =>
    intro x2 Mx h
    have h : (none : Option (Int32 × Mem)) = some z := h
    cases h
  | succ n ih =>
    intro x2 Mx h H locs d ls hl
    rw [lp_X9_weeks_16] at h
    refine lv_iload_n S.1 S.2.1 dX9_weeks_16 rfl (lv_at hl 2 rfl) ?_
    refine lv_iload_n S.1 S.2.1 dX9_weeks_17 rfl (lv_at hl 1 rfl) ?_
    refine lv_icmp_ge (tgt := 31) S.1 S.2.1 dX9_weeks_18 (by decide) (fun cc => ?_) (fun cc => ?_)
    · replace h := it_p cc h
      exact hK _ _ _ d _ (lv_sub hl [0] rfl) h
    · replace h := it_n cc h
      refine lv_aload_n S.1 S.2.1 dX9_weeks_21 rfl (lv_at hl 0 rfl) ?_
      obtain ⟨u2, hu2, h⟩ := bd_e h
      refine r_rv d (r_cV (As := []) (rest := []) S d (c_X9_goWeek l G Mx L fu b0 hb0 hu2) (ksdM S hb0) (wc_20 hb0) rfl ml_RX9_130 im_yX9_goWeek se_yX9_goWeek in_RX9 co_yX9_goWeek hyV_X9_goWeek ⟨rfl, rfl⟩ ⟨by decide, by decide⟩ rfl hl rfl (Nat.le_of_ble_eq_true rfl) dX9_weeks_22 ⟨Nat.zero_le _, Nat.zero_le _⟩) (fun H locs d => ?_)
      obtain ⟨v3, ev3, h⟩ := lt_e h
      refine lv_iinc (v := v3) (lv' := [(2, .int v3), (0, .ref (ad G b0)), (1, .int b1)]) S.1 S.2.1 dX9_weeks_25 hl (k := 2) rfl (by rw [ev3]; rfl) (by decide) rfl (fun ls hl => ?_)
      refine lv_goto (tgt := 16) S.1 S.2.1 dX9_weeks_28 (by decide) ?_
      exact ih _ _ h _ _ d _ (lv_sub hl [1, 2, 0] rfl)
set_option maxHeartbeats 4000000 in
set_option maxRecDepth 100000 in
theorem lc_X9_weeks_35 {p : Program} {l : Launch} {e : Env} {s : State} {m : MethodId} {args : Array Value} {below : List Frame} {meth : Method} {c : Code} {G : Gx} {M : Mem} {L : MemL} {fu : Nat} {b0 : Nat} {z : Int32 × Mem} (S : Sx G true p s m args meth c cX9_weeks 4 RX9) (hr : meth.sig.returnType = (Option.some Jvm.ClassFile.FieldType.int)) (hb0 : kd b0 = 20) (K : Int32 → Option (Int32 × Mem)) (hK : ∀ (y2 : Int32) (H : Heap) (locs : List Loc), Dy G s M L H locs → ∀ ls : Array Slot, lv_has ls 4 [(2, .int y2)] → K y2 = some z → W p l e rm_X9_weeks s m args below meth c H locs 0 0 (MQ below (Qi G z.1 z.2 L) args s 0 0 (gA G)) (F0 m 71 ls [])) :
    ∀ (n : Nat) (x2 : Int32) (x3 : Int32), lp_X9_weeks_35 fu M b0 K n x2 x3 = some z → ∀ (H : Heap) (locs : List Loc), Dy G s M L H locs → ∀ ls : Array Slot, lv_has ls 4 [(0, .ref (ad G b0)), (2, .int x2), (3, .int x3)] → W p l e rm_X9_weeks s m args below meth c H locs 0 0 (MQ below (Qi G z.1 z.2 L) args s 0 0 (gA G)) (F0 m 35 ls []) := by
  intro n
  induction n with
  | zero =>
    intro x2 x3 h
    have h : (none : Option (Int32 × Mem)) = some z := h
    cases h
  | succ n ih =>
    intro x2 x3 h H locs d ls hl
    rw [lp_X9_weeks_35] at h
    refine lv_iload_n S.1 S.2.1 dX9_weeks_35 rfl (lv_at hl 2 rfl) ?_
    refine lv_bipush (v := 15) S.1 S.2.1 dX9_weeks_36 (by decide) ?_
    refine lv_aload_n S.1 S.2.1 dX9_weeks_38 rfl (lv_at hl 0 rfl) ?_
    refine gf_20_7 S d hb0 fl_RX9_71 dX9_weeks_39 ?_
    refine lv_imul S.1 S.2.1 dX9_weeks_42 ?_
    refine lv_icmp_ge (tgt := 71) S.1 S.2.1 dX9_weeks_43 (by decide) (fun cc => ?_) (fun cc => ?_)
    · replace h := it_p cc h
      exact hK _ _ _ d _ (lv_sub hl [1] rfl) h
    · replace h := it_n cc h
      refine lv_iload_n S.1 S.2.1 dX9_weeks_46 rfl (lv_at hl 1 rfl) ?_
      refine lv_aload_n S.1 S.2.1 dX9_weeks_47 rfl (lv_at hl 0 rfl) ?_
      refine gf_20_2 S d hb0 fl_RX9_16 dX9_weeks_48 ?_
      refine lv_iload_n S.1 S.2.1 dX9_weeks_51 rfl (lv_at hl 2 rfl) ?_
      obtain ⟨g5, h⟩ := gd_e h
      refine r_iald S d (ksdM S (ch_20_2 hb0).1) (wc_21 (ch_20_2 hb0).1) (ch_20_2 hb0).2 g5 dX9_weeks_52 ?_
      refine lv_bipush (v := 9) S.1 S.2.1 dX9_weeks_53 (by decide) ?_
      obtain ⟨t6, g7, h⟩ := bd_e h
      have Jt6 : ∀ (H : Heap) (locs : List Loc), Dy G s M L H locs → W p l e rm_X9_weeks s m args below meth c H locs 0 0 (MQ below (Qi G z.1 z.2 L) args s 0 0 (gA G)) (F0 m 63 ls [.int t6, .int x2]) := by
        intro H locs d
        refine lv_iadd S.1 S.2.1 dX9_weeks_63 ?_
        obtain ⟨v8, ev8, h⟩ := lt_e h
        refine r_top ev8 ?_
        refine lv_istore_n (lv' := [(2, .int v8), (0, .ref (ad G b0)), (3, .int x3)]) S.1 S.2.1 dX9_weeks_64 rfl hl (by decide) rfl (fun ls hl => ?_)
        obtain ⟨v9, ev9, h⟩ := lt_e h
        refine lv_iinc (v := v9) (lv' := [(3, .int v9), (2, .int v8), (0, .ref (ad G b0))]) S.1 S.2.1 dX9_weeks_65 hl (k := 2) rfl (by rw [ev9]; rfl) (by decide) rfl (fun ls hl => ?_)
        refine lv_goto (tgt := 35) S.1 S.2.1 dX9_weeks_68 (by decide) ?_
        exact ih _ _ h _ _ d _ (lv_sub hl [2, 1, 0] rfl)
      have h := g7
      refine lv_icmp_ne (tgt := 62) S.1 S.2.1 dX9_weeks_55 (by decide) (fun cc => ?_) (fun cc => ?_)
      · replace h := it_n cc h
        refine lv_iconst (v := 0) S.1 S.2.1 dX9_weeks_62 (by decide) ?_
        obtain ej := Option.some.inj h
        refine r_top ej.symm ?_
        exact Jt6 _ _ d
      · replace h := it_p cc h
        refine lv_iconst (v := 1) S.1 S.2.1 dX9_weeks_58 (by decide) ?_
        refine lv_goto (tgt := 63) S.1 S.2.1 dX9_weeks_59 (by decide) ?_
        obtain ej := Option.some.inj h
        refine r_top ej.symm ?_
        exact Jt6 _ _ d
set_option maxHeartbeats 4000000 in
set_option maxRecDepth 100000 in
theorem c_X9_weeks (l : Launch) (G : Gx) (M : Mem) (L : MemL) (fu : Nat) (k0 : Nat) (a1 : Int32) (hk0 : kd k0 = 20) {z : Int32 × Mem} (h : f_X9_weeks fu M k0 a1 = some z) : Met l yX9_weeks (.code yX9_weeks cX9_weeks 4 (Option.some Jvm.ClassFile.FieldType.int) :: UW) rm_X9_weeks (va_Pc [.ref (ad G k0), .int a1] (PreG G true M L)) (Qi G z.1 z.2 L) 0 0 (gA G) := by
  refine r_in (by decide) (fun p e s m args below meth c S hr d ha ls hl => ?_) (Nat.le_of_ble_eq_true rfl)
  have S : Sx G true p s m args meth c cX9_weeks 4 RX9 := S
  have hl : lv_has ls 4 [(0, .ref (ad G k0)), (1, .int a1)] := hl
  unfold f_X9_weeks at h
  refine lv_iload_n S.1 S.2.1 dX9_weeks_0 rfl (lv_at hl 1 rfl) ?_
  refine lv_i2l S.1 S.2.1 dX9_weeks_1 rfl ?_
  refine lv_lconst (v := 1) S.1 S.2.1 dX9_weeks_2 (by decide) ?_
  refine lv_ldc2 (v := 30) S.1 S.2.1 S.2.2.2.1 (S.uw cn_RX9_128) dX9_weeks_3 ?_
  obtain ⟨u1, hu1, h⟩ := bd_e h
  refine r_ri d (r_cS (As := [.long ((a1).toInt64), .long (1 : Int64), .long (30 : Int64)]) (rest := []) S d (c_X9_in l G M L ((a1).toInt64) (1 : Int64) (30 : Int64) hu1) ml_RX9_75 sm_yX9_in in_RX9 co_yX9_in hyS_X9_in ⟨rfl, rfl⟩ ⟨by decide, by decide⟩ rfl hl rfl (Nat.le_of_ble_eq_true rfl) dX9_weeks_6 ⟨Nat.zero_le _, Nat.zero_le _⟩) (fun H locs d => ?_)
  refine lv_if_ne (tgt := 14) S.1 S.2.1 dX9_weeks_9 (by decide) (fun cc => ?_) (fun cc => ?_)
  · replace h := it_n cc h
    refine lv_iconst (v := 0) S.1 S.2.1 dX9_weeks_14 (by decide) ?_
    refine lv_istore_n (lv' := [(2, .int (0 : Int32)), (0, .ref (ad G k0)), (1, .int a1)]) S.1 S.2.1 dX9_weeks_15 rfl hl (by decide) rfl (fun ls hl => ?_)
    refine lc_X9_weeks_16 S hr hk0 _ (fun M4 H locs d ls hl h => ?_) _ _ _  h _ _ d _ (lv_sub hl [1, 2, 0] rfl)
    refine lv_iconst (v := 0) S.1 S.2.1 dX9_weeks_31 (by decide) ?_
    refine lv_istore_n (lv' := [(2, .int (0 : Int32)), (0, .ref (ad G k0))]) S.1 S.2.1 dX9_weeks_32 rfl hl (by decide) rfl (fun ls hl => ?_)
    refine lv_iconst (v := 0) S.1 S.2.1 dX9_weeks_33 (by decide) ?_
    refine lv_istore_n (lv' := [(3, .int (0 : Int32)), (2, .int (0 : Int32)), (0, .ref (ad G k0))]) S.1 S.2.1 dX9_weeks_34 rfl hl (by decide) rfl (fun ls hl => ?_)
    refine lc_X9_weeks_35 S hr hk0 _ (fun v10 H locs d ls hl h => ?_) _ _ _  h _ _ d _ (lv_sub hl [2, 1, 0] rfl)
    refine lv_iload_n S.1 S.2.1 dX9_weeks_71 rfl (lv_at hl 0 rfl) ?_
    obtain rfl := Option.some.inj h
    exact r_iret S d hr rfl rfl dX9_weeks_72
  · replace h := it_p cc h
    refine lv_iconst (v := (-1)) S.1 S.2.1 dX9_weeks_12 (by decide) ?_
    obtain rfl := Option.some.inj h
    exact r_iret S d hr rfl rfl dX9_weeks_13
theorem hyV_X9_hay : yX9_hay.cls = RX9 ∧ yX9_hay.cls ≠ "java/lang/invoke/MethodHandle" ∧ yX9_hay.cls ≠ "java/lang/invoke/VarHandle" ∧ (parseMethodDescriptor yX9_hay.desc).map (fun d => d.parameters.length) = some 1 := by decide +kernel
abbrev rm_X9_hay : Room := { frames := 1, cells := 0, slots := 0, locals := 25 }
def f_X9_hay (M : Mem) (k0 : Nat) (a1 : Int32) : Option (Int32) :=
  (f_X9_in ((a1).toInt64) (0 : Int64) (5 : Int64)).bind (fun u1 =>
  (if u1 = 0 then some ((-1 : Int32))
  else gd (inb a1 6) (
    some ((M (k0 + 4) a1.toNatClampNeg)))))
set_option maxHeartbeats 4000000 in
set_option maxRecDepth 100000 in
theorem c_X9_hay (l : Launch) (G : Gx) (M : Mem) (L : MemL) (k0 : Nat) (a1 : Int32) (hk0 : kd k0 = 20) {z : Int32} (h : f_X9_hay M k0 a1 = some z) : Met l yX9_hay (.code yX9_hay cX9_hay 2 (Option.some Jvm.ClassFile.FieldType.int) :: UW) rm_X9_hay (va_Pc [.ref (ad G k0), .int a1] (PreG G true M L)) (Qi G z M L) 0 0 (gA G) := by
  refine r_in (by decide) (fun p e s m args below meth c S hr d ha ls hl => ?_) (Nat.le_of_ble_eq_true rfl)
  have S : Sx G true p s m args meth c cX9_hay 2 RX9 := S
  have hl : lv_has ls 2 [(0, .ref (ad G k0)), (1, .int a1)] := hl
  unfold f_X9_hay at h
  refine lv_iload_n S.1 S.2.1 dX9_hay_0 rfl (lv_at hl 1 rfl) ?_
  refine lv_i2l S.1 S.2.1 dX9_hay_1 rfl ?_
  refine lv_lconst (v := 0) S.1 S.2.1 dX9_hay_2 (by decide) ?_
  refine lv_ldc2 (v := 5) S.1 S.2.1 S.2.2.2.1 (S.uw cn_RX9_86) dX9_hay_3 ?_
  obtain ⟨u1, hu1, h⟩ := bd_e h
  refine r_ri d (r_cS (As := [.long ((a1).toInt64), .long (0 : Int64), .long (5 : Int64)]) (rest := []) S d (c_X9_in l G M L ((a1).toInt64) (0 : Int64) (5 : Int64) hu1) ml_RX9_75 sm_yX9_in in_RX9 co_yX9_in hyS_X9_in ⟨rfl, rfl⟩ ⟨by decide, by decide⟩ rfl hl rfl (Nat.le_of_ble_eq_true rfl) dX9_hay_6 ⟨Nat.zero_le _, Nat.zero_le _⟩) (fun H locs d => ?_)
  refine lv_if_eq (tgt := 21) S.1 S.2.1 dX9_hay_9 (by decide) (fun cc => ?_) (fun cc => ?_)
  · replace h := it_p cc h
    refine lv_iconst (v := (-1)) S.1 S.2.1 dX9_hay_21 (by decide) ?_
    obtain rfl := Option.some.inj h
    exact r_iret S d hr rfl rfl dX9_hay_22
  · replace h := it_n cc h
    refine lv_aload_n S.1 S.2.1 dX9_hay_12 rfl (lv_at hl 0 rfl) ?_
    refine gf_20_3 S d hk0 fl_RX9_19 dX9_hay_13 ?_
    refine lv_iload_n S.1 S.2.1 dX9_hay_16 rfl (lv_at hl 1 rfl) ?_
    obtain ⟨g2, h⟩ := gd_e h
    refine r_iald S d (ksdM S (ch_20_3 hk0).1) (wc_21 (ch_20_3 hk0).1) (ch_20_3 hk0).2 g2 dX9_hay_17 ?_
    refine lv_goto (tgt := 22) S.1 S.2.1 dX9_hay_18 (by decide) ?_
    obtain rfl := Option.some.inj h
    exact r_iret S d hr rfl rfl dX9_hay_22
theorem hyV_X9_type : yX9_type.cls = RX9 ∧ yX9_type.cls ≠ "java/lang/invoke/MethodHandle" ∧ yX9_type.cls ≠ "java/lang/invoke/VarHandle" ∧ (parseMethodDescriptor yX9_type.desc).map (fun d => d.parameters.length) = some 2 := by decide +kernel
abbrev rm_X9_type : Room := { frames := 1, cells := 0, slots := 0, locals := 25 }
def lp_X9_type_19 (fu : Nat) (M : Mem) (b0 : Nat) (b1 : Int64) (b3 : Int32) (K : Unit → Option (Int32 × Mem)) : Nat → Int32 → Option (Int32 × Mem)
  | 0, _ => none
  | n + 1, x4 =>
    (if x4 < 0 then (K ())
    else (f_X9_in ((b1 >>> ((((8 : Int32) * x4)).toInt64 &&& 63)) &&& (255 : Int64)) (32 : Int64) (126 : Int64)).bind (fun u3 =>
      (if u3 = 0 then some ((-1 : Int32), M)
      else lt (x4 + (-1)) (fun v4 : Int32 =>
        (lp_X9_type_19 fu M b0 b1 b3 K n v4)))))
def lp_X9_type_74 (fu : Nat) (b0 : Nat) (b1 : Int64) (K : Mem → Option (Int32 × Mem)) : Nat → Int32 → Mem → Option (Int32 × Mem)
  | 0, _, _ => none
  | n + 1, x4, Mx =>
    (if x4 < 0 then (K Mx)
    else gd (inb (Mx b0 10) 80) (
      lt (up Mx (b0 + 8) (Mx b0 10).toNatClampNeg ((((b1 >>> ((((8 : Int32) * x4)).toInt64 &&& 63)) &&& (255 : Int64))).toInt32)) (fun M7 : Mem =>
      lt (up M7 b0 10 ((M7 b0 10) + (1 : Int32))) (fun M8 : Mem =>
      lt (x4 + (-1)) (fun v9 : Int32 =>
      (lp_X9_type_74 fu b0 b1 K n v9 M8))))))
def f_X9_type (fu : Nat) (M : Mem) (k0 : Nat) (a1 : Int64) (a3 : Int32) : Option (Int32 × Mem) :=
  (f_X9_in ((a3).toInt64) (1 : Int64) (8 : Int64)).bind (fun u1 =>
  (if u1 = 0 then some ((-1 : Int32), M)
  else lt ((a3 - (1 : Int32))) (fun v2 : Int32 =>
    (lp_X9_type_19 fu M k0 a1 a3 (fun (_ : Unit) =>
      (if ((M k0 10) + a3) ≤ (80 : Int32) then lt ((a3 - (1 : Int32))) (fun v5 : Int32 =>
        (lp_X9_type_74 fu k0 a1 (fun (M10 : Mem) =>
          some ((M10 k0 10), M10)) fu v5 M))
      else some ((-3 : Int32), M))) fu v2))))
set_option maxHeartbeats 4000000 in
set_option maxRecDepth 100000 in
theorem lc_X9_type_19 {p : Program} {l : Launch} {e : Env} {s : State} {m : MethodId} {args : Array Value} {below : List Frame} {meth : Method} {c : Code} {G : Gx} {M : Mem} {L : MemL} {fu : Nat} {b0 : Nat} {b1 : Int64} {b3 : Int32} {z : Int32 × Mem} (S : Sx G true p s m args meth c cX9_type 5 RX9) (hr : meth.sig.returnType = (Option.some Jvm.ClassFile.FieldType.int)) (hb0 : kd b0 = 20) (K : Unit → Option (Int32 × Mem)) (hK : ∀ (_ : Unit) (H : Heap) (locs : List Loc), Dy G s M L H locs → ∀ ls : Array Slot, lv_has ls 5 [(0, .ref (ad G b0)), (1, .long b1), (3, .int b3)] → K () = some z → W p l e rm_X9_type s m args below meth c H locs 0 0 (MQ below (Qi G z.1 z.2 L) args s 0 0 (gA G)) (F0 m 55 ls [])) :
    ∀ (n : Nat) (x4 : Int32), lp_X9_type_19 fu M b0 b1 b3 K n x4 = some z → ∀ (H : Heap) (locs : List Loc), Dy G s M L H locs → ∀ ls : Array Slot, lv_has ls 5 [(0, .ref (ad G b0)), (1, .long b1), (3, .int b3), (4, .int x4)] → W p l e rm_X9_type s m args below meth c H locs 0 0 (MQ below (Qi G z.1 z.2 L) args s 0 0 (gA G)) (F0 m 19 ls []) := by
  intro n
  induction n with
  | zero =>
    intro x4 h
    have h : (none : Option (Int32 × Mem)) = some z := h
    cases h
  | succ n ih =>
    intro x4 h H locs d ls hl
    rw [lp_X9_type_19] at h
    refine lv_iload S.1 S.2.1 dX9_type_19 (lv_at hl 3 rfl) ?_
    refine lv_if_lt (tgt := 55) S.1 S.2.1 dX9_type_21 (by decide) (fun cc => ?_) (fun cc => ?_)
    · replace h := it_p cc h
      exact hK () _ _ d _ (lv_sub hl [0, 1, 2] rfl) h
    · replace h := it_n cc h
      refine lv_lload_n S.1 S.2.1 dX9_type_24 rfl (lv_at hl 1 rfl) ?_
      refine lv_bipush (v := 8) S.1 S.2.1 dX9_type_25 (by decide) ?_
      refine lv_iload S.1 S.2.1 dX9_type_27 (lv_at hl 3 rfl) ?_
      refine lv_imul S.1 S.2.1 dX9_type_29 ?_
      refine lv_lshr S.1 S.2.1 dX9_type_30 rfl ?_
      refine lv_ldc2 (v := 255) S.1 S.2.1 S.2.2.2.1 (S.uw cn_RX9_135) dX9_type_31 ?_
      refine lv_land S.1 S.2.1 dX9_type_34 ?_
      refine lv_ldc2 (v := 32) S.1 S.2.1 S.2.2.2.1 (S.uw cn_RX9_137) dX9_type_35 ?_
      refine lv_ldc2 (v := 126) S.1 S.2.1 S.2.2.2.1 (S.uw cn_RX9_139) dX9_type_38 ?_
      obtain ⟨u3, hu3, h⟩ := bd_e h
      refine r_ri d (r_cS (As := [.long ((b1 >>> ((((8 : Int32) * x4)).toInt64 &&& 63)) &&& (255 : Int64)), .long (32 : Int64), .long (126 : Int64)]) (rest := []) S d (c_X9_in l G M L ((b1 >>> ((((8 : Int32) * x4)).toInt64 &&& 63)) &&& (255 : Int64)) (32 : Int64) (126 : Int64) hu3) ml_RX9_75 sm_yX9_in in_RX9 co_yX9_in hyS_X9_in ⟨rfl, rfl⟩ ⟨by decide, by decide⟩ rfl hl rfl (Nat.le_of_ble_eq_true rfl) dX9_type_41 ⟨Nat.zero_le _, Nat.zero_le _⟩) (fun H locs d => ?_)
      refine lv_if_ne (tgt := 49) S.1 S.2.1 dX9_type_44 (by decide) (fun cc => ?_) (fun cc => ?_)
      · replace h := it_n cc h
        obtain ⟨v4, ev4, h⟩ := lt_e h
        refine lv_iinc (v := v4) (lv' := [(4, .int v4), (0, .ref (ad G b0)), (1, .long b1), (3, .int b3)]) S.1 S.2.1 dX9_type_49 hl (k := 3) rfl (by rw [ev4]; rfl) (by decide) rfl (fun ls hl => ?_)
        refine lv_goto (tgt := 19) S.1 S.2.1 dX9_type_52 (by decide) ?_
        exact ih _ h _ _ d _ (lv_sub hl [1, 2, 3, 0] rfl)
      · replace h := it_p cc h
        refine lv_iconst (v := (-1)) S.1 S.2.1 dX9_type_47 (by decide) ?_
        obtain rfl := Option.some.inj h
        exact r_iret S d hr rfl rfl dX9_type_48
set_option maxHeartbeats 4000000 in
set_option maxRecDepth 100000 in
theorem lc_X9_type_74 {p : Program} {l : Launch} {e : Env} {s : State} {m : MethodId} {args : Array Value} {below : List Frame} {meth : Method} {c : Code} {G : Gx} {L : MemL} {fu : Nat} {b0 : Nat} {b1 : Int64} {z : Int32 × Mem} (S : Sx G true p s m args meth c cX9_type 5 RX9) (hr : meth.sig.returnType = (Option.some Jvm.ClassFile.FieldType.int)) (hb0 : kd b0 = 20) (K : Mem → Option (Int32 × Mem)) (hK : ∀ (My : Mem) (H : Heap) (locs : List Loc), Dy G s My L H locs → ∀ ls : Array Slot, lv_has ls 5 [(0, .ref (ad G b0))] → K My = some z → W p l e rm_X9_type s m args below meth c H locs 0 0 (MQ below (Qi G z.1 z.2 L) args s 0 0 (gA G)) (F0 m 116 ls [])) :
    ∀ (n : Nat) (x4 : Int32) (Mx : Mem), lp_X9_type_74 fu b0 b1 K n x4 Mx = some z → ∀ (H : Heap) (locs : List Loc), Dy G s Mx L H locs → ∀ ls : Array Slot, lv_has ls 5 [(0, .ref (ad G b0)), (1, .long b1), (4, .int x4)] → W p l e rm_X9_type s m args below meth c H locs 0 0 (MQ below (Qi G z.1 z.2 L) args s 0 0 (gA G)) (F0 m 74 ls []) := by
  intro n
  induction n with
  | zero =>
    intro x4 Mx h
    have h : (none : Option (Int32 × Mem)) = some z := h
    cases h
  | succ n ih =>
    intro x4 Mx h H locs d ls hl
    rw [lp_X9_type_74] at h
    refine lv_iload S.1 S.2.1 dX9_type_74 (lv_at hl 2 rfl) ?_
    refine lv_if_lt (tgt := 116) S.1 S.2.1 dX9_type_76 (by decide) (fun cc => ?_) (fun cc => ?_)
    · replace h := it_p cc h
      exact hK _ _ _ d _ (lv_sub hl [0] rfl) h
    · replace h := it_n cc h
      refine lv_aload_n S.1 S.2.1 dX9_type_79 rfl (lv_at hl 0 rfl) ?_
      refine gf_20_9 S d hb0 fl_RX9_31 dX9_type_80 ?_
      refine lv_aload_n S.1 S.2.1 dX9_type_83 rfl (lv_at hl 0 rfl) ?_
      refine gf_20_10 S d hb0 fl_RX9_141 dX9_type_84 ?_
      refine lv_lload_n S.1 S.2.1 dX9_type_87 rfl (lv_at hl 1 rfl) ?_
      refine lv_bipush (v := 8) S.1 S.2.1 dX9_type_88 (by decide) ?_
      refine lv_iload S.1 S.2.1 dX9_type_90 (lv_at hl 2 rfl) ?_
      refine lv_imul S.1 S.2.1 dX9_type_92 ?_
      refine lv_lshr S.1 S.2.1 dX9_type_93 rfl ?_
      refine lv_ldc2 (v := 255) S.1 S.2.1 S.2.2.2.1 (S.uw cn_RX9_135) dX9_type_94 ?_
      refine lv_land S.1 S.2.1 dX9_type_97 ?_
      refine lv_l2i S.1 S.2.1 dX9_type_98 rfl ?_
      obtain ⟨g6, h⟩ := gd_e h
      obtain ⟨M7, eM7, h⟩ := lt_e h
      refine r_iast S d eM7 (ksdM S (ch_20_9 hb0).1) (fun _ => wc_21 (ch_20_9 hb0).1) (ch_20_9 hb0).2 g6 dX9_type_99 (fun H locs d => ?_)
      refine lv_aload_n S.1 S.2.1 dX9_type_100 rfl (lv_at hl 0 rfl) ?_
      refine lv_dup S.1 S.2.1 dX9_type_101 rfl ?_
      refine gf_20_10 S d hb0 fl_RX9_141 dX9_type_102 ?_
      refine lv_iconst (v := 1) S.1 S.2.1 dX9_type_105 (by decide) ?_
      refine lv_iadd S.1 S.2.1 dX9_type_106 ?_
      obtain ⟨M8, eM8, h⟩ := lt_e h
      refine pf_20_10 S d eM8 hb0 fl_RX9_141 dX9_type_107 (fun H locs d => ?_)
      obtain ⟨v9, ev9, h⟩ := lt_e h
      refine lv_iinc (v := v9) (lv' := [(4, .int v9), (0, .ref (ad G b0)), (1, .long b1)]) S.1 S.2.1 dX9_type_110 hl (k := 2) rfl (by rw [ev9]; rfl) (by decide) rfl (fun ls hl => ?_)
      refine lv_goto (tgt := 74) S.1 S.2.1 dX9_type_113 (by decide) ?_
      exact ih _ _ h _ _ d _ (lv_sub hl [1, 2, 0] rfl)
set_option maxHeartbeats 4000000 in
set_option maxRecDepth 100000 in
theorem c_X9_type (l : Launch) (G : Gx) (M : Mem) (L : MemL) (fu : Nat) (k0 : Nat) (a1 : Int64) (a3 : Int32) (hk0 : kd k0 = 20) {z : Int32 × Mem} (h : f_X9_type fu M k0 a1 a3 = some z) : Met l yX9_type (.code yX9_type cX9_type 5 (Option.some Jvm.ClassFile.FieldType.int) :: UW) rm_X9_type (va_Pc [.ref (ad G k0), .long a1, .int a3] (PreG G true M L)) (Qi G z.1 z.2 L) 0 0 (gA G) := by
  refine r_in (by decide) (fun p e s m args below meth c S hr d ha ls hl => ?_) (Nat.le_of_ble_eq_true rfl)
  have S : Sx G true p s m args meth c cX9_type 5 RX9 := S
  have hl : lv_has ls 5 [(0, .ref (ad G k0)), (1, .long a1), (3, .int a3)] := hl
  unfold f_X9_type at h
  refine lv_iload_n S.1 S.2.1 dX9_type_0 rfl (lv_at hl 2 rfl) ?_
  refine lv_i2l S.1 S.2.1 dX9_type_1 rfl ?_
  refine lv_lconst (v := 1) S.1 S.2.1 dX9_type_2 (by decide) ?_
  refine lv_ldc2 (v := 8) S.1 S.2.1 S.2.2.2.1 (S.uw cn_RX9_133) dX9_type_3 ?_
  obtain ⟨u1, hu1, h⟩ := bd_e h
  refine r_ri d (r_cS (As := [.long ((a3).toInt64), .long (1 : Int64), .long (8 : Int64)]) (rest := []) S d (c_X9_in l G M L ((a3).toInt64) (1 : Int64) (8 : Int64) hu1) ml_RX9_75 sm_yX9_in in_RX9 co_yX9_in hyS_X9_in ⟨rfl, rfl⟩ ⟨by decide, by decide⟩ rfl hl rfl (Nat.le_of_ble_eq_true rfl) dX9_type_6 ⟨Nat.zero_le _, Nat.zero_le _⟩) (fun H locs d => ?_)
  refine lv_if_ne (tgt := 14) S.1 S.2.1 dX9_type_9 (by decide) (fun cc => ?_) (fun cc => ?_)
  · replace h := it_n cc h
    refine lv_iload_n S.1 S.2.1 dX9_type_14 rfl (lv_at hl 2 rfl) ?_
    refine lv_iconst (v := 1) S.1 S.2.1 dX9_type_15 (by decide) ?_
    refine lv_isub S.1 S.2.1 dX9_type_16 ?_
    obtain ⟨v2, ev2, h⟩ := lt_e h
    refine r_top ev2 ?_
    refine lv_istore (lv' := [(4, .int v2), (0, .ref (ad G k0)), (1, .long a1), (3, .int a3)]) S.1 S.2.1 dX9_type_17 hl (by decide) rfl (fun ls hl => ?_)
    refine lc_X9_type_19 S hr hk0 _ (fun _ H locs d ls hl h => ?_) _ _  h _ _ d _ (lv_sub hl [1, 2, 3, 0] rfl)
    refine lv_aload_n S.1 S.2.1 dX9_type_55 rfl (lv_at hl 0 rfl) ?_
    refine gf_20_10 S d hk0 fl_RX9_141 dX9_type_56 ?_
    refine lv_iload_n S.1 S.2.1 dX9_type_59 rfl (lv_at hl 2 rfl) ?_
    refine lv_iadd S.1 S.2.1 dX9_type_60 ?_
    refine lv_bipush (v := 80) S.1 S.2.1 dX9_type_61 (by decide) ?_
    refine lv_icmp_le (tgt := 69) S.1 S.2.1 dX9_type_63 (by decide) (fun cc => ?_) (fun cc => ?_)
    · replace h := it_p cc h
      refine lv_iload_n S.1 S.2.1 dX9_type_69 rfl (lv_at hl 2 rfl) ?_
      refine lv_iconst (v := 1) S.1 S.2.1 dX9_type_70 (by decide) ?_
      refine lv_isub S.1 S.2.1 dX9_type_71 ?_
      obtain ⟨v5, ev5, h⟩ := lt_e h
      refine r_top ev5 ?_
      refine lv_istore (lv' := [(4, .int v5), (0, .ref (ad G k0)), (1, .long a1), (3, .int a3)]) S.1 S.2.1 dX9_type_72 hl (by decide) rfl (fun ls hl => ?_)
      refine lc_X9_type_74 S hr hk0 _ (fun M10 H locs d ls hl h => ?_) _ _ _  h _ _ d _ (lv_sub hl [1, 2, 0] rfl)
      refine lv_aload_n S.1 S.2.1 dX9_type_116 rfl (lv_at hl 0 rfl) ?_
      refine gf_20_10 S d hk0 fl_RX9_141 dX9_type_117 ?_
      obtain rfl := Option.some.inj h
      exact r_iret S d hr rfl rfl dX9_type_120
    · replace h := it_n cc h
      refine lv_bipush (v := (-3)) S.1 S.2.1 dX9_type_66 (by decide) ?_
      obtain rfl := Option.some.inj h
      exact r_iret S d hr rfl rfl dX9_type_68
  · replace h := it_p cc h
    refine lv_iconst (v := (-1)) S.1 S.2.1 dX9_type_12 (by decide) ?_
    obtain rfl := Option.some.inj h
    exact r_iret S d hr rfl rfl dX9_type_13
theorem hyV_X9_nextByte : yX9_nextByte.cls = RX9 ∧ yX9_nextByte.cls ≠ "java/lang/invoke/MethodHandle" ∧ yX9_nextByte.cls ≠ "java/lang/invoke/VarHandle" ∧ (parseMethodDescriptor yX9_nextByte.desc).map (fun d => d.parameters.length) = some 0 := by decide +kernel
abbrev rm_X9_nextByte : Room := { frames := 0, cells := 0, slots := 0, locals := 0 }
def lp_X9_nextByte_0 (fu : Nat) (b0 : Nat) (K : Mem → Option (Int32 × Mem)) : Nat → Mem → Option (Int32 × Mem)
  | 0, _ => none
  | n + 1, Mx =>
    (if (Mx b0 10) ≤ (Mx b0 11) then (K Mx)
    else gd (inb (Mx b0 11) 80) (
      (if (Mx (b0 + 8) (Mx b0 11).toNatClampNeg) = (32 : Int32) then lt (up Mx b0 11 ((Mx b0 11) + (1 : Int32))) (fun M2 : Mem =>
        (lp_X9_nextByte_0 fu b0 K n M2))
      else (K Mx))))
def f_X9_nextByte (fu : Nat) (M : Mem) (k0 : Nat) : Option (Int32 × Mem) :=
  (lp_X9_nextByte_0 fu k0 (fun (M3 : Mem) =>
    (if (M3 k0 10) ≤ (M3 k0 11) then some ((-1 : Int32), M3)
    else gd (inb (M3 k0 11) 80) (
      some ((M3 (k0 + 8) (M3 k0 11).toNatClampNeg), M3)))) fu M)
set_option maxHeartbeats 4000000 in
set_option maxRecDepth 100000 in
theorem lc_X9_nextByte_0 {p : Program} {l : Launch} {e : Env} {s : State} {m : MethodId} {args : Array Value} {below : List Frame} {meth : Method} {c : Code} {G : Gx} {L : MemL} {fu : Nat} {b0 : Nat} {z : Int32 × Mem} (S : Sx G true p s m args meth c cX9_nextByte 1 RX9) (hr : meth.sig.returnType = (Option.some Jvm.ClassFile.FieldType.int)) (hb0 : kd b0 = 20) (K : Mem → Option (Int32 × Mem)) (hK : ∀ (My : Mem) (H : Heap) (locs : List Loc), Dy G s My L H locs → ∀ ls : Array Slot, lv_has ls 1 [(0, .ref (ad G b0))] → K My = some z → W p l e rm_X9_nextByte s m args below meth c H locs 0 0 (MQ below (Qi G z.1 z.2 L) args s 0 0 (gA G)) (F0 m 38 ls [])) :
    ∀ (n : Nat) (Mx : Mem), lp_X9_nextByte_0 fu b0 K n Mx = some z → ∀ (H : Heap) (locs : List Loc), Dy G s Mx L H locs → ∀ ls : Array Slot, lv_has ls 1 [(0, .ref (ad G b0))] → W p l e rm_X9_nextByte s m args below meth c H locs 0 0 (MQ below (Qi G z.1 z.2 L) args s 0 0 (gA G)) (F0 m 0 ls []) := by
  intro n
  induction n with
  | zero =>
    intro Mx h
    have h : (none : Option (Int32 × Mem)) = some z := h
    cases h
  | succ n ih =>
    intro Mx h H locs d ls hl
    rw [lp_X9_nextByte_0] at h
    refine lv_aload_n S.1 S.2.1 dX9_nextByte_0 rfl (lv_at hl 0 rfl) ?_
    refine gf_20_11 S d hb0 fl_RX9_144 dX9_nextByte_1 ?_
    refine lv_aload_n S.1 S.2.1 dX9_nextByte_4 rfl (lv_at hl 0 rfl) ?_
    refine gf_20_10 S d hb0 fl_RX9_141 dX9_nextByte_5 ?_
    refine lv_icmp_ge (tgt := 38) S.1 S.2.1 dX9_nextByte_8 (by decide) (fun cc => ?_) (fun cc => ?_)
    · replace h := it_p cc h
      exact hK _ _ _ d _ (lv_sub hl [0] rfl) h
    · replace h := it_n cc h
      refine lv_aload_n S.1 S.2.1 dX9_nextByte_11 rfl (lv_at hl 0 rfl) ?_
      refine gf_20_9 S d hb0 fl_RX9_31 dX9_nextByte_12 ?_
      refine lv_aload_n S.1 S.2.1 dX9_nextByte_15 rfl (lv_at hl 0 rfl) ?_
      refine gf_20_11 S d hb0 fl_RX9_144 dX9_nextByte_16 ?_
      obtain ⟨g1, h⟩ := gd_e h
      refine r_iald S d (ksdM S (ch_20_9 hb0).1) (wc_21 (ch_20_9 hb0).1) (ch_20_9 hb0).2 g1 dX9_nextByte_19 ?_
      refine lv_bipush (v := 32) S.1 S.2.1 dX9_nextByte_20 (by decide) ?_
      refine lv_icmp_ne (tgt := 38) S.1 S.2.1 dX9_nextByte_22 (by decide) (fun cc => ?_) (fun cc => ?_)
      · replace h := it_n cc h
        exact hK _ _ _ d _ (lv_sub hl [0] rfl) h
      · replace h := it_p cc h
        refine lv_aload_n S.1 S.2.1 dX9_nextByte_25 rfl (lv_at hl 0 rfl) ?_
        refine lv_dup S.1 S.2.1 dX9_nextByte_26 rfl ?_
        refine gf_20_11 S d hb0 fl_RX9_144 dX9_nextByte_27 ?_
        refine lv_iconst (v := 1) S.1 S.2.1 dX9_nextByte_30 (by decide) ?_
        refine lv_iadd S.1 S.2.1 dX9_nextByte_31 ?_
        obtain ⟨M2, eM2, h⟩ := lt_e h
        refine pf_20_11 S d eM2 hb0 fl_RX9_144 dX9_nextByte_32 (fun H locs d => ?_)
        refine lv_goto (tgt := 0) S.1 S.2.1 dX9_nextByte_35 (by decide) ?_
        exact ih _ h _ _ d _ (lv_sub hl [0] rfl)
set_option maxHeartbeats 4000000 in
set_option maxRecDepth 100000 in
theorem c_X9_nextByte (l : Launch) (G : Gx) (M : Mem) (L : MemL) (fu : Nat) (k0 : Nat) (hk0 : kd k0 = 20) {z : Int32 × Mem} (h : f_X9_nextByte fu M k0 = some z) : Met l yX9_nextByte (.code yX9_nextByte cX9_nextByte 1 (Option.some Jvm.ClassFile.FieldType.int) :: UW) rm_X9_nextByte (va_Pc [.ref (ad G k0)] (PreG G true M L)) (Qi G z.1 z.2 L) 0 0 (gA G) := by
  refine r_in (by decide) (fun p e s m args below meth c S hr d ha ls hl => ?_) (Nat.le_of_ble_eq_true rfl)
  have S : Sx G true p s m args meth c cX9_nextByte 1 RX9 := S
  have hl : lv_has ls 1 [(0, .ref (ad G k0))] := hl
  unfold f_X9_nextByte at h
  refine lc_X9_nextByte_0 S hr hk0 _ (fun M3 H locs d ls hl h => ?_) _ _  h _ _ d _ (lv_sub hl [0] rfl)
  refine lv_aload_n S.1 S.2.1 dX9_nextByte_38 rfl (lv_at hl 0 rfl) ?_
  refine gf_20_11 S d hk0 fl_RX9_144 dX9_nextByte_39 ?_
  refine lv_aload_n S.1 S.2.1 dX9_nextByte_42 rfl (lv_at hl 0 rfl) ?_
  refine gf_20_10 S d hk0 fl_RX9_141 dX9_nextByte_43 ?_
  refine lv_icmp_ge (tgt := 61) S.1 S.2.1 dX9_nextByte_46 (by decide) (fun cc => ?_) (fun cc => ?_)
  · replace h := it_p cc h
    refine lv_iconst (v := (-1)) S.1 S.2.1 dX9_nextByte_61 (by decide) ?_
    obtain rfl := Option.some.inj h
    exact r_iret S d hr rfl rfl dX9_nextByte_62
  · replace h := it_n cc h
    refine lv_aload_n S.1 S.2.1 dX9_nextByte_49 rfl (lv_at hl 0 rfl) ?_
    refine gf_20_9 S d hk0 fl_RX9_31 dX9_nextByte_50 ?_
    refine lv_aload_n S.1 S.2.1 dX9_nextByte_53 rfl (lv_at hl 0 rfl) ?_
    refine gf_20_11 S d hk0 fl_RX9_144 dX9_nextByte_54 ?_
    obtain ⟨g4, h⟩ := gd_e h
    refine r_iald S d (ksdM S (ch_20_9 hk0).1) (wc_21 (ch_20_9 hk0).1) (ch_20_9 hk0).2 g4 dX9_nextByte_57 ?_
    refine lv_goto (tgt := 62) S.1 S.2.1 dX9_nextByte_58 (by decide) ?_
    obtain rfl := Option.some.inj h
    exact r_iret S d hr rfl rfl dX9_nextByte_62
theorem hyV_X9_readNumber : yX9_readNumber.cls = RX9 ∧ yX9_readNumber.cls ≠ "java/lang/invoke/MethodHandle" ∧ yX9_readNumber.cls ≠ "java/lang/invoke/VarHandle" ∧ (parseMethodDescriptor yX9_readNumber.desc).map (fun d => d.parameters.length) = some 2 := by decide +kernel
abbrev rm_X9_readNumber : Room := { frames := 1, cells := 0, slots := 0, locals := 25 }
def lp_X9_readNumber_13 (fu : Nat) (b0 : Nat) (b1 : Int32) (b2 : Int32) (b3 : Int32) (K : Int32 → Mem → Option (Int32 × Mem)) : Nat → Int32 → Mem → Option (Int32 × Mem)
  | 0, _, _ => none
  | n + 1, x4, Mx =>
    (if (Mx b0 10) ≤ (Mx b0 11) then (K x4 Mx)
    else gd (inb (Mx b0 11) 80) (
      (f_X9_in (((Mx (b0 + 8) (Mx b0 11).toNatClampNeg)).toInt64) (48 : Int64) (57 : Int64)).bind (fun u4 =>
      (if u4 = 0 then (K x4 Mx)
      else (if x4 ≤ (999 : Int32) then gd (inb (Mx b0 11) 80) (
          some ((((10 : Int32) * x4) + (Mx (b0 + 8) (Mx b0 11).toNatClampNeg)) - (48 : Int32)))
        else some x4).bind (fun t5 : Int32 =>
        lt (up Mx b0 11 ((Mx b0 11) + (1 : Int32))) (fun M8 : Mem =>
        (lp_X9_readNumber_13 fu b0 b1 b2 b3 K n t5 M8)))))))
def f_X9_readNumber (fu : Nat) (M : Mem) (k0 : Nat) (a1 : Int32) (a2 : Int32) : Option (Int32 × Mem) :=
  (f_X9_nextByte fu M k0).bind (fun u1 =>
  lt ((u1.2 k0 11)) (fun v2 : Int32 =>
  (lp_X9_readNumber_13 fu k0 a1 a2 v2 (fun (v9 : Int32) (M10 : Mem) =>
    (if (M10 k0 11) = v2 then some ((-1 : Int32), M10)
    else (f_X9_in ((v9).toInt64) ((a1).toInt64) ((a2).toInt64)).bind (fun u11 =>
      (if u11 = 0 then lt (up M10 k0 11 v2) (fun M12 : Mem =>
        some ((-1 : Int32), M12))
      else some (v9, M10))))) fu (0 : Int32) u1.2)))
set_option maxHeartbeats 4000000 in
set_option maxRecDepth 100000 in
theorem lc_X9_readNumber_13 {p : Program} {l : Launch} {e : Env} {s : State} {m : MethodId} {args : Array Value} {below : List Frame} {meth : Method} {c : Code} {G : Gx} {L : MemL} {fu : Nat} {b0 : Nat} {b1 : Int32} {b2 : Int32} {b3 : Int32} {z : Int32 × Mem} (S : Sx G true p s m args meth c cX9_readNumber 5 RX9) (hr : meth.sig.returnType = (Option.some Jvm.ClassFile.FieldType.int)) (hb0 : kd b0 = 20) (K : Int32 → Mem → Option (Int32 × Mem)) (hK : ∀ (y4 : Int32) (My : Mem) (H : Heap) (locs : List Loc), Dy G s My L H locs → ∀ ls : Array Slot, lv_has ls 5 [(0, .ref (ad G b0)), (1, .int b1), (2, .int b2), (3, .int b3), (4, .int y4)] → K y4 My = some z → W p l e rm_X9_readNumber s m args below meth c H locs 0 0 (MQ below (Qi G z.1 z.2 L) args s 0 0 (gA G)) (F0 m 92 ls [])) :
    ∀ (n : Nat) (x4 : Int32) (Mx : Mem), lp_X9_readNumber_13 fu b0 b1 b2 b3 K n x4 Mx = some z → ∀ (H : Heap) (locs : List Loc), Dy G s Mx L H locs → ∀ ls : Array Slot, lv_has ls 5 [(0, .ref (ad G b0)), (1, .int b1), (2, .int b2), (3, .int b3), (4, .int x4)] → W p l e rm_X9_readNumber s m args below meth c H locs 0 0 (MQ below (Qi G z.1 z.2 L) args s 0 0 (gA G)) (F0 m 13 ls []) := by
  intro n
  induction n with
  | zero =>
    intro x4 Mx h
    have h : (none : Option (Int32 × Mem)) = some z := h
    cases h
  | succ n ih =>
    intro x4 Mx h H locs d ls hl
    rw [lp_X9_readNumber_13] at h
    refine lv_aload_n S.1 S.2.1 dX9_readNumber_13 rfl (lv_at hl 0 rfl) ?_
    refine gf_20_11 S d hb0 fl_RX9_144 dX9_readNumber_14 ?_
    refine lv_aload_n S.1 S.2.1 dX9_readNumber_17 rfl (lv_at hl 0 rfl) ?_
    refine gf_20_10 S d hb0 fl_RX9_141 dX9_readNumber_18 ?_
    refine lv_icmp_ge (tgt := 92) S.1 S.2.1 dX9_readNumber_21 (by decide) (fun cc => ?_) (fun cc => ?_)
    · replace h := it_p cc h
      exact hK _ _ _ _ d _ (lv_sub hl [0, 1, 2, 3, 4] rfl) h
    · replace h := it_n cc h
      refine lv_aload_n S.1 S.2.1 dX9_readNumber_24 rfl (lv_at hl 0 rfl) ?_
      refine gf_20_9 S d hb0 fl_RX9_31 dX9_readNumber_25 ?_
      refine lv_aload_n S.1 S.2.1 dX9_readNumber_28 rfl (lv_at hl 0 rfl) ?_
      refine gf_20_11 S d hb0 fl_RX9_144 dX9_readNumber_29 ?_
      obtain ⟨g3, h⟩ := gd_e h
      refine r_iald S d (ksdM S (ch_20_9 hb0).1) (wc_21 (ch_20_9 hb0).1) (ch_20_9 hb0).2 g3 dX9_readNumber_32 ?_
      refine lv_i2l S.1 S.2.1 dX9_readNumber_33 rfl ?_
      refine lv_ldc2 (v := 48) S.1 S.2.1 S.2.2.2.1 (S.uw cn_RX9_151) dX9_readNumber_34 ?_
      refine lv_ldc2 (v := 57) S.1 S.2.1 S.2.2.2.1 (S.uw cn_RX9_153) dX9_readNumber_37 ?_
      obtain ⟨u4, hu4, h⟩ := bd_e h
      refine r_ri d (r_cS (As := [.long (((Mx (b0 + 8) (Mx b0 11).toNatClampNeg)).toInt64), .long (48 : Int64), .long (57 : Int64)]) (rest := []) S d (c_X9_in l G Mx L (((Mx (b0 + 8) (Mx b0 11).toNatClampNeg)).toInt64) (48 : Int64) (57 : Int64) hu4) ml_RX9_75 sm_yX9_in in_RX9 co_yX9_in hyS_X9_in ⟨rfl, rfl⟩ ⟨by decide, by decide⟩ rfl hl rfl (Nat.le_of_ble_eq_true rfl) dX9_readNumber_40 ⟨Nat.zero_le _, Nat.zero_le _⟩) (fun H locs d => ?_)
      refine lv_if_eq (tgt := 92) S.1 S.2.1 dX9_readNumber_43 (by decide) (fun cc => ?_) (fun cc => ?_)
      · replace h := it_p cc h
        exact hK _ _ _ _ d _ (lv_sub hl [0, 1, 2, 3, 4] rfl) h
      · replace h := it_n cc h
        refine lv_iload S.1 S.2.1 dX9_readNumber_46 (lv_at hl 4 rfl) ?_
        refine lv_sipush (v := 999) S.1 S.2.1 dX9_readNumber_48 (by decide) ?_
        obtain ⟨t5, g6, h⟩ := bd_e h
        have Jt5 : ∀ (H : Heap) (locs : List Loc), Dy G s Mx L H locs → W p l e rm_X9_readNumber s m args below meth c H locs 0 0 (MQ below (Qi G z.1 z.2 L) args s 0 0 (gA G)) (F0 m 77 ls [.int t5]) := by
          intro H locs d
          refine lv_istore (lv' := [(4, .int t5), (0, .ref (ad G b0)), (1, .int b1), (2, .int b2), (3, .int b3)]) S.1 S.2.1 dX9_readNumber_77 hl (by decide) rfl (fun ls hl => ?_)
          refine lv_aload_n S.1 S.2.1 dX9_readNumber_79 rfl (lv_at hl 1 rfl) ?_
          refine lv_dup S.1 S.2.1 dX9_readNumber_80 rfl ?_
          refine gf_20_11 S d hb0 fl_RX9_144 dX9_readNumber_81 ?_
          refine lv_iconst (v := 1) S.1 S.2.1 dX9_readNumber_84 (by decide) ?_
          refine lv_iadd S.1 S.2.1 dX9_readNumber_85 ?_
          obtain ⟨M8, eM8, h⟩ := lt_e h
          refine pf_20_11 S d eM8 hb0 fl_RX9_144 dX9_readNumber_86 (fun H locs d => ?_)
          refine lv_goto (tgt := 13) S.1 S.2.1 dX9_readNumber_89 (by decide) ?_
          exact ih _ _ h _ _ d _ (lv_sub hl [1, 2, 3, 4, 0] rfl)
        have h := g6
        refine lv_icmp_le (tgt := 59) S.1 S.2.1 dX9_readNumber_51 (by decide) (fun cc => ?_) (fun cc => ?_)
        · replace h := it_p cc h
          refine lv_bipush (v := 10) S.1 S.2.1 dX9_readNumber_59 (by decide) ?_
          refine lv_iload S.1 S.2.1 dX9_readNumber_61 (lv_at hl 4 rfl) ?_
          refine lv_imul S.1 S.2.1 dX9_readNumber_63 ?_
          refine lv_aload_n S.1 S.2.1 dX9_readNumber_64 rfl (lv_at hl 0 rfl) ?_
          refine gf_20_9 S d hb0 fl_RX9_31 dX9_readNumber_65 ?_
          refine lv_aload_n S.1 S.2.1 dX9_readNumber_68 rfl (lv_at hl 0 rfl) ?_
          refine gf_20_11 S d hb0 fl_RX9_144 dX9_readNumber_69 ?_
          obtain ⟨g7, h⟩ := gd_e h
          refine r_iald S d (ksdM S (ch_20_9 hb0).1) (wc_21 (ch_20_9 hb0).1) (ch_20_9 hb0).2 g7 dX9_readNumber_72 ?_
          refine lv_iadd S.1 S.2.1 dX9_readNumber_73 ?_
          refine lv_bipush (v := 48) S.1 S.2.1 dX9_readNumber_74 (by decide) ?_
          refine lv_isub S.1 S.2.1 dX9_readNumber_76 ?_
          obtain ej := Option.some.inj h
          refine r_top ej.symm ?_
          exact Jt5 _ _ d
        · replace h := it_n cc h
          refine lv_iload S.1 S.2.1 dX9_readNumber_54 (lv_at hl 4 rfl) ?_
          refine lv_goto (tgt := 77) S.1 S.2.1 dX9_readNumber_56 (by decide) ?_
          obtain ej := Option.some.inj h
          refine r_top ej.symm ?_
          exact Jt5 _ _ d
set_option maxHeartbeats 4000000 in
set_option maxRecDepth 100000 in
theorem c_X9_readNumber (l : Launch) (G : Gx) (M : Mem) (L : MemL) (fu : Nat) (k0 : Nat) (a1 : Int32) (a2 : Int32) (hk0 : kd k0 = 20) {z : Int32 × Mem} (h : f_X9_readNumber fu M k0 a1 a2 = some z) : Met l yX9_readNumber (.code yX9_readNumber cX9_readNumber 5 (Option.some Jvm.ClassFile.FieldType.int) :: UW) rm_X9_readNumber (va_Pc [.ref (ad G k0), .int a1, .int a2] (PreG G true M L)) (Qi G z.1 z.2 L) 0 0 (gA G) := by
  refine r_in (by decide) (fun p e s m args below meth c S hr d ha ls hl => ?_) (Nat.le_of_ble_eq_true rfl)
  have S : Sx G true p s m args meth c cX9_readNumber 5 RX9 := S
  have hl : lv_has ls 5 [(0, .ref (ad G k0)), (1, .int a1), (2, .int a2)] := hl
  unfold f_X9_readNumber at h
  refine lv_aload_n S.1 S.2.1 dX9_readNumber_0 rfl (lv_at hl 0 rfl) ?_
  obtain ⟨u1, hu1, h⟩ := bd_e h
  refine r_ri d (r_cV (As := []) (rest := []) S d (c_X9_nextByte l G M L fu k0 hk0 hu1) (ksdM S hk0) (wc_20 hk0) rfl ml_RX9_147 im_yX9_nextByte se_yX9_nextByte in_RX9 co_yX9_nextByte hyV_X9_nextByte ⟨rfl, rfl⟩ ⟨by decide, by decide⟩ rfl hl rfl (Nat.le_of_ble_eq_true rfl) dX9_readNumber_1 ⟨Nat.zero_le _, Nat.zero_le _⟩) (fun H locs d => ?_)
  refine lv_pop S.1 S.2.1 dX9_readNumber_4 rfl ?_
  refine lv_aload_n S.1 S.2.1 dX9_readNumber_5 rfl (lv_at hl 0 rfl) ?_
  refine gf_20_11 S d hk0 fl_RX9_144 dX9_readNumber_6 ?_
  obtain ⟨v2, ev2, h⟩ := lt_e h
  refine r_top ev2 ?_
  refine lv_istore_n (lv' := [(3, .int v2), (0, .ref (ad G k0)), (1, .int a1), (2, .int a2)]) S.1 S.2.1 dX9_readNumber_9 rfl hl (by decide) rfl (fun ls hl => ?_)
  refine lv_iconst (v := 0) S.1 S.2.1 dX9_readNumber_10 (by decide) ?_
  refine lv_istore (lv' := [(4, .int (0 : Int32)), (3, .int v2), (0, .ref (ad G k0)), (1, .int a1), (2, .int a2)]) S.1 S.2.1 dX9_readNumber_11 hl (by decide) rfl (fun ls hl => ?_)
  refine lc_X9_readNumber_13 S hr hk0 _ (fun v9 M10 H locs d ls hl h => ?_) _ _ _  h _ _ d _ (lv_sub hl [2, 3, 4, 1, 0] rfl)
  refine lv_aload_n S.1 S.2.1 dX9_readNumber_92 rfl (lv_at hl 0 rfl) ?_
  refine gf_20_11 S d hk0 fl_RX9_144 dX9_readNumber_93 ?_
  refine lv_iload_n S.1 S.2.1 dX9_readNumber_96 rfl (lv_at hl 3 rfl) ?_
  refine lv_icmp_ne (tgt := 102) S.1 S.2.1 dX9_readNumber_97 (by decide) (fun cc => ?_) (fun cc => ?_)
  · replace h := it_n cc h
    refine lv_iload S.1 S.2.1 dX9_readNumber_102 (lv_at hl 4 rfl) ?_
    refine lv_i2l S.1 S.2.1 dX9_readNumber_104 rfl ?_
    refine lv_iload_n S.1 S.2.1 dX9_readNumber_105 rfl (lv_at hl 1 rfl) ?_
    refine lv_i2l S.1 S.2.1 dX9_readNumber_106 rfl ?_
    refine lv_iload_n S.1 S.2.1 dX9_readNumber_107 rfl (lv_at hl 2 rfl) ?_
    refine lv_i2l S.1 S.2.1 dX9_readNumber_108 rfl ?_
    obtain ⟨u11, hu11, h⟩ := bd_e h
    refine r_ri d (r_cS (As := [.long ((v9).toInt64), .long ((a1).toInt64), .long ((a2).toInt64)]) (rest := []) S d (c_X9_in l G M10 L ((v9).toInt64) ((a1).toInt64) ((a2).toInt64) hu11) ml_RX9_75 sm_yX9_in in_RX9 co_yX9_in hyS_X9_in ⟨rfl, rfl⟩ ⟨by decide, by decide⟩ rfl hl rfl (Nat.le_of_ble_eq_true rfl) dX9_readNumber_109 ⟨Nat.zero_le _, Nat.zero_le _⟩) (fun H locs d => ?_)
    refine lv_if_ne (tgt := 122) S.1 S.2.1 dX9_readNumber_112 (by decide) (fun cc => ?_) (fun cc => ?_)
    · replace h := it_n cc h
      refine lv_iload S.1 S.2.1 dX9_readNumber_122 (lv_at hl 4 rfl) ?_
      obtain rfl := Option.some.inj h
      exact r_iret S d hr rfl rfl dX9_readNumber_124
    · replace h := it_p cc h
      refine lv_aload_n S.1 S.2.1 dX9_readNumber_115 rfl (lv_at hl 0 rfl) ?_
      refine lv_iload_n S.1 S.2.1 dX9_readNumber_116 rfl (lv_at hl 3 rfl) ?_
      obtain ⟨M12, eM12, h⟩ := lt_e h
      refine pf_20_11 S d eM12 hk0 fl_RX9_144 dX9_readNumber_117 (fun H locs d => ?_)
      refine lv_iconst (v := (-1)) S.1 S.2.1 dX9_readNumber_120 (by decide) ?_
      obtain rfl := Option.some.inj h
      exact r_iret S d hr rfl rfl dX9_readNumber_121
  · replace h := it_p cc h
    refine lv_iconst (v := (-1)) S.1 S.2.1 dX9_readNumber_100 (by decide) ?_
    obtain rfl := Option.some.inj h
    exact r_iret S d hr rfl rfl dX9_readNumber_101
theorem hyV_X9_strips : yX9_strips.cls = RX9 ∧ yX9_strips.cls ≠ "java/lang/invoke/MethodHandle" ∧ yX9_strips.cls ≠ "java/lang/invoke/VarHandle" ∧ (parseMethodDescriptor yX9_strips.desc).map (fun d => d.parameters.length) = some 0 := by decide +kernel
abbrev rm_X9_strips : Room := { frames := 1, cells := 0, slots := 0, locals := 25 }
def lp_X9_strips_10 (fu : Nat) (b0 : Nat) (K : Mem → Option (Int32 × Mem)) : Nat → Mem → Option (Int32 × Mem)
  | 0, _ => none
  | n + 1, Mx =>
    (if (9 : Int32) ≤ (Mx b0 12) then (K Mx)
    else (f_X9_nextByte fu Mx b0).bind (fun u3 =>
      (f_X9_in ((u3.1).toInt64) (48 : Int64) (53 : Int64)).bind (fun u4 =>
      (if u4 = 0 then (K u3.2)
      else (f_X9_nextByte fu u3.2 b0).bind (fun u5 =>
        gd (inb (u3.2 b0 12) 40) (
        lt (up u5.2 (b0 + 9) (u3.2 b0 12).toNatClampNeg (u5.1 - (48 : Int32))) (fun M7 : Mem =>
        lt (up M7 b0 12 ((M7 b0 12) + (1 : Int32))) (fun M8 : Mem =>
        lt (up M8 b0 11 ((M8 b0 11) + (1 : Int32))) (fun M9 : Mem =>
        (lp_X9_strips_10 fu b0 K n M9))))))))))
def lp_X9_strips_119 (fu : Nat) (b0 : Nat) (K : Mem → Option (Int32 × Mem)) : Nat → Int32 → Mem → Option (Int32 × Mem)
  | 0, _, _ => none
  | n + 1, x2, Mx =>
    (if (Mx b0 12) ≤ x2 then (K Mx)
    else gd (inb x2 40) (
      (f_X9_addStrip fu Mx b0 (Mx (b0 + 9) x2.toNatClampNeg)).bind (fun u17 =>
      lt (x2 + 1) (fun v18 : Int32 =>
      (lp_X9_strips_119 fu b0 K n v18 u17)))))
def f_X9_strips (fu : Nat) (M : Mem) (k0 : Nat) : Option (Int32 × Mem) :=
  lt (up M k0 11 (0 : Int32)) (fun M1 : Mem =>
  lt (up M1 k0 12 (0 : Int32)) (fun M2 : Mem =>
  (lp_X9_strips_10 fu k0 (fun (M10 : Mem) =>
    (if (M10 k0 12) ≤ 0 then lt (up M10 k0 10 (0 : Int32)) (fun M20 : Mem =>
      (if (0 : Int32) = 0 then some (((-20 : Int32) - (M20 k0 11)), M20)
      else lt (up M20 k0 7 (0 : Int32)) (fun M21 : Mem =>
        (lp_X9_strips_119 fu k0 (fun (M22 : Mem) =>
          some ((M22 k0 7), M22)) fu (0 : Int32) M21))))
    else (f_X9_nextByte fu M10 k0).bind (fun u11 =>
      (if 0 ≤ u11.1 then some (0 : Int32)
      else some (1 : Int32)).bind (fun t12 : Int32 =>
      lt (up u11.2 k0 10 (0 : Int32)) (fun M14 : Mem =>
      (if t12 = 0 then some (((-20 : Int32) - (M14 k0 11)), M14)
      else lt (up M14 k0 7 (0 : Int32)) (fun M15 : Mem =>
        (lp_X9_strips_119 fu k0 (fun (M19 : Mem) =>
          some ((M19 k0 7), M19)) fu (0 : Int32) M15)))))))) fu M2)))
set_option maxHeartbeats 4000000 in
set_option maxRecDepth 100000 in
theorem lc_X9_strips_10 {p : Program} {l : Launch} {e : Env} {s : State} {m : MethodId} {args : Array Value} {below : List Frame} {meth : Method} {c : Code} {G : Gx} {L : MemL} {fu : Nat} {b0 : Nat} {z : Int32 × Mem} (S : Sx G true p s m args meth c cX9_strips 3 RX9) (hr : meth.sig.returnType = (Option.some Jvm.ClassFile.FieldType.int)) (hb0 : kd b0 = 20) (K : Mem → Option (Int32 × Mem)) (hK : ∀ (My : Mem) (H : Heap) (locs : List Loc), Dy G s My L H locs → ∀ ls : Array Slot, lv_has ls 3 [(0, .ref (ad G b0))] → K My = some z → W p l e rm_X9_strips s m args below meth c H locs 0 0 (MQ below (Qi G z.1 z.2 L) args s 0 0 (gA G)) (F0 m 75 ls [])) :
    ∀ (n : Nat) (Mx : Mem), lp_X9_strips_10 fu b0 K n Mx = some z → ∀ (H : Heap) (locs : List Loc), Dy G s Mx L H locs → ∀ ls : Array Slot, lv_has ls 3 [(0, .ref (ad G b0))] → W p l e rm_X9_strips s m args below meth c H locs 0 0 (MQ below (Qi G z.1 z.2 L) args s 0 0 (gA G)) (F0 m 10 ls []) := by
  intro n
  induction n with
  | zero =>
    intro Mx h
    have h : (none : Option (Int32 × Mem)) = some z := h
    cases h
  | succ n ih =>
    intro Mx h H locs d ls hl
    rw [lp_X9_strips_10] at h
    refine lv_aload_n S.1 S.2.1 dX9_strips_10 rfl (lv_at hl 0 rfl) ?_
    refine gf_20_12 S d hb0 fl_RX9_155 dX9_strips_11 ?_
    refine lv_bipush (v := 9) S.1 S.2.1 dX9_strips_14 (by decide) ?_
    refine lv_icmp_ge (tgt := 75) S.1 S.2.1 dX9_strips_16 (by decide) (fun cc => ?_) (fun cc => ?_)
    · replace h := it_p cc h
      exact hK _ _ _ d _ (lv_sub hl [0] rfl) h
    · replace h := it_n cc h
      refine lv_aload_n S.1 S.2.1 dX9_strips_19 rfl (lv_at hl 0 rfl) ?_
      obtain ⟨u3, hu3, h⟩ := bd_e h
      refine r_ri d (r_cV (As := []) (rest := []) S d (c_X9_nextByte l G Mx L fu b0 hb0 hu3) (ksdM S hb0) (wc_20 hb0) rfl ml_RX9_147 im_yX9_nextByte se_yX9_nextByte in_RX9 co_yX9_nextByte hyV_X9_nextByte ⟨rfl, rfl⟩ ⟨by decide, by decide⟩ rfl hl rfl (Nat.le_of_ble_eq_true rfl) dX9_strips_20 ⟨Nat.zero_le _, Nat.zero_le _⟩) (fun H locs d => ?_)
      refine lv_i2l S.1 S.2.1 dX9_strips_23 rfl ?_
      refine lv_ldc2 (v := 48) S.1 S.2.1 S.2.2.2.1 (S.uw cn_RX9_151) dX9_strips_24 ?_
      refine lv_ldc2 (v := 53) S.1 S.2.1 S.2.2.2.1 (S.uw cn_RX9_158) dX9_strips_27 ?_
      obtain ⟨u4, hu4, h⟩ := bd_e h
      refine r_ri d (r_cS (As := [.long ((u3.1).toInt64), .long (48 : Int64), .long (53 : Int64)]) (rest := []) S d (c_X9_in l G u3.2 L ((u3.1).toInt64) (48 : Int64) (53 : Int64) hu4) ml_RX9_75 sm_yX9_in in_RX9 co_yX9_in hyS_X9_in ⟨rfl, rfl⟩ ⟨by decide, by decide⟩ rfl hl rfl (Nat.le_of_ble_eq_true rfl) dX9_strips_30 ⟨Nat.zero_le _, Nat.zero_le _⟩) (fun H locs d => ?_)
      refine lv_if_eq (tgt := 75) S.1 S.2.1 dX9_strips_33 (by decide) (fun cc => ?_) (fun cc => ?_)
      · replace h := it_p cc h
        exact hK _ _ _ d _ (lv_sub hl [0] rfl) h
      · replace h := it_n cc h
        refine lv_aload_n S.1 S.2.1 dX9_strips_36 rfl (lv_at hl 0 rfl) ?_
        refine gf_20_13 S d hb0 fl_RX9_34 dX9_strips_37 ?_
        refine lv_aload_n S.1 S.2.1 dX9_strips_40 rfl (lv_at hl 0 rfl) ?_
        refine gf_20_12 S d hb0 fl_RX9_155 dX9_strips_41 ?_
        refine lv_aload_n S.1 S.2.1 dX9_strips_44 rfl (lv_at hl 0 rfl) ?_
        obtain ⟨u5, hu5, h⟩ := bd_e h
        refine r_ri d (r_cV (As := []) (rest := [.int (u3.2 b0 12), .ref (ad G (b0 + 9))]) S d (c_X9_nextByte l G u3.2 L fu b0 hb0 hu5) (ksdM S hb0) (wc_20 hb0) rfl ml_RX9_147 im_yX9_nextByte se_yX9_nextByte in_RX9 co_yX9_nextByte hyV_X9_nextByte ⟨rfl, rfl⟩ ⟨by decide, by decide⟩ rfl hl rfl (Nat.le_of_ble_eq_true rfl) dX9_strips_45 ⟨Nat.zero_le _, Nat.zero_le _⟩) (fun H locs d => ?_)
        refine lv_bipush (v := 48) S.1 S.2.1 dX9_strips_48 (by decide) ?_
        refine lv_isub S.1 S.2.1 dX9_strips_50 ?_
        obtain ⟨g6, h⟩ := gd_e h
        obtain ⟨M7, eM7, h⟩ := lt_e h
        refine r_iast S d eM7 (ksdM S (ch_20_13 hb0).1) (fun _ => wc_21 (ch_20_13 hb0).1) (ch_20_13 hb0).2 g6 dX9_strips_51 (fun H locs d => ?_)
        refine lv_aload_n S.1 S.2.1 dX9_strips_52 rfl (lv_at hl 0 rfl) ?_
        refine lv_dup S.1 S.2.1 dX9_strips_53 rfl ?_
        refine gf_20_12 S d hb0 fl_RX9_155 dX9_strips_54 ?_
        refine lv_iconst (v := 1) S.1 S.2.1 dX9_strips_57 (by decide) ?_
        refine lv_iadd S.1 S.2.1 dX9_strips_58 ?_
        obtain ⟨M8, eM8, h⟩ := lt_e h
        refine pf_20_12 S d eM8 hb0 fl_RX9_155 dX9_strips_59 (fun H locs d => ?_)
        refine lv_aload_n S.1 S.2.1 dX9_strips_62 rfl (lv_at hl 0 rfl) ?_
        refine lv_dup S.1 S.2.1 dX9_strips_63 rfl ?_
        refine gf_20_11 S d hb0 fl_RX9_144 dX9_strips_64 ?_
        refine lv_iconst (v := 1) S.1 S.2.1 dX9_strips_67 (by decide) ?_
        refine lv_iadd S.1 S.2.1 dX9_strips_68 ?_
        obtain ⟨M9, eM9, h⟩ := lt_e h
        refine pf_20_11 S d eM9 hb0 fl_RX9_144 dX9_strips_69 (fun H locs d => ?_)
        refine lv_goto (tgt := 10) S.1 S.2.1 dX9_strips_72 (by decide) ?_
        exact ih _ h _ _ d _ (lv_sub hl [0] rfl)
set_option maxHeartbeats 4000000 in
set_option maxRecDepth 100000 in
theorem lc_X9_strips_119 {p : Program} {l : Launch} {e : Env} {s : State} {m : MethodId} {args : Array Value} {below : List Frame} {meth : Method} {c : Code} {G : Gx} {L : MemL} {fu : Nat} {b0 : Nat} {z : Int32 × Mem} (S : Sx G true p s m args meth c cX9_strips 3 RX9) (hr : meth.sig.returnType = (Option.some Jvm.ClassFile.FieldType.int)) (hb0 : kd b0 = 20) (K : Mem → Option (Int32 × Mem)) (hK : ∀ (My : Mem) (H : Heap) (locs : List Loc), Dy G s My L H locs → ∀ ls : Array Slot, lv_has ls 3 [(0, .ref (ad G b0))] → K My = some z → W p l e rm_X9_strips s m args below meth c H locs 0 0 (MQ below (Qi G z.1 z.2 L) args s 0 0 (gA G)) (F0 m 143 ls [])) :
    ∀ (n : Nat) (x2 : Int32) (Mx : Mem), lp_X9_strips_119 fu b0 K n x2 Mx = some z → ∀ (H : Heap) (locs : List Loc), Dy G s Mx L H locs → ∀ ls : Array Slot, lv_has ls 3 [(0, .ref (ad G b0)), (2, .int x2)] → W p l e rm_X9_strips s m args below meth c H locs 0 0 (MQ below (Qi G z.1 z.2 L) args s 0 0 (gA G)) (F0 m 119 ls []) := by
  intro n
  induction n with
  | zero =>
    intro x2 Mx h
    have h : (none : Option (Int32 × Mem)) = some z := h
    cases h
  | succ n ih =>
    intro x2 Mx h H locs d ls hl
    rw [lp_X9_strips_119] at h
    refine lv_iload_n S.1 S.2.1 dX9_strips_119 rfl (lv_at hl 1 rfl) ?_
    refine lv_aload_n S.1 S.2.1 dX9_strips_120 rfl (lv_at hl 0 rfl) ?_
    refine gf_20_12 S d hb0 fl_RX9_155 dX9_strips_121 ?_
    refine lv_icmp_ge (tgt := 143) S.1 S.2.1 dX9_strips_124 (by decide) (fun cc => ?_) (fun cc => ?_)
    · replace h := it_p cc h
      exact hK _ _ _ d _ (lv_sub hl [0] rfl) h
    · replace h := it_n cc h
      refine lv_aload_n S.1 S.2.1 dX9_strips_127 rfl (lv_at hl 0 rfl) ?_
      refine lv_aload_n S.1 S.2.1 dX9_strips_128 rfl (lv_at hl 0 rfl) ?_
      refine gf_20_13 S d hb0 fl_RX9_34 dX9_strips_129 ?_
      refine lv_iload_n S.1 S.2.1 dX9_strips_132 rfl (lv_at hl 1 rfl) ?_
      obtain ⟨g16, h⟩ := gd_e h
      refine r_iald S d (ksdM S (ch_20_13 hb0).1) (wc_21 (ch_20_13 hb0).1) (ch_20_13 hb0).2 g16 dX9_strips_133 ?_
      obtain ⟨u17, hu17, h⟩ := bd_e h
      refine r_rv d (r_cV (As := [.int (Mx (b0 + 9) x2.toNatClampNeg)]) (rest := []) S d (c_X9_addStrip l G Mx L fu b0 (Mx (b0 + 9) x2.toNatClampNeg) hb0 hu17) (ksdM S hb0) (wc_20 hb0) rfl ml_RX9_88 im_yX9_addStrip se_yX9_addStrip in_RX9 co_yX9_addStrip hyV_X9_addStrip ⟨rfl, rfl⟩ ⟨by decide, by decide⟩ rfl hl rfl (Nat.le_of_ble_eq_true rfl) dX9_strips_134 ⟨Nat.zero_le _, Nat.zero_le _⟩) (fun H locs d => ?_)
      obtain ⟨v18, ev18, h⟩ := lt_e h
      refine lv_iinc (v := v18) (lv' := [(2, .int v18), (0, .ref (ad G b0))]) S.1 S.2.1 dX9_strips_137 hl (k := 1) rfl (by rw [ev18]; rfl) (by decide) rfl (fun ls hl => ?_)
      refine lv_goto (tgt := 119) S.1 S.2.1 dX9_strips_140 (by decide) ?_
      exact ih _ _ h _ _ d _ (lv_sub hl [1, 0] rfl)
set_option maxHeartbeats 4000000 in
set_option maxRecDepth 100000 in
theorem c_X9_strips (l : Launch) (G : Gx) (M : Mem) (L : MemL) (fu : Nat) (k0 : Nat) (hk0 : kd k0 = 20) {z : Int32 × Mem} (h : f_X9_strips fu M k0 = some z) : Met l yX9_strips (.code yX9_strips cX9_strips 3 (Option.some Jvm.ClassFile.FieldType.int) :: UW) rm_X9_strips (va_Pc [.ref (ad G k0)] (PreG G true M L)) (Qi G z.1 z.2 L) 0 0 (gA G) := by
  refine r_in (by decide) (fun p e s m args below meth c S hr d ha ls hl => ?_) (Nat.le_of_ble_eq_true rfl)
  have S : Sx G true p s m args meth c cX9_strips 3 RX9 := S
  have hl : lv_has ls 3 [(0, .ref (ad G k0))] := hl
  unfold f_X9_strips at h
  refine lv_aload_n S.1 S.2.1 dX9_strips_0 rfl (lv_at hl 0 rfl) ?_
  refine lv_iconst (v := 0) S.1 S.2.1 dX9_strips_1 (by decide) ?_
  obtain ⟨M1, eM1, h⟩ := lt_e h
  refine pf_20_11 S d eM1 hk0 fl_RX9_144 dX9_strips_2 (fun H locs d => ?_)
  refine lv_aload_n S.1 S.2.1 dX9_strips_5 rfl (lv_at hl 0 rfl) ?_
  refine lv_iconst (v := 0) S.1 S.2.1 dX9_strips_6 (by decide) ?_
  obtain ⟨M2, eM2, h⟩ := lt_e h
  refine pf_20_12 S d eM2 hk0 fl_RX9_155 dX9_strips_7 (fun H locs d => ?_)
  refine lc_X9_strips_10 S hr hk0 _ (fun M10 H locs d ls hl h => ?_) _ _  h _ _ d _ (lv_sub hl [0] rfl)
  refine lv_aload_n S.1 S.2.1 dX9_strips_75 rfl (lv_at hl 0 rfl) ?_
  refine gf_20_12 S d hk0 fl_RX9_155 dX9_strips_76 ?_
  refine lv_if_le (tgt := 93) S.1 S.2.1 dX9_strips_79 (by decide) (fun cc => ?_) (fun cc => ?_)
  · replace h := it_p cc h
    refine lv_iconst (v := 0) S.1 S.2.1 dX9_strips_93 (by decide) ?_
    refine lv_istore_n (lv' := [(1, .int (0 : Int32)), (0, .ref (ad G k0))]) S.1 S.2.1 dX9_strips_94 rfl hl (by decide) rfl (fun ls hl => ?_)
    refine lv_aload_n S.1 S.2.1 dX9_strips_95 rfl (lv_at hl 1 rfl) ?_
    refine lv_iconst (v := 0) S.1 S.2.1 dX9_strips_96 (by decide) ?_
    obtain ⟨M20, eM20, h⟩ := lt_e h
    refine pf_20_10 S d eM20 hk0 fl_RX9_141 dX9_strips_97 (fun H locs d => ?_)
    refine lv_iload_n S.1 S.2.1 dX9_strips_100 rfl (lv_at hl 0 rfl) ?_
    refine lv_if_ne (tgt := 112) S.1 S.2.1 dX9_strips_101 (by decide) (fun cc => ?_) (fun cc => ?_)
    · replace h := it_n cc h
      refine lv_aload_n S.1 S.2.1 dX9_strips_112 rfl (lv_at hl 1 rfl) ?_
      refine lv_iconst (v := 0) S.1 S.2.1 dX9_strips_113 (by decide) ?_
      obtain ⟨M21, eM21, h⟩ := lt_e h
      refine pf_20_7 S d eM21 hk0 fl_RX9_71 dX9_strips_114 (fun H locs d => ?_)
      refine lv_iconst (v := 0) S.1 S.2.1 dX9_strips_117 (by decide) ?_
      refine lv_istore_n (lv' := [(2, .int (0 : Int32)), (1, .int (0 : Int32)), (0, .ref (ad G k0))]) S.1 S.2.1 dX9_strips_118 rfl hl (by decide) rfl (fun ls hl => ?_)
      refine lc_X9_strips_119 S hr hk0 _ (fun M22 H locs d ls hl h => ?_) _ _ _  h _ _ d _ (lv_sub hl [2, 0] rfl)
      refine lv_aload_n S.1 S.2.1 dX9_strips_143 rfl (lv_at hl 0 rfl) ?_
      refine gf_20_7 S d hk0 fl_RX9_71 dX9_strips_144 ?_
      obtain rfl := Option.some.inj h
      exact r_iret S d hr rfl rfl dX9_strips_147
    · replace h := it_p cc h
      refine lv_bipush (v := (-20)) S.1 S.2.1 dX9_strips_104 (by decide) ?_
      refine lv_aload_n S.1 S.2.1 dX9_strips_106 rfl (lv_at hl 1 rfl) ?_
      refine gf_20_11 S d hk0 fl_RX9_144 dX9_strips_107 ?_
      refine lv_isub S.1 S.2.1 dX9_strips_110 ?_
      obtain rfl := Option.some.inj h
      exact r_iret S d hr rfl rfl dX9_strips_111
  · replace h := it_n cc h
    refine lv_aload_n S.1 S.2.1 dX9_strips_82 rfl (lv_at hl 0 rfl) ?_
    obtain ⟨u11, hu11, h⟩ := bd_e h
    refine r_ri d (r_cV (As := []) (rest := []) S d (c_X9_nextByte l G M10 L fu k0 hk0 hu11) (ksdM S hk0) (wc_20 hk0) rfl ml_RX9_147 im_yX9_nextByte se_yX9_nextByte in_RX9 co_yX9_nextByte hyV_X9_nextByte ⟨rfl, rfl⟩ ⟨by decide, by decide⟩ rfl hl rfl (Nat.le_of_ble_eq_true rfl) dX9_strips_83 ⟨Nat.zero_le _, Nat.zero_le _⟩) (fun H locs d => ?_)
    obtain ⟨t12, g13, h⟩ := bd_e h
    have Jt12 : ∀ (H : Heap) (locs : List Loc), Dy G s u11.2 L H locs → W p l e rm_X9_strips s m args below meth c H locs 0 0 (MQ below (Qi G z.1 z.2 L) args s 0 0 (gA G)) (F0 m 94 ls [.int t12]) := by
      intro H locs d
      refine lv_istore_n (lv' := [(1, .int t12), (0, .ref (ad G k0))]) S.1 S.2.1 dX9_strips_94 rfl hl (by decide) rfl (fun ls hl => ?_)
      refine lv_aload_n S.1 S.2.1 dX9_strips_95 rfl (lv_at hl 1 rfl) ?_
      refine lv_iconst (v := 0) S.1 S.2.1 dX9_strips_96 (by decide) ?_
      obtain ⟨M14, eM14, h⟩ := lt_e h
      refine pf_20_10 S d eM14 hk0 fl_RX9_141 dX9_strips_97 (fun H locs d => ?_)
      refine lv_iload_n S.1 S.2.1 dX9_strips_100 rfl (lv_at hl 0 rfl) ?_
      refine lv_if_ne (tgt := 112) S.1 S.2.1 dX9_strips_101 (by decide) (fun cc => ?_) (fun cc => ?_)
      · replace h := it_n cc h
        refine lv_aload_n S.1 S.2.1 dX9_strips_112 rfl (lv_at hl 1 rfl) ?_
        refine lv_iconst (v := 0) S.1 S.2.1 dX9_strips_113 (by decide) ?_
        obtain ⟨M15, eM15, h⟩ := lt_e h
        refine pf_20_7 S d eM15 hk0 fl_RX9_71 dX9_strips_114 (fun H locs d => ?_)
        refine lv_iconst (v := 0) S.1 S.2.1 dX9_strips_117 (by decide) ?_
        refine lv_istore_n (lv' := [(2, .int (0 : Int32)), (1, .int t12), (0, .ref (ad G k0))]) S.1 S.2.1 dX9_strips_118 rfl hl (by decide) rfl (fun ls hl => ?_)
        refine lc_X9_strips_119 S hr hk0 _ (fun M19 H locs d ls hl h => ?_) _ _ _  h _ _ d _ (lv_sub hl [2, 0] rfl)
        refine lv_aload_n S.1 S.2.1 dX9_strips_143 rfl (lv_at hl 0 rfl) ?_
        refine gf_20_7 S d hk0 fl_RX9_71 dX9_strips_144 ?_
        obtain rfl := Option.some.inj h
        exact r_iret S d hr rfl rfl dX9_strips_147
      · replace h := it_p cc h
        refine lv_bipush (v := (-20)) S.1 S.2.1 dX9_strips_104 (by decide) ?_
        refine lv_aload_n S.1 S.2.1 dX9_strips_106 rfl (lv_at hl 1 rfl) ?_
        refine gf_20_11 S d hk0 fl_RX9_144 dX9_strips_107 ?_
        refine lv_isub S.1 S.2.1 dX9_strips_110 ?_
        obtain rfl := Option.some.inj h
        exact r_iret S d hr rfl rfl dX9_strips_111
    have h := g13
    refine lv_if_ge (tgt := 93) S.1 S.2.1 dX9_strips_86 (by decide) (fun cc => ?_) (fun cc => ?_)
    · replace h := it_p cc h
      refine lv_iconst (v := 0) S.1 S.2.1 dX9_strips_93 (by decide) ?_
      obtain ej := Option.some.inj h
      refine r_top ej.symm ?_
      exact Jt12 _ _ d
    · replace h := it_n cc h
      refine lv_iconst (v := 1) S.1 S.2.1 dX9_strips_89 (by decide) ?_
      refine lv_goto (tgt := 94) S.1 S.2.1 dX9_strips_90 (by decide) ?_
      obtain ej := Option.some.inj h
      refine r_top ej.symm ?_
      exact Jt12 _ _ d
theorem hyV_X9_readWord : yX9_readWord.cls = RX9 ∧ yX9_readWord.cls ≠ "java/lang/invoke/MethodHandle" ∧ yX9_readWord.cls ≠ "java/lang/invoke/VarHandle" ∧ (parseMethodDescriptor yX9_readWord.desc).map (fun d => d.parameters.length) = some 1 := by decide +kernel
abbrev rm_X9_readWord : Room := { frames := 2, cells := 0, slots := 0, locals := 49 }
def lp_X9_readWord_2 (fu : Nat) (b0 : Nat) (b1 : Int32) (K : Int32 → Mem → Option (Int32 × Mem)) : Nat → Int32 → Mem → Option (Int32 × Mem)
  | 0, _, _ => none
  | n + 1, x2, Mx =>
    (if (6 : Int32) ≤ x2 then (K x2 Mx)
    else (f_X9_nextByte fu Mx b0).bind (fun u1 =>
      (f_X9_in ((u1.1).toInt64) (97 : Int64) (122 : Int64)).bind (fun u2 =>
      (if u2 = 0 then (K x2 u1.2)
      else (f_X9_nextByte fu u1.2 b0).bind (fun u3 =>
        gd (inb ((b1 + (2 : Int32)) + x2) 40) (
        lt (up u3.2 (b0 + 9) ((b1 + (2 : Int32)) + x2).toNatClampNeg (u3.1 - (97 : Int32))) (fun M5 : Mem =>
        lt (x2 + 1) (fun v6 : Int32 =>
        lt (up M5 b0 11 ((M5 b0 11) + (1 : Int32))) (fun M7 : Mem =>
        (lp_X9_readWord_2 fu b0 b1 K n v6 M7))))))))))
def f_X9_readWord (fu : Nat) (M : Mem) (k0 : Nat) (a1 : Int32) : Option (Int32 × Mem) :=
  (lp_X9_readWord_2 fu k0 a1 (fun (v8 : Int32) (M9 : Mem) =>
    gd (inb a1 40) (
    lt (up M9 (k0 + 9) a1.toNatClampNeg v8) (fun M11 : Mem =>
    gd (inb (a1 + (1 : Int32)) 40) (
    lt (up M11 (k0 + 9) (a1 + (1 : Int32)).toNatClampNeg (10 : Int32)) (fun M13 : Mem =>
    (if v8 = 0 then some ((0 : Int32), M13)
    else (f_X9_nextByte fu M13 k0).bind (fun u14 =>
      (if u14.1 = (58 : Int32) then lt (up u14.2 k0 11 ((u14.2 k0 11) + (1 : Int32))) (fun M15 : Mem =>
        (f_X9_readNumber fu M15 k0 (0 : Int32) (99 : Int32)).bind (fun u16 =>
        gd (inb (a1 + (1 : Int32)) 40) (
        lt (up u16.2 (k0 + 9) (a1 + (1 : Int32)).toNatClampNeg u16.1) (fun M18 : Mem =>
        gd (inb (a1 + (1 : Int32)) 40) (
        (if (M18 (k0 + 9) (a1 + (1 : Int32)).toNatClampNeg) < 0 then some ((0 : Int32), M18)
        else some ((1 : Int32), M18)))))))
      else gd (inb (a1 + (1 : Int32)) 40) (
        (if (u14.2 (k0 + 9) (a1 + (1 : Int32)).toNatClampNeg) < 0 then some ((0 : Int32), u14.2)
        else some ((1 : Int32), u14.2))))))))))) fu (0 : Int32) M)
set_option maxHeartbeats 4000000 in
set_option maxRecDepth 100000 in
theorem lc_X9_readWord_2 {p : Program} {l : Launch} {e : Env} {s : State} {m : MethodId} {args : Array Value} {below : List Frame} {meth : Method} {c : Code} {G : Gx} {L : MemL} {fu : Nat} {b0 : Nat} {b1 : Int32} {z : Int32 × Mem} (S : Sx G true p s m args meth c cX9_readWord 3 RX9) (hr : meth.sig.returnType = (Option.some Jvm.ClassFile.FieldType.boolean)) (hb0 : kd b0 = 20) (K : Int32 → Mem → Option (Int32 × Mem)) (hK : ∀ (y2 : Int32) (My : Mem) (H : Heap) (locs : List Loc), Dy G s My L H locs → ∀ ls : Array Slot, lv_has ls 3 [(0, .ref (ad G b0)), (1, .int b1), (2, .int y2)] → K y2 My = some z → W p l e rm_X9_readWord s m args below meth c H locs 0 0 (MQ below (Qi G z.1 z.2 L) args s 0 0 (gA G)) (F0 m 58 ls [])) :
    ∀ (n : Nat) (x2 : Int32) (Mx : Mem), lp_X9_readWord_2 fu b0 b1 K n x2 Mx = some z → ∀ (H : Heap) (locs : List Loc), Dy G s Mx L H locs → ∀ ls : Array Slot, lv_has ls 3 [(0, .ref (ad G b0)), (1, .int b1), (2, .int x2)] → W p l e rm_X9_readWord s m args below meth c H locs 0 0 (MQ below (Qi G z.1 z.2 L) args s 0 0 (gA G)) (F0 m 2 ls []) := by
  intro n
  induction n with
  | zero =>
    intro x2 Mx h
    have h : (none : Option (Int32 × Mem)) = some z := h
    cases h
  | succ n ih =>
    intro x2 Mx h H locs d ls hl
    rw [lp_X9_readWord_2] at h
    refine lv_iload_n S.1 S.2.1 dX9_readWord_2 rfl (lv_at hl 2 rfl) ?_
    refine lv_bipush (v := 6) S.1 S.2.1 dX9_readWord_3 (by decide) ?_
    refine lv_icmp_ge (tgt := 58) S.1 S.2.1 dX9_readWord_5 (by decide) (fun cc => ?_) (fun cc => ?_)
    · replace h := it_p cc h
      exact hK _ _ _ _ d _ (lv_sub hl [0, 1, 2] rfl) h
    · replace h := it_n cc h
      refine lv_aload_n S.1 S.2.1 dX9_readWord_8 rfl (lv_at hl 0 rfl) ?_
      obtain ⟨u1, hu1, h⟩ := bd_e h
      refine r_ri d (r_cV (As := []) (rest := []) S d (c_X9_nextByte l G Mx L fu b0 hb0 hu1) (ksdM S hb0) (wc_20 hb0) rfl ml_RX9_147 im_yX9_nextByte se_yX9_nextByte in_RX9 co_yX9_nextByte hyV_X9_nextByte ⟨rfl, rfl⟩ ⟨by decide, by decide⟩ rfl hl rfl (Nat.le_of_ble_eq_true rfl) dX9_readWord_9 ⟨Nat.zero_le _, Nat.zero_le _⟩) (fun H locs d => ?_)
      refine lv_i2l S.1 S.2.1 dX9_readWord_12 rfl ?_
      refine lv_ldc2 (v := 97) S.1 S.2.1 S.2.2.2.1 (S.uw cn_RX9_160) dX9_readWord_13 ?_
      refine lv_ldc2 (v := 122) S.1 S.2.1 S.2.2.2.1 (S.uw cn_RX9_162) dX9_readWord_16 ?_
      obtain ⟨u2, hu2, h⟩ := bd_e h
      refine r_ri d (r_cS (As := [.long ((u1.1).toInt64), .long (97 : Int64), .long (122 : Int64)]) (rest := []) S d (c_X9_in l G u1.2 L ((u1.1).toInt64) (97 : Int64) (122 : Int64) hu2) ml_RX9_75 sm_yX9_in in_RX9 co_yX9_in hyS_X9_in ⟨rfl, rfl⟩ ⟨by decide, by decide⟩ rfl hl rfl (Nat.le_of_ble_eq_true rfl) dX9_readWord_19 ⟨Nat.zero_le _, Nat.zero_le _⟩) (fun H locs d => ?_)
      refine lv_if_eq (tgt := 58) S.1 S.2.1 dX9_readWord_22 (by decide) (fun cc => ?_) (fun cc => ?_)
      · replace h := it_p cc h
        exact hK _ _ _ _ d _ (lv_sub hl [0, 1, 2] rfl) h
      · replace h := it_n cc h
        refine lv_aload_n S.1 S.2.1 dX9_readWord_25 rfl (lv_at hl 0 rfl) ?_
        refine gf_20_13 S d hb0 fl_RX9_34 dX9_readWord_26 ?_
        refine lv_iload_n S.1 S.2.1 dX9_readWord_29 rfl (lv_at hl 1 rfl) ?_
        refine lv_iconst (v := 2) S.1 S.2.1 dX9_readWord_30 (by decide) ?_
        refine lv_iadd S.1 S.2.1 dX9_readWord_31 ?_
        refine lv_iload_n S.1 S.2.1 dX9_readWord_32 rfl (lv_at hl 2 rfl) ?_
        refine lv_iadd S.1 S.2.1 dX9_readWord_33 ?_
        refine lv_aload_n S.1 S.2.1 dX9_readWord_34 rfl (lv_at hl 0 rfl) ?_
        obtain ⟨u3, hu3, h⟩ := bd_e h
        refine r_ri d (r_cV (As := []) (rest := [.int ((b1 + (2 : Int32)) + x2), .ref (ad G (b0 + 9))]) S d (c_X9_nextByte l G u1.2 L fu b0 hb0 hu3) (ksdM S hb0) (wc_20 hb0) rfl ml_RX9_147 im_yX9_nextByte se_yX9_nextByte in_RX9 co_yX9_nextByte hyV_X9_nextByte ⟨rfl, rfl⟩ ⟨by decide, by decide⟩ rfl hl rfl (Nat.le_of_ble_eq_true rfl) dX9_readWord_35 ⟨Nat.zero_le _, Nat.zero_le _⟩) (fun H locs d => ?_)
        refine lv_bipush (v := 97) S.1 S.2.1 dX9_readWord_38 (by decide) ?_
        refine lv_isub S.1 S.2.1 dX9_readWord_40 ?_
        obtain ⟨g4, h⟩ := gd_e h
        obtain ⟨M5, eM5, h⟩ := lt_e h
        refine r_iast S d eM5 (ksdM S (ch_20_13 hb0).1) (fun _ => wc_21 (ch_20_13 hb0).1) (ch_20_13 hb0).2 g4 dX9_readWord_41 (fun H locs d => ?_)
        obtain ⟨v6, ev6, h⟩ := lt_e h
        refine lv_iinc (v := v6) (lv' := [(2, .int v6), (0, .ref (ad G b0)), (1, .int b1)]) S.1 S.2.1 dX9_readWord_42 hl (k := 2) rfl (by rw [ev6]; rfl) (by decide) rfl (fun ls hl => ?_)
        refine lv_aload_n S.1 S.2.1 dX9_readWord_45 rfl (lv_at hl 1 rfl) ?_
        refine lv_dup S.1 S.2.1 dX9_readWord_46 rfl ?_
        refine gf_20_11 S d hb0 fl_RX9_144 dX9_readWord_47 ?_
        refine lv_iconst (v := 1) S.1 S.2.1 dX9_readWord_50 (by decide) ?_
        refine lv_iadd S.1 S.2.1 dX9_readWord_51 ?_
        obtain ⟨M7, eM7, h⟩ := lt_e h
        refine pf_20_11 S d eM7 hb0 fl_RX9_144 dX9_readWord_52 (fun H locs d => ?_)
        refine lv_goto (tgt := 2) S.1 S.2.1 dX9_readWord_55 (by decide) ?_
        exact ih _ _ h _ _ d _ (lv_sub hl [1, 2, 0] rfl)
set_option maxHeartbeats 4000000 in
set_option maxRecDepth 100000 in
theorem c_X9_readWord (l : Launch) (G : Gx) (M : Mem) (L : MemL) (fu : Nat) (k0 : Nat) (a1 : Int32) (hk0 : kd k0 = 20) {z : Int32 × Mem} (h : f_X9_readWord fu M k0 a1 = some z) : Met l yX9_readWord (.code yX9_readWord cX9_readWord 3 (Option.some Jvm.ClassFile.FieldType.boolean) :: UW) rm_X9_readWord (va_Pc [.ref (ad G k0), .int a1] (PreG G true M L)) (Qi G z.1 z.2 L) 0 0 (gA G) := by
  refine r_in (by decide) (fun p e s m args below meth c S hr d ha ls hl => ?_) (Nat.le_of_ble_eq_true rfl)
  have S : Sx G true p s m args meth c cX9_readWord 3 RX9 := S
  have hl : lv_has ls 3 [(0, .ref (ad G k0)), (1, .int a1)] := hl
  unfold f_X9_readWord at h
  refine lv_iconst (v := 0) S.1 S.2.1 dX9_readWord_0 (by decide) ?_
  refine lv_istore_n (lv' := [(2, .int (0 : Int32)), (0, .ref (ad G k0)), (1, .int a1)]) S.1 S.2.1 dX9_readWord_1 rfl hl (by decide) rfl (fun ls hl => ?_)
  refine lc_X9_readWord_2 S hr hk0 _ (fun v8 M9 H locs d ls hl h => ?_) _ _ _  h _ _ d _ (lv_sub hl [1, 2, 0] rfl)
  refine lv_aload_n S.1 S.2.1 dX9_readWord_58 rfl (lv_at hl 0 rfl) ?_
  refine gf_20_13 S d hk0 fl_RX9_34 dX9_readWord_59 ?_
  refine lv_iload_n S.1 S.2.1 dX9_readWord_62 rfl (lv_at hl 1 rfl) ?_
  refine lv_iload_n S.1 S.2.1 dX9_readWord_63 rfl (lv_at hl 2 rfl) ?_
  obtain ⟨g10, h⟩ := gd_e h
  obtain ⟨M11, eM11, h⟩ := lt_e h
  refine r_iast S d eM11 (ksdM S (ch_20_13 hk0).1) (fun _ => wc_21 (ch_20_13 hk0).1) (ch_20_13 hk0).2 g10 dX9_readWord_64 (fun H locs d => ?_)
  refine lv_aload_n S.1 S.2.1 dX9_readWord_65 rfl (lv_at hl 0 rfl) ?_
  refine gf_20_13 S d hk0 fl_RX9_34 dX9_readWord_66 ?_
  refine lv_iload_n S.1 S.2.1 dX9_readWord_69 rfl (lv_at hl 1 rfl) ?_
  refine lv_iconst (v := 1) S.1 S.2.1 dX9_readWord_70 (by decide) ?_
  refine lv_iadd S.1 S.2.1 dX9_readWord_71 ?_
  refine lv_bipush (v := 10) S.1 S.2.1 dX9_readWord_72 (by decide) ?_
  obtain ⟨g12, h⟩ := gd_e h
  obtain ⟨M13, eM13, h⟩ := lt_e h
  refine r_iast S d eM13 (ksdM S (ch_20_13 hk0).1) (fun _ => wc_21 (ch_20_13 hk0).1) (ch_20_13 hk0).2 g12 dX9_readWord_74 (fun H locs d => ?_)
  refine lv_iload_n S.1 S.2.1 dX9_readWord_75 rfl (lv_at hl 2 rfl) ?_
  refine lv_if_ne (tgt := 81) S.1 S.2.1 dX9_readWord_76 (by decide) (fun cc => ?_) (fun cc => ?_)
  · replace h := it_n cc h
    refine lv_aload_n S.1 S.2.1 dX9_readWord_81 rfl (lv_at hl 0 rfl) ?_
    obtain ⟨u14, hu14, h⟩ := bd_e h
    refine r_ri d (r_cV (As := []) (rest := []) S d (c_X9_nextByte l G M13 L fu k0 hk0 hu14) (ksdM S hk0) (wc_20 hk0) rfl ml_RX9_147 im_yX9_nextByte se_yX9_nextByte in_RX9 co_yX9_nextByte hyV_X9_nextByte ⟨rfl, rfl⟩ ⟨by decide, by decide⟩ rfl hl rfl (Nat.le_of_ble_eq_true rfl) dX9_readWord_82 ⟨Nat.zero_le _, Nat.zero_le _⟩) (fun H locs d => ?_)
    refine lv_bipush (v := 58) S.1 S.2.1 dX9_readWord_85 (by decide) ?_
    refine lv_icmp_ne (tgt := 115) S.1 S.2.1 dX9_readWord_87 (by decide) (fun cc => ?_) (fun cc => ?_)
    · replace h := it_n cc h
      refine lv_aload_n S.1 S.2.1 dX9_readWord_115 rfl (lv_at hl 0 rfl) ?_
      refine gf_20_13 S d hk0 fl_RX9_34 dX9_readWord_116 ?_
      refine lv_iload_n S.1 S.2.1 dX9_readWord_119 rfl (lv_at hl 1 rfl) ?_
      refine lv_iconst (v := 1) S.1 S.2.1 dX9_readWord_120 (by decide) ?_
      refine lv_iadd S.1 S.2.1 dX9_readWord_121 ?_
      obtain ⟨g20, h⟩ := gd_e h
      refine r_iald S d (ksdM S (ch_20_13 hk0).1) (wc_21 (ch_20_13 hk0).1) (ch_20_13 hk0).2 g20 dX9_readWord_122 ?_
      refine lv_if_lt (tgt := 130) S.1 S.2.1 dX9_readWord_123 (by decide) (fun cc => ?_) (fun cc => ?_)
      · replace h := it_p cc h
        refine lv_iconst (v := 0) S.1 S.2.1 dX9_readWord_130 (by decide) ?_
        obtain rfl := Option.some.inj h
        exact r_iret S d hr rfl rfl dX9_readWord_131
      · replace h := it_n cc h
        refine lv_iconst (v := 1) S.1 S.2.1 dX9_readWord_126 (by decide) ?_
        refine lv_goto (tgt := 131) S.1 S.2.1 dX9_readWord_127 (by decide) ?_
        obtain rfl := Option.some.inj h
        exact r_iret S d hr rfl rfl dX9_readWord_131
    · replace h := it_p cc h
      refine lv_aload_n S.1 S.2.1 dX9_readWord_90 rfl (lv_at hl 0 rfl) ?_
      refine lv_dup S.1 S.2.1 dX9_readWord_91 rfl ?_
      refine gf_20_11 S d hk0 fl_RX9_144 dX9_readWord_92 ?_
      refine lv_iconst (v := 1) S.1 S.2.1 dX9_readWord_95 (by decide) ?_
      refine lv_iadd S.1 S.2.1 dX9_readWord_96 ?_
      obtain ⟨M15, eM15, h⟩ := lt_e h
      refine pf_20_11 S d eM15 hk0 fl_RX9_144 dX9_readWord_97 (fun H locs d => ?_)
      refine lv_aload_n S.1 S.2.1 dX9_readWord_100 rfl (lv_at hl 0 rfl) ?_
      refine gf_20_13 S d hk0 fl_RX9_34 dX9_readWord_101 ?_
      refine lv_iload_n S.1 S.2.1 dX9_readWord_104 rfl (lv_at hl 1 rfl) ?_
      refine lv_iconst (v := 1) S.1 S.2.1 dX9_readWord_105 (by decide) ?_
      refine lv_iadd S.1 S.2.1 dX9_readWord_106 ?_
      refine lv_aload_n S.1 S.2.1 dX9_readWord_107 rfl (lv_at hl 0 rfl) ?_
      refine lv_iconst (v := 0) S.1 S.2.1 dX9_readWord_108 (by decide) ?_
      refine lv_bipush (v := 99) S.1 S.2.1 dX9_readWord_109 (by decide) ?_
      obtain ⟨u16, hu16, h⟩ := bd_e h
      refine r_ri d (r_cV (As := [.int (0 : Int32), .int (99 : Int32)]) (rest := [.int (a1 + (1 : Int32)), .ref (ad G (k0 + 9))]) S d (c_X9_readNumber l G M15 L fu k0 (0 : Int32) (99 : Int32) hk0 hu16) (ksdM S hk0) (wc_20 hk0) rfl ml_RX9_164 im_yX9_readNumber se_yX9_readNumber in_RX9 co_yX9_readNumber hyV_X9_readNumber ⟨rfl, rfl⟩ ⟨by decide, by decide⟩ rfl hl rfl (Nat.le_of_ble_eq_true rfl) dX9_readWord_111 ⟨Nat.zero_le _, Nat.zero_le _⟩) (fun H locs d => ?_)
      obtain ⟨g17, h⟩ := gd_e h
      obtain ⟨M18, eM18, h⟩ := lt_e h
      refine r_iast S d eM18 (ksdM S (ch_20_13 hk0).1) (fun _ => wc_21 (ch_20_13 hk0).1) (ch_20_13 hk0).2 g17 dX9_readWord_114 (fun H locs d => ?_)
      refine lv_aload_n S.1 S.2.1 dX9_readWord_115 rfl (lv_at hl 0 rfl) ?_
      refine gf_20_13 S d hk0 fl_RX9_34 dX9_readWord_116 ?_
      refine lv_iload_n S.1 S.2.1 dX9_readWord_119 rfl (lv_at hl 1 rfl) ?_
      refine lv_iconst (v := 1) S.1 S.2.1 dX9_readWord_120 (by decide) ?_
      refine lv_iadd S.1 S.2.1 dX9_readWord_121 ?_
      obtain ⟨g19, h⟩ := gd_e h
      refine r_iald S d (ksdM S (ch_20_13 hk0).1) (wc_21 (ch_20_13 hk0).1) (ch_20_13 hk0).2 g19 dX9_readWord_122 ?_
      refine lv_if_lt (tgt := 130) S.1 S.2.1 dX9_readWord_123 (by decide) (fun cc => ?_) (fun cc => ?_)
      · replace h := it_p cc h
        refine lv_iconst (v := 0) S.1 S.2.1 dX9_readWord_130 (by decide) ?_
        obtain rfl := Option.some.inj h
        exact r_iret S d hr rfl rfl dX9_readWord_131
      · replace h := it_n cc h
        refine lv_iconst (v := 1) S.1 S.2.1 dX9_readWord_126 (by decide) ?_
        refine lv_goto (tgt := 131) S.1 S.2.1 dX9_readWord_127 (by decide) ?_
        obtain rfl := Option.some.inj h
        exact r_iret S d hr rfl rfl dX9_readWord_131
  · replace h := it_p cc h
    refine lv_iconst (v := 0) S.1 S.2.1 dX9_readWord_79 (by decide) ?_
    obtain rfl := Option.some.inj h
    exact r_iret S d hr rfl rfl dX9_readWord_80
theorem hyV_X9_readWords : yX9_readWords.cls = RX9 ∧ yX9_readWords.cls ≠ "java/lang/invoke/MethodHandle" ∧ yX9_readWords.cls ≠ "java/lang/invoke/VarHandle" ∧ (parseMethodDescriptor yX9_readWords.desc).map (fun d => d.parameters.length) = some 0 := by decide +kernel
abbrev rm_X9_readWords : Room := { frames := 3, cells := 0, slots := 0, locals := 71 }
def lp_X9_readWords_7 (fu : Nat) (b0 : Nat) (K : Mem → Option (Int32 × Mem)) : Nat → Int32 → Mem → Option (Int32 × Mem)
  | 0, _, _ => none
  | n + 1, x1, Mx =>
    (if (4 : Int32) ≤ x1 then (K Mx)
    else (f_X9_readWord fu Mx b0 ((8 : Int32) * x1)).bind (fun u2 =>
      (if u2.1 = 0 then some ((0 : Int32), u2.2)
      else lt (up u2.2 b0 12 (x1 + (1 : Int32))) (fun M3 : Mem =>
        (f_X9_nextByte fu M3 b0).bind (fun u4 =>
        lt (u4.1) (fun v5 : Int32 =>
        (if 0 ≤ v5 then (if v5 = (44 : Int32) then (if x1 = (3 : Int32) then some ((0 : Int32), u4.2)
            else lt (up u4.2 b0 11 ((u4.2 b0 11) + (1 : Int32))) (fun M6 : Mem =>
              lt (x1 + 1) (fun v7 : Int32 =>
              (lp_X9_readWords_7 fu b0 K n v7 M6))))
          else some ((0 : Int32), u4.2))
        else some ((1 : Int32), u4.2))))))))
def f_X9_readWords (fu : Nat) (M : Mem) (k0 : Nat) : Option (Int32 × Mem) :=
  lt (up M k0 11 (0 : Int32)) (fun M1 : Mem =>
  (lp_X9_readWords_7 fu k0 (fun (M8 : Mem) =>
    some ((0 : Int32), M8)) fu (0 : Int32) M1))
set_option maxHeartbeats 4000000 in
set_option maxRecDepth 100000 in
theorem lc_X9_readWords_7 {p : Program} {l : Launch} {e : Env} {s : State} {m : MethodId} {args : Array Value} {below : List Frame} {meth : Method} {c : Code} {G : Gx} {L : MemL} {fu : Nat} {b0 : Nat} {z : Int32 × Mem} (S : Sx G true p s m args meth c cX9_readWords 3 RX9) (hr : meth.sig.returnType = (Option.some Jvm.ClassFile.FieldType.boolean)) (hb0 : kd b0 = 20) (K : Mem → Option (Int32 × Mem)) (hK : ∀ (My : Mem) (H : Heap) (locs : List Loc), Dy G s My L H locs → ∀ ls : Array Slot, lv_has ls 3 [] → K My = some z → W p l e rm_X9_readWords s m args below meth c H locs 0 0 (MQ below (Qi G z.1 z.2 L) args s 0 0 (gA G)) (F0 m 72 ls [])) :
    ∀ (n : Nat) (x1 : Int32) (Mx : Mem), lp_X9_readWords_7 fu b0 K n x1 Mx = some z → ∀ (H : Heap) (locs : List Loc), Dy G s Mx L H locs → ∀ ls : Array Slot, lv_has ls 3 [(0, .ref (ad G b0)), (1, .int x1)] → W p l e rm_X9_readWords s m args below meth c H locs 0 0 (MQ below (Qi G z.1 z.2 L) args s 0 0 (gA G)) (F0 m 7 ls []) := by
  intro n
  induction n with
  | zero =>
    intro x1 Mx h
    have h : (none : Option (Int32 × Mem)) = some z := h
    cases h
  | succ n ih =>
    intro x1 Mx h H locs d ls hl
    rw [lp_X9_readWords_7] at h
    refine lv_iload_n S.1 S.2.1 dX9_readWords_7 rfl (lv_at hl 1 rfl) ?_
    refine lv_iconst (v := 4) S.1 S.2.1 dX9_readWords_8 (by decide) ?_
    refine lv_icmp_ge (tgt := 72) S.1 S.2.1 dX9_readWords_9 (by decide) (fun cc => ?_) (fun cc => ?_)
    · replace h := it_p cc h
      exact hK _ _ _ d _ (lv_sub hl [] rfl) h
    · replace h := it_n cc h
      refine lv_aload_n S.1 S.2.1 dX9_readWords_12 rfl (lv_at hl 0 rfl) ?_
      refine lv_bipush (v := 8) S.1 S.2.1 dX9_readWords_13 (by decide) ?_
      refine lv_iload_n S.1 S.2.1 dX9_readWords_15 rfl (lv_at hl 1 rfl) ?_
      refine lv_imul S.1 S.2.1 dX9_readWords_16 ?_
      obtain ⟨u2, hu2, h⟩ := bd_e h
      refine r_ri d (r_cV (As := [.int ((8 : Int32) * x1)]) (rest := []) S d (c_X9_readWord l G Mx L fu b0 ((8 : Int32) * x1) hb0 hu2) (ksdM S hb0) (wc_20 hb0) rfl ml_RX9_167 im_yX9_readWord se_yX9_readWord in_RX9 co_yX9_readWord hyV_X9_readWord ⟨rfl, rfl⟩ ⟨by decide, by decide⟩ rfl hl rfl (Nat.le_of_ble_eq_true rfl) dX9_readWords_17 ⟨Nat.zero_le _, Nat.zero_le _⟩) (fun H locs d => ?_)
      refine lv_if_ne (tgt := 25) S.1 S.2.1 dX9_readWords_20 (by decide) (fun cc => ?_) (fun cc => ?_)
      · replace h := it_n cc h
        refine lv_aload_n S.1 S.2.1 dX9_readWords_25 rfl (lv_at hl 0 rfl) ?_
        refine lv_iload_n S.1 S.2.1 dX9_readWords_26 rfl (lv_at hl 1 rfl) ?_
        refine lv_iconst (v := 1) S.1 S.2.1 dX9_readWords_27 (by decide) ?_
        refine lv_iadd S.1 S.2.1 dX9_readWords_28 ?_
        obtain ⟨M3, eM3, h⟩ := lt_e h
        refine pf_20_12 S d eM3 hb0 fl_RX9_155 dX9_readWords_29 (fun H locs d => ?_)
        refine lv_aload_n S.1 S.2.1 dX9_readWords_32 rfl (lv_at hl 0 rfl) ?_
        obtain ⟨u4, hu4, h⟩ := bd_e h
        refine r_ri d (r_cV (As := []) (rest := []) S d (c_X9_nextByte l G M3 L fu b0 hb0 hu4) (ksdM S hb0) (wc_20 hb0) rfl ml_RX9_147 im_yX9_nextByte se_yX9_nextByte in_RX9 co_yX9_nextByte hyV_X9_nextByte ⟨rfl, rfl⟩ ⟨by decide, by decide⟩ rfl hl rfl (Nat.le_of_ble_eq_true rfl) dX9_readWords_33 ⟨Nat.zero_le _, Nat.zero_le _⟩) (fun H locs d => ?_)
        obtain ⟨v5, ev5, h⟩ := lt_e h
        refine r_top ev5 ?_
        refine lv_istore_n (lv' := [(2, .int v5), (0, .ref (ad G b0)), (1, .int x1)]) S.1 S.2.1 dX9_readWords_36 rfl hl (by decide) rfl (fun ls hl => ?_)
        refine lv_iload_n S.1 S.2.1 dX9_readWords_37 rfl (lv_at hl 0 rfl) ?_
        refine lv_if_ge (tgt := 43) S.1 S.2.1 dX9_readWords_38 (by decide) (fun cc => ?_) (fun cc => ?_)
        · replace h := it_p cc h
          refine lv_iload_n S.1 S.2.1 dX9_readWords_43 rfl (lv_at hl 0 rfl) ?_
          refine lv_bipush (v := 44) S.1 S.2.1 dX9_readWords_44 (by decide) ?_
          refine lv_icmp_ne (tgt := 54) S.1 S.2.1 dX9_readWords_46 (by decide) (fun cc => ?_) (fun cc => ?_)
          · replace h := it_n cc h
            refine lv_iconst (v := 0) S.1 S.2.1 dX9_readWords_54 (by decide) ?_
            obtain rfl := Option.some.inj h
            exact r_iret S d hr rfl rfl dX9_readWords_55
          · replace h := it_p cc h
            refine lv_iload_n S.1 S.2.1 dX9_readWords_49 rfl (lv_at hl 2 rfl) ?_
            refine lv_iconst (v := 3) S.1 S.2.1 dX9_readWords_50 (by decide) ?_
            refine lv_icmp_ne (tgt := 56) S.1 S.2.1 dX9_readWords_51 (by decide) (fun cc => ?_) (fun cc => ?_)
            · replace h := it_n cc h
              refine lv_aload_n S.1 S.2.1 dX9_readWords_56 rfl (lv_at hl 1 rfl) ?_
              refine lv_dup S.1 S.2.1 dX9_readWords_57 rfl ?_
              refine gf_20_11 S d hb0 fl_RX9_144 dX9_readWords_58 ?_
              refine lv_iconst (v := 1) S.1 S.2.1 dX9_readWords_61 (by decide) ?_
              refine lv_iadd S.1 S.2.1 dX9_readWords_62 ?_
              obtain ⟨M6, eM6, h⟩ := lt_e h
              refine pf_20_11 S d eM6 hb0 fl_RX9_144 dX9_readWords_63 (fun H locs d => ?_)
              obtain ⟨v7, ev7, h⟩ := lt_e h
              refine lv_iinc (v := v7) (lv' := [(1, .int v7), (2, .int v5), (0, .ref (ad G b0))]) S.1 S.2.1 dX9_readWords_66 hl (k := 2) rfl (by rw [ev7]; rfl) (by decide) rfl (fun ls hl => ?_)
              refine lv_goto (tgt := 7) S.1 S.2.1 dX9_readWords_69 (by decide) ?_
              exact ih _ _ h _ _ d _ (lv_sub hl [2, 0] rfl)
            · replace h := it_p cc h
              refine lv_iconst (v := 0) S.1 S.2.1 dX9_readWords_54 (by decide) ?_
              obtain rfl := Option.some.inj h
              exact r_iret S d hr rfl rfl dX9_readWords_55
        · replace h := it_n cc h
          refine lv_iconst (v := 1) S.1 S.2.1 dX9_readWords_41 (by decide) ?_
          obtain rfl := Option.some.inj h
          exact r_iret S d hr rfl rfl dX9_readWords_42
      · replace h := it_p cc h
        refine lv_iconst (v := 0) S.1 S.2.1 dX9_readWords_23 (by decide) ?_
        obtain rfl := Option.some.inj h
        exact r_iret S d hr rfl rfl dX9_readWords_24
set_option maxHeartbeats 4000000 in
set_option maxRecDepth 100000 in
theorem c_X9_readWords (l : Launch) (G : Gx) (M : Mem) (L : MemL) (fu : Nat) (k0 : Nat) (hk0 : kd k0 = 20) {z : Int32 × Mem} (h : f_X9_readWords fu M k0 = some z) : Met l yX9_readWords (.code yX9_readWords cX9_readWords 3 (Option.some Jvm.ClassFile.FieldType.boolean) :: UW) rm_X9_readWords (va_Pc [.ref (ad G k0)] (PreG G true M L)) (Qi G z.1 z.2 L) 0 0 (gA G) := by
  refine r_in (by decide) (fun p e s m args below meth c S hr d ha ls hl => ?_) (Nat.le_of_ble_eq_true rfl)
  have S : Sx G true p s m args meth c cX9_readWords 3 RX9 := S
  have hl : lv_has ls 3 [(0, .ref (ad G k0))] := hl
  unfold f_X9_readWords at h
  refine lv_aload_n S.1 S.2.1 dX9_readWords_0 rfl (lv_at hl 0 rfl) ?_
  refine lv_iconst (v := 0) S.1 S.2.1 dX9_readWords_1 (by decide) ?_
  obtain ⟨M1, eM1, h⟩ := lt_e h
  refine pf_20_11 S d eM1 hk0 fl_RX9_144 dX9_readWords_2 (fun H locs d => ?_)
  refine lv_iconst (v := 0) S.1 S.2.1 dX9_readWords_5 (by decide) ?_
  refine lv_istore_n (lv' := [(1, .int (0 : Int32)), (0, .ref (ad G k0))]) S.1 S.2.1 dX9_readWords_6 rfl hl (by decide) rfl (fun ls hl => ?_)
  refine lc_X9_readWords_7 S hr hk0 _ (fun M8 H locs d ls hl h => ?_) _ _ _  h _ _ d _ (lv_sub hl [1, 0] rfl)
  refine lv_iconst (v := 0) S.1 S.2.1 dX9_readWords_72 (by decide) ?_
  obtain rfl := Option.some.inj h
  exact r_iret S d hr rfl rfl dX9_readWords_73
theorem hyV_X9_words : yX9_words.cls = RX9 ∧ yX9_words.cls ≠ "java/lang/invoke/MethodHandle" ∧ yX9_words.cls ≠ "java/lang/invoke/VarHandle" ∧ (parseMethodDescriptor yX9_words.desc).map (fun d => d.parameters.length) = some 0 := by decide +kernel
abbrev rm_X9_words : Room := { frames := 4, cells := 0, slots := 0, locals := 93 }
def lp_X9_words_41 (fu : Nat) (b0 : Nat) (K : Mem → Option (Int32 × Mem)) : Nat → Int32 → Mem → Option (Int32 × Mem)
  | 0, _, _ => none
  | n + 1, x2, Mx =>
    (if ((8 : Int32) * (Mx b0 12)) ≤ x2 then (K Mx)
    else gd (inb x2 40) (
      gd (inb (((8 : Int32) * (Mx b0 8)) + x2) 80) (
      lt (up Mx (b0 + 7) (((8 : Int32) * (Mx b0 8)) + x2).toNatClampNeg (Mx (b0 + 9) x2.toNatClampNeg)) (fun M6 : Mem =>
      lt (x2 + 1) (fun v7 : Int32 =>
      (lp_X9_words_41 fu b0 K n v7 M6))))))
def f_X9_words (fu : Nat) (M : Mem) (k0 : Nat) : Option (Int32 × Mem) :=
  (f_X9_readWords fu M k0).bind (fun u1 =>
  lt (u1.1) (fun v2 : Int32 =>
  lt (up u1.2 k0 10 (0 : Int32)) (fun M3 : Mem =>
  (if v2 = 0 then some (((-20 : Int32) - (M3 k0 11)), M3)
  else (if ((M3 k0 8) + (M3 k0 12)) ≤ (10 : Int32) then (lp_X9_words_41 fu k0 (fun (M8 : Mem) =>
        lt (up M8 k0 8 ((M8 k0 8) + (M8 k0 12))) (fun M9 : Mem =>
        some ((M9 k0 12), M9))) fu (0 : Int32) M3)
    else some ((-3 : Int32), M3))))))
set_option maxHeartbeats 4000000 in
set_option maxRecDepth 100000 in
theorem lc_X9_words_41 {p : Program} {l : Launch} {e : Env} {s : State} {m : MethodId} {args : Array Value} {below : List Frame} {meth : Method} {c : Code} {G : Gx} {L : MemL} {fu : Nat} {b0 : Nat} {z : Int32 × Mem} (S : Sx G true p s m args meth c cX9_words 3 RX9) (hr : meth.sig.returnType = (Option.some Jvm.ClassFile.FieldType.int)) (hb0 : kd b0 = 20) (K : Mem → Option (Int32 × Mem)) (hK : ∀ (My : Mem) (H : Heap) (locs : List Loc), Dy G s My L H locs → ∀ ls : Array Slot, lv_has ls 3 [(0, .ref (ad G b0))] → K My = some z → W p l e rm_X9_words s m args below meth c H locs 0 0 (MQ below (Qi G z.1 z.2 L) args s 0 0 (gA G)) (F0 m 78 ls [])) :
    ∀ (n : Nat) (x2 : Int32) (Mx : Mem), lp_X9_words_41 fu b0 K n x2 Mx = some z → ∀ (H : Heap) (locs : List Loc), Dy G s Mx L H locs → ∀ ls : Array Slot, lv_has ls 3 [(0, .ref (ad G b0)), (2, .int x2)] → W p l e rm_X9_words s m args below meth c H locs 0 0 (MQ below (Qi G z.1 z.2 L) args s 0 0 (gA G)) (F0 m 41 ls []) := by
  intro n
  induction n with
  | zero =>
    intro x2 Mx h
    have h : (none : Option (Int32 × Mem)) = some z := h
    cases h
  | succ n ih =>
    intro x2 Mx h H locs d ls hl
    rw [lp_X9_words_41] at h
    refine lv_iload_n S.1 S.2.1 dX9_words_41 rfl (lv_at hl 1 rfl) ?_
    refine lv_bipush (v := 8) S.1 S.2.1 dX9_words_42 (by decide) ?_
    refine lv_aload_n S.1 S.2.1 dX9_words_44 rfl (lv_at hl 0 rfl) ?_
    refine gf_20_12 S d hb0 fl_RX9_155 dX9_words_45 ?_
    refine lv_imul S.1 S.2.1 dX9_words_48 ?_
    refine lv_icmp_ge (tgt := 78) S.1 S.2.1 dX9_words_49 (by decide) (fun cc => ?_) (fun cc => ?_)
    · replace h := it_p cc h
      exact hK _ _ _ d _ (lv_sub hl [0] rfl) h
    · replace h := it_n cc h
      refine lv_aload_n S.1 S.2.1 dX9_words_52 rfl (lv_at hl 0 rfl) ?_
      refine gf_20_6 S d hb0 fl_RX9_28 dX9_words_53 ?_
      refine lv_bipush (v := 8) S.1 S.2.1 dX9_words_56 (by decide) ?_
      refine lv_aload_n S.1 S.2.1 dX9_words_58 rfl (lv_at hl 0 rfl) ?_
      refine gf_20_8 S d hb0 fl_RX9_83 dX9_words_59 ?_
      refine lv_imul S.1 S.2.1 dX9_words_62 ?_
      refine lv_iload_n S.1 S.2.1 dX9_words_63 rfl (lv_at hl 1 rfl) ?_
      refine lv_iadd S.1 S.2.1 dX9_words_64 ?_
      refine lv_aload_n S.1 S.2.1 dX9_words_65 rfl (lv_at hl 0 rfl) ?_
      refine gf_20_13 S d hb0 fl_RX9_34 dX9_words_66 ?_
      refine lv_iload_n S.1 S.2.1 dX9_words_69 rfl (lv_at hl 1 rfl) ?_
      obtain ⟨g4, h⟩ := gd_e h
      refine r_iald S d (ksdM S (ch_20_13 hb0).1) (wc_21 (ch_20_13 hb0).1) (ch_20_13 hb0).2 g4 dX9_words_70 ?_
      obtain ⟨g5, h⟩ := gd_e h
      obtain ⟨M6, eM6, h⟩ := lt_e h
      refine r_iast S d eM6 (ksdM S (ch_20_6 hb0).1) (fun _ => wc_21 (ch_20_6 hb0).1) (ch_20_6 hb0).2 g5 dX9_words_71 (fun H locs d => ?_)
      obtain ⟨v7, ev7, h⟩ := lt_e h
      refine lv_iinc (v := v7) (lv' := [(2, .int v7), (0, .ref (ad G b0))]) S.1 S.2.1 dX9_words_72 hl (k := 1) rfl (by rw [ev7]; rfl) (by decide) rfl (fun ls hl => ?_)
      refine lv_goto (tgt := 41) S.1 S.2.1 dX9_words_75 (by decide) ?_
      exact ih _ _ h _ _ d _ (lv_sub hl [1, 0] rfl)
set_option maxHeartbeats 4000000 in
set_option maxRecDepth 100000 in
theorem c_X9_words (l : Launch) (G : Gx) (M : Mem) (L : MemL) (fu : Nat) (k0 : Nat) (hk0 : kd k0 = 20) {z : Int32 × Mem} (h : f_X9_words fu M k0 = some z) : Met l yX9_words (.code yX9_words cX9_words 3 (Option.some Jvm.ClassFile.FieldType.int) :: UW) rm_X9_words (va_Pc [.ref (ad G k0)] (PreG G true M L)) (Qi G z.1 z.2 L) 0 0 (gA G) := by
  refine r_in (by decide) (fun p e s m args below meth c S hr d ha ls hl => ?_) (Nat.le_of_ble_eq_true rfl)
  have S : Sx G true p s m args meth c cX9_words 3 RX9 := S
  have hl : lv_has ls 3 [(0, .ref (ad G k0))] := hl
  unfold f_X9_words at h
  refine lv_aload_n S.1 S.2.1 dX9_words_0 rfl (lv_at hl 0 rfl) ?_
  obtain ⟨u1, hu1, h⟩ := bd_e h
  refine r_ri d (r_cV (As := []) (rest := []) S d (c_X9_readWords l G M L fu k0 hk0 hu1) (ksdM S hk0) (wc_20 hk0) rfl ml_RX9_170 im_yX9_readWords se_yX9_readWords in_RX9 co_yX9_readWords hyV_X9_readWords ⟨rfl, rfl⟩ ⟨by decide, by decide⟩ rfl hl rfl (Nat.le_of_ble_eq_true rfl) dX9_words_1 ⟨Nat.zero_le _, Nat.zero_le _⟩) (fun H locs d => ?_)
  obtain ⟨v2, ev2, h⟩ := lt_e h
  refine r_top ev2 ?_
  refine lv_istore_n (lv' := [(1, .int v2), (0, .ref (ad G k0))]) S.1 S.2.1 dX9_words_4 rfl hl (by decide) rfl (fun ls hl => ?_)
  refine lv_aload_n S.1 S.2.1 dX9_words_5 rfl (lv_at hl 1 rfl) ?_
  refine lv_iconst (v := 0) S.1 S.2.1 dX9_words_6 (by decide) ?_
  obtain ⟨M3, eM3, h⟩ := lt_e h
  refine pf_20_10 S d eM3 hk0 fl_RX9_141 dX9_words_7 (fun H locs d => ?_)
  refine lv_iload_n S.1 S.2.1 dX9_words_10 rfl (lv_at hl 0 rfl) ?_
  refine lv_if_ne (tgt := 22) S.1 S.2.1 dX9_words_11 (by decide) (fun cc => ?_) (fun cc => ?_)
  · replace h := it_n cc h
    refine lv_aload_n S.1 S.2.1 dX9_words_22 rfl (lv_at hl 1 rfl) ?_
    refine gf_20_8 S d hk0 fl_RX9_83 dX9_words_23 ?_
    refine lv_aload_n S.1 S.2.1 dX9_words_26 rfl (lv_at hl 1 rfl) ?_
    refine gf_20_12 S d hk0 fl_RX9_155 dX9_words_27 ?_
    refine lv_iadd S.1 S.2.1 dX9_words_30 ?_
    refine lv_bipush (v := 10) S.1 S.2.1 dX9_words_31 (by decide) ?_
    refine lv_icmp_le (tgt := 39) S.1 S.2.1 dX9_words_33 (by decide) (fun cc => ?_) (fun cc => ?_)
    · replace h := it_p cc h
      refine lv_iconst (v := 0) S.1 S.2.1 dX9_words_39 (by decide) ?_
      refine lv_istore_n (lv' := [(2, .int (0 : Int32)), (1, .int v2), (0, .ref (ad G k0))]) S.1 S.2.1 dX9_words_40 rfl hl (by decide) rfl (fun ls hl => ?_)
      refine lc_X9_words_41 S hr hk0 _ (fun M8 H locs d ls hl h => ?_) _ _ _  h _ _ d _ (lv_sub hl [2, 0] rfl)
      refine lv_aload_n S.1 S.2.1 dX9_words_78 rfl (lv_at hl 0 rfl) ?_
      refine lv_dup S.1 S.2.1 dX9_words_79 rfl ?_
      refine gf_20_8 S d hk0 fl_RX9_83 dX9_words_80 ?_
      refine lv_aload_n S.1 S.2.1 dX9_words_83 rfl (lv_at hl 0 rfl) ?_
      refine gf_20_12 S d hk0 fl_RX9_155 dX9_words_84 ?_
      refine lv_iadd S.1 S.2.1 dX9_words_87 ?_
      obtain ⟨M9, eM9, h⟩ := lt_e h
      refine pf_20_8 S d eM9 hk0 fl_RX9_83 dX9_words_88 (fun H locs d => ?_)
      refine lv_aload_n S.1 S.2.1 dX9_words_91 rfl (lv_at hl 0 rfl) ?_
      refine gf_20_12 S d hk0 fl_RX9_155 dX9_words_92 ?_
      obtain rfl := Option.some.inj h
      exact r_iret S d hr rfl rfl dX9_words_95
    · replace h := it_n cc h
      refine lv_bipush (v := (-3)) S.1 S.2.1 dX9_words_36 (by decide) ?_
      obtain rfl := Option.some.inj h
      exact r_iret S d hr rfl rfl dX9_words_38
  · replace h := it_p cc h
    refine lv_bipush (v := (-20)) S.1 S.2.1 dX9_words_14 (by decide) ?_
    refine lv_aload_n S.1 S.2.1 dX9_words_16 rfl (lv_at hl 1 rfl) ?_
    refine gf_20_11 S d hk0 fl_RX9_144 dX9_words_17 ?_
    refine lv_isub S.1 S.2.1 dX9_words_20 ?_
    obtain rfl := Option.some.inj h
    exact r_iret S d hr rfl rfl dX9_words_21
theorem hyV_X9_told : yX9_told.cls = RX9 ∧ yX9_told.cls ≠ "java/lang/invoke/MethodHandle" ∧ yX9_told.cls ≠ "java/lang/invoke/VarHandle" ∧ (parseMethodDescriptor yX9_told.desc).map (fun d => d.parameters.length) = some 2 := by decide +kernel
abbrev rm_X9_told : Room := { frames := 2, cells := 0, slots := 0, locals := 46 }
def f_X9_told (M : Mem) (k0 : Nat) (a1 : Int32) (a2 : Int32) : Option (Int32) :=
  (f_X9_isWord M k0 a1).bind (fun u1 =>
  (if u1 = 0 then some ((-1 : Int32))
  else (if (-2 : Int32) ≤ a2 then gd (inb ((8 : Int32) * a1) 80) (
      lt ((M (k0 + 7) ((8 : Int32) * a1).toNatClampNeg)) (fun v3 : Int32 =>
      (if a2 = (-1 : Int32) then some (v3)
      else (if a2 = (-2 : Int32) then gd (inb (((8 : Int32) * a1) + (1 : Int32)) 80) (
          some ((M (k0 + 7) (((8 : Int32) * a1) + (1 : Int32)).toNatClampNeg)))
        else (if v3 ≤ a2 then some ((-4 : Int32))
          else gd (inb ((((8 : Int32) * a1) + (2 : Int32)) + a2) 80) (
            some ((M (k0 + 7) ((((8 : Int32) * a1) + (2 : Int32)) + a2).toNatClampNeg))))))))
    else some ((-1 : Int32)))))
set_option maxHeartbeats 4000000 in
set_option maxRecDepth 100000 in
theorem c_X9_told (l : Launch) (G : Gx) (M : Mem) (L : MemL) (k0 : Nat) (a1 : Int32) (a2 : Int32) (hk0 : kd k0 = 20) {z : Int32} (h : f_X9_told M k0 a1 a2 = some z) : Met l yX9_told (.code yX9_told cX9_told 4 (Option.some Jvm.ClassFile.FieldType.int) :: UW) rm_X9_told (va_Pc [.ref (ad G k0), .int a1, .int a2] (PreG G true M L)) (Qi G z M L) 0 0 (gA G) := by
  refine r_in (by decide) (fun p e s m args below meth c S hr d ha ls hl => ?_) (Nat.le_of_ble_eq_true rfl)
  have S : Sx G true p s m args meth c cX9_told 4 RX9 := S
  have hl : lv_has ls 4 [(0, .ref (ad G k0)), (1, .int a1), (2, .int a2)] := hl
  unfold f_X9_told at h
  refine lv_aload_n S.1 S.2.1 dX9_told_0 rfl (lv_at hl 0 rfl) ?_
  refine lv_iload_n S.1 S.2.1 dX9_told_1 rfl (lv_at hl 1 rfl) ?_
  obtain ⟨u1, hu1, h⟩ := bd_e h
  refine r_ri d (r_cV (As := [.int a1]) (rest := []) S d (c_X9_isWord l G M L k0 a1 hk0 hu1) (ksdM S hk0) (wc_20 hk0) rfl ml_RX9_174 im_yX9_isWord se_yX9_isWord in_RX9 co_yX9_isWord hyV_X9_isWord ⟨rfl, rfl⟩ ⟨by decide, by decide⟩ rfl hl rfl (Nat.le_of_ble_eq_true rfl) dX9_told_2 ⟨Nat.zero_le _, Nat.zero_le _⟩) (fun H locs d => ?_)
  refine lv_if_eq (tgt := 14) S.1 S.2.1 dX9_told_5 (by decide) (fun cc => ?_) (fun cc => ?_)
  · replace h := it_p cc h
    refine lv_iconst (v := (-1)) S.1 S.2.1 dX9_told_14 (by decide) ?_
    obtain rfl := Option.some.inj h
    exact r_iret S d hr rfl rfl dX9_told_15
  · replace h := it_n cc h
    refine lv_iload_n S.1 S.2.1 dX9_told_8 rfl (lv_at hl 2 rfl) ?_
    refine lv_bipush (v := (-2)) S.1 S.2.1 dX9_told_9 (by decide) ?_
    refine lv_icmp_ge (tgt := 16) S.1 S.2.1 dX9_told_11 (by decide) (fun cc => ?_) (fun cc => ?_)
    · replace h := it_p cc h
      refine lv_aload_n S.1 S.2.1 dX9_told_16 rfl (lv_at hl 0 rfl) ?_
      refine gf_20_6 S d hk0 fl_RX9_28 dX9_told_17 ?_
      refine lv_bipush (v := 8) S.1 S.2.1 dX9_told_20 (by decide) ?_
      refine lv_iload_n S.1 S.2.1 dX9_told_22 rfl (lv_at hl 1 rfl) ?_
      refine lv_imul S.1 S.2.1 dX9_told_23 ?_
      obtain ⟨g2, h⟩ := gd_e h
      refine r_iald S d (ksdM S (ch_20_6 hk0).1) (wc_21 (ch_20_6 hk0).1) (ch_20_6 hk0).2 g2 dX9_told_24 ?_
      obtain ⟨v3, ev3, h⟩ := lt_e h
      refine r_top ev3 ?_
      refine lv_istore_n (lv' := [(3, .int v3), (0, .ref (ad G k0)), (1, .int a1), (2, .int a2)]) S.1 S.2.1 dX9_told_25 rfl hl (by decide) rfl (fun ls hl => ?_)
      refine lv_iload_n S.1 S.2.1 dX9_told_26 rfl (lv_at hl 3 rfl) ?_
      refine lv_iconst (v := (-1)) S.1 S.2.1 dX9_told_27 (by decide) ?_
      refine lv_icmp_ne (tgt := 35) S.1 S.2.1 dX9_told_28 (by decide) (fun cc => ?_) (fun cc => ?_)
      · replace h := it_n cc h
        refine lv_iload_n S.1 S.2.1 dX9_told_35 rfl (lv_at hl 3 rfl) ?_
        refine lv_bipush (v := (-2)) S.1 S.2.1 dX9_told_36 (by decide) ?_
        refine lv_icmp_ne (tgt := 55) S.1 S.2.1 dX9_told_38 (by decide) (fun cc => ?_) (fun cc => ?_)
        · replace h := it_n cc h
          refine lv_iload_n S.1 S.2.1 dX9_told_55 rfl (lv_at hl 3 rfl) ?_
          refine lv_iload_n S.1 S.2.1 dX9_told_56 rfl (lv_at hl 0 rfl) ?_
          refine lv_icmp_ge (tgt := 76) S.1 S.2.1 dX9_told_57 (by decide) (fun cc => ?_) (fun cc => ?_)
          · replace h := it_p cc h
            refine lv_bipush (v := (-4)) S.1 S.2.1 dX9_told_76 (by decide) ?_
            obtain rfl := Option.some.inj h
            exact r_iret S d hr rfl rfl dX9_told_78
          · replace h := it_n cc h
            refine lv_aload_n S.1 S.2.1 dX9_told_60 rfl (lv_at hl 1 rfl) ?_
            refine gf_20_6 S d hk0 fl_RX9_28 dX9_told_61 ?_
            refine lv_bipush (v := 8) S.1 S.2.1 dX9_told_64 (by decide) ?_
            refine lv_iload_n S.1 S.2.1 dX9_told_66 rfl (lv_at hl 2 rfl) ?_
            refine lv_imul S.1 S.2.1 dX9_told_67 ?_
            refine lv_iconst (v := 2) S.1 S.2.1 dX9_told_68 (by decide) ?_
            refine lv_iadd S.1 S.2.1 dX9_told_69 ?_
            refine lv_iload_n S.1 S.2.1 dX9_told_70 rfl (lv_at hl 3 rfl) ?_
            refine lv_iadd S.1 S.2.1 dX9_told_71 ?_
            obtain ⟨g5, h⟩ := gd_e h
            refine r_iald S d (ksdM S (ch_20_6 hk0).1) (wc_21 (ch_20_6 hk0).1) (ch_20_6 hk0).2 g5 dX9_told_72 ?_
            refine lv_goto (tgt := 78) S.1 S.2.1 dX9_told_73 (by decide) ?_
            obtain rfl := Option.some.inj h
            exact r_iret S d hr rfl rfl dX9_told_78
        · replace h := it_p cc h
          refine lv_aload_n S.1 S.2.1 dX9_told_41 rfl (lv_at hl 1 rfl) ?_
          refine gf_20_6 S d hk0 fl_RX9_28 dX9_told_42 ?_
          refine lv_bipush (v := 8) S.1 S.2.1 dX9_told_45 (by decide) ?_
          refine lv_iload_n S.1 S.2.1 dX9_told_47 rfl (lv_at hl 2 rfl) ?_
          refine lv_imul S.1 S.2.1 dX9_told_48 ?_
          refine lv_iconst (v := 1) S.1 S.2.1 dX9_told_49 (by decide) ?_
          refine lv_iadd S.1 S.2.1 dX9_told_50 ?_
          obtain ⟨g4, h⟩ := gd_e h
          refine r_iald S d (ksdM S (ch_20_6 hk0).1) (wc_21 (ch_20_6 hk0).1) (ch_20_6 hk0).2 g4 dX9_told_51 ?_
          refine lv_goto (tgt := 78) S.1 S.2.1 dX9_told_52 (by decide) ?_
          obtain rfl := Option.some.inj h
          exact r_iret S d hr rfl rfl dX9_told_78
      · replace h := it_p cc h
        refine lv_iload_n S.1 S.2.1 dX9_told_31 rfl (lv_at hl 0 rfl) ?_
        refine lv_goto (tgt := 78) S.1 S.2.1 dX9_told_32 (by decide) ?_
        obtain rfl := Option.some.inj h
        exact r_iret S d hr rfl rfl dX9_told_78
    · replace h := it_n cc h
      refine lv_iconst (v := (-1)) S.1 S.2.1 dX9_told_14 (by decide) ?_
      obtain rfl := Option.some.inj h
      exact r_iret S d hr rfl rfl dX9_told_15
theorem hyV_X9_pay : yX9_pay.cls = RX9 ∧ yX9_pay.cls ≠ "java/lang/invoke/MethodHandle" ∧ yX9_pay.cls ≠ "java/lang/invoke/VarHandle" ∧ (parseMethodDescriptor yX9_pay.desc).map (fun d => d.parameters.length) = some 2 := by decide +kernel
abbrev rm_X9_pay : Room := { frames := 2, cells := 0, slots := 0, locals := 46 }
def f_X9_pay (M : Mem) (k0 : Nat) (a1 : Int32) (a2 : Int32) : Option (Int32 × Mem) :=
  (f_X9_isWord M k0 a1).bind (fun u1 =>
  (if u1 = 0 then some ((-1 : Int32), M)
  else (f_X9_in ((a2).toInt64) (0 : Int64) (99 : Int64)).bind (fun u2 =>
    (if u2 = 0 then some ((-1 : Int32), M)
    else gd (inb (((8 : Int32) * a1) + (1 : Int32)) 80) (
      lt ((M (k0 + 7) (((8 : Int32) * a1) + (1 : Int32)).toNatClampNeg)) (fun v4 : Int32 =>
      gd (inb (((8 : Int32) * a1) + (1 : Int32)) 80) (
      lt (up M (k0 + 7) (((8 : Int32) * a1) + (1 : Int32)).toNatClampNeg a2) (fun M6 : Mem =>
      some (v4, M6)))))))))
set_option maxHeartbeats 4000000 in
set_option maxRecDepth 100000 in
theorem c_X9_pay (l : Launch) (G : Gx) (M : Mem) (L : MemL) (k0 : Nat) (a1 : Int32) (a2 : Int32) (hk0 : kd k0 = 20) {z : Int32 × Mem} (h : f_X9_pay M k0 a1 a2 = some z) : Met l yX9_pay (.code yX9_pay cX9_pay 4 (Option.some Jvm.ClassFile.FieldType.int) :: UW) rm_X9_pay (va_Pc [.ref (ad G k0), .int a1, .int a2] (PreG G true M L)) (Qi G z.1 z.2 L) 0 0 (gA G) := by
  refine r_in (by decide) (fun p e s m args below meth c S hr d ha ls hl => ?_) (Nat.le_of_ble_eq_true rfl)
  have S : Sx G true p s m args meth c cX9_pay 4 RX9 := S
  have hl : lv_has ls 4 [(0, .ref (ad G k0)), (1, .int a1), (2, .int a2)] := hl
  unfold f_X9_pay at h
  refine lv_aload_n S.1 S.2.1 dX9_pay_0 rfl (lv_at hl 0 rfl) ?_
  refine lv_iload_n S.1 S.2.1 dX9_pay_1 rfl (lv_at hl 1 rfl) ?_
  obtain ⟨u1, hu1, h⟩ := bd_e h
  refine r_ri d (r_cV (As := [.int a1]) (rest := []) S d (c_X9_isWord l G M L k0 a1 hk0 hu1) (ksdM S hk0) (wc_20 hk0) rfl ml_RX9_174 im_yX9_isWord se_yX9_isWord in_RX9 co_yX9_isWord hyV_X9_isWord ⟨rfl, rfl⟩ ⟨by decide, by decide⟩ rfl hl rfl (Nat.le_of_ble_eq_true rfl) dX9_pay_2 ⟨Nat.zero_le _, Nat.zero_le _⟩) (fun H locs d => ?_)
  refine lv_if_eq (tgt := 20) S.1 S.2.1 dX9_pay_5 (by decide) (fun cc => ?_) (fun cc => ?_)
  · replace h := it_p cc h
    refine lv_iconst (v := (-1)) S.1 S.2.1 dX9_pay_20 (by decide) ?_
    obtain rfl := Option.some.inj h
    exact r_iret S d hr rfl rfl dX9_pay_21
  · replace h := it_n cc h
    refine lv_iload_n S.1 S.2.1 dX9_pay_8 rfl (lv_at hl 2 rfl) ?_
    refine lv_i2l S.1 S.2.1 dX9_pay_9 rfl ?_
    refine lv_lconst (v := 0) S.1 S.2.1 dX9_pay_10 (by decide) ?_
    refine lv_ldc2 (v := 99) S.1 S.2.1 S.2.2.2.1 (S.uw cn_RX9_177) dX9_pay_11 ?_
    obtain ⟨u2, hu2, h⟩ := bd_e h
    refine r_ri d (r_cS (As := [.long ((a2).toInt64), .long (0 : Int64), .long (99 : Int64)]) (rest := []) S d (c_X9_in l G M L ((a2).toInt64) (0 : Int64) (99 : Int64) hu2) ml_RX9_75 sm_yX9_in in_RX9 co_yX9_in hyS_X9_in ⟨rfl, rfl⟩ ⟨by decide, by decide⟩ rfl hl rfl (Nat.le_of_ble_eq_true rfl) dX9_pay_14 ⟨Nat.zero_le _, Nat.zero_le _⟩) (fun H locs d => ?_)
    refine lv_if_ne (tgt := 22) S.1 S.2.1 dX9_pay_17 (by decide) (fun cc => ?_) (fun cc => ?_)
    · replace h := it_n cc h
      refine lv_aload_n S.1 S.2.1 dX9_pay_22 rfl (lv_at hl 0 rfl) ?_
      refine gf_20_6 S d hk0 fl_RX9_28 dX9_pay_23 ?_
      refine lv_bipush (v := 8) S.1 S.2.1 dX9_pay_26 (by decide) ?_
      refine lv_iload_n S.1 S.2.1 dX9_pay_28 rfl (lv_at hl 1 rfl) ?_
      refine lv_imul S.1 S.2.1 dX9_pay_29 ?_
      refine lv_iconst (v := 1) S.1 S.2.1 dX9_pay_30 (by decide) ?_
      refine lv_iadd S.1 S.2.1 dX9_pay_31 ?_
      obtain ⟨g3, h⟩ := gd_e h
      refine r_iald S d (ksdM S (ch_20_6 hk0).1) (wc_21 (ch_20_6 hk0).1) (ch_20_6 hk0).2 g3 dX9_pay_32 ?_
      obtain ⟨v4, ev4, h⟩ := lt_e h
      refine r_top ev4 ?_
      refine lv_istore_n (lv' := [(3, .int v4), (0, .ref (ad G k0)), (1, .int a1), (2, .int a2)]) S.1 S.2.1 dX9_pay_33 rfl hl (by decide) rfl (fun ls hl => ?_)
      refine lv_aload_n S.1 S.2.1 dX9_pay_34 rfl (lv_at hl 1 rfl) ?_
      refine gf_20_6 S d hk0 fl_RX9_28 dX9_pay_35 ?_
      refine lv_bipush (v := 8) S.1 S.2.1 dX9_pay_38 (by decide) ?_
      refine lv_iload_n S.1 S.2.1 dX9_pay_40 rfl (lv_at hl 2 rfl) ?_
      refine lv_imul S.1 S.2.1 dX9_pay_41 ?_
      refine lv_iconst (v := 1) S.1 S.2.1 dX9_pay_42 (by decide) ?_
      refine lv_iadd S.1 S.2.1 dX9_pay_43 ?_
      refine lv_iload_n S.1 S.2.1 dX9_pay_44 rfl (lv_at hl 3 rfl) ?_
      obtain ⟨g5, h⟩ := gd_e h
      obtain ⟨M6, eM6, h⟩ := lt_e h
      refine r_iast S d eM6 (ksdM S (ch_20_6 hk0).1) (fun _ => wc_21 (ch_20_6 hk0).1) (ch_20_6 hk0).2 g5 dX9_pay_45 (fun H locs d => ?_)
      refine lv_iload_n S.1 S.2.1 dX9_pay_46 rfl (lv_at hl 0 rfl) ?_
      obtain rfl := Option.some.inj h
      exact r_iret S d hr rfl rfl dX9_pay_47
    · replace h := it_p cc h
      refine lv_iconst (v := (-1)) S.1 S.2.1 dX9_pay_20 (by decide) ?_
      obtain rfl := Option.some.inj h
      exact r_iret S d hr rfl rfl dX9_pay_21
theorem hyV_X9_feud : yX9_feud.cls = RX9 ∧ yX9_feud.cls ≠ "java/lang/invoke/MethodHandle" ∧ yX9_feud.cls ≠ "java/lang/invoke/VarHandle" ∧ (parseMethodDescriptor yX9_feud.desc).map (fun d => d.parameters.length) = some 3 := by decide +kernel
abbrev rm_X9_feud : Room := { frames := 1, cells := 0, slots := 0, locals := 25 }
def f_X9_feud (M : Mem) (k0 : Nat) (a1 : Int32) (a2 : Int32) (a3 : Int32) : Option (Int32 × Mem) :=
  (f_X9_in ((a1).toInt64) (0 : Int64) (5 : Int64)).bind (fun u1 =>
  (if u1 = 0 then some ((-1 : Int32), M)
  else (f_X9_in ((a2).toInt64) (0 : Int64) (5 : Int64)).bind (fun u2 =>
    (if u2 = 0 then some ((-1 : Int32), M)
    else (if a1 = a2 then some ((-1 : Int32), M)
      else gd (inb (((6 : Int32) * a1) + a2) 36) (
        lt ((M (k0 + 6) (((6 : Int32) * a1) + a2).toNatClampNeg)) (fun v4 : Int32 =>
        (if a3 = 0 then some (0 : Int32)
        else some (1 : Int32)).bind (fun t5 : Int32 =>
        gd (inb (((6 : Int32) * a1) + a2) 36) (
        lt (up M (k0 + 6) (((6 : Int32) * a1) + a2).toNatClampNeg t5) (fun M8 : Mem =>
        (if a3 = 0 then some (0 : Int32)
        else some (1 : Int32)).bind (fun t9 : Int32 =>
        gd (inb (((6 : Int32) * a2) + a1) 36) (
        lt (up M8 (k0 + 6) (((6 : Int32) * a2) + a1).toNatClampNeg t9) (fun M12 : Mem =>
        some (v4, M12))))))))))))))
set_option maxHeartbeats 4000000 in
set_option maxRecDepth 100000 in
theorem c_X9_feud (l : Launch) (G : Gx) (M : Mem) (L : MemL) (k0 : Nat) (a1 : Int32) (a2 : Int32) (a3 : Int32) (hk0 : kd k0 = 20) {z : Int32 × Mem} (h : f_X9_feud M k0 a1 a2 a3 = some z) : Met l yX9_feud (.code yX9_feud cX9_feud 5 (Option.some Jvm.ClassFile.FieldType.int) :: UW) rm_X9_feud (va_Pc [.ref (ad G k0), .int a1, .int a2, .int a3] (PreG G true M L)) (Qi G z.1 z.2 L) 0 0 (gA G) := by
  refine r_in (by decide) (fun p e s m args below meth c S hr d ha ls hl => ?_) (Nat.le_of_ble_eq_true rfl)
  have S : Sx G true p s m args meth c cX9_feud 5 RX9 := S
  have hl : lv_has ls 5 [(0, .ref (ad G k0)), (1, .int a1), (2, .int a2), (3, .int a3)] := hl
  unfold f_X9_feud at h
  refine lv_iload_n S.1 S.2.1 dX9_feud_0 rfl (lv_at hl 1 rfl) ?_
  refine lv_i2l S.1 S.2.1 dX9_feud_1 rfl ?_
  refine lv_lconst (v := 0) S.1 S.2.1 dX9_feud_2 (by decide) ?_
  refine lv_ldc2 (v := 5) S.1 S.2.1 S.2.2.2.1 (S.uw cn_RX9_86) dX9_feud_3 ?_
  obtain ⟨u1, hu1, h⟩ := bd_e h
  refine r_ri d (r_cS (As := [.long ((a1).toInt64), .long (0 : Int64), .long (5 : Int64)]) (rest := []) S d (c_X9_in l G M L ((a1).toInt64) (0 : Int64) (5 : Int64) hu1) ml_RX9_75 sm_yX9_in in_RX9 co_yX9_in hyS_X9_in ⟨rfl, rfl⟩ ⟨by decide, by decide⟩ rfl hl rfl (Nat.le_of_ble_eq_true rfl) dX9_feud_6 ⟨Nat.zero_le _, Nat.zero_le _⟩) (fun H locs d => ?_)
  refine lv_if_eq (tgt := 29) S.1 S.2.1 dX9_feud_9 (by decide) (fun cc => ?_) (fun cc => ?_)
  · replace h := it_p cc h
    refine lv_iconst (v := (-1)) S.1 S.2.1 dX9_feud_29 (by decide) ?_
    obtain rfl := Option.some.inj h
    exact r_iret S d hr rfl rfl dX9_feud_30
  · replace h := it_n cc h
    refine lv_iload_n S.1 S.2.1 dX9_feud_12 rfl (lv_at hl 2 rfl) ?_
    refine lv_i2l S.1 S.2.1 dX9_feud_13 rfl ?_
    refine lv_lconst (v := 0) S.1 S.2.1 dX9_feud_14 (by decide) ?_
    refine lv_ldc2 (v := 5) S.1 S.2.1 S.2.2.2.1 (S.uw cn_RX9_86) dX9_feud_15 ?_
    obtain ⟨u2, hu2, h⟩ := bd_e h
    refine r_ri d (r_cS (As := [.long ((a2).toInt64), .long (0 : Int64), .long (5 : Int64)]) (rest := []) S d (c_X9_in l G M L ((a2).toInt64) (0 : Int64) (5 : Int64) hu2) ml_RX9_75 sm_yX9_in in_RX9 co_yX9_in hyS_X9_in ⟨rfl, rfl⟩ ⟨by decide, by decide⟩ rfl hl rfl (Nat.le_of_ble_eq_true rfl) dX9_feud_18 ⟨Nat.zero_le _, Nat.zero_le _⟩) (fun H locs d => ?_)
    refine lv_if_eq (tgt := 29) S.1 S.2.1 dX9_feud_21 (by decide) (fun cc => ?_) (fun cc => ?_)
    · replace h := it_p cc h
      refine lv_iconst (v := (-1)) S.1 S.2.1 dX9_feud_29 (by decide) ?_
      obtain rfl := Option.some.inj h
      exact r_iret S d hr rfl rfl dX9_feud_30
    · replace h := it_n cc h
      refine lv_iload_n S.1 S.2.1 dX9_feud_24 rfl (lv_at hl 1 rfl) ?_
      refine lv_iload_n S.1 S.2.1 dX9_feud_25 rfl (lv_at hl 2 rfl) ?_
      refine lv_icmp_ne (tgt := 31) S.1 S.2.1 dX9_feud_26 (by decide) (fun cc => ?_) (fun cc => ?_)
      · replace h := it_n cc h
        refine lv_aload_n S.1 S.2.1 dX9_feud_31 rfl (lv_at hl 0 rfl) ?_
        refine gf_20_5 S d hk0 fl_RX9_25 dX9_feud_32 ?_
        refine lv_bipush (v := 6) S.1 S.2.1 dX9_feud_35 (by decide) ?_
        refine lv_iload_n S.1 S.2.1 dX9_feud_37 rfl (lv_at hl 1 rfl) ?_
        refine lv_imul S.1 S.2.1 dX9_feud_38 ?_
        refine lv_iload_n S.1 S.2.1 dX9_feud_39 rfl (lv_at hl 2 rfl) ?_
        refine lv_iadd S.1 S.2.1 dX9_feud_40 ?_
        obtain ⟨g3, h⟩ := gd_e h
        refine r_iald S d (ksdM S (ch_20_5 hk0).1) (wc_21 (ch_20_5 hk0).1) (ch_20_5 hk0).2 g3 dX9_feud_41 ?_
        obtain ⟨v4, ev4, h⟩ := lt_e h
        refine r_top ev4 ?_
        refine lv_istore (lv' := [(4, .int v4), (0, .ref (ad G k0)), (1, .int a1), (2, .int a2), (3, .int a3)]) S.1 S.2.1 dX9_feud_42 hl (by decide) rfl (fun ls hl => ?_)
        refine lv_aload_n S.1 S.2.1 dX9_feud_44 rfl (lv_at hl 1 rfl) ?_
        refine gf_20_5 S d hk0 fl_RX9_25 dX9_feud_45 ?_
        refine lv_bipush (v := 6) S.1 S.2.1 dX9_feud_48 (by decide) ?_
        refine lv_iload_n S.1 S.2.1 dX9_feud_50 rfl (lv_at hl 2 rfl) ?_
        refine lv_imul S.1 S.2.1 dX9_feud_51 ?_
        refine lv_iload_n S.1 S.2.1 dX9_feud_52 rfl (lv_at hl 3 rfl) ?_
        refine lv_iadd S.1 S.2.1 dX9_feud_53 ?_
        refine lv_iload_n S.1 S.2.1 dX9_feud_54 rfl (lv_at hl 4 rfl) ?_
        obtain ⟨t5, g6, h⟩ := bd_e h
        have Jt5 : ∀ (H : Heap) (locs : List Loc), Dy G s M L H locs → W p l e rm_X9_feud s m args below meth c H locs 0 0 (MQ below (Qi G z.1 z.2 L) args s 0 0 (gA G)) (F0 m 63 ls [.int t5, .int (((6 : Int32) * a1) + a2), .ref (ad G (k0 + 6))]) := by
          intro H locs d
          obtain ⟨g7, h⟩ := gd_e h
          obtain ⟨M8, eM8, h⟩ := lt_e h
          refine r_iast S d eM8 (ksdM S (ch_20_5 hk0).1) (fun _ => wc_21 (ch_20_5 hk0).1) (ch_20_5 hk0).2 g7 dX9_feud_63 (fun H locs d => ?_)
          refine lv_aload_n S.1 S.2.1 dX9_feud_64 rfl (lv_at hl 1 rfl) ?_
          refine gf_20_5 S d hk0 fl_RX9_25 dX9_feud_65 ?_
          refine lv_bipush (v := 6) S.1 S.2.1 dX9_feud_68 (by decide) ?_
          refine lv_iload_n S.1 S.2.1 dX9_feud_70 rfl (lv_at hl 3 rfl) ?_
          refine lv_imul S.1 S.2.1 dX9_feud_71 ?_
          refine lv_iload_n S.1 S.2.1 dX9_feud_72 rfl (lv_at hl 2 rfl) ?_
          refine lv_iadd S.1 S.2.1 dX9_feud_73 ?_
          refine lv_iload_n S.1 S.2.1 dX9_feud_74 rfl (lv_at hl 4 rfl) ?_
          obtain ⟨t9, g10, h⟩ := bd_e h
          have Jt9 : ∀ (H : Heap) (locs : List Loc), Dy G s M8 L H locs → W p l e rm_X9_feud s m args below meth c H locs 0 0 (MQ below (Qi G z.1 z.2 L) args s 0 0 (gA G)) (F0 m 83 ls [.int t9, .int (((6 : Int32) * a2) + a1), .ref (ad G (k0 + 6))]) := by
            intro H locs d
            obtain ⟨g11, h⟩ := gd_e h
            obtain ⟨M12, eM12, h⟩ := lt_e h
            refine r_iast S d eM12 (ksdM S (ch_20_5 hk0).1) (fun _ => wc_21 (ch_20_5 hk0).1) (ch_20_5 hk0).2 g11 dX9_feud_83 (fun H locs d => ?_)
            refine lv_iload S.1 S.2.1 dX9_feud_84 (lv_at hl 0 rfl) ?_
            obtain rfl := Option.some.inj h
            exact r_iret S d hr rfl rfl dX9_feud_86
          have h := g10
          refine lv_if_eq (tgt := 82) S.1 S.2.1 dX9_feud_75 (by decide) (fun cc => ?_) (fun cc => ?_)
          · replace h := it_p cc h
            refine lv_iconst (v := 0) S.1 S.2.1 dX9_feud_82 (by decide) ?_
            obtain ej := Option.some.inj h
            refine r_top ej.symm ?_
            exact Jt9 _ _ d
          · replace h := it_n cc h
            refine lv_iconst (v := 1) S.1 S.2.1 dX9_feud_78 (by decide) ?_
            refine lv_goto (tgt := 83) S.1 S.2.1 dX9_feud_79 (by decide) ?_
            obtain ej := Option.some.inj h
            refine r_top ej.symm ?_
            exact Jt9 _ _ d
        have h := g6
        refine lv_if_eq (tgt := 62) S.1 S.2.1 dX9_feud_55 (by decide) (fun cc => ?_) (fun cc => ?_)
        · replace h := it_p cc h
          refine lv_iconst (v := 0) S.1 S.2.1 dX9_feud_62 (by decide) ?_
          obtain ej := Option.some.inj h
          refine r_top ej.symm ?_
          exact Jt5 _ _ d
        · replace h := it_n cc h
          refine lv_iconst (v := 1) S.1 S.2.1 dX9_feud_58 (by decide) ?_
          refine lv_goto (tgt := 63) S.1 S.2.1 dX9_feud_59 (by decide) ?_
          obtain ej := Option.some.inj h
          refine r_top ej.symm ?_
          exact Jt5 _ _ d
      · replace h := it_p cc h
        refine lv_iconst (v := (-1)) S.1 S.2.1 dX9_feud_29 (by decide) ?_
        obtain rfl := Option.some.inj h
        exact r_iret S d hr rfl rfl dX9_feud_30
theorem hyV_X9_count : yX9_count.cls = RX9 ∧ yX9_count.cls ≠ "java/lang/invoke/MethodHandle" ∧ yX9_count.cls ≠ "java/lang/invoke/VarHandle" ∧ (parseMethodDescriptor yX9_count.desc).map (fun d => d.parameters.length) = some 1 := by decide +kernel
abbrev rm_X9_count : Room := { frames := 0, cells := 0, slots := 0, locals := 0 }
def lp_X9_count_4 (fu : Nat) (M : Mem) (b0 : Nat) (b1 : Int32) (K : Int32 → Option (Int32)) : Nat → Int32 → Int32 → Option (Int32)
  | 0, _, _ => none
  | n + 1, x2, x3 =>
    (if (36 : Int32) ≤ x3 then (K x2)
    else gd (inb x3 36) (
      lt ((x2 + (M (b0 + 6) x3.toNatClampNeg))) (fun v2 : Int32 =>
      lt (x3 + 1) (fun v3 : Int32 =>
      (lp_X9_count_4 fu M b0 b1 K n v2 v3)))))
def lp_X9_count_30 (fu : Nat) (M : Mem) (b0 : Nat) (b1 : Int32) (b2 : Int32) (K : Int32 → Option (Int32)) : Nat → Int32 → Int32 → Option (Int32)
  | 0, _, _ => none
  | n + 1, x3, x4 =>
    (if (6 : Int32) ≤ x4 then (K x3)
    else gd (inb x4 6) (
      lt ((x3 + (M (b0 + 4) x4.toNatClampNeg))) (fun v6 : Int32 =>
      lt (x4 + 1) (fun v7 : Int32 =>
      (lp_X9_count_30 fu M b0 b1 b2 K n v6 v7)))))
def f_X9_count (fu : Nat) (M : Mem) (k0 : Nat) (a1 : Int32) : Option (Int32) :=
  (lp_X9_count_4 fu M k0 a1 (fun (v4 : Int32) =>
    (lp_X9_count_30 fu M k0 a1 v4 (fun (v8 : Int32) =>
      (if a1 = 0 then some ((M k0 7))
      else (if a1 = (1 : Int32) then some ((M k0 8))
        else (if a1 = (2 : Int32) then gd (decide (¬ (2 : Int32) = 0)) (
            some ((v4 / (2 : Int32))))
          else (if a1 = (3 : Int32) then some (v8)
            else some ((-1 : Int32))))))) fu (0 : Int32) (0 : Int32))) fu (0 : Int32) (0 : Int32))
set_option maxHeartbeats 4000000 in
set_option maxRecDepth 100000 in
theorem lc_X9_count_4 {p : Program} {l : Launch} {e : Env} {s : State} {m : MethodId} {args : Array Value} {below : List Frame} {meth : Method} {c : Code} {G : Gx} {M : Mem} {L : MemL} {fu : Nat} {b0 : Nat} {b1 : Int32} {z : Int32} (S : Sx G true p s m args meth c cX9_count 5 RX9) (hr : meth.sig.returnType = (Option.some Jvm.ClassFile.FieldType.int)) (hb0 : kd b0 = 20) (K : Int32 → Option (Int32)) (hK : ∀ (y2 : Int32) (H : Heap) (locs : List Loc), Dy G s M L H locs → ∀ ls : Array Slot, lv_has ls 5 [(0, .ref (ad G b0)), (1, .int b1), (2, .int y2)] → K y2 = some z → W p l e rm_X9_count s m args below meth c H locs 0 0 (MQ below (Qi G z M L) args s 0 0 (gA G)) (F0 m 25 ls [])) :
    ∀ (n : Nat) (x2 : Int32) (x3 : Int32), lp_X9_count_4 fu M b0 b1 K n x2 x3 = some z → ∀ (H : Heap) (locs : List Loc), Dy G s M L H locs → ∀ ls : Array Slot, lv_has ls 5 [(0, .ref (ad G b0)), (1, .int b1), (2, .int x2), (3, .int x3)] → W p l e rm_X9_count s m args below meth c H locs 0 0 (MQ below (Qi G z M L) args s 0 0 (gA G)) (F0 m 4 ls []) := by
  intro n
  induction n with
  | zero =>
    intro x2 x3 h
    have h : (none : Option (Int32)) = some z := h
    cases h
  | succ n ih =>
    intro x2 x3 h H locs d ls hl
    rw [lp_X9_count_4] at h
    refine lv_iload_n S.1 S.2.1 dX9_count_4 rfl (lv_at hl 3 rfl) ?_
    refine lv_bipush (v := 36) S.1 S.2.1 dX9_count_5 (by decide) ?_
    refine lv_icmp_ge (tgt := 25) S.1 S.2.1 dX9_count_7 (by decide) (fun cc => ?_) (fun cc => ?_)
    · replace h := it_p cc h
      exact hK _ _ _ d _ (lv_sub hl [0, 1, 2] rfl) h
    · replace h := it_n cc h
      refine lv_iload_n S.1 S.2.1 dX9_count_10 rfl (lv_at hl 2 rfl) ?_
      refine lv_aload_n S.1 S.2.1 dX9_count_11 rfl (lv_at hl 0 rfl) ?_
      refine gf_20_5 S d hb0 fl_RX9_25 dX9_count_12 ?_
      refine lv_iload_n S.1 S.2.1 dX9_count_15 rfl (lv_at hl 3 rfl) ?_
      obtain ⟨g1, h⟩ := gd_e h
      refine r_iald S d (ksdM S (ch_20_5 hb0).1) (wc_21 (ch_20_5 hb0).1) (ch_20_5 hb0).2 g1 dX9_count_16 ?_
      refine lv_iadd S.1 S.2.1 dX9_count_17 ?_
      obtain ⟨v2, ev2, h⟩ := lt_e h
      refine r_top ev2 ?_
      refine lv_istore_n (lv' := [(2, .int v2), (0, .ref (ad G b0)), (1, .int b1), (3, .int x3)]) S.1 S.2.1 dX9_count_18 rfl hl (by decide) rfl (fun ls hl => ?_)
      obtain ⟨v3, ev3, h⟩ := lt_e h
      refine lv_iinc (v := v3) (lv' := [(3, .int v3), (2, .int v2), (0, .ref (ad G b0)), (1, .int b1)]) S.1 S.2.1 dX9_count_19 hl (k := 3) rfl (by rw [ev3]; rfl) (by decide) rfl (fun ls hl => ?_)
      refine lv_goto (tgt := 4) S.1 S.2.1 dX9_count_22 (by decide) ?_
      exact ih _ _ h _ _ d _ (lv_sub hl [2, 3, 1, 0] rfl)
set_option maxHeartbeats 4000000 in
set_option maxRecDepth 100000 in
theorem lc_X9_count_30 {p : Program} {l : Launch} {e : Env} {s : State} {m : MethodId} {args : Array Value} {below : List Frame} {meth : Method} {c : Code} {G : Gx} {M : Mem} {L : MemL} {fu : Nat} {b0 : Nat} {b1 : Int32} {b2 : Int32} {z : Int32} (S : Sx G true p s m args meth c cX9_count 5 RX9) (hr : meth.sig.returnType = (Option.some Jvm.ClassFile.FieldType.int)) (hb0 : kd b0 = 20) (K : Int32 → Option (Int32)) (hK : ∀ (y3 : Int32) (H : Heap) (locs : List Loc), Dy G s M L H locs → ∀ ls : Array Slot, lv_has ls 5 [(0, .ref (ad G b0)), (1, .int b1), (2, .int b2), (3, .int y3)] → K y3 = some z → W p l e rm_X9_count s m args below meth c H locs 0 0 (MQ below (Qi G z M L) args s 0 0 (gA G)) (F0 m 53 ls [])) :
    ∀ (n : Nat) (x3 : Int32) (x4 : Int32), lp_X9_count_30 fu M b0 b1 b2 K n x3 x4 = some z → ∀ (H : Heap) (locs : List Loc), Dy G s M L H locs → ∀ ls : Array Slot, lv_has ls 5 [(0, .ref (ad G b0)), (1, .int b1), (2, .int b2), (3, .int x3), (4, .int x4)] → W p l e rm_X9_count s m args below meth c H locs 0 0 (MQ below (Qi G z M L) args s 0 0 (gA G)) (F0 m 30 ls []) := by
  intro n
  induction n with
  | zero =>
    intro x3 x4 h
    have h : (none : Option (Int32)) = some z := h
    cases h
  | succ n ih =>
    intro x3 x4 h H locs d ls hl
    rw [lp_X9_count_30] at h
    refine lv_iload S.1 S.2.1 dX9_count_30 (lv_at hl 4 rfl) ?_
    refine lv_bipush (v := 6) S.1 S.2.1 dX9_count_32 (by decide) ?_
    refine lv_icmp_ge (tgt := 53) S.1 S.2.1 dX9_count_34 (by decide) (fun cc => ?_) (fun cc => ?_)
    · replace h := it_p cc h
      exact hK _ _ _ d _ (lv_sub hl [0, 1, 2, 3] rfl) h
    · replace h := it_n cc h
      refine lv_iload_n S.1 S.2.1 dX9_count_37 rfl (lv_at hl 3 rfl) ?_
      refine lv_aload_n S.1 S.2.1 dX9_count_38 rfl (lv_at hl 0 rfl) ?_
      refine gf_20_3 S d hb0 fl_RX9_19 dX9_count_39 ?_
      refine lv_iload S.1 S.2.1 dX9_count_42 (lv_at hl 4 rfl) ?_
      obtain ⟨g5, h⟩ := gd_e h
      refine r_iald S d (ksdM S (ch_20_3 hb0).1) (wc_21 (ch_20_3 hb0).1) (ch_20_3 hb0).2 g5 dX9_count_44 ?_
      refine lv_iadd S.1 S.2.1 dX9_count_45 ?_
      obtain ⟨v6, ev6, h⟩ := lt_e h
      refine r_top ev6 ?_
      refine lv_istore_n (lv' := [(3, .int v6), (0, .ref (ad G b0)), (1, .int b1), (2, .int b2), (4, .int x4)]) S.1 S.2.1 dX9_count_46 rfl hl (by decide) rfl (fun ls hl => ?_)
      obtain ⟨v7, ev7, h⟩ := lt_e h
      refine lv_iinc (v := v7) (lv' := [(4, .int v7), (3, .int v6), (0, .ref (ad G b0)), (1, .int b1), (2, .int b2)]) S.1 S.2.1 dX9_count_47 hl (k := 4) rfl (by rw [ev7]; rfl) (by decide) rfl (fun ls hl => ?_)
      refine lv_goto (tgt := 30) S.1 S.2.1 dX9_count_50 (by decide) ?_
      exact ih _ _ h _ _ d _ (lv_sub hl [2, 3, 4, 1, 0] rfl)
set_option maxHeartbeats 4000000 in
set_option maxRecDepth 100000 in
theorem c_X9_count (l : Launch) (G : Gx) (M : Mem) (L : MemL) (fu : Nat) (k0 : Nat) (a1 : Int32) (hk0 : kd k0 = 20) {z : Int32} (h : f_X9_count fu M k0 a1 = some z) : Met l yX9_count (.code yX9_count cX9_count 5 (Option.some Jvm.ClassFile.FieldType.int) :: UW) rm_X9_count (va_Pc [.ref (ad G k0), .int a1] (PreG G true M L)) (Qi G z M L) 0 0 (gA G) := by
  refine r_in (by decide) (fun p e s m args below meth c S hr d ha ls hl => ?_) (Nat.le_of_ble_eq_true rfl)
  have S : Sx G true p s m args meth c cX9_count 5 RX9 := S
  have hl : lv_has ls 5 [(0, .ref (ad G k0)), (1, .int a1)] := hl
  unfold f_X9_count at h
  refine lv_iconst (v := 0) S.1 S.2.1 dX9_count_0 (by decide) ?_
  refine lv_istore_n (lv' := [(2, .int (0 : Int32)), (0, .ref (ad G k0)), (1, .int a1)]) S.1 S.2.1 dX9_count_1 rfl hl (by decide) rfl (fun ls hl => ?_)
  refine lv_iconst (v := 0) S.1 S.2.1 dX9_count_2 (by decide) ?_
  refine lv_istore_n (lv' := [(3, .int (0 : Int32)), (2, .int (0 : Int32)), (0, .ref (ad G k0)), (1, .int a1)]) S.1 S.2.1 dX9_count_3 rfl hl (by decide) rfl (fun ls hl => ?_)
  refine lc_X9_count_4 S hr hk0 _ (fun v4 H locs d ls hl h => ?_) _ _ _  h _ _ d _ (lv_sub hl [2, 3, 1, 0] rfl)
  refine lv_iconst (v := 0) S.1 S.2.1 dX9_count_25 (by decide) ?_
  refine lv_istore_n (lv' := [(3, .int (0 : Int32)), (0, .ref (ad G k0)), (1, .int a1), (2, .int v4)]) S.1 S.2.1 dX9_count_26 rfl hl (by decide) rfl (fun ls hl => ?_)
  refine lv_iconst (v := 0) S.1 S.2.1 dX9_count_27 (by decide) ?_
  refine lv_istore (lv' := [(4, .int (0 : Int32)), (3, .int (0 : Int32)), (0, .ref (ad G k0)), (1, .int a1), (2, .int v4)]) S.1 S.2.1 dX9_count_28 hl (by decide) rfl (fun ls hl => ?_)
  refine lc_X9_count_30 S hr hk0 _ (fun v8 H locs d ls hl h => ?_) _ _ _  h _ _ d _ (lv_sub hl [2, 3, 4, 1, 0] rfl)
  refine lv_iload_n S.1 S.2.1 dX9_count_53 rfl (lv_at hl 1 rfl) ?_
  refine lv_if_ne (tgt := 64) S.1 S.2.1 dX9_count_54 (by decide) (fun cc => ?_) (fun cc => ?_)
  · replace h := it_n cc h
    refine lv_iload_n S.1 S.2.1 dX9_count_64 rfl (lv_at hl 1 rfl) ?_
    refine lv_iconst (v := 1) S.1 S.2.1 dX9_count_65 (by decide) ?_
    refine lv_icmp_ne (tgt := 76) S.1 S.2.1 dX9_count_66 (by decide) (fun cc => ?_) (fun cc => ?_)
    · replace h := it_n cc h
      refine lv_iload_n S.1 S.2.1 dX9_count_76 rfl (lv_at hl 1 rfl) ?_
      refine lv_iconst (v := 2) S.1 S.2.1 dX9_count_77 (by decide) ?_
      refine lv_icmp_ne (tgt := 87) S.1 S.2.1 dX9_count_78 (by decide) (fun cc => ?_) (fun cc => ?_)
      · replace h := it_n cc h
        refine lv_iload_n S.1 S.2.1 dX9_count_87 rfl (lv_at hl 1 rfl) ?_
        refine lv_iconst (v := 3) S.1 S.2.1 dX9_count_88 (by decide) ?_
        refine lv_icmp_ne (tgt := 96) S.1 S.2.1 dX9_count_89 (by decide) (fun cc => ?_) (fun cc => ?_)
        · replace h := it_n cc h
          refine lv_iconst (v := (-1)) S.1 S.2.1 dX9_count_96 (by decide) ?_
          obtain rfl := Option.some.inj h
          exact r_iret S d hr rfl rfl dX9_count_97
        · replace h := it_p cc h
          refine lv_iload_n S.1 S.2.1 dX9_count_92 rfl (lv_at hl 3 rfl) ?_
          refine lv_goto (tgt := 97) S.1 S.2.1 dX9_count_93 (by decide) ?_
          obtain rfl := Option.some.inj h
          exact r_iret S d hr rfl rfl dX9_count_97
      · replace h := it_p cc h
        refine lv_iload_n S.1 S.2.1 dX9_count_81 rfl (lv_at hl 2 rfl) ?_
        refine lv_iconst (v := 2) S.1 S.2.1 dX9_count_82 (by decide) ?_
        obtain ⟨g9, h⟩ := gd_e h
        refine lv_idiv S.1 S.2.1 dX9_count_83 (of_decide_eq_true g9) ?_
        refine lv_goto (tgt := 97) S.1 S.2.1 dX9_count_84 (by decide) ?_
        obtain rfl := Option.some.inj h
        exact r_iret S d hr rfl rfl dX9_count_97
    · replace h := it_p cc h
      refine lv_aload_n S.1 S.2.1 dX9_count_69 rfl (lv_at hl 0 rfl) ?_
      refine gf_20_8 S d hk0 fl_RX9_83 dX9_count_70 ?_
      refine lv_goto (tgt := 97) S.1 S.2.1 dX9_count_73 (by decide) ?_
      obtain rfl := Option.some.inj h
      exact r_iret S d hr rfl rfl dX9_count_97
  · replace h := it_p cc h
    refine lv_aload_n S.1 S.2.1 dX9_count_57 rfl (lv_at hl 0 rfl) ?_
    refine gf_20_7 S d hk0 fl_RX9_71 dX9_count_58 ?_
    refine lv_goto (tgt := 97) S.1 S.2.1 dX9_count_61 (by decide) ?_
    obtain rfl := Option.some.inj h
    exact r_iret S d hr rfl rfl dX9_count_97
theorem hyV_X9_sizeOf : yX9_sizeOf.cls = RX9 ∧ yX9_sizeOf.cls ≠ "java/lang/invoke/MethodHandle" ∧ yX9_sizeOf.cls ≠ "java/lang/invoke/VarHandle" ∧ (parseMethodDescriptor yX9_sizeOf.desc).map (fun d => d.parameters.length) = some 1 := by decide +kernel
abbrev rm_X9_sizeOf : Room := { frames := 0, cells := 0, slots := 0, locals := 0 }
def f_X9_sizeOf (M : Mem) (k0 : Nat) (a1 : Int32) : Option (Int32) :=
  gd (inb ((8 : Int32) * a1) 80) (
  some ((M (k0 + 7) ((8 : Int32) * a1).toNatClampNeg)))
set_option maxHeartbeats 4000000 in
set_option maxRecDepth 100000 in
theorem c_X9_sizeOf (l : Launch) (G : Gx) (M : Mem) (L : MemL) (k0 : Nat) (a1 : Int32) (hk0 : kd k0 = 20) {z : Int32} (h : f_X9_sizeOf M k0 a1 = some z) : Met l yX9_sizeOf (.code yX9_sizeOf cX9_sizeOf 2 (Option.some Jvm.ClassFile.FieldType.int) :: UW) rm_X9_sizeOf (va_Pc [.ref (ad G k0), .int a1] (PreG G true M L)) (Qi G z M L) 0 0 (gA G) := by
  refine r_in (by decide) (fun p e s m args below meth c S hr d ha ls hl => ?_) (Nat.le_of_ble_eq_true rfl)
  have S : Sx G true p s m args meth c cX9_sizeOf 2 RX9 := S
  have hl : lv_has ls 2 [(0, .ref (ad G k0)), (1, .int a1)] := hl
  unfold f_X9_sizeOf at h
  refine lv_aload_n S.1 S.2.1 dX9_sizeOf_0 rfl (lv_at hl 0 rfl) ?_
  refine gf_20_6 S d hk0 fl_RX9_28 dX9_sizeOf_1 ?_
  refine lv_bipush (v := 8) S.1 S.2.1 dX9_sizeOf_4 (by decide) ?_
  refine lv_iload_n S.1 S.2.1 dX9_sizeOf_6 rfl (lv_at hl 1 rfl) ?_
  refine lv_imul S.1 S.2.1 dX9_sizeOf_7 ?_
  obtain ⟨g1, h⟩ := gd_e h
  refine r_iald S d (ksdM S (ch_20_6 hk0).1) (wc_21 (ch_20_6 hk0).1) (ch_20_6 hk0).2 g1 dX9_sizeOf_8 ?_
  obtain rfl := Option.some.inj h
  exact r_iret S d hr rfl rfl dX9_sizeOf_9
theorem hyV_X9_letterOf : yX9_letterOf.cls = RX9 ∧ yX9_letterOf.cls ≠ "java/lang/invoke/MethodHandle" ∧ yX9_letterOf.cls ≠ "java/lang/invoke/VarHandle" ∧ (parseMethodDescriptor yX9_letterOf.desc).map (fun d => d.parameters.length) = some 2 := by decide +kernel
abbrev rm_X9_letterOf : Room := { frames := 0, cells := 0, slots := 0, locals := 0 }
def f_X9_letterOf (M : Mem) (k0 : Nat) (a1 : Int32) (a2 : Int32) : Option (Int32) :=
  gd (inb ((((8 : Int32) * a1) + (2 : Int32)) + a2) 80) (
  some ((M (k0 + 7) ((((8 : Int32) * a1) + (2 : Int32)) + a2).toNatClampNeg)))
set_option maxHeartbeats 4000000 in
set_option maxRecDepth 100000 in
theorem c_X9_letterOf (l : Launch) (G : Gx) (M : Mem) (L : MemL) (k0 : Nat) (a1 : Int32) (a2 : Int32) (hk0 : kd k0 = 20) {z : Int32} (h : f_X9_letterOf M k0 a1 a2 = some z) : Met l yX9_letterOf (.code yX9_letterOf cX9_letterOf 3 (Option.some Jvm.ClassFile.FieldType.int) :: UW) rm_X9_letterOf (va_Pc [.ref (ad G k0), .int a1, .int a2] (PreG G true M L)) (Qi G z M L) 0 0 (gA G) := by
  refine r_in (by decide) (fun p e s m args below meth c S hr d ha ls hl => ?_) (Nat.le_of_ble_eq_true rfl)
  have S : Sx G true p s m args meth c cX9_letterOf 3 RX9 := S
  have hl : lv_has ls 3 [(0, .ref (ad G k0)), (1, .int a1), (2, .int a2)] := hl
  unfold f_X9_letterOf at h
  refine lv_aload_n S.1 S.2.1 dX9_letterOf_0 rfl (lv_at hl 0 rfl) ?_
  refine gf_20_6 S d hk0 fl_RX9_28 dX9_letterOf_1 ?_
  refine lv_bipush (v := 8) S.1 S.2.1 dX9_letterOf_4 (by decide) ?_
  refine lv_iload_n S.1 S.2.1 dX9_letterOf_6 rfl (lv_at hl 1 rfl) ?_
  refine lv_imul S.1 S.2.1 dX9_letterOf_7 ?_
  refine lv_iconst (v := 2) S.1 S.2.1 dX9_letterOf_8 (by decide) ?_
  refine lv_iadd S.1 S.2.1 dX9_letterOf_9 ?_
  refine lv_iload_n S.1 S.2.1 dX9_letterOf_10 rfl (lv_at hl 2 rfl) ?_
  refine lv_iadd S.1 S.2.1 dX9_letterOf_11 ?_
  obtain ⟨g1, h⟩ := gd_e h
  refine r_iald S d (ksdM S (ch_20_6 hk0).1) (wc_21 (ch_20_6 hk0).1) (ch_20_6 hk0).2 g1 dX9_letterOf_12 ?_
  obtain rfl := Option.some.inj h
  exact r_iret S d hr rfl rfl dX9_letterOf_13
theorem hyV_X9_hasRoom : yX9_hasRoom.cls = RX9 ∧ yX9_hasRoom.cls ≠ "java/lang/invoke/MethodHandle" ∧ yX9_hasRoom.cls ≠ "java/lang/invoke/VarHandle" ∧ (parseMethodDescriptor yX9_hasRoom.desc).map (fun d => d.parameters.length) = some 2 := by decide +kernel
abbrev rm_X9_hasRoom : Room := { frames := 1, cells := 0, slots := 0, locals := 21 }
def f_X9_hasRoom (M : Mem) (k0 : Nat) (a1 : Int32) (a2 : Int32) : Option (Int32) :=
  (f_X9_sizeOf M k0 a1).bind (fun u1 =>
  (if (M k0 7) < (a2 + u1) then some ((0 : Int32))
  else some ((1 : Int32))))
set_option maxHeartbeats 4000000 in
set_option maxRecDepth 100000 in
theorem c_X9_hasRoom (l : Launch) (G : Gx) (M : Mem) (L : MemL) (k0 : Nat) (a1 : Int32) (a2 : Int32) (hk0 : kd k0 = 20) {z : Int32} (h : f_X9_hasRoom M k0 a1 a2 = some z) : Met l yX9_hasRoom (.code yX9_hasRoom cX9_hasRoom 3 (Option.some Jvm.ClassFile.FieldType.boolean) :: UW) rm_X9_hasRoom (va_Pc [.ref (ad G k0), .int a1, .int a2] (PreG G true M L)) (Qi G z M L) 0 0 (gA G) := by
  refine r_in (by decide) (fun p e s m args below meth c S hr d ha ls hl => ?_) (Nat.le_of_ble_eq_true rfl)
  have S : Sx G true p s m args meth c cX9_hasRoom 3 RX9 := S
  have hl : lv_has ls 3 [(0, .ref (ad G k0)), (1, .int a1), (2, .int a2)] := hl
  unfold f_X9_hasRoom at h
  refine lv_iload_n S.1 S.2.1 dX9_hasRoom_0 rfl (lv_at hl 2 rfl) ?_
  refine lv_aload_n S.1 S.2.1 dX9_hasRoom_1 rfl (lv_at hl 0 rfl) ?_
  refine lv_iload_n S.1 S.2.1 dX9_hasRoom_2 rfl (lv_at hl 1 rfl) ?_
  obtain ⟨u1, hu1, h⟩ := bd_e h
  refine r_ri d (r_cV (As := [.int a1]) (rest := [.int a2]) S d (c_X9_sizeOf l G M L k0 a1 hk0 hu1) (ksdM S hk0) (wc_20 hk0) rfl ml_RX9_179 im_yX9_sizeOf se_yX9_sizeOf in_RX9 co_yX9_sizeOf hyV_X9_sizeOf ⟨rfl, rfl⟩ ⟨by decide, by decide⟩ rfl hl rfl (Nat.le_of_ble_eq_true rfl) dX9_hasRoom_3 ⟨Nat.zero_le _, Nat.zero_le _⟩) (fun H locs d => ?_)
  refine lv_iadd S.1 S.2.1 dX9_hasRoom_6 ?_
  refine lv_aload_n S.1 S.2.1 dX9_hasRoom_7 rfl (lv_at hl 0 rfl) ?_
  refine gf_20_7 S d hk0 fl_RX9_71 dX9_hasRoom_8 ?_
  refine lv_icmp_gt (tgt := 18) S.1 S.2.1 dX9_hasRoom_11 (by decide) (fun cc => ?_) (fun cc => ?_)
  · replace h := it_p cc h
    refine lv_iconst (v := 0) S.1 S.2.1 dX9_hasRoom_18 (by decide) ?_
    obtain rfl := Option.some.inj h
    exact r_iret S d hr rfl rfl dX9_hasRoom_19
  · replace h := it_n cc h
    refine lv_iconst (v := 1) S.1 S.2.1 dX9_hasRoom_14 (by decide) ?_
    refine lv_goto (tgt := 19) S.1 S.2.1 dX9_hasRoom_15 (by decide) ?_
    obtain rfl := Option.some.inj h
    exact r_iret S d hr rfl rfl dX9_hasRoom_19
theorem hyV_X9_isWritten : yX9_isWritten.cls = RX9 ∧ yX9_isWritten.cls ≠ "java/lang/invoke/MethodHandle" ∧ yX9_isWritten.cls ≠ "java/lang/invoke/VarHandle" ∧ (parseMethodDescriptor yX9_isWritten.desc).map (fun d => d.parameters.length) = some 2 := by decide +kernel
abbrev rm_X9_isWritten : Room := { frames := 3, cells := 0, slots := 0, locals := 67 }
def lp_X9_isWritten_10 (fu : Nat) (M : Mem) (b0 : Nat) (b1 : Int32) (b2 : Int32) (K : Int32 → Option (Int32)) : Nat → Int32 → Int32 → Option (Int32)
  | 0, _, _ => none
  | n + 1, x3, x4 =>
    (f_X9_sizeOf M b0 b1).bind (fun u2 =>
    (if u2 ≤ x4 then (K x3)
    else (if x3 = 0 then (K x3)
      else (f_X9_seenOf fu M b0 (b2 + x4)).bind (fun u3 =>
        (f_X9_readsAs fu M b0 u3).bind (fun u4 =>
        (f_X9_letterOf M b0 b1 x4).bind (fun u5 =>
        (if u4 = u5 then some (1 : Int32)
        else some (0 : Int32)).bind (fun t6 : Int32 =>
        lt (x4 + 1) (fun v8 : Int32 =>
        (lp_X9_isWritten_10 fu M b0 b1 b2 K n t6 v8)))))))))
def f_X9_isWritten (fu : Nat) (M : Mem) (k0 : Nat) (a1 : Int32) (a2 : Int32) : Option (Int32) :=
  (f_X9_hasRoom M k0 a1 a2).bind (fun u1 =>
  (lp_X9_isWritten_10 fu M k0 a1 a2 (fun (v9 : Int32) =>
    gd (isZ v9) (
    some (v9))) fu u1 (0 : Int32)))
set_option maxHeartbeats 4000000 in
set_option maxRecDepth 100000 in
theorem lc_X9_isWritten_10 {p : Program} {l : Launch} {e : Env} {s : State} {m : MethodId} {args : Array Value} {below : List Frame} {meth : Method} {c : Code} {G : Gx} {M : Mem} {L : MemL} {fu : Nat} {b0 : Nat} {b1 : Int32} {b2 : Int32} {z : Int32} (S : Sx G true p s m args meth c cX9_isWritten 5 RX9) (hr : meth.sig.returnType = (Option.some Jvm.ClassFile.FieldType.boolean)) (hb0 : kd b0 = 20) (K : Int32 → Option (Int32)) (hK : ∀ (y3 : Int32) (H : Heap) (locs : List Loc), Dy G s M L H locs → ∀ ls : Array Slot, lv_has ls 5 [(3, .int y3)] → K y3 = some z → W p l e rm_X9_isWritten s m args below meth c H locs 0 0 (MQ below (Qi G z M L) args s 0 0 (gA G)) (F0 m 58 ls [])) :
    ∀ (n : Nat) (x3 : Int32) (x4 : Int32), lp_X9_isWritten_10 fu M b0 b1 b2 K n x3 x4 = some z → ∀ (H : Heap) (locs : List Loc), Dy G s M L H locs → ∀ ls : Array Slot, lv_has ls 5 [(0, .ref (ad G b0)), (1, .int b1), (2, .int b2), (3, .int x3), (4, .int x4)] → W p l e rm_X9_isWritten s m args below meth c H locs 0 0 (MQ below (Qi G z M L) args s 0 0 (gA G)) (F0 m 10 ls []) := by
  intro n
  induction n with
  | zero =>
    intro x3 x4 h
    have h : (none : Option (Int32)) = some z := h
    cases h
  | succ n ih =>
    intro x3 x4 h H locs d ls hl
    rw [lp_X9_isWritten_10] at h
    refine lv_iload S.1 S.2.1 dX9_isWritten_10 (lv_at hl 4 rfl) ?_
    refine lv_aload_n S.1 S.2.1 dX9_isWritten_12 rfl (lv_at hl 0 rfl) ?_
    refine lv_iload_n S.1 S.2.1 dX9_isWritten_13 rfl (lv_at hl 1 rfl) ?_
    obtain ⟨u2, hu2, h⟩ := bd_e h
    refine r_ri d (r_cV (As := [.int b1]) (rest := [.int x4]) S d (c_X9_sizeOf l G M L b0 b1 hb0 hu2) (ksdM S hb0) (wc_20 hb0) rfl ml_RX9_179 im_yX9_sizeOf se_yX9_sizeOf in_RX9 co_yX9_sizeOf hyV_X9_sizeOf ⟨rfl, rfl⟩ ⟨by decide, by decide⟩ rfl hl rfl (Nat.le_of_ble_eq_true rfl) dX9_isWritten_14 ⟨Nat.zero_le _, Nat.zero_le _⟩) (fun H locs d => ?_)
    refine lv_icmp_ge (tgt := 58) S.1 S.2.1 dX9_isWritten_17 (by decide) (fun cc => ?_) (fun cc => ?_)
    · replace h := it_p cc h
      exact hK _ _ _ d _ (lv_sub hl [3] rfl) h
    · replace h := it_n cc h
      refine lv_iload_n S.1 S.2.1 dX9_isWritten_20 rfl (lv_at hl 3 rfl) ?_
      refine lv_if_eq (tgt := 58) S.1 S.2.1 dX9_isWritten_21 (by decide) (fun cc => ?_) (fun cc => ?_)
      · replace h := it_p cc h
        exact hK _ _ _ d _ (lv_sub hl [3] rfl) h
      · replace h := it_n cc h
        refine lv_aload_n S.1 S.2.1 dX9_isWritten_24 rfl (lv_at hl 0 rfl) ?_
        refine lv_aload_n S.1 S.2.1 dX9_isWritten_25 rfl (lv_at hl 0 rfl) ?_
        refine lv_iload_n S.1 S.2.1 dX9_isWritten_26 rfl (lv_at hl 2 rfl) ?_
        refine lv_iload S.1 S.2.1 dX9_isWritten_27 (lv_at hl 4 rfl) ?_
        refine lv_iadd S.1 S.2.1 dX9_isWritten_29 ?_
        obtain ⟨u3, hu3, h⟩ := bd_e h
        refine r_ri d (r_cV (As := [.int (b2 + x4)]) (rest := [.ref (ad G b0)]) S d (c_X9_seenOf l G M L fu b0 (b2 + x4) hb0 hu3) (ksdM S hb0) (wc_20 hb0) rfl ml_RX9_104 im_yX9_seenOf se_yX9_seenOf in_RX9 co_yX9_seenOf hyV_X9_seenOf ⟨rfl, rfl⟩ ⟨by decide, by decide⟩ rfl hl rfl (Nat.le_of_ble_eq_true rfl) dX9_isWritten_30 ⟨Nat.zero_le _, Nat.zero_le _⟩) (fun H locs d => ?_)
        obtain ⟨u4, hu4, h⟩ := bd_e h
        refine r_ri d (r_cV (As := [.int u3]) (rest := []) S d (c_X9_readsAs l G M L fu b0 u3 hb0 hu4) (ksdM S hb0) (wc_20 hb0) rfl ml_RX9_114 im_yX9_readsAs se_yX9_readsAs in_RX9 co_yX9_readsAs hyV_X9_readsAs ⟨rfl, rfl⟩ ⟨by decide, by decide⟩ rfl hl rfl (Nat.le_of_ble_eq_true rfl) dX9_isWritten_33 ⟨Nat.zero_le _, Nat.zero_le _⟩) (fun H locs d => ?_)
        refine lv_aload_n S.1 S.2.1 dX9_isWritten_36 rfl (lv_at hl 0 rfl) ?_
        refine lv_iload_n S.1 S.2.1 dX9_isWritten_37 rfl (lv_at hl 1 rfl) ?_
        refine lv_iload S.1 S.2.1 dX9_isWritten_38 (lv_at hl 4 rfl) ?_
        obtain ⟨u5, hu5, h⟩ := bd_e h
        refine r_ri d (r_cV (As := [.int b1, .int x4]) (rest := [.int u4]) S d (c_X9_letterOf l G M L b0 b1 x4 hb0 hu5) (ksdM S hb0) (wc_20 hb0) rfl ml_RX9_185 im_yX9_letterOf se_yX9_letterOf in_RX9 co_yX9_letterOf hyV_X9_letterOf ⟨rfl, rfl⟩ ⟨by decide, by decide⟩ rfl hl rfl (Nat.le_of_ble_eq_true rfl) dX9_isWritten_40 ⟨Nat.zero_le _, Nat.zero_le _⟩) (fun H locs d => ?_)
        obtain ⟨t6, g7, h⟩ := bd_e h
        have Jt6 : ∀ (H : Heap) (locs : List Loc), Dy G s M L H locs → W p l e rm_X9_isWritten s m args below meth c H locs 0 0 (MQ below (Qi G z M L) args s 0 0 (gA G)) (F0 m 51 ls [.int t6]) := by
          intro H locs d
          refine lv_istore_n (lv' := [(3, .int t6), (0, .ref (ad G b0)), (1, .int b1), (2, .int b2), (4, .int x4)]) S.1 S.2.1 dX9_isWritten_51 rfl hl (by decide) rfl (fun ls hl => ?_)
          obtain ⟨v8, ev8, h⟩ := lt_e h
          refine lv_iinc (v := v8) (lv' := [(4, .int v8), (3, .int t6), (0, .ref (ad G b0)), (1, .int b1), (2, .int b2)]) S.1 S.2.1 dX9_isWritten_52 hl (k := 4) rfl (by rw [ev8]; rfl) (by decide) rfl (fun ls hl => ?_)
          refine lv_goto (tgt := 10) S.1 S.2.1 dX9_isWritten_55 (by decide) ?_
          exact ih _ _ h _ _ d _ (lv_sub hl [2, 3, 4, 1, 0] rfl)
        have h := g7
        refine lv_icmp_ne (tgt := 50) S.1 S.2.1 dX9_isWritten_43 (by decide) (fun cc => ?_) (fun cc => ?_)
        · replace h := it_n cc h
          refine lv_iconst (v := 0) S.1 S.2.1 dX9_isWritten_50 (by decide) ?_
          obtain ej := Option.some.inj h
          refine r_top ej.symm ?_
          exact Jt6 _ _ d
        · replace h := it_p cc h
          refine lv_iconst (v := 1) S.1 S.2.1 dX9_isWritten_46 (by decide) ?_
          refine lv_goto (tgt := 51) S.1 S.2.1 dX9_isWritten_47 (by decide) ?_
          obtain ej := Option.some.inj h
          refine r_top ej.symm ?_
          exact Jt6 _ _ d
set_option maxHeartbeats 4000000 in
set_option maxRecDepth 100000 in
theorem c_X9_isWritten (l : Launch) (G : Gx) (M : Mem) (L : MemL) (fu : Nat) (k0 : Nat) (a1 : Int32) (a2 : Int32) (hk0 : kd k0 = 20) {z : Int32} (h : f_X9_isWritten fu M k0 a1 a2 = some z) : Met l yX9_isWritten (.code yX9_isWritten cX9_isWritten 5 (Option.some Jvm.ClassFile.FieldType.boolean) :: UW) rm_X9_isWritten (va_Pc [.ref (ad G k0), .int a1, .int a2] (PreG G true M L)) (Qi G z M L) 0 0 (gA G) := by
  refine r_in (by decide) (fun p e s m args below meth c S hr d ha ls hl => ?_) (Nat.le_of_ble_eq_true rfl)
  have S : Sx G true p s m args meth c cX9_isWritten 5 RX9 := S
  have hl : lv_has ls 5 [(0, .ref (ad G k0)), (1, .int a1), (2, .int a2)] := hl
  unfold f_X9_isWritten at h
  refine lv_aload_n S.1 S.2.1 dX9_isWritten_0 rfl (lv_at hl 0 rfl) ?_
  refine lv_iload_n S.1 S.2.1 dX9_isWritten_1 rfl (lv_at hl 1 rfl) ?_
  refine lv_iload_n S.1 S.2.1 dX9_isWritten_2 rfl (lv_at hl 2 rfl) ?_
  obtain ⟨u1, hu1, h⟩ := bd_e h
  refine r_ri d (r_cV (As := [.int a1, .int a2]) (rest := []) S d (c_X9_hasRoom l G M L k0 a1 a2 hk0 hu1) (ksdM S hk0) (wc_20 hk0) rfl ml_RX9_182 im_yX9_hasRoom se_yX9_hasRoom in_RX9 co_yX9_hasRoom hyV_X9_hasRoom ⟨rfl, rfl⟩ ⟨by decide, by decide⟩ rfl hl rfl (Nat.le_of_ble_eq_true rfl) dX9_isWritten_3 ⟨Nat.zero_le _, Nat.zero_le _⟩) (fun H locs d => ?_)
  refine lv_istore_n (lv' := [(3, .int u1), (0, .ref (ad G k0)), (1, .int a1), (2, .int a2)]) S.1 S.2.1 dX9_isWritten_6 rfl hl (by decide) rfl (fun ls hl => ?_)
  refine lv_iconst (v := 0) S.1 S.2.1 dX9_isWritten_7 (by decide) ?_
  refine lv_istore (lv' := [(4, .int (0 : Int32)), (3, .int u1), (0, .ref (ad G k0)), (1, .int a1), (2, .int a2)]) S.1 S.2.1 dX9_isWritten_8 hl (by decide) rfl (fun ls hl => ?_)
  refine lc_X9_isWritten_10 S hr hk0 _ (fun v9 H locs d ls hl h => ?_) _ _ _  h _ _ d _ (lv_sub hl [2, 3, 4, 1, 0] rfl)
  refine lv_iload_n S.1 S.2.1 dX9_isWritten_58 rfl (lv_at hl 0 rfl) ?_
  obtain ⟨gz, h⟩ := gd_e h
  obtain rfl := Option.some.inj h
  exact r_iret S d hr (isZ_nar gz) rfl dX9_isWritten_59
theorem hyV_X9_written : yX9_written.cls = RX9 ∧ yX9_written.cls ≠ "java/lang/invoke/MethodHandle" ∧ yX9_written.cls ≠ "java/lang/invoke/VarHandle" ∧ (parseMethodDescriptor yX9_written.desc).map (fun d => d.parameters.length) = some 2 := by decide +kernel
abbrev rm_X9_written : Room := { frames := 4, cells := 0, slots := 0, locals := 91 }
def f_X9_written (fu : Nat) (M : Mem) (k0 : Nat) (a1 : Int32) (a2 : Int32) : Option (Int32) :=
  (f_X9_isWord M k0 a1).bind (fun u1 =>
  (if u1 = 0 then some ((-1 : Int32))
  else (f_X9_isStrip M k0 a2).bind (fun u2 =>
    (if u2 = 0 then some ((-1 : Int32))
    else (f_X9_isWritten fu M k0 a1 a2).bind (fun u3 =>
      (if u3 = 0 then some ((0 : Int32))
      else some ((1 : Int32))))))))
set_option maxHeartbeats 4000000 in
set_option maxRecDepth 100000 in
theorem c_X9_written (l : Launch) (G : Gx) (M : Mem) (L : MemL) (fu : Nat) (k0 : Nat) (a1 : Int32) (a2 : Int32) (hk0 : kd k0 = 20) {z : Int32} (h : f_X9_written fu M k0 a1 a2 = some z) : Met l yX9_written (.code yX9_written cX9_written 3 (Option.some Jvm.ClassFile.FieldType.int) :: UW) rm_X9_written (va_Pc [.ref (ad G k0), .int a1, .int a2] (PreG G true M L)) (Qi G z M L) 0 0 (gA G) := by
  refine r_in (by decide) (fun p e s m args below meth c S hr d ha ls hl => ?_) (Nat.le_of_ble_eq_true rfl)
  have S : Sx G true p s m args meth c cX9_written 3 RX9 := S
  have hl : lv_has ls 3 [(0, .ref (ad G k0)), (1, .int a1), (2, .int a2)] := hl
  unfold f_X9_written at h
  refine lv_aload_n S.1 S.2.1 dX9_written_0 rfl (lv_at hl 0 rfl) ?_
  refine lv_iload_n S.1 S.2.1 dX9_written_1 rfl (lv_at hl 1 rfl) ?_
  obtain ⟨u1, hu1, h⟩ := bd_e h
  refine r_ri d (r_cV (As := [.int a1]) (rest := []) S d (c_X9_isWord l G M L k0 a1 hk0 hu1) (ksdM S hk0) (wc_20 hk0) rfl ml_RX9_174 im_yX9_isWord se_yX9_isWord in_RX9 co_yX9_isWord hyV_X9_isWord ⟨rfl, rfl⟩ ⟨by decide, by decide⟩ rfl hl rfl (Nat.le_of_ble_eq_true rfl) dX9_written_2 ⟨Nat.zero_le _, Nat.zero_le _⟩) (fun H locs d => ?_)
  refine lv_if_eq (tgt := 16) S.1 S.2.1 dX9_written_5 (by decide) (fun cc => ?_) (fun cc => ?_)
  · replace h := it_p cc h
    refine lv_iconst (v := (-1)) S.1 S.2.1 dX9_written_16 (by decide) ?_
    refine lv_goto (tgt := 34) S.1 S.2.1 dX9_written_17 (by decide) ?_
    obtain rfl := Option.some.inj h
    exact r_iret S d hr rfl rfl dX9_written_34
  · replace h := it_n cc h
    refine lv_aload_n S.1 S.2.1 dX9_written_8 rfl (lv_at hl 0 rfl) ?_
    refine lv_iload_n S.1 S.2.1 dX9_written_9 rfl (lv_at hl 2 rfl) ?_
    obtain ⟨u2, hu2, h⟩ := bd_e h
    refine r_ri d (r_cV (As := [.int a2]) (rest := []) S d (c_X9_isStrip l G M L k0 a2 hk0 hu2) (ksdM S hk0) (wc_20 hk0) rfl ml_RX9_94 im_yX9_isStrip se_yX9_isStrip in_RX9 co_yX9_isStrip hyV_X9_isStrip ⟨rfl, rfl⟩ ⟨by decide, by decide⟩ rfl hl rfl (Nat.le_of_ble_eq_true rfl) dX9_written_10 ⟨Nat.zero_le _, Nat.zero_le _⟩) (fun H locs d => ?_)
    refine lv_if_ne (tgt := 20) S.1 S.2.1 dX9_written_13 (by decide) (fun cc => ?_) (fun cc => ?_)
    · replace h := it_n cc h
      refine lv_aload_n S.1 S.2.1 dX9_written_20 rfl (lv_at hl 0 rfl) ?_
      refine lv_iload_n S.1 S.2.1 dX9_written_21 rfl (lv_at hl 1 rfl) ?_
      refine lv_iload_n S.1 S.2.1 dX9_written_22 rfl (lv_at hl 2 rfl) ?_
      obtain ⟨u3, hu3, h⟩ := bd_e h
      refine r_ri d (r_cV (As := [.int a1, .int a2]) (rest := []) S d (c_X9_isWritten l G M L fu k0 a1 a2 hk0 hu3) (ksdM S hk0) (wc_20 hk0) rfl ml_RX9_188 im_yX9_isWritten se_yX9_isWritten in_RX9 co_yX9_isWritten hyV_X9_isWritten ⟨rfl, rfl⟩ ⟨by decide, by decide⟩ rfl hl rfl (Nat.le_of_ble_eq_true rfl) dX9_written_23 ⟨Nat.zero_le _, Nat.zero_le _⟩) (fun H locs d => ?_)
      refine lv_if_eq (tgt := 33) S.1 S.2.1 dX9_written_26 (by decide) (fun cc => ?_) (fun cc => ?_)
      · replace h := it_p cc h
        refine lv_iconst (v := 0) S.1 S.2.1 dX9_written_33 (by decide) ?_
        obtain rfl := Option.some.inj h
        exact r_iret S d hr rfl rfl dX9_written_34
      · replace h := it_n cc h
        refine lv_iconst (v := 1) S.1 S.2.1 dX9_written_29 (by decide) ?_
        refine lv_goto (tgt := 34) S.1 S.2.1 dX9_written_30 (by decide) ?_
        obtain rfl := Option.some.inj h
        exact r_iret S d hr rfl rfl dX9_written_34
    · replace h := it_p cc h
      refine lv_iconst (v := (-1)) S.1 S.2.1 dX9_written_16 (by decide) ?_
      refine lv_goto (tgt := 34) S.1 S.2.1 dX9_written_17 (by decide) ?_
      obtain rfl := Option.some.inj h
      exact r_iret S d hr rfl rfl dX9_written_34
theorem hyV_X9_mayBe : yX9_mayBe.cls = RX9 ∧ yX9_mayBe.cls ≠ "java/lang/invoke/MethodHandle" ∧ yX9_mayBe.cls ≠ "java/lang/invoke/VarHandle" ∧ (parseMethodDescriptor yX9_mayBe.desc).map (fun d => d.parameters.length) = some 2 := by decide +kernel
abbrev rm_X9_mayBe : Room := { frames := 3, cells := 0, slots := 0, locals := 67 }
def lp_X9_mayBe_87 (fu : Nat) (M : Mem) (b0 : Nat) (b1 : Int32) (b2 : Int32) (b4 : Int32) (b5 : Int32) (K : Int32 → Option (Int32)) : Nat → Int32 → Int32 → Option (Int32)
  | 0, _, _ => none
  | n + 1, x3, x7 =>
    (if b4 ≤ x7 then (K x3)
    else (if x3 = 0 then some (0 : Int32)
      else gd (inb (b2 + x7) 9) (
        gd (inb b5 9) (
        gd (inb (((6 : Int32) * (M (b0 + 2) (b2 + x7).toNatClampNeg)) + (M (b0 + 2) b5.toNatClampNeg)) 36) (
        (if (M (b0 + 6) (((6 : Int32) * (M (b0 + 2) (b2 + x7).toNatClampNeg)) + (M (b0 + 2) b5.toNatClampNeg)).toNatClampNeg) = 0 then some (1 : Int32)
        else some (0 : Int32)))))).bind (fun t13 : Int32 =>
      lt (x7 + 1) (fun v18 : Int32 =>
      (lp_X9_mayBe_87 fu M b0 b1 b2 b4 b5 K n t13 v18))))
def lp_X9_mayBe_10 (fu : Nat) (M : Mem) (b0 : Nat) (b1 : Int32) (b2 : Int32) (K : Int32 → Option (Int32)) : Nat → Int32 → Int32 → Option (Int32)
  | 0, _, _ => none
  | n + 1, x3, x4 =>
    (f_X9_sizeOf M b0 b1).bind (fun u2 =>
    (if u2 ≤ x4 then (K x3)
    else (if x3 = 0 then (K x3)
      else lt ((b2 + x4)) (fun v3 : Int32 =>
        (f_X9_letterOf M b0 b1 x4).bind (fun u4 =>
        gd (inb u4 26) (
        lt ((M (b0 + 1) u4.toNatClampNeg)) (fun v6 : Int32 =>
        (f_X9_hasGrown fu M b0 v3 v6).bind (fun u7 =>
        (if u7 = 0 then some (0 : Int32)
        else (f_X9_seenOf fu M b0 v3).bind (fun u10 =>
          (f_X9_readsAs fu M b0 (u10 ||| v6)).bind (fun u11 =>
          (f_X9_letterOf M b0 b1 x4).bind (fun u12 =>
          (if u11 = u12 then some (1 : Int32)
          else some (0 : Int32)))))).bind (fun t8 : Int32 =>
        (lp_X9_mayBe_87 fu M b0 b1 b2 x4 v3 (fun (v19 : Int32) =>
          lt (x4 + 1) (fun v20 : Int32 =>
          (lp_X9_mayBe_10 fu M b0 b1 b2 K n v19 v20))) fu t8 (0 : Int32)))))))))))
def f_X9_mayBe (fu : Nat) (M : Mem) (k0 : Nat) (a1 : Int32) (a2 : Int32) : Option (Int32) :=
  (f_X9_hasRoom M k0 a1 a2).bind (fun u1 =>
  (lp_X9_mayBe_10 fu M k0 a1 a2 (fun (v21 : Int32) =>
    gd (isZ v21) (
    some (v21))) fu u1 (0 : Int32)))
set_option maxHeartbeats 4000000 in
set_option maxRecDepth 100000 in
theorem lc_X9_mayBe_87 {p : Program} {l : Launch} {e : Env} {s : State} {m : MethodId} {args : Array Value} {below : List Frame} {meth : Method} {c : Code} {G : Gx} {M : Mem} {L : MemL} {fu : Nat} {b0 : Nat} {b1 : Int32} {b2 : Int32} {b4 : Int32} {b5 : Int32} {z : Int32} (S : Sx G true p s m args meth c cX9_mayBe 8 RX9) (hr : meth.sig.returnType = (Option.some Jvm.ClassFile.FieldType.boolean)) (hb0 : kd b0 = 20) (K : Int32 → Option (Int32)) (hK : ∀ (y3 : Int32) (H : Heap) (locs : List Loc), Dy G s M L H locs → ∀ ls : Array Slot, lv_has ls 8 [(0, .ref (ad G b0)), (1, .int b1), (2, .int b2), (3, .int y3), (4, .int b4)] → K y3 = some z → W p l e rm_X9_mayBe s m args below meth c H locs 0 0 (MQ below (Qi G z M L) args s 0 0 (gA G)) (F0 m 138 ls [])) :
    ∀ (n : Nat) (x3 : Int32) (x7 : Int32), lp_X9_mayBe_87 fu M b0 b1 b2 b4 b5 K n x3 x7 = some z → ∀ (H : Heap) (locs : List Loc), Dy G s M L H locs → ∀ ls : Array Slot, lv_has ls 8 [(0, .ref (ad G b0)), (1, .int b1), (2, .int b2), (3, .int x3), (4, .int b4), (5, .int b5), (7, .int x7)] → W p l e rm_X9_mayBe s m args below meth c H locs 0 0 (MQ below (Qi G z M L) args s 0 0 (gA G)) (F0 m 87 ls []) := by
  intro n
  induction n with
  | zero =>
    intro x3 x7 h
    have h : (none : Option (Int32)) = some z := h
    cases h
  | succ n ih =>
    intro x3 x7 h H locs d ls hl
    rw [lp_X9_mayBe_87] at h
    refine lv_iload S.1 S.2.1 dX9_mayBe_87 (lv_at hl 6 rfl) ?_
    refine lv_iload S.1 S.2.1 dX9_mayBe_89 (lv_at hl 4 rfl) ?_
    refine lv_icmp_ge (tgt := 138) S.1 S.2.1 dX9_mayBe_91 (by decide) (fun cc => ?_) (fun cc => ?_)
    · replace h := it_p cc h
      exact hK _ _ _ d _ (lv_sub hl [0, 1, 2, 3, 4] rfl) h
    · replace h := it_n cc h
      refine lv_iload_n S.1 S.2.1 dX9_mayBe_94 rfl (lv_at hl 3 rfl) ?_
      obtain ⟨t13, g14, h⟩ := bd_e h
      have Jt13 : ∀ (H : Heap) (locs : List Loc), Dy G s M L H locs → W p l e rm_X9_mayBe s m args below meth c H locs 0 0 (MQ below (Qi G z M L) args s 0 0 (gA G)) (F0 m 131 ls [.int t13]) := by
        intro H locs d
        refine lv_istore_n (lv' := [(3, .int t13), (0, .ref (ad G b0)), (1, .int b1), (2, .int b2), (4, .int b4), (5, .int b5), (7, .int x7)]) S.1 S.2.1 dX9_mayBe_131 rfl hl (by decide) rfl (fun ls hl => ?_)
        obtain ⟨v18, ev18, h⟩ := lt_e h
        refine lv_iinc (v := v18) (lv' := [(7, .int v18), (3, .int t13), (0, .ref (ad G b0)), (1, .int b1), (2, .int b2), (4, .int b4), (5, .int b5)]) S.1 S.2.1 dX9_mayBe_132 hl (k := 6) rfl (by rw [ev18]; rfl) (by decide) rfl (fun ls hl => ?_)
        refine lv_goto (tgt := 87) S.1 S.2.1 dX9_mayBe_135 (by decide) ?_
        exact ih _ _ h _ _ d _ (lv_sub hl [2, 3, 4, 1, 5, 6, 0] rfl)
      have h := g14
      refine lv_if_eq (tgt := 130) S.1 S.2.1 dX9_mayBe_95 (by decide) (fun cc => ?_) (fun cc => ?_)
      · replace h := it_p cc h
        refine lv_iconst (v := 0) S.1 S.2.1 dX9_mayBe_130 (by decide) ?_
        obtain ej := Option.some.inj h
        refine r_top ej.symm ?_
        exact Jt13 _ _ d
      · replace h := it_n cc h
        refine lv_aload_n S.1 S.2.1 dX9_mayBe_98 rfl (lv_at hl 0 rfl) ?_
        refine gf_20_5 S d hb0 fl_RX9_25 dX9_mayBe_99 ?_
        refine lv_bipush (v := 6) S.1 S.2.1 dX9_mayBe_102 (by decide) ?_
        refine lv_aload_n S.1 S.2.1 dX9_mayBe_104 rfl (lv_at hl 0 rfl) ?_
        refine gf_20_1 S d hb0 fl_RX9_13 dX9_mayBe_105 ?_
        refine lv_iload_n S.1 S.2.1 dX9_mayBe_108 rfl (lv_at hl 2 rfl) ?_
        refine lv_iload S.1 S.2.1 dX9_mayBe_109 (lv_at hl 6 rfl) ?_
        refine lv_iadd S.1 S.2.1 dX9_mayBe_111 ?_
        obtain ⟨g15, h⟩ := gd_e h
        refine r_iald S d (ksdM S (ch_20_1 hb0).1) (wc_21 (ch_20_1 hb0).1) (ch_20_1 hb0).2 g15 dX9_mayBe_112 ?_
        refine lv_imul S.1 S.2.1 dX9_mayBe_113 ?_
        refine lv_aload_n S.1 S.2.1 dX9_mayBe_114 rfl (lv_at hl 0 rfl) ?_
        refine gf_20_1 S d hb0 fl_RX9_13 dX9_mayBe_115 ?_
        refine lv_iload S.1 S.2.1 dX9_mayBe_118 (lv_at hl 5 rfl) ?_
        obtain ⟨g16, h⟩ := gd_e h
        refine r_iald S d (ksdM S (ch_20_1 hb0).1) (wc_21 (ch_20_1 hb0).1) (ch_20_1 hb0).2 g16 dX9_mayBe_120 ?_
        refine lv_iadd S.1 S.2.1 dX9_mayBe_121 ?_
        obtain ⟨g17, h⟩ := gd_e h
        refine r_iald S d (ksdM S (ch_20_5 hb0).1) (wc_21 (ch_20_5 hb0).1) (ch_20_5 hb0).2 g17 dX9_mayBe_122 ?_
        refine lv_if_ne (tgt := 130) S.1 S.2.1 dX9_mayBe_123 (by decide) (fun cc => ?_) (fun cc => ?_)
        · replace h := it_n cc h
          refine lv_iconst (v := 0) S.1 S.2.1 dX9_mayBe_130 (by decide) ?_
          obtain ej := Option.some.inj h
          refine r_top ej.symm ?_
          exact Jt13 _ _ d
        · replace h := it_p cc h
          refine lv_iconst (v := 1) S.1 S.2.1 dX9_mayBe_126 (by decide) ?_
          refine lv_goto (tgt := 131) S.1 S.2.1 dX9_mayBe_127 (by decide) ?_
          obtain ej := Option.some.inj h
          refine r_top ej.symm ?_
          exact Jt13 _ _ d
set_option maxHeartbeats 4000000 in
set_option maxRecDepth 100000 in
theorem lc_X9_mayBe_10 {p : Program} {l : Launch} {e : Env} {s : State} {m : MethodId} {args : Array Value} {below : List Frame} {meth : Method} {c : Code} {G : Gx} {M : Mem} {L : MemL} {fu : Nat} {b0 : Nat} {b1 : Int32} {b2 : Int32} {z : Int32} (S : Sx G true p s m args meth c cX9_mayBe 8 RX9) (hr : meth.sig.returnType = (Option.some Jvm.ClassFile.FieldType.boolean)) (hb0 : kd b0 = 20) (K : Int32 → Option (Int32)) (hK : ∀ (y3 : Int32) (H : Heap) (locs : List Loc), Dy G s M L H locs → ∀ ls : Array Slot, lv_has ls 8 [(3, .int y3)] → K y3 = some z → W p l e rm_X9_mayBe s m args below meth c H locs 0 0 (MQ below (Qi G z M L) args s 0 0 (gA G)) (F0 m 144 ls [])) :
    ∀ (n : Nat) (x3 : Int32) (x4 : Int32), lp_X9_mayBe_10 fu M b0 b1 b2 K n x3 x4 = some z → ∀ (H : Heap) (locs : List Loc), Dy G s M L H locs → ∀ ls : Array Slot, lv_has ls 8 [(0, .ref (ad G b0)), (1, .int b1), (2, .int b2), (3, .int x3), (4, .int x4)] → W p l e rm_X9_mayBe s m args below meth c H locs 0 0 (MQ below (Qi G z M L) args s 0 0 (gA G)) (F0 m 10 ls []) := by
  intro n
  induction n with
  | zero =>
    intro x3 x4 h
    have h : (none : Option (Int32)) = some z := h
    cases h
  | succ n ih =>
    intro x3 x4 h H locs d ls hl
    rw [lp_X9_mayBe_10] at h
    refine lv_iload S.1 S.2.1 dX9_mayBe_10 (lv_at hl 4 rfl) ?_
    refine lv_aload_n S.1 S.2.1 dX9_mayBe_12 rfl (lv_at hl 0 rfl) ?_
    refine lv_iload_n S.1 S.2.1 dX9_mayBe_13 rfl (lv_at hl 1 rfl) ?_
    obtain ⟨u2, hu2, h⟩ := bd_e h
    refine r_ri d (r_cV (As := [.int b1]) (rest := [.int x4]) S d (c_X9_sizeOf l G M L b0 b1 hb0 hu2) (ksdM S hb0) (wc_20 hb0) rfl ml_RX9_179 im_yX9_sizeOf se_yX9_sizeOf in_RX9 co_yX9_sizeOf hyV_X9_sizeOf ⟨rfl, rfl⟩ ⟨by decide, by decide⟩ rfl hl rfl (Nat.le_of_ble_eq_true rfl) dX9_mayBe_14 ⟨Nat.zero_le _, Nat.zero_le _⟩) (fun H locs d => ?_)
    refine lv_icmp_ge (tgt := 144) S.1 S.2.1 dX9_mayBe_17 (by decide) (fun cc => ?_) (fun cc => ?_)
    · replace h := it_p cc h
      exact hK _ _ _ d _ (lv_sub hl [3] rfl) h
    · replace h := it_n cc h
      refine lv_iload_n S.1 S.2.1 dX9_mayBe_20 rfl (lv_at hl 3 rfl) ?_
      refine lv_if_eq (tgt := 144) S.1 S.2.1 dX9_mayBe_21 (by decide) (fun cc => ?_) (fun cc => ?_)
      · replace h := it_p cc h
        exact hK _ _ _ d _ (lv_sub hl [3] rfl) h
      · replace h := it_n cc h
        refine lv_iload_n S.1 S.2.1 dX9_mayBe_24 rfl (lv_at hl 2 rfl) ?_
        refine lv_iload S.1 S.2.1 dX9_mayBe_25 (lv_at hl 4 rfl) ?_
        refine lv_iadd S.1 S.2.1 dX9_mayBe_27 ?_
        obtain ⟨v3, ev3, h⟩ := lt_e h
        refine r_top ev3 ?_
        refine lv_istore (lv' := [(5, .int v3), (0, .ref (ad G b0)), (1, .int b1), (2, .int b2), (3, .int x3), (4, .int x4)]) S.1 S.2.1 dX9_mayBe_28 hl (by decide) rfl (fun ls hl => ?_)
        refine lv_aload_n S.1 S.2.1 dX9_mayBe_30 rfl (lv_at hl 1 rfl) ?_
        refine gf_20_0 S d hb0 fl_RX9_7 dX9_mayBe_31 ?_
        refine lv_aload_n S.1 S.2.1 dX9_mayBe_34 rfl (lv_at hl 1 rfl) ?_
        refine lv_iload_n S.1 S.2.1 dX9_mayBe_35 rfl (lv_at hl 2 rfl) ?_
        refine lv_iload S.1 S.2.1 dX9_mayBe_36 (lv_at hl 5 rfl) ?_
        obtain ⟨u4, hu4, h⟩ := bd_e h
        refine r_ri d (r_cV (As := [.int b1, .int x4]) (rest := [.ref (ad G (b0 + 1))]) S d (c_X9_letterOf l G M L b0 b1 x4 hb0 hu4) (ksdM S hb0) (wc_20 hb0) rfl ml_RX9_185 im_yX9_letterOf se_yX9_letterOf in_RX9 co_yX9_letterOf hyV_X9_letterOf ⟨rfl, rfl⟩ ⟨by decide, by decide⟩ rfl hl rfl (Nat.le_of_ble_eq_true rfl) dX9_mayBe_38 ⟨Nat.zero_le _, Nat.zero_le _⟩) (fun H locs d => ?_)
        obtain ⟨g5, h⟩ := gd_e h
        refine r_iald S d (ksdM S (ch_20_0 hb0).1) (wc_21 (ch_20_0 hb0).1) (ch_20_0 hb0).2 g5 dX9_mayBe_41 ?_
        obtain ⟨v6, ev6, h⟩ := lt_e h
        refine r_top ev6 ?_
        refine lv_istore (lv' := [(6, .int v6), (5, .int v3), (0, .ref (ad G b0)), (1, .int b1), (2, .int b2), (3, .int x3), (4, .int x4)]) S.1 S.2.1 dX9_mayBe_42 hl (by decide) rfl (fun ls hl => ?_)
        refine lv_aload_n S.1 S.2.1 dX9_mayBe_44 rfl (lv_at hl 2 rfl) ?_
        refine lv_iload S.1 S.2.1 dX9_mayBe_45 (lv_at hl 1 rfl) ?_
        refine lv_iload S.1 S.2.1 dX9_mayBe_47 (lv_at hl 0 rfl) ?_
        obtain ⟨u7, hu7, h⟩ := bd_e h
        refine r_ri d (r_cV (As := [.int v3, .int v6]) (rest := []) S d (c_X9_hasGrown l G M L fu b0 v3 v6 hb0 hu7) (ksdM S hb0) (wc_20 hb0) rfl ml_RX9_121 im_yX9_hasGrown se_yX9_hasGrown in_RX9 co_yX9_hasGrown hyV_X9_hasGrown ⟨rfl, rfl⟩ ⟨by decide, by decide⟩ rfl hl rfl (Nat.le_of_ble_eq_true rfl) dX9_mayBe_49 ⟨Nat.zero_le _, Nat.zero_le _⟩) (fun H locs d => ?_)
        obtain ⟨t8, g9, h⟩ := bd_e h
        have Jt8 : ∀ (H : Heap) (locs : List Loc), Dy G s M L H locs → W p l e rm_X9_mayBe s m args below meth c H locs 0 0 (MQ below (Qi G z M L) args s 0 0 (gA G)) (F0 m 83 ls [.int t8]) := by
          intro H locs d
          refine lv_istore_n (lv' := [(3, .int t8), (6, .int v6), (5, .int v3), (0, .ref (ad G b0)), (1, .int b1), (2, .int b2), (4, .int x4)]) S.1 S.2.1 dX9_mayBe_83 rfl hl (by decide) rfl (fun ls hl => ?_)
          refine lv_iconst (v := 0) S.1 S.2.1 dX9_mayBe_84 (by decide) ?_
          refine lv_istore (lv' := [(7, .int (0 : Int32)), (3, .int t8), (6, .int v6), (5, .int v3), (0, .ref (ad G b0)), (1, .int b1), (2, .int b2), (4, .int x4)]) S.1 S.2.1 dX9_mayBe_85 hl (by decide) rfl (fun ls hl => ?_)
          refine lc_X9_mayBe_87 S hr hb0 _ (fun v19 H locs d ls hl h => ?_) _ _ _  h _ _ d _ (lv_sub hl [4, 5, 6, 1, 7, 3, 0] rfl)
          obtain ⟨v20, ev20, h⟩ := lt_e h
          refine lv_iinc (v := v20) (lv' := [(4, .int v20), (0, .ref (ad G b0)), (1, .int b1), (2, .int b2), (3, .int v19)]) S.1 S.2.1 dX9_mayBe_138 hl (k := 4) rfl (by rw [ev20]; rfl) (by decide) rfl (fun ls hl => ?_)
          refine lv_goto (tgt := 10) S.1 S.2.1 dX9_mayBe_141 (by decide) ?_
          exact ih _ _ h _ _ d _ (lv_sub hl [1, 2, 3, 4, 0] rfl)
        have h := g9
        refine lv_if_eq (tgt := 82) S.1 S.2.1 dX9_mayBe_52 (by decide) (fun cc => ?_) (fun cc => ?_)
        · replace h := it_p cc h
          refine lv_iconst (v := 0) S.1 S.2.1 dX9_mayBe_82 (by decide) ?_
          obtain ej := Option.some.inj h
          refine r_top ej.symm ?_
          exact Jt8 _ _ d
        · replace h := it_n cc h
          refine lv_aload_n S.1 S.2.1 dX9_mayBe_55 rfl (lv_at hl 2 rfl) ?_
          refine lv_aload_n S.1 S.2.1 dX9_mayBe_56 rfl (lv_at hl 2 rfl) ?_
          refine lv_iload S.1 S.2.1 dX9_mayBe_57 (lv_at hl 1 rfl) ?_
          obtain ⟨u10, hu10, h⟩ := bd_e h
          refine r_ri d (r_cV (As := [.int v3]) (rest := [.ref (ad G b0)]) S d (c_X9_seenOf l G M L fu b0 v3 hb0 hu10) (ksdM S hb0) (wc_20 hb0) rfl ml_RX9_104 im_yX9_seenOf se_yX9_seenOf in_RX9 co_yX9_seenOf hyV_X9_seenOf ⟨rfl, rfl⟩ ⟨by decide, by decide⟩ rfl hl rfl (Nat.le_of_ble_eq_true rfl) dX9_mayBe_59 ⟨Nat.zero_le _, Nat.zero_le _⟩) (fun H locs d => ?_)
          refine lv_iload S.1 S.2.1 dX9_mayBe_62 (lv_at hl 0 rfl) ?_
          refine lv_ior S.1 S.2.1 dX9_mayBe_64 ?_
          obtain ⟨u11, hu11, h⟩ := bd_e h
          refine r_ri d (r_cV (As := [.int (u10 ||| v6)]) (rest := []) S d (c_X9_readsAs l G M L fu b0 (u10 ||| v6) hb0 hu11) (ksdM S hb0) (wc_20 hb0) rfl ml_RX9_114 im_yX9_readsAs se_yX9_readsAs in_RX9 co_yX9_readsAs hyV_X9_readsAs ⟨rfl, rfl⟩ ⟨by decide, by decide⟩ rfl hl rfl (Nat.le_of_ble_eq_true rfl) dX9_mayBe_65 ⟨Nat.zero_le _, Nat.zero_le _⟩) (fun H locs d => ?_)
          refine lv_aload_n S.1 S.2.1 dX9_mayBe_68 rfl (lv_at hl 2 rfl) ?_
          refine lv_iload_n S.1 S.2.1 dX9_mayBe_69 rfl (lv_at hl 3 rfl) ?_
          refine lv_iload S.1 S.2.1 dX9_mayBe_70 (lv_at hl 6 rfl) ?_
          obtain ⟨u12, hu12, h⟩ := bd_e h
          refine r_ri d (r_cV (As := [.int b1, .int x4]) (rest := [.int u11]) S d (c_X9_letterOf l G M L b0 b1 x4 hb0 hu12) (ksdM S hb0) (wc_20 hb0) rfl ml_RX9_185 im_yX9_letterOf se_yX9_letterOf in_RX9 co_yX9_letterOf hyV_X9_letterOf ⟨rfl, rfl⟩ ⟨by decide, by decide⟩ rfl hl rfl (Nat.le_of_ble_eq_true rfl) dX9_mayBe_72 ⟨Nat.zero_le _, Nat.zero_le _⟩) (fun H locs d => ?_)
          refine lv_icmp_ne (tgt := 82) S.1 S.2.1 dX9_mayBe_75 (by decide) (fun cc => ?_) (fun cc => ?_)
          · replace h := it_n cc h
            refine lv_iconst (v := 0) S.1 S.2.1 dX9_mayBe_82 (by decide) ?_
            obtain ej := Option.some.inj h
            refine r_top ej.symm ?_
            exact Jt8 _ _ d
          · replace h := it_p cc h
            refine lv_iconst (v := 1) S.1 S.2.1 dX9_mayBe_78 (by decide) ?_
            refine lv_goto (tgt := 83) S.1 S.2.1 dX9_mayBe_79 (by decide) ?_
            obtain ej := Option.some.inj h
            refine r_top ej.symm ?_
            exact Jt8 _ _ d
set_option maxHeartbeats 4000000 in
set_option maxRecDepth 100000 in
theorem c_X9_mayBe (l : Launch) (G : Gx) (M : Mem) (L : MemL) (fu : Nat) (k0 : Nat) (a1 : Int32) (a2 : Int32) (hk0 : kd k0 = 20) {z : Int32} (h : f_X9_mayBe fu M k0 a1 a2 = some z) : Met l yX9_mayBe (.code yX9_mayBe cX9_mayBe 8 (Option.some Jvm.ClassFile.FieldType.boolean) :: UW) rm_X9_mayBe (va_Pc [.ref (ad G k0), .int a1, .int a2] (PreG G true M L)) (Qi G z M L) 0 0 (gA G) := by
  refine r_in (by decide) (fun p e s m args below meth c S hr d ha ls hl => ?_) (Nat.le_of_ble_eq_true rfl)
  have S : Sx G true p s m args meth c cX9_mayBe 8 RX9 := S
  have hl : lv_has ls 8 [(0, .ref (ad G k0)), (1, .int a1), (2, .int a2)] := hl
  unfold f_X9_mayBe at h
  refine lv_aload_n S.1 S.2.1 dX9_mayBe_0 rfl (lv_at hl 0 rfl) ?_
  refine lv_iload_n S.1 S.2.1 dX9_mayBe_1 rfl (lv_at hl 1 rfl) ?_
  refine lv_iload_n S.1 S.2.1 dX9_mayBe_2 rfl (lv_at hl 2 rfl) ?_
  obtain ⟨u1, hu1, h⟩ := bd_e h
  refine r_ri d (r_cV (As := [.int a1, .int a2]) (rest := []) S d (c_X9_hasRoom l G M L k0 a1 a2 hk0 hu1) (ksdM S hk0) (wc_20 hk0) rfl ml_RX9_182 im_yX9_hasRoom se_yX9_hasRoom in_RX9 co_yX9_hasRoom hyV_X9_hasRoom ⟨rfl, rfl⟩ ⟨by decide, by decide⟩ rfl hl rfl (Nat.le_of_ble_eq_true rfl) dX9_mayBe_3 ⟨Nat.zero_le _, Nat.zero_le _⟩) (fun H locs d => ?_)
  refine lv_istore_n (lv' := [(3, .int u1), (0, .ref (ad G k0)), (1, .int a1), (2, .int a2)]) S.1 S.2.1 dX9_mayBe_6 rfl hl (by decide) rfl (fun ls hl => ?_)
  refine lv_iconst (v := 0) S.1 S.2.1 dX9_mayBe_7 (by decide) ?_
  refine lv_istore (lv' := [(4, .int (0 : Int32)), (3, .int u1), (0, .ref (ad G k0)), (1, .int a1), (2, .int a2)]) S.1 S.2.1 dX9_mayBe_8 hl (by decide) rfl (fun ls hl => ?_)
  refine lc_X9_mayBe_10 S hr hk0 _ (fun v21 H locs d ls hl h => ?_) _ _ _  h _ _ d _ (lv_sub hl [2, 3, 4, 1, 0] rfl)
  refine lv_iload_n S.1 S.2.1 dX9_mayBe_144 rfl (lv_at hl 0 rfl) ?_
  obtain ⟨gz, h⟩ := gd_e h
  obtain rfl := Option.some.inj h
  exact r_iret S d hr (isZ_nar gz) rfl dX9_mayBe_145
