theorem hyV_X8_told : yX8_told.cls = RX8 ∧ yX8_told.cls ≠ "java/lang/invoke/MethodHandle" ∧ yX8_told.cls ≠ "java/lang/invoke/VarHandle" ∧ (parseMethodDescriptor yX8_told.desc).map (fun d => d.parameters.length) = some 2 := by decide +kernel
abbrev rm_X8_told : Room := { frames := 2, cells := 0, slots := 0, locals := 46 }
def f_X8_told (M : Mem) (k0 : Nat) (a1 : Int32) (a2 : Int32) : Option (Int32) :=
  (f_X8_isWord M k0 a1).bind (fun u1 =>
  (if u1 = 0 then some ((-1 : Int32))
  else (if (-2 : Int32) ≤ a2 then gd (inb ((8 : Int32) * a1) 80) (
      lt ((M (k0 + 7) ((8 : Int32) * a1).toNatClampNeg)) (fun v3 : Int32 =>
      (if a2 = (-1 : Int32) then some (v3)
      else (if a2 = (-2 : Int32) then gd (inb (((8 : Int32) * a1) + (1 : Int32)) 80) (
          some ((M (k0 + 7) (((8 : Int32) * a1) + (1 : Int32)).toNatClampNeg)))
        else (if v3 ≤ a2 then some ((-4 : Int32))
          else gd (inb ((((8 : Int32) * a1) + (2 : Int32)) + a2) 80) (
            some ((M (k0 + 7) ((((8 : Int32) * a1) + (2 : Int32)) + a2).toNatClampNeg))))))))
    else some ((-1 : Int32)))))
set_option maxHeartbeats 4000000 in
set_option maxRecDepth 100000 in
theorem c_X8_told (l : Launch) (G : Gx) (M : Mem) (L : MemL) (k0 : Nat) (a1 : Int32) (a2 : Int32) (hk0 : kd k0 = 20) {z : Int32} (h : f_X8_told M k0 a1 a2 = some z) : Met l yX8_told (.code yX8_told cX8_told 4 (Option.some Jvm.ClassFile.FieldType.int) :: UW) rm_X8_told (va_Pc [.ref (ad G k0), .int a1, .int a2] (PreG G true M L)) (Qi G z M L) 0 0 (gA G) := by
  refine r_in (by decide) (fun p e s m args below meth c S hr d ha ls hl => ?_) (Nat.le_of_ble_eq_true rfl)
  have S : Sx G true p s m args meth c cX8_told 4 RX8 := S
  have hl : lv_has ls 4 [(0, .ref (ad G k0)), (1, .int a1), (2, .int a2)] := hl
  unfold f_X8_told at h
  refine lv_aload_n S.1 S.2.1 dX8_told_0 rfl (lv_at hl 0 rfl) ?_
  refine lv_iload_n S.1 S.2.1 dX8_told_1 rfl (lv_at hl 1 rfl) ?_
  obtain ⟨u1, hu1, h⟩ := bd_e h
  refine r_ri d (r_cV (As := [.int a1]) (rest := []) S d (c_X8_isWord l G M L k0 a1 hk0 hu1) (ksdM S hk0) (wc_20 hk0) rfl ml_RX8_174 im_yX8_isWord se_yX8_isWord in_RX8 co_yX8_isWord hyV_X8_isWord ⟨rfl, rfl⟩ ⟨by decide, by decide⟩ rfl hl rfl (Nat.le_of_ble_eq_true rfl) dX8_told_2 ⟨Nat.zero_le _, Nat.zero_le _⟩) (fun H locs d => ?_)
  refine lv_if_eq (tgt := 14) S.1 S.2.1 dX8_told_5 (by decide) (fun cc => ?_) (fun cc => ?_)
  · replace h := it_p cc h
    refine lv_iconst (v := (-1)) S.1 S.2.1 dX8_told_14 (by decide) ?_
    obtain rfl := Option.some.inj h
    exact r_iret S d hr rfl rfl dX8_told_15
  · replace h := it_n cc h
    refine lv_iload_n S.1 S.2.1 dX8_told_8 rfl (lv_at hl 2 rfl) ?_
    refine lv_bipush (v := (-2)) S.1 S.2.1 dX8_told_9 (by decide) ?_
    refine lv_icmp_ge (tgt := 16) S.1 S.2.1 dX8_told_11 (by decide) (fun cc => ?_) (fun cc => ?_)
    · replace h := it_p cc h
      refine lv_aload_n S.1 S.2.1 dX8_told_16 rfl (lv_at hl 0 rfl) ?_
      refine gf_20_6 S d hk0 fl_RX8_28 dX8_told_17 ?_
      refine lv_bipush (v := 8) S.1 S.2.1 dX8_told_20 (by decide) ?_
      refine lv_iload_n S.1 S.2.1 dX8_told_22 rfl (lv_at hl 1 rfl) ?_
      refine lv_imul S.1 S.2.1 dX8_told_23 ?_
      obtain ⟨g2, h⟩ := gd_e h
      refine r_iald S d (ksdM S (ch_20_6 hk0).1) (wc_21 (ch_20_6 hk0).1) (ch_20_6 hk0).2 g2 dX8_told_24 ?_
      obtain ⟨v3, ev3, h⟩ := lt_e h
      refine r_top ev3 ?_
      refine lv_istore_n (lv' := [(3, .int v3), (0, .ref (ad G k0)), (1, .int a1), (2, .int a2)]) S.1 S.2.1 dX8_told_25 rfl hl (by decide) rfl (fun ls hl => ?_)
      refine lv_iload_n S.1 S.2.1 dX8_told_26 rfl (lv_at hl 3 rfl) ?_
      refine lv_iconst (v := (-1)) S.1 S.2.1 dX8_told_27 (by decide) ?_
      refine lv_icmp_ne (tgt := 35) S.1 S.2.1 dX8_told_28 (by decide) (fun cc => ?_) (fun cc => ?_)
      · replace h := it_n cc h
        refine lv_iload_n S.1 S.2.1 dX8_told_35 rfl (lv_at hl 3 rfl) ?_
        refine lv_bipush (v := (-2)) S.1 S.2.1 dX8_told_36 (by decide) ?_
        refine lv_icmp_ne (tgt := 55) S.1 S.2.1 dX8_told_38 (by decide) (fun cc => ?_) (fun cc => ?_)
        · replace h := it_n cc h
          refine lv_iload_n S.1 S.2.1 dX8_told_55 rfl (lv_at hl 3 rfl) ?_
          refine lv_iload_n S.1 S.2.1 dX8_told_56 rfl (lv_at hl 0 rfl) ?_
          refine lv_icmp_ge (tgt := 76) S.1 S.2.1 dX8_told_57 (by decide) (fun cc => ?_) (fun cc => ?_)
          · replace h := it_p cc h
            refine lv_bipush (v := (-4)) S.1 S.2.1 dX8_told_76 (by decide) ?_
            obtain rfl := Option.some.inj h
            exact r_iret S d hr rfl rfl dX8_told_78
          · replace h := it_n cc h
            refine lv_aload_n S.1 S.2.1 dX8_told_60 rfl (lv_at hl 1 rfl) ?_
            refine gf_20_6 S d hk0 fl_RX8_28 dX8_told_61 ?_
            refine lv_bipush (v := 8) S.1 S.2.1 dX8_told_64 (by decide) ?_
            refine lv_iload_n S.1 S.2.1 dX8_told_66 rfl (lv_at hl 2 rfl) ?_
            refine lv_imul S.1 S.2.1 dX8_told_67 ?_
            refine lv_iconst (v := 2) S.1 S.2.1 dX8_told_68 (by decide) ?_
            refine lv_iadd S.1 S.2.1 dX8_told_69 ?_
            refine lv_iload_n S.1 S.2.1 dX8_told_70 rfl (lv_at hl 3 rfl) ?_
            refine lv_iadd S.1 S.2.1 dX8_told_71 ?_
            obtain ⟨g5, h⟩ := gd_e h
            refine r_iald S d (ksdM S (ch_20_6 hk0).1) (wc_21 (ch_20_6 hk0).1) (ch_20_6 hk0).2 g5 dX8_told_72 ?_
            refine lv_goto (tgt := 78) S.1 S.2.1 dX8_told_73 (by decide) ?_
            obtain rfl := Option.some.inj h
            exact r_iret S d hr rfl rfl dX8_told_78
        · replace h := it_p cc h
          refine lv_aload_n S.1 S.2.1 dX8_told_41 rfl (lv_at hl 1 rfl) ?_
          refine gf_20_6 S d hk0 fl_RX8_28 dX8_told_42 ?_
          refine lv_bipush (v := 8) S.1 S.2.1 dX8_told_45 (by decide) ?_
          refine lv_iload_n S.1 S.2.1 dX8_told_47 rfl (lv_at hl 2 rfl) ?_
          refine lv_imul S.1 S.2.1 dX8_told_48 ?_
          refine lv_iconst (v := 1) S.1 S.2.1 dX8_told_49 (by decide) ?_
          refine lv_iadd S.1 S.2.1 dX8_told_50 ?_
          obtain ⟨g4, h⟩ := gd_e h
          refine r_iald S d (ksdM S (ch_20_6 hk0).1) (wc_21 (ch_20_6 hk0).1) (ch_20_6 hk0).2 g4 dX8_told_51 ?_
          refine lv_goto (tgt := 78) S.1 S.2.1 dX8_told_52 (by decide) ?_
          obtain rfl := Option.some.inj h
          exact r_iret S d hr rfl rfl dX8_told_78
      · replace h := it_p cc h
        refine lv_iload_n S.1 S.2.1 dX8_told_31 rfl (lv_at hl 0 rfl) ?_
        refine lv_goto (tgt := 78) S.1 S.2.1 dX8_told_32 (by decide) ?_
        obtain rfl := Option.some.inj h
        exact r_iret S d hr rfl rfl dX8_told_78
    · replace h := it_n cc h
      refine lv_iconst (v := (-1)) S.1 S.2.1 dX8_told_14 (by decide) ?_
      obtain rfl := Option.some.inj h
      exact r_iret S d hr rfl rfl dX8_told_15
theorem hyV_X8_pay : yX8_pay.cls = RX8 ∧ yX8_pay.cls ≠ "java/lang/invoke/MethodHandle" ∧ yX8_pay.cls ≠ "java/lang/invoke/VarHandle" ∧ (parseMethodDescriptor yX8_pay.desc).map (fun d => d.parameters.length) = some 2 := by decide +kernel
abbrev rm_X8_pay : Room := { frames := 2, cells := 0, slots := 0, locals := 46 }
def f_X8_pay (M : Mem) (k0 : Nat) (a1 : Int32) (a2 : Int32) : Option (Int32 × Mem) :=
  (f_X8_isWord M k0 a1).bind (fun u1 =>
  (if u1 = 0 then some ((-1 : Int32), M)
  else (f_X8_in ((a2).toInt64) (0 : Int64) (99 : Int64)).bind (fun u2 =>
    (if u2 = 0 then some ((-1 : Int32), M)
    else gd (inb (((8 : Int32) * a1) + (1 : Int32)) 80) (
      lt ((M (k0 + 7) (((8 : Int32) * a1) + (1 : Int32)).toNatClampNeg)) (fun v4 : Int32 =>
      gd (inb (((8 : Int32) * a1) + (1 : Int32)) 80) (
      lt (up M (k0 + 7) (((8 : Int32) * a1) + (1 : Int32)).toNatClampNeg a2) (fun M6 : Mem =>
      some (v4, M6)))))))))
set_option maxHeartbeats 4000000 in
set_option maxRecDepth 100000 in
theorem c_X8_pay (l : Launch) (G : Gx) (M : Mem) (L : MemL) (k0 : Nat) (a1 : Int32) (a2 : Int32) (hk0 : kd k0 = 20) {z : Int32 × Mem} (h : f_X8_pay M k0 a1 a2 = some z) : Met l yX8_pay (.code yX8_pay cX8_pay 4 (Option.some Jvm.ClassFile.FieldType.int) :: UW) rm_X8_pay (va_Pc [.ref (ad G k0), .int a1, .int a2] (PreG G true M L)) (Qi G z.1 z.2 L) 0 0 (gA G) := by
  refine r_in (by decide) (fun p e s m args below meth c S hr d ha ls hl => ?_) (Nat.le_of_ble_eq_true rfl)
  have S : Sx G true p s m args meth c cX8_pay 4 RX8 := S
  have hl : lv_has ls 4 [(0, .ref (ad G k0)), (1, .int a1), (2, .int a2)] := hl
  unfold f_X8_pay at h
  refine lv_aload_n S.1 S.2.1 dX8_pay_0 rfl (lv_at hl 0 rfl) ?_
  refine lv_iload_n S.1 S.2.1 dX8_pay_1 rfl (lv_at hl 1 rfl) ?_
  obtain ⟨u1, hu1, h⟩ := bd_e h
  refine r_ri d (r_cV (As := [.int a1]) (rest := []) S d (c_X8_isWord l G M L k0 a1 hk0 hu1) (ksdM S hk0) (wc_20 hk0) rfl ml_RX8_174 im_yX8_isWord se_yX8_isWord in_RX8 co_yX8_isWord hyV_X8_isWord ⟨rfl, rfl⟩ ⟨by decide, by decide⟩ rfl hl rfl (Nat.le_of_ble_eq_true rfl) dX8_pay_2 ⟨Nat.zero_le _, Nat.zero_le _⟩) (fun H locs d => ?_)
  refine lv_if_eq (tgt := 20) S.1 S.2.1 dX8_pay_5 (by decide) (fun cc => ?_) (fun cc => ?_)
  · replace h := it_p cc h
    refine lv_iconst (v := (-1)) S.1 S.2.1 dX8_pay_20 (by decide) ?_
    obtain rfl := Option.some.inj h
    exact r_iret S d hr rfl rfl dX8_pay_21
  · replace h := it_n cc h
    refine lv_iload_n S.1 S.2.1 dX8_pay_8 rfl (lv_at hl 2 rfl) ?_
    refine lv_i2l S.1 S.2.1 dX8_pay_9 rfl ?_
    refine lv_lconst (v := 0) S.1 S.2.1 dX8_pay_10 (by decide) ?_
    refine lv_ldc2 (v := 99) S.1 S.2.1 S.2.2.2.1 (S.uw cn_RX8_177) dX8_pay_11 ?_
    obtain ⟨u2, hu2, h⟩ := bd_e h
    refine r_ri d (r_cS (As := [.long ((a2).toInt64), .long (0 : Int64), .long (99 : Int64)]) (rest := []) S d (c_X8_in l G M L ((a2).toInt64) (0 : Int64) (99 : Int64) hu2) ml_RX8_75 sm_yX8_in in_RX8 co_yX8_in hyS_X8_in ⟨rfl, rfl⟩ ⟨by decide, by decide⟩ rfl hl rfl (Nat.le_of_ble_eq_true rfl) dX8_pay_14 ⟨Nat.zero_le _, Nat.zero_le _⟩) (fun H locs d => ?_)
    refine lv_if_ne (tgt := 22) S.1 S.2.1 dX8_pay_17 (by decide) (fun cc => ?_) (fun cc => ?_)
    · replace h := it_n cc h
      refine lv_aload_n S.1 S.2.1 dX8_pay_22 rfl (lv_at hl 0 rfl) ?_
      refine gf_20_6 S d hk0 fl_RX8_28 dX8_pay_23 ?_
      refine lv_bipush (v := 8) S.1 S.2.1 dX8_pay_26 (by decide) ?_
      refine lv_iload_n S.1 S.2.1 dX8_pay_28 rfl (lv_at hl 1 rfl) ?_
      refine lv_imul S.1 S.2.1 dX8_pay_29 ?_
      refine lv_iconst (v := 1) S.1 S.2.1 dX8_pay_30 (by decide) ?_
      refine lv_iadd S.1 S.2.1 dX8_pay_31 ?_
      obtain ⟨g3, h⟩ := gd_e h
      refine r_iald S d (ksdM S (ch_20_6 hk0).1) (wc_21 (ch_20_6 hk0).1) (ch_20_6 hk0).2 g3 dX8_pay_32 ?_
      obtain ⟨v4, ev4, h⟩ := lt_e h
      refine r_top ev4 ?_
      refine lv_istore_n (lv' := [(3, .int v4), (0, .ref (ad G k0)), (1, .int a1), (2, .int a2)]) S.1 S.2.1 dX8_pay_33 rfl hl (by decide) rfl (fun ls hl => ?_)
      refine lv_aload_n S.1 S.2.1 dX8_pay_34 rfl (lv_at hl 1 rfl) ?_
      refine gf_20_6 S d hk0 fl_RX8_28 dX8_pay_35 ?_
      refine lv_bipush (v := 8) S.1 S.2.1 dX8_pay_38 (by decide) ?_
      refine lv_iload_n S.1 S.2.1 dX8_pay_40 rfl (lv_at hl 2 rfl) ?_
      refine lv_imul S.1 S.2.1 dX8_pay_41 ?_
      refine lv_iconst (v := 1) S.1 S.2.1 dX8_pay_42 (by decide) ?_
      refine lv_iadd S.1 S.2.1 dX8_pay_43 ?_
      refine lv_iload_n S.1 S.2.1 dX8_pay_44 rfl (lv_at hl 3 rfl) ?_
      obtain ⟨g5, h⟩ := gd_e h
      obtain ⟨M6, eM6, h⟩ := lt_e h
      refine r_iast S d eM6 (ksdM S (ch_20_6 hk0).1) (fun _ => wc_21 (ch_20_6 hk0).1) (ch_20_6 hk0).2 g5 dX8_pay_45 (fun H locs d => ?_)
      refine lv_iload_n S.1 S.2.1 dX8_pay_46 rfl (lv_at hl 0 rfl) ?_
      obtain rfl := Option.some.inj h
      exact r_iret S d hr rfl rfl dX8_pay_47
    · replace h := it_p cc h
      refine lv_iconst (v := (-1)) S.1 S.2.1 dX8_pay_20 (by decide) ?_
      obtain rfl := Option.some.inj h
      exact r_iret S d hr rfl rfl dX8_pay_21
theorem hyV_X8_feud : yX8_feud.cls = RX8 ∧ yX8_feud.cls ≠ "java/lang/invoke/MethodHandle" ∧ yX8_feud.cls ≠ "java/lang/invoke/VarHandle" ∧ (parseMethodDescriptor yX8_feud.desc).map (fun d => d.parameters.length) = some 3 := by decide +kernel
abbrev rm_X8_feud : Room := { frames := 1, cells := 0, slots := 0, locals := 25 }
def f_X8_feud (M : Mem) (k0 : Nat) (a1 : Int32) (a2 : Int32) (a3 : Int32) : Option (Int32 × Mem) :=
  (f_X8_in ((a1).toInt64) (0 : Int64) (5 : Int64)).bind (fun u1 =>
  (if u1 = 0 then some ((-1 : Int32), M)
  else (f_X8_in ((a2).toInt64) (0 : Int64) (5 : Int64)).bind (fun u2 =>
    (if u2 = 0 then some ((-1 : Int32), M)
    else (if a1 = a2 then some ((-1 : Int32), M)
      else gd (inb (((6 : Int32) * a1) + a2) 36) (
        lt ((M (k0 + 6) (((6 : Int32) * a1) + a2).toNatClampNeg)) (fun v4 : Int32 =>
        (if a3 = 0 then some (0 : Int32)
        else some (1 : Int32)).bind (fun t5 : Int32 =>
        gd (inb (((6 : Int32) * a1) + a2) 36) (
        lt (up M (k0 + 6) (((6 : Int32) * a1) + a2).toNatClampNeg t5) (fun M8 : Mem =>
        (if a3 = 0 then some (0 : Int32)
        else some (1 : Int32)).bind (fun t9 : Int32 =>
        gd (inb (((6 : Int32) * a2) + a1) 36) (
        lt (up M8 (k0 + 6) (((6 : Int32) * a2) + a1).toNatClampNeg t9) (fun M12 : Mem =>
        some (v4, M12))))))))))))))
set_option maxHeartbeats 4000000 in
set_option maxRecDepth 100000 in
theorem c_X8_feud (l : Launch) (G : Gx) (M : Mem) (L : MemL) (k0 : Nat) (a1 : Int32) (a2 : Int32) (a3 : Int32) (hk0 : kd k0 = 20) {z : Int32 × Mem} (h : f_X8_feud M k0 a1 a2 a3 = some z) : Met l yX8_feud (.code yX8_feud cX8_feud 5 (Option.some Jvm.ClassFile.FieldType.int) :: UW) rm_X8_feud (va_Pc [.ref (ad G k0), .int a1, .int a2, .int a3] (PreG G true M L)) (Qi G z.1 z.2 L) 0 0 (gA G) := by
  refine r_in (by decide) (fun p e s m args below meth c S hr d ha ls hl => ?_) (Nat.le_of_ble_eq_true rfl)
  have S : Sx G true p s m args meth c cX8_feud 5 RX8 := S
  have hl : lv_has ls 5 [(0, .ref (ad G k0)), (1, .int a1), (2, .int a2), (3, .int a3)] := hl
  unfold f_X8_feud at h
  refine lv_iload_n S.1 S.2.1 dX8_feud_0 rfl (lv_at hl 1 rfl) ?_
  refine lv_i2l S.1 S.2.1 dX8_feud_1 rfl ?_
  refine lv_lconst (v := 0) S.1 S.2.1 dX8_feud_2 (by decide) ?_
  refine lv_ldc2 (v := 5) S.1 S.2.1 S.2.2.2.1 (S.uw cn_RX8_86) dX8_feud_3 ?_
  obtain ⟨u1, hu1, h⟩ := bd_e h
  refine r_ri d (r_cS (As := [.long ((a1).toInt64), .long (0 : Int64), .long (5 : Int64)]) (rest := []) S d (c_X8_in l G M L ((a1).toInt64) (0 : Int64) (5 : Int64) hu1) ml_RX8_75 sm_yX8_in in_RX8 co_yX8_in hyS_X8_in ⟨rfl, rfl⟩ ⟨by decide, by decide⟩ rfl hl rfl (Nat.le_of_ble_eq_true rfl) dX8_feud_6 ⟨Nat.zero_le _, Nat.zero_le _⟩) (fun H locs d => ?_)
  refine lv_if_eq (tgt := 29) S.1 S.2.1 dX8_feud_9 (by decide) (fun cc => ?_) (fun cc => ?_)
  · replace h := it_p cc h
    refine lv_iconst (v := (-1)) S.1 S.2.1 dX8_feud_29 (by decide) ?_
    obtain rfl := Option.some.inj h
    exact r_iret S d hr rfl rfl dX8_feud_30
  · replace h := it_n cc h
    refine lv_iload_n S.1 S.2.1 dX8_feud_12 rfl (lv_at hl 2 rfl) ?_
    refine lv_i2l S.1 S.2.1 dX8_feud_13 rfl ?_
    refine lv_lconst (v := 0) S.1 S.2.1 dX8_feud_14 (by decide) ?_
    refine lv_ldc2 (v := 5) S.1 S.2.1 S.2.2.2.1 (S.uw cn_RX8_86) dX8_feud_15 ?_
    obtain ⟨u2, hu2, h⟩ := bd_e h
    refine r_ri d (r_cS (As := [.long ((a2).toInt64), .long (0 : Int64), .long (5 : Int64)]) (rest := []) S d (c_X8_in l G M L ((a2).toInt64) (0 : Int64) (5 : Int64) hu2) ml_RX8_75 sm_yX8_in in_RX8 co_yX8_in hyS_X8_in ⟨rfl, rfl⟩ ⟨by decide, by decide⟩ rfl hl rfl (Nat.le_of_ble_eq_true rfl) dX8_feud_18 ⟨Nat.zero_le _, Nat.zero_le _⟩) (fun H locs d => ?_)
    refine lv_if_eq (tgt := 29) S.1 S.2.1 dX8_feud_21 (by decide) (fun cc => ?_) (fun cc => ?_)
    · replace h := it_p cc h
      refine lv_iconst (v := (-1)) S.1 S.2.1 dX8_feud_29 (by decide) ?_
      obtain rfl := Option.some.inj h
      exact r_iret S d hr rfl rfl dX8_feud_30
    · replace h := it_n cc h
      refine lv_iload_n S.1 S.2.1 dX8_feud_24 rfl (lv_at hl 1 rfl) ?_
      refine lv_iload_n S.1 S.2.1 dX8_feud_25 rfl (lv_at hl 2 rfl) ?_
      refine lv_icmp_ne (tgt := 31) S.1 S.2.1 dX8_feud_26 (by decide) (fun cc => ?_) (fun cc => ?_)
      · replace h := it_n cc h
        refine lv_aload_n S.1 S.2.1 dX8_feud_31 rfl (lv_at hl 0 rfl) ?_
        refine gf_20_5 S d hk0 fl_RX8_25 dX8_feud_32 ?_
        refine lv_bipush (v := 6) S.1 S.2.1 dX8_feud_35 (by decide) ?_
        refine lv_iload_n S.1 S.2.1 dX8_feud_37 rfl (lv_at hl 1 rfl) ?_
        refine lv_imul S.1 S.2.1 dX8_feud_38 ?_
        refine lv_iload_n S.1 S.2.1 dX8_feud_39 rfl (lv_at hl 2 rfl) ?_
        refine lv_iadd S.1 S.2.1 dX8_feud_40 ?_
        obtain ⟨g3, h⟩ := gd_e h
        refine r_iald S d (ksdM S (ch_20_5 hk0).1) (wc_21 (ch_20_5 hk0).1) (ch_20_5 hk0).2 g3 dX8_feud_41 ?_
        obtain ⟨v4, ev4, h⟩ := lt_e h
        refine r_top ev4 ?_
        refine lv_istore (lv' := [(4, .int v4), (0, .ref (ad G k0)), (1, .int a1), (2, .int a2), (3, .int a3)]) S.1 S.2.1 dX8_feud_42 hl (by decide) rfl (fun ls hl => ?_)
        refine lv_aload_n S.1 S.2.1 dX8_feud_44 rfl (lv_at hl 1 rfl) ?_
        refine gf_20_5 S d hk0 fl_RX8_25 dX8_feud_45 ?_
        refine lv_bipush (v := 6) S.1 S.2.1 dX8_feud_48 (by decide) ?_
        refine lv_iload_n S.1 S.2.1 dX8_feud_50 rfl (lv_at hl 2 rfl) ?_
        refine lv_imul S.1 S.2.1 dX8_feud_51 ?_
        refine lv_iload_n S.1 S.2.1 dX8_feud_52 rfl (lv_at hl 3 rfl) ?_
        refine lv_iadd S.1 S.2.1 dX8_feud_53 ?_
        refine lv_iload_n S.1 S.2.1 dX8_feud_54 rfl (lv_at hl 4 rfl) ?_
        obtain ⟨t5, g6, h⟩ := bd_e h
        have Jt5 : ∀ (H : Heap) (locs : List Loc), Dy G s M L H locs → W p l e rm_X8_feud s m args below meth c H locs 0 0 (MQ below (Qi G z.1 z.2 L) args s 0 0 (gA G)) (F0 m 63 ls [.int t5, .int (((6 : Int32) * a1) + a2), .ref (ad G (k0 + 6))]) := by
          intro H locs d
          obtain ⟨g7, h⟩ := gd_e h
          obtain ⟨M8, eM8, h⟩ := lt_e h
          refine r_iast S d eM8 (ksdM S (ch_20_5 hk0).1) (fun _ => wc_21 (ch_20_5 hk0).1) (ch_20_5 hk0).2 g7 dX8_feud_63 (fun H locs d => ?_)
          refine lv_aload_n S.1 S.2.1 dX8_feud_64 rfl (lv_at hl 1 rfl) ?_
          refine gf_20_5 S d hk0 fl_RX8_25 dX8_feud_65 ?_
          refine lv_bipush (v := 6) S.1 S.2.1 dX8_feud_68 (by decide) ?_
          refine lv_iload_n S.1 S.2.1 dX8_feud_70 rfl (lv_at hl 3 rfl) ?_
          refine lv_imul S.1 S.2.1 dX8_feud_71 ?_
          refine lv_iload_n S.1 S.2.1 dX8_feud_72 rfl (lv_at hl 2 rfl) ?_
          refine lv_iadd S.1 S.2.1 dX8_feud_73 ?_
          refine lv_iload_n S.1 S.2.1 dX8_feud_74 rfl (lv_at hl 4 rfl) ?_
          obtain ⟨t9, g10, h⟩ := bd_e h
          have Jt9 : ∀ (H : Heap) (locs : List Loc), Dy G s M8 L H locs → W p l e rm_X8_feud s m args below meth c H locs 0 0 (MQ below (Qi G z.1 z.2 L) args s 0 0 (gA G)) (F0 m 83 ls [.int t9, .int (((6 : Int32) * a2) + a1), .ref (ad G (k0 + 6))]) := by
            intro H locs d
            obtain ⟨g11, h⟩ := gd_e h
            obtain ⟨M12, eM12, h⟩ := lt_e h
            refine r_iast S d eM12 (ksdM S (ch_20_5 hk0).1) (fun _ => wc_21 (ch_20_5 hk0).1) (ch_20_5 hk0).2 g11 dX8_feud_83 (fun H locs d => ?_)
            refine lv_iload S.1 S.2.1 dX8_feud_84 (lv_at hl 0 rfl) ?_
            obtain rfl := Option.some.inj h
            exact r_iret S d hr rfl rfl dX8_feud_86
          have h := g10
          refine lv_if_eq (tgt := 82) S.1 S.2.1 dX8_feud_75 (by decide) (fun cc => ?_) (fun cc => ?_)
          · replace h := it_p cc h
            refine lv_iconst (v := 0) S.1 S.2.1 dX8_feud_82 (by decide) ?_
            obtain ej := Option.some.inj h
            refine r_top ej.symm ?_
            exact Jt9 _ _ d
          · replace h := it_n cc h
            refine lv_iconst (v := 1) S.1 S.2.1 dX8_feud_78 (by decide) ?_
            refine lv_goto (tgt := 83) S.1 S.2.1 dX8_feud_79 (by decide) ?_
            obtain ej := Option.some.inj h
            refine r_top ej.symm ?_
            exact Jt9 _ _ d
        have h := g6
        refine lv_if_eq (tgt := 62) S.1 S.2.1 dX8_feud_55 (by decide) (fun cc => ?_) (fun cc => ?_)
        · replace h := it_p cc h
          refine lv_iconst (v := 0) S.1 S.2.1 dX8_feud_62 (by decide) ?_
          obtain ej := Option.some.inj h
          refine r_top ej.symm ?_
          exact Jt5 _ _ d
        · replace h := it_n cc h
          refine lv_iconst (v := 1) S.1 S.2.1 dX8_feud_58 (by decide) ?_
          refine lv_goto (tgt := 63) S.1 S.2.1 dX8_feud_59 (by decide) ?_
          obtain ej := Option.some.inj h
          refine r_top ej.symm ?_
          exact Jt5 _ _ d
      · replace h := it_p cc h
        refine lv_iconst (v := (-1)) S.1 S.2.1 dX8_feud_29 (by decide) ?_
        obtain rfl := Option.some.inj h
        exact r_iret S d hr rfl rfl dX8_feud_30
theorem hyV_X8_count : yX8_count.cls = RX8 ∧ yX8_count.cls ≠ "java/lang/invoke/MethodHandle" ∧ yX8_count.cls ≠ "java/lang/invoke/VarHandle" ∧ (parseMethodDescriptor yX8_count.desc).map (fun d => d.parameters.length) = some 1 := by decide +kernel
abbrev rm_X8_count : Room := { frames := 0, cells := 0, slots := 0, locals := 0 }
def lp_X8_count_4 (fu : Nat) (M : Mem) (b0 : Nat) (b1 : Int32) (K : Int32 → Option (Int32)) : Nat → Int32 → Int32 → Option (Int32)
  | 0, _, _ => none
  | n + 1, x2, x3 =>
    (if (36 : Int32) ≤ x3 then (K x2)
    else gd (inb x3 36) (
      lt ((x2 + (M (b0 + 6) x3.toNatClampNeg))) (fun v2 : Int32 =>
      lt (x3 + 1) (fun v3 : Int32 =>
      (lp_X8_count_4 fu M b0 b1 K n v2 v3)))))
def lp_X8_count_30 (fu : Nat) (M : Mem) (b0 : Nat) (b1 : Int32) (b2 : Int32) (K : Int32 → Option (Int32)) : Nat → Int32 → Int32 → Option (Int32)
  | 0, _, _ => none
  | n + 1, x3, x4 =>
    (if (6 : Int32) ≤ x4 then (K x3)
    else gd (inb x4 6) (
      lt ((x3 + (M (b0 + 4) x4.toNatClampNeg))) (fun v6 : Int32 =>
      lt (x4 + 1) (fun v7 : Int32 =>
      (lp_X8_count_30 fu M b0 b1 b2 K n v6 v7)))))
def f_X8_count (fu : Nat) (M : Mem) (k0 : Nat) (a1 : Int32) : Option (Int32) :=
  (lp_X8_count_4 fu M k0 a1 (fun (v4 : Int32) =>
    (lp_X8_count_30 fu M k0 a1 v4 (fun (v8 : Int32) =>
      (if a1 = 0 then some ((M k0 7))
      else (if a1 = (1 : Int32) then some ((M k0 8))
        else (if a1 = (2 : Int32) then gd (decide (¬ (2 : Int32) = 0)) (
            some ((v4 / (2 : Int32))))
          else (if a1 = (3 : Int32) then some (v8)
            else some ((-1 : Int32))))))) fu (0 : Int32) (0 : Int32))) fu (0 : Int32) (0 : Int32))
set_option maxHeartbeats 4000000 in
set_option maxRecDepth 100000 in
theorem lc_X8_count_4 {p : Program} {l : Launch} {e : Env} {s : State} {m : MethodId} {args : Array Value} {below : List Frame} {meth : Method} {c : Code} {G : Gx} {M : Mem} {L : MemL} {fu : Nat} {b0 : Nat} {b1 : Int32} {z : Int32} (S : Sx G true p s m args meth c cX8_count 5 RX8) (hr : meth.sig.returnType = (Option.some Jvm.ClassFile.FieldType.int)) (hb0 : kd b0 = 20) (K : Int32 → Option (Int32)) (hK : ∀ (y2 : Int32) (H : Heap) (locs : List Loc), Dy G s M L H locs → ∀ ls : Array Slot, lv_has ls 5 [(0, .ref (ad G b0)), (1, .int b1), (2, .int y2)] → K y2 = some z → W p l e rm_X8_count s m args below meth c H locs 0 0 (MQ below (Qi G z M L) args s 0 0 (gA G)) (F0 m 25 ls [])) :
    ∀ (n : Nat) (x2 : Int32) (x3 : Int32), lp_X8_count_4 fu M b0 b1 K n x2 x3 = some z → ∀ (H : Heap) (locs : List Loc), Dy G s M L H locs → ∀ ls : Array Slot, lv_has ls 5 [(0, .ref (ad G b0)), (1, .int b1), (2, .int x2), (3, .int x3)] → W p l e rm_X8_count s m args below meth c H locs 0 0 (MQ below (Qi G z M L) args s 0 0 (gA G)) (F0 m 4 ls []) := by
  intro n
  induction n with
  | zero =>
    intro x2 x3 h
    have h : (none : Option (Int32)) = some z := h
    cases h
  | succ n ih =>
    intro x2 x3 h H locs d ls hl
    rw [lp_X8_count_4] at h
    refine lv_iload_n S.1 S.2.1 dX8_count_4 rfl (lv_at hl 3 rfl) ?_
    refine lv_bipush (v := 36) S.1 S.2.1 dX8_count_5 (by decide) ?_
    refine lv_icmp_ge (tgt := 25) S.1 S.2.1 dX8_count_7 (by decide) (fun cc => ?_) (fun cc => ?_)
    · replace h := it_p cc h
      exact hK _ _ _ d _ (lv_sub hl [0, 1, 2] rfl) h
    · replace h := it_n cc h
      refine lv_iload_n S.1 S.2.1 dX8_count_10 rfl (lv_at hl 2 rfl) ?_
      refine lv_aload_n S.1 S.2.1 dX8_count_11 rfl (lv_at hl 0 rfl) ?_
      refine gf_20_5 S d hb0 fl_RX8_25 dX8_count_12 ?_
      refine lv_iload_n S.1 S.2.1 dX8_count_15 rfl (lv_at hl 3 rfl) ?_
      obtain ⟨g1, h⟩ := gd_e h
      refine r_iald S d (ksdM S (ch_20_5 hb0).1) (wc_21 (ch_20_5 hb0).1) (ch_20_5 hb0).2 g1 dX8_count_16 ?_
      refine lv_iadd S.1 S.2.1 dX8_count_17 ?_
      obtain ⟨v2, ev2, h⟩ := lt_e h
      refine r_top ev2 ?_
      refine lv_istore_n (lv' := [(2, .int v2), (0, .ref (ad G b0)), (1, .int b1), (3, .int x3)]) S.1 S.2.1 dX8_count_18 rfl hl (by decide) rfl (fun ls hl => ?_)
      obtain ⟨v3, ev3, h⟩ := lt_e h
      refine lv_iinc (v := v3) (lv' := [(3, .int v3), (2, .int v2), (0, .ref (ad G b0)), (1, .int b1)]) S.1 S.2.1 dX8_count_19 hl (k := 3) rfl (by rw [ev3]; rfl) (by decide) rfl (fun ls hl => ?_)
      refine lv_goto (tgt := 4) S.1 S.2.1 dX8_count_22 (by decide) ?_
      exact ih _ _ h _ _ d _ (lv_sub hl [2, 3, 1, 0] rfl)
set_option maxHeartbeats 4000000 in
set_option maxRecDepth 100000 in
theorem lc_X8_count_30 {p : Program} {l : Launch} {e : Env} {s : State} {m : MethodId} {args : Array Value} {below : List Frame} {meth : Method} {c : Code} {G : Gx} {M : Mem} {L : MemL} {fu : Nat} {b0 : Nat} {b1 : Int32} {b2 : Int32} {z : Int32} (S : Sx G true p s m args meth c cX8_count 5 RX8) (hr : meth.sig.returnType = (Option.some Jvm.ClassFile.FieldType.int)) (hb0 : kd b0 = 20) (K : Int32 → Option (Int32)) (hK : ∀ (y3 : Int32) (H : Heap) (locs : List Loc), Dy G s M L H locs → ∀ ls : Array Slot, lv_has ls 5 [(0, .ref (ad G b0)), (1, .int b1), (2, .int b2), (3, .int y3)] → K y3 = some z → W p l e rm_X8_count s m args below meth c H locs 0 0 (MQ below (Qi G z M L) args s 0 0 (gA G)) (F0 m 53 ls [])) :
    ∀ (n : Nat) (x3 : Int32) (x4 : Int32), lp_X8_count_30 fu M b0 b1 b2 K n x3 x4 = some z → ∀ (H : Heap) (locs : List Loc), Dy G s M L H locs → ∀ ls : Array Slot, lv_has ls 5 [(0, .ref (ad G b0)), (1, .int b1), (2, .int b2), (3, .int x3), (4, .int x4)] → W p l e rm_X8_count s m args below meth c H locs 0 0 (MQ below (Qi G z M L) args s 0 0 (gA G)) (F0 m 30 ls []) := by
  intro n
  induction n with
  | zero =>
    intro x3 x4 h
    have h : (none : Option (Int32)) = some z := h
    cases h
  | succ n ih =>
    intro x3 x4 h H locs d ls hl
    rw [lp_X8_count_30] at h
    refine lv_iload S.1 S.2.1 dX8_count_30 (lv_at hl 4 rfl) ?_
    refine lv_bipush (v := 6) S.1 S.2.1 dX8_count_32 (by decide) ?_
    refine lv_icmp_ge (tgt := 53) S.1 S.2.1 dX8_count_34 (by decide) (fun cc => ?_) (fun cc => ?_)
    · replace h := it_p cc h
      exact hK _ _ _ d _ (lv_sub hl [0, 1, 2, 3] rfl) h
    · replace h := it_n cc h
      refine lv_iload_n S.1 S.2.1 dX8_count_37 rfl (lv_at hl 3 rfl) ?_
      refine lv_aload_n S.1 S.2.1 dX8_count_38 rfl (lv_at hl 0 rfl) ?_
      refine gf_20_3 S d hb0 fl_RX8_19 dX8_count_39 ?_
      refine lv_iload S.1 S.2.1 dX8_count_42 (lv_at hl 4 rfl) ?_
      obtain ⟨g5, h⟩ := gd_e h
      refine r_iald S d (ksdM S (ch_20_3 hb0).1) (wc_21 (ch_20_3 hb0).1) (ch_20_3 hb0).2 g5 dX8_count_44 ?_
      refine lv_iadd S.1 S.2.1 dX8_count_45 ?_
      obtain ⟨v6, ev6, h⟩ := lt_e h
      refine r_top ev6 ?_
      refine lv_istore_n (lv' := [(3, .int v6), (0, .ref (ad G b0)), (1, .int b1), (2, .int b2), (4, .int x4)]) S.1 S.2.1 dX8_count_46 rfl hl (by decide) rfl (fun ls hl => ?_)
      obtain ⟨v7, ev7, h⟩ := lt_e h
      refine lv_iinc (v := v7) (lv' := [(4, .int v7), (3, .int v6), (0, .ref (ad G b0)), (1, .int b1), (2, .int b2)]) S.1 S.2.1 dX8_count_47 hl (k := 4) rfl (by rw [ev7]; rfl) (by decide) rfl (fun ls hl => ?_)
      refine lv_goto (tgt := 30) S.1 S.2.1 dX8_count_50 (by decide) ?_
      exact ih _ _ h _ _ d _ (lv_sub hl [2, 3, 4, 1, 0] rfl)
set_option maxHeartbeats 4000000 in
set_option maxRecDepth 100000 in
theorem c_X8_count (l : Launch) (G : Gx) (M : Mem) (L : MemL) (fu : Nat) (k0 : Nat) (a1 : Int32) (hk0 : kd k0 = 20) {z : Int32} (h : f_X8_count fu M k0 a1 = some z) : Met l yX8_count (.code yX8_count cX8_count 5 (Option.some Jvm.ClassFile.FieldType.int) :: UW) rm_X8_count (va_Pc [.ref (ad G k0), .int a1] (PreG G true M L)) (Qi G z M L) 0 0 (gA G) := by
  refine r_in (by decide) (fun p e s m args below meth c S hr d ha ls hl => ?_) (Nat.le_of_ble_eq_true rfl)
  have S : Sx G true p s m args meth c cX8_count 5 RX8 := S
  have hl : lv_has ls 5 [(0, .ref (ad G k0)), (1, .int a1)] := hl
  unfold f_X8_count at h
  refine lv_iconst (v := 0) S.1 S.2.1 dX8_count_0 (by decide) ?_
  refine lv_istore_n (lv' := [(2, .int (0 : Int32)), (0, .ref (ad G k0)), (1, .int a1)]) S.1 S.2.1 dX8_count_1 rfl hl (by decide) rfl (fun ls hl => ?_)
  refine lv_iconst (v := 0) S.1 S.2.1 dX8_count_2 (by decide) ?_
  refine lv_istore_n (lv' := [(3, .int (0 : Int32)), (2, .int (0 : Int32)), (0, .ref (ad G k0)), (1, .int a1)]) S.1 S.2.1 dX8_count_3 rfl hl (by decide) rfl (fun ls hl => ?_)
  refine lc_X8_count_4 S hr hk0 _ (fun v4 H locs d ls hl h => ?_) _ _ _  h _ _ d _ (lv_sub hl [2, 3, 1, 0] rfl)
  refine lv_iconst (v := 0) S.1 S.2.1 dX8_count_25 (by decide) ?_
  refine lv_istore_n (lv' := [(3, .int (0 : Int32)), (0, .ref (ad G k0)), (1, .int a1), (2, .int v4)]) S.1 S.2.1 dX8_count_26 rfl hl (by decide) rfl (fun ls hl => ?_)
  refine lv_iconst (v := 0) S.1 S.2.1 dX8_count_27 (by decide) ?_
  refine lv_istore (lv' := [(4, .int (0 : Int32)), (3, .int (0 : Int32)), (0, .ref (ad G k0)), (1, .int a1), (2, .int v4)]) S.1 S.2.1 dX8_count_28 hl (by decide) rfl (fun ls hl => ?_)
  refine lc_X8_count_30 S hr hk0 _ (fun v8 H locs d ls hl h => ?_) _ _ _  h _ _ d _ (lv_sub hl [2, 3, 4, 1, 0] rfl)
  refine lv_iload_n S.1 S.2.1 dX8_count_53 rfl (lv_at hl 1 rfl) ?_
  refine lv_if_ne (tgt := 64) S.1 S.2.1 dX8_count_54 (by decide) (fun cc => ?_) (fun cc => ?_)
  · replace h := it_n cc h
    refine lv_iload_n S.1 S.2.1 dX8_count_64 rfl (lv_at hl 1 rfl) ?_
    refine lv_iconst (v := 1) S.1 S.2.1 dX8_count_65 (by decide) ?_
    refine lv_icmp_ne (tgt := 76) S.1 S.2.1 dX8_count_66 (by decide) (fun cc => ?_) (fun cc => ?_)
    · replace h := it_n cc h
      refine lv_iload_n S.1 S.2.1 dX8_count_76 rfl (lv_at hl 1 rfl) ?_
      refine lv_iconst (v := 2) S.1 S.2.1 dX8_count_77 (by decide) ?_
      refine lv_icmp_ne (tgt := 87) S.1 S.2.1 dX8_count_78 (by decide) (fun cc => ?_) (fun cc => ?_)
      · replace h := it_n cc h
        refine lv_iload_n S.1 S.2.1 dX8_count_87 rfl (lv_at hl 1 rfl) ?_
        refine lv_iconst (v := 3) S.1 S.2.1 dX8_count_88 (by decide) ?_
        refine lv_icmp_ne (tgt := 96) S.1 S.2.1 dX8_count_89 (by decide) (fun cc => ?_) (fun cc => ?_)
        · replace h := it_n cc h
          refine lv_iconst (v := (-1)) S.1 S.2.1 dX8_count_96 (by decide) ?_
          obtain rfl := Option.some.inj h
          exact r_iret S d hr rfl rfl dX8_count_97
        · replace h := it_p cc h
          refine lv_iload_n S.1 S.2.1 dX8_count_92 rfl (lv_at hl 3 rfl) ?_
          refine lv_goto (tgt := 97) S.1 S.2.1 dX8_count_93 (by decide) ?_
          obtain rfl := Option.some.inj h
          exact r_iret S d hr rfl rfl dX8_count_97
      · replace h := it_p cc h
        refine lv_iload_n S.1 S.2.1 dX8_count_81 rfl (lv_at hl 2 rfl) ?_
        refine lv_iconst (v := 2) S.1 S.2.1 dX8_count_82 (by decide) ?_
        obtain ⟨g9, h⟩ := gd_e h
        refine lv_idiv S.1 S.2.1 dX8_count_83 (of_decide_eq_true g9) ?_
        refine lv_goto (tgt := 97) S.1 S.2.1 dX8_count_84 (by decide) ?_
        obtain rfl := Option.some.inj h
        exact r_iret S d hr rfl rfl dX8_count_97
    · replace h := it_p cc h
      refine lv_aload_n S.1 S.2.1 dX8_count_69 rfl (lv_at hl 0 rfl) ?_
      refine gf_20_8 S d hk0 fl_RX8_83 dX8_count_70 ?_
      refine lv_goto (tgt := 97) S.1 S.2.1 dX8_count_73 (by decide) ?_
      obtain rfl := Option.some.inj h
      exact r_iret S d hr rfl rfl dX8_count_97
  · replace h := it_p cc h
    refine lv_aload_n S.1 S.2.1 dX8_count_57 rfl (lv_at hl 0 rfl) ?_
    refine gf_20_7 S d hk0 fl_RX8_71 dX8_count_58 ?_
    refine lv_goto (tgt := 97) S.1 S.2.1 dX8_count_61 (by decide) ?_
    obtain rfl := Option.some.inj h
    exact r_iret S d hr rfl rfl dX8_count_97
theorem hyV_X8_sizeOf : yX8_sizeOf.cls = RX8 ∧ yX8_sizeOf.cls ≠ "java/lang/invoke/MethodHandle" ∧ yX8_sizeOf.cls ≠ "java/lang/invoke/VarHandle" ∧ (parseMethodDescriptor yX8_sizeOf.desc).map (fun d => d.parameters.length) = some 1 := by decide +kernel
abbrev rm_X8_sizeOf : Room := { frames := 0, cells := 0, slots := 0, locals := 0 }
def f_X8_sizeOf (M : Mem) (k0 : Nat) (a1 : Int32) : Option (Int32) :=
  gd (inb ((8 : Int32) * a1) 80) (
  some ((M (k0 + 7) ((8 : Int32) * a1).toNatClampNeg)))
set_option maxHeartbeats 4000000 in
set_option maxRecDepth 100000 in
theorem c_X8_sizeOf (l : Launch) (G : Gx) (M : Mem) (L : MemL) (k0 : Nat) (a1 : Int32) (hk0 : kd k0 = 20) {z : Int32} (h : f_X8_sizeOf M k0 a1 = some z) : Met l yX8_sizeOf (.code yX8_sizeOf cX8_sizeOf 2 (Option.some Jvm.ClassFile.FieldType.int) :: UW) rm_X8_sizeOf (va_Pc [.ref (ad G k0), .int a1] (PreG G true M L)) (Qi G z M L) 0 0 (gA G) := by
  refine r_in (by decide) (fun p e s m args below meth c S hr d ha ls hl => ?_) (Nat.le_of_ble_eq_true rfl)
  have S : Sx G true p s m args meth c cX8_sizeOf 2 RX8 := S
  have hl : lv_has ls 2 [(0, .ref (ad G k0)), (1, .int a1)] := hl
  unfold f_X8_sizeOf at h
  refine lv_aload_n S.1 S.2.1 dX8_sizeOf_0 rfl (lv_at hl 0 rfl) ?_
  refine gf_20_6 S d hk0 fl_RX8_28 dX8_sizeOf_1 ?_
  refine lv_bipush (v := 8) S.1 S.2.1 dX8_sizeOf_4 (by decide) ?_
  refine lv_iload_n S.1 S.2.1 dX8_sizeOf_6 rfl (lv_at hl 1 rfl) ?_
  refine lv_imul S.1 S.2.1 dX8_sizeOf_7 ?_
  obtain ⟨g1, h⟩ := gd_e h
  refine r_iald S d (ksdM S (ch_20_6 hk0).1) (wc_21 (ch_20_6 hk0).1) (ch_20_6 hk0).2 g1 dX8_sizeOf_8 ?_
  obtain rfl := Option.some.inj h
  exact r_iret S d hr rfl rfl dX8_sizeOf_9
theorem hyV_X8_letterOf : yX8_letterOf.cls = RX8 ∧ yX8_letterOf.cls ≠ "java/lang/invoke/MethodHandle" ∧ yX8_letterOf.cls ≠ "java/lang/invoke/VarHandle" ∧ (parseMethodDescriptor yX8_letterOf.desc).map (fun d => d.parameters.length) = some 2 := by decide +kernel
abbrev rm_X8_letterOf : Room := { frames := 0, cells := 0, slots := 0, locals := 0 }
def f_X8_letterOf (M : Mem) (k0 : Nat) (a1 : Int32) (a2 : Int32) : Option (Int32) :=
  gd (inb ((((8 : Int32) * a1) + (2 : Int32)) + a2) 80) (
  some ((M (k0 + 7) ((((8 : Int32) * a1) + (2 : Int32)) + a2).toNatClampNeg)))
set_option maxHeartbeats 4000000 in
set_option maxRecDepth 100000 in
theorem c_X8_letterOf (l : Launch) (G : Gx) (M : Mem) (L : MemL) (k0 : Nat) (a1 : Int32) (a2 : Int32) (hk0 : kd k0 = 20) {z : Int32} (h : f_X8_letterOf M k0 a1 a2 = some z) : Met l yX8_letterOf (.code yX8_letterOf cX8_letterOf 3 (Option.some Jvm.ClassFile.FieldType.int) :: UW) rm_X8_letterOf (va_Pc [.ref (ad G k0), .int a1, .int a2] (PreG G true M L)) (Qi G z M L) 0 0 (gA G) := by
  refine r_in (by decide) (fun p e s m args below meth c S hr d ha ls hl => ?_) (Nat.le_of_ble_eq_true rfl)
  have S : Sx G true p s m args meth c cX8_letterOf 3 RX8 := S
  have hl : lv_has ls 3 [(0, .ref (ad G k0)), (1, .int a1), (2, .int a2)] := hl
  unfold f_X8_letterOf at h
  refine lv_aload_n S.1 S.2.1 dX8_letterOf_0 rfl (lv_at hl 0 rfl) ?_
  refine gf_20_6 S d hk0 fl_RX8_28 dX8_letterOf_1 ?_
  refine lv_bipush (v := 8) S.1 S.2.1 dX8_letterOf_4 (by decide) ?_
  refine lv_iload_n S.1 S.2.1 dX8_letterOf_6 rfl (lv_at hl 1 rfl) ?_
  refine lv_imul S.1 S.2.1 dX8_letterOf_7 ?_
  refine lv_iconst (v := 2) S.1 S.2.1 dX8_letterOf_8 (by decide) ?_
  refine lv_iadd S.1 S.2.1 dX8_letterOf_9 ?_
  refine lv_iload_n S.1 S.2.1 dX8_letterOf_10 rfl (lv_at hl 2 rfl) ?_
  refine lv_iadd S.1 S.2.1 dX8_letterOf_11 ?_
  obtain ⟨g1, h⟩ := gd_e h
  refine r_iald S d (ksdM S (ch_20_6 hk0).1) (wc_21 (ch_20_6 hk0).1) (ch_20_6 hk0).2 g1 dX8_letterOf_12 ?_
  obtain rfl := Option.some.inj h
  exact r_iret S d hr rfl rfl dX8_letterOf_13
theorem hyV_X8_hasRoom : yX8_hasRoom.cls = RX8 ∧ yX8_hasRoom.cls ≠ "java/lang/invoke/MethodHandle" ∧ yX8_hasRoom.cls ≠ "java/lang/invoke/VarHandle" ∧ (parseMethodDescriptor yX8_hasRoom.desc).map (fun d => d.parameters.length) = some 2 := by decide +kernel
abbrev rm_X8_hasRoom : Room := { frames := 1, cells := 0, slots := 0, locals := 21 }
def f_X8_hasRoom (M : Mem) (k0 : Nat) (a1 : Int32) (a2 : Int32) : Option (Int32) :=
  (f_X8_sizeOf M k0 a1).bind (fun u1 =>
  (if (M k0 7) < (a2 + u1) then some ((0 : Int32))
  else some ((1 : Int32))))
set_option maxHeartbeats 4000000 in
set_option maxRecDepth 100000 in
theorem c_X8_hasRoom (l : Launch) (G : Gx) (M : Mem) (L : MemL) (k0 : Nat) (a1 : Int32) (a2 : Int32) (hk0 : kd k0 = 20) {z : Int32} (h : f_X8_hasRoom M k0 a1 a2 = some z) : Met l yX8_hasRoom (.code yX8_hasRoom cX8_hasRoom 3 (Option.some Jvm.ClassFile.FieldType.boolean) :: UW) rm_X8_hasRoom (va_Pc [.ref (ad G k0), .int a1, .int a2] (PreG G true M L)) (Qi G z M L) 0 0 (gA G) := by
  refine r_in (by decide) (fun p e s m args below meth c S hr d ha ls hl => ?_) (Nat.le_of_ble_eq_true rfl)
  have S : Sx G true p s m args meth c cX8_hasRoom 3 RX8 := S
  have hl : lv_has ls 3 [(0, .ref (ad G k0)), (1, .int a1), (2, .int a2)] := hl
  unfold f_X8_hasRoom at h
  refine lv_iload_n S.1 S.2.1 dX8_hasRoom_0 rfl (lv_at hl 2 rfl) ?_
  refine lv_aload_n S.1 S.2.1 dX8_hasRoom_1 rfl (lv_at hl 0 rfl) ?_
  refine lv_iload_n S.1 S.2.1 dX8_hasRoom_2 rfl (lv_at hl 1 rfl) ?_
  obtain ⟨u1, hu1, h⟩ := bd_e h
  refine r_ri d (r_cV (As := [.int a1]) (rest := [.int a2]) S d (c_X8_sizeOf l G M L k0 a1 hk0 hu1) (ksdM S hk0) (wc_20 hk0) rfl ml_RX8_179 im_yX8_sizeOf se_yX8_sizeOf in_RX8 co_yX8_sizeOf hyV_X8_sizeOf ⟨rfl, rfl⟩ ⟨by decide, by decide⟩ rfl hl rfl (Nat.le_of_ble_eq_true rfl) dX8_hasRoom_3 ⟨Nat.zero_le _, Nat.zero_le _⟩) (fun H locs d => ?_)
  refine lv_iadd S.1 S.2.1 dX8_hasRoom_6 ?_
  refine lv_aload_n S.1 S.2.1 dX8_hasRoom_7 rfl (lv_at hl 0 rfl) ?_
  refine gf_20_7 S d hk0 fl_RX8_71 dX8_hasRoom_8 ?_
  refine lv_icmp_gt (tgt := 18) S.1 S.2.1 dX8_hasRoom_11 (by decide) (fun cc => ?_) (fun cc => ?_)
  · replace h := it_p cc h
    refine lv_iconst (v := 0) S.1 S.2.1 dX8_hasRoom_18 (by decide) ?_
    obtain rfl := Option.some.inj h
    exact r_iret S d hr rfl rfl dX8_hasRoom_19
  · replace h := it_n cc h
    refine lv_iconst (v := 1) S.1 S.2.1 dX8_hasRoom_14 (by decide) ?_
    refine lv_goto (tgt := 19) S.1 S.2.1 dX8_hasRoom_15 (by decide) ?_
    obtain rfl := Option.some.inj h
    exact r_iret S d hr rfl rfl dX8_hasRoom_19
theorem hyV_X8_isWritten : yX8_isWritten.cls = RX8 ∧ yX8_isWritten.cls ≠ "java/lang/invoke/MethodHandle" ∧ yX8_isWritten.cls ≠ "java/lang/invoke/VarHandle" ∧ (parseMethodDescriptor yX8_isWritten.desc).map (fun d => d.parameters.length) = some 2 := by decide +kernel
abbrev rm_X8_isWritten : Room := { frames := 3, cells := 0, slots := 0, locals := 67 }
def lp_X8_isWritten_10 (fu : Nat) (M : Mem) (b0 : Nat) (b1 : Int32) (b2 : Int32) (K : Int32 → Option (Int32)) : Nat → Int32 → Int32 → Option (Int32)
  | 0, _, _ => none
  | n + 1, x3, x4 =>
    (f_X8_sizeOf M b0 b1).bind (fun u2 =>
    (if u2 ≤ x4 then (K x3)
    else (if x3 = 0 then (K x3)
      else (f_X8_seenOf fu M b0 (b2 + x4)).bind (fun u3 =>
        (f_X8_readsAs fu M b0 u3).bind (fun u4 =>
        (f_X8_letterOf M b0 b1 x4).bind (fun u5 =>
        (if u4 = u5 then some (1 : Int32)
        else some (0 : Int32)).bind (fun t6 : Int32 =>
        lt (x4 + 1) (fun v8 : Int32 =>
        (lp_X8_isWritten_10 fu M b0 b1 b2 K n t6 v8)))))))))
def f_X8_isWritten (fu : Nat) (M : Mem) (k0 : Nat) (a1 : Int32) (a2 : Int32) : Option (Int32) :=
  (f_X8_hasRoom M k0 a1 a2).bind (fun u1 =>
  (lp_X8_isWritten_10 fu M k0 a1 a2 (fun (v9 : Int32) =>
    gd (isZ v9) (
    some (v9))) fu u1 (0 : Int32)))
set_option maxHeartbeats 4000000 in
set_option maxRecDepth 100000 in
theorem lc_X8_isWritten_10 {p : Program} {l : Launch} {e : Env} {s : State} {m : MethodId} {args : Array Value} {below : List Frame} {meth : Method} {c : Code} {G : Gx} {M : Mem} {L : MemL} {fu : Nat} {b0 : Nat} {b1 : Int32} {b2 : Int32} {z : Int32} (S : Sx G true p s m args meth c cX8_isWritten 5 RX8) (hr : meth.sig.returnType = (Option.some Jvm.ClassFile.FieldType.boolean)) (hb0 : kd b0 = 20) (K : Int32 → Option (Int32)) (hK : ∀ (y3 : Int32) (H : Heap) (locs : List Loc), Dy G s M L H locs → ∀ ls : Array Slot, lv_has ls 5 [(3, .int y3)] → K y3 = some z → W p l e rm_X8_isWritten s m args below meth c H locs 0 0 (MQ below (Qi G z M L) args s 0 0 (gA G)) (F0 m 58 ls [])) :
    ∀ (n : Nat) (x3 : Int32) (x4 : Int32), lp_X8_isWritten_10 fu M b0 b1 b2 K n x3 x4 = some z → ∀ (H : Heap) (locs : List Loc), Dy G s M L H locs → ∀ ls : Array Slot, lv_has ls 5 [(0, .ref (ad G b0)), (1, .int b1), (2, .int b2), (3, .int x3), (4, .int x4)] → W p l e rm_X8_isWritten s m args below meth c H locs 0 0 (MQ below (Qi G z M L) args s 0 0 (gA G)) (F0 m 10 ls []) := by
  intro n
  induction n with
  | zero =>
    intro x3 x4 h
    have h : (none : Option (Int32)) = some z := h
    cases h
  | succ n ih =>
    intro x3 x4 h H locs d ls hl
    rw [lp_X8_isWritten_10] at h
    refine lv_iload S.1 S.2.1 dX8_isWritten_10 (lv_at hl 4 rfl) ?_
    refine lv_aload_n S.1 S.2.1 dX8_isWritten_12 rfl (lv_at hl 0 rfl) ?_
    refine lv_iload_n S.1 S.2.1 dX8_isWritten_13 rfl (lv_at hl 1 rfl) ?_
    obtain ⟨u2, hu2, h⟩ := bd_e h
    refine r_ri d (r_cV (As := [.int b1]) (rest := [.int x4]) S d (c_X8_sizeOf l G M L b0 b1 hb0 hu2) (ksdM S hb0) (wc_20 hb0) rfl ml_RX8_179 im_yX8_sizeOf se_yX8_sizeOf in_RX8 co_yX8_sizeOf hyV_X8_sizeOf ⟨rfl, rfl⟩ ⟨by decide, by decide⟩ rfl hl rfl (Nat.le_of_ble_eq_true rfl) dX8_isWritten_14 ⟨Nat.zero_le _, Nat.zero_le _⟩) (fun H locs d => ?_)
    refine lv_icmp_ge (tgt := 58) S.1 S.2.1 dX8_isWritten_17 (by decide) (fun cc => ?_) (fun cc => ?_)
    · replace h := it_p cc h
      exact hK _ _ _ d _ (lv_sub hl [3] rfl) h
    · replace h := it_n cc h
      refine lv_iload_n S.1 S.2.1 dX8_isWritten_20 rfl (lv_at hl 3 rfl) ?_
      refine lv_if_eq (tgt := 58) S.1 S.2.1 dX8_isWritten_21 (by decide) (fun cc => ?_) (fun cc => ?_)
      · replace h := it_p cc h
        exact hK _ _ _ d _ (lv_sub hl [3] rfl) h
      · replace h := it_n cc h
        refine lv_aload_n S.1 S.2.1 dX8_isWritten_24 rfl (lv_at hl 0 rfl) ?_
        refine lv_aload_n S.1 S.2.1 dX8_isWritten_25 rfl (lv_at hl 0 rfl) ?_
        refine lv_iload_n S.1 S.2.1 dX8_isWritten_26 rfl (lv_at hl 2 rfl) ?_
        refine lv_iload S.1 S.2.1 dX8_isWritten_27 (lv_at hl 4 rfl) ?_
        refine lv_iadd S.1 S.2.1 dX8_isWritten_29 ?_
        obtain ⟨u3, hu3, h⟩ := bd_e h
        refine r_ri d (r_cV (As := [.int (b2 + x4)]) (rest := [.ref (ad G b0)]) S d (c_X8_seenOf l G M L fu b0 (b2 + x4) hb0 hu3) (ksdM S hb0) (wc_20 hb0) rfl ml_RX8_104 im_yX8_seenOf se_yX8_seenOf in_RX8 co_yX8_seenOf hyV_X8_seenOf ⟨rfl, rfl⟩ ⟨by decide, by decide⟩ rfl hl rfl (Nat.le_of_ble_eq_true rfl) dX8_isWritten_30 ⟨Nat.zero_le _, Nat.zero_le _⟩) (fun H locs d => ?_)
        obtain ⟨u4, hu4, h⟩ := bd_e h
        refine r_ri d (r_cV (As := [.int u3]) (rest := []) S d (c_X8_readsAs l G M L fu b0 u3 hb0 hu4) (ksdM S hb0) (wc_20 hb0) rfl ml_RX8_114 im_yX8_readsAs se_yX8_readsAs in_RX8 co_yX8_readsAs hyV_X8_readsAs ⟨rfl, rfl⟩ ⟨by decide, by decide⟩ rfl hl rfl (Nat.le_of_ble_eq_true rfl) dX8_isWritten_33 ⟨Nat.zero_le _, Nat.zero_le _⟩) (fun H locs d => ?_)
        refine lv_aload_n S.1 S.2.1 dX8_isWritten_36 rfl (lv_at hl 0 rfl) ?_
        refine lv_iload_n S.1 S.2.1 dX8_isWritten_37 rfl (lv_at hl 1 rfl) ?_
        refine lv_iload S.1 S.2.1 dX8_isWritten_38 (lv_at hl 4 rfl) ?_
        obtain ⟨u5, hu5, h⟩ := bd_e h
        refine r_ri d (r_cV (As := [.int b1, .int x4]) (rest := [.int u4]) S d (c_X8_letterOf l G M L b0 b1 x4 hb0 hu5) (ksdM S hb0) (wc_20 hb0) rfl ml_RX8_185 im_yX8_letterOf se_yX8_letterOf in_RX8 co_yX8_letterOf hyV_X8_letterOf ⟨rfl, rfl⟩ ⟨by decide, by decide⟩ rfl hl rfl (Nat.le_of_ble_eq_true rfl) dX8_isWritten_40 ⟨Nat.zero_le _, Nat.zero_le _⟩) (fun H locs d => ?_)
        obtain ⟨t6, g7, h⟩ := bd_e h
        have Jt6 : ∀ (H : Heap) (locs : List Loc), Dy G s M L H locs → W p l e rm_X8_isWritten s m args below meth c H locs 0 0 (MQ below (Qi G z M L) args s 0 0 (gA G)) (F0 m 51 ls [.int t6]) := by
          intro H locs d
          refine lv_istore_n (lv' := [(3, .int t6), (0, .ref (ad G b0)), (1, .int b1), (2, .int b2), (4, .int x4)]) S.1 S.2.1 dX8_isWritten_51 rfl hl (by decide) rfl (fun ls hl => ?_)
          obtain ⟨v8, ev8, h⟩ := lt_e h
          refine lv_iinc (v := v8) (lv' := [(4, .int v8), (3, .int t6), (0, .ref (ad G b0)), (1, .int b1), (2, .int b2)]) S.1 S.2.1 dX8_isWritten_52 hl (k := 4) rfl (by rw [ev8]; rfl) (by decide) rfl (fun ls hl => ?_)
          refine lv_goto (tgt := 10) S.1 S.2.1 dX8_isWritten_55 (by decide) ?_
          exact ih _ _ h _ _ d _ (lv_sub hl [2, 3, 4, 1, 0] rfl)
        have h := g7
        refine lv_icmp_ne (tgt := 50) S.1 S.2.1 dX8_isWritten_43 (by decide) (fun cc => ?_) (fun cc => ?_)
        · replace h := it_n cc h
          refine lv_iconst (v := 0) S.1 S.2.1 dX8_isWritten_50 (by decide) ?_
          obtain ej := Option.some.inj h
          refine r_top ej.symm ?_
          exact Jt6 _ _ d
        · replace h := it_p cc h
          refine lv_iconst (v := 1) S.1 S.2.1 dX8_isWritten_46 (by decide) ?_
          refine lv_goto (tgt := 51) S.1 S.2.1 dX8_isWritten_47 (by decide) ?_
          obtain ej := Option.some.inj h
          refine r_top ej.symm ?_
          exact Jt6 _ _ d
set_option maxHeartbeats 4000000 in
set_option maxRecDepth 100000 in
theorem c_X8_isWritten (l : Launch) (G : Gx) (M : Mem) (L : MemL) (fu : Nat) (k0 : Nat) (a1 : Int32) (a2 : Int32) (hk0 : kd k0 = 20) {z : Int32} (h : f_X8_isWritten fu M k0 a1 a2 = some z) : Met l yX8_isWritten (.code yX8_isWritten cX8_isWritten 5 (Option.some Jvm.ClassFile.FieldType.boolean) :: UW) rm_X8_isWritten (va_Pc [.ref (ad G k0), .int a1, .int a2] (PreG G true M L)) (Qi G z M L) 0 0 (gA G) := by
  refine r_in (by decide) (fun p e s m args below meth c S hr d ha ls hl => ?_) (Nat.le_of_ble_eq_true rfl)
  have S : Sx G true p s m args meth c cX8_isWritten 5 RX8 := S
  have hl : lv_has ls 5 [(0, .ref (ad G k0)), (1, .int a1), (2, .int a2)] := hl
  unfold f_X8_isWritten at h
  refine lv_aload_n S.1 S.2.1 dX8_isWritten_0 rfl (lv_at hl 0 rfl) ?_
  refine lv_iload_n S.1 S.2.1 dX8_isWritten_1 rfl (lv_at hl 1 rfl) ?_
  refine lv_iload_n S.1 S.2.1 dX8_isWritten_2 rfl (lv_at hl 2 rfl) ?_
  obtain ⟨u1, hu1, h⟩ := bd_e h
  refine r_ri d (r_cV (As := [.int a1, .int a2]) (rest := []) S d (c_X8_hasRoom l G M L k0 a1 a2 hk0 hu1) (ksdM S hk0) (wc_20 hk0) rfl ml_RX8_182 im_yX8_hasRoom se_yX8_hasRoom in_RX8 co_yX8_hasRoom hyV_X8_hasRoom ⟨rfl, rfl⟩ ⟨by decide, by decide⟩ rfl hl rfl (Nat.le_of_ble_eq_true rfl) dX8_isWritten_3 ⟨Nat.zero_le _, Nat.zero_le _⟩) (fun H locs d => ?_)
  refine lv_istore_n (lv' := [(3, .int u1), (0, .ref (ad G k0)), (1, .int a1), (2, .int a2)]) S.1 S.2.1 dX8_isWritten_6 rfl hl (by decide) rfl (fun ls hl => ?_)
  refine lv_iconst (v := 0) S.1 S.2.1 dX8_isWritten_7 (by decide) ?_
  refine lv_istore (lv' := [(4, .int (0 : Int32)), (3, .int u1), (0, .ref (ad G k0)), (1, .int a1), (2, .int a2)]) S.1 S.2.1 dX8_isWritten_8 hl (by decide) rfl (fun ls hl => ?_)
  refine lc_X8_isWritten_10 S hr hk0 _ (fun v9 H locs d ls hl h => ?_) _ _ _  h _ _ d _ (lv_sub hl [2, 3, 4, 1, 0] rfl)
  refine lv_iload_n S.1 S.2.1 dX8_isWritten_58 rfl (lv_at hl 0 rfl) ?_
  obtain ⟨gz, h⟩ := gd_e h
  obtain rfl := Option.some.inj h
  exact r_iret S d hr (isZ_nar gz) rfl dX8_isWritten_59
theorem hyV_X8_written : yX8_written.cls = RX8 ∧ yX8_written.cls ≠ "java/lang/invoke/MethodHandle" ∧ yX8_written.cls ≠ "java/lang/invoke/VarHandle" ∧ (parseMethodDescriptor yX8_written.desc).map (fun d => d.parameters.length) = some 2 := by decide +kernel
abbrev rm_X8_written : Room := { frames := 4, cells := 0, slots := 0, locals := 91 }
def f_X8_written (fu : Nat) (M : Mem) (k0 : Nat) (a1 : Int32) (a2 : Int32) : Option (Int32) :=
  (f_X8_isWord M k0 a1).bind (fun u1 =>
  (if u1 = 0 then some ((-1 : Int32))
  else (f_X8_isStrip M k0 a2).bind (fun u2 =>
    (if u2 = 0 then some ((-1 : Int32))
    else (f_X8_isWritten fu M k0 a1 a2).bind (fun u3 =>
      (if u3 = 0 then some ((0 : Int32))
      else some ((1 : Int32))))))))
set_option maxHeartbeats 4000000 in
set_option maxRecDepth 100000 in
theorem c_X8_written (l : Launch) (G : Gx) (M : Mem) (L : MemL) (fu : Nat) (k0 : Nat) (a1 : Int32) (a2 : Int32) (hk0 : kd k0 = 20) {z : Int32} (h : f_X8_written fu M k0 a1 a2 = some z) : Met l yX8_written (.code yX8_written cX8_written 3 (Option.some Jvm.ClassFile.FieldType.int) :: UW) rm_X8_written (va_Pc [.ref (ad G k0), .int a1, .int a2] (PreG G true M L)) (Qi G z M L) 0 0 (gA G) := by
  refine r_in (by decide) (fun p e s m args below meth c S hr d ha ls hl => ?_) (Nat.le_of_ble_eq_true rfl)
  have S : Sx G true p s m args meth c cX8_written 3 RX8 := S
  have hl : lv_has ls 3 [(0, .ref (ad G k0)), (1, .int a1), (2, .int a2)] := hl
  unfold f_X8_written at h
  refine lv_aload_n S.1 S.2.1 dX8_written_0 rfl (lv_at hl 0 rfl) ?_
  refine lv_iload_n S.1 S.2.1 dX8_written_1 rfl (lv_at hl 1 rfl) ?_
  obtain ⟨u1, hu1, h⟩ := bd_e h
  refine r_ri d (r_cV (As := [.int a1]) (rest := []) S d (c_X8_isWord l G M L k0 a1 hk0 hu1) (ksdM S hk0) (wc_20 hk0) rfl ml_RX8_174 im_yX8_isWord se_yX8_isWord in_RX8 co_yX8_isWord hyV_X8_isWord ⟨rfl, rfl⟩ ⟨by decide, by decide⟩ rfl hl rfl (Nat.le_of_ble_eq_true rfl) dX8_written_2 ⟨Nat.zero_le _, Nat.zero_le _⟩) (fun H locs d => ?_)
  refine lv_if_eq (tgt := 16) S.1 S.2.1 dX8_written_5 (by decide) (fun cc => ?_) (fun cc => ?_)
  · replace h := it_p cc h
    refine lv_iconst (v := (-1)) S.1 S.2.1 dX8_written_16 (by decide) ?_
    refine lv_goto (tgt := 34) S.1 S.2.1 dX8_written_17 (by decide) ?_
    obtain rfl := Option.some.inj h
    exact r_iret S d hr rfl rfl dX8_written_34
  · replace h := it_n cc h
    refine lv_aload_n S.1 S.2.1 dX8_written_8 rfl (lv_at hl 0 rfl) ?_
    refine lv_iload_n S.1 S.2.1 dX8_written_9 rfl (lv_at hl 2 rfl) ?_
    obtain ⟨u2, hu2, h⟩ := bd_e h
    refine r_ri d (r_cV (As := [.int a2]) (rest := []) S d (c_X8_isStrip l G M L k0 a2 hk0 hu2) (ksdM S hk0) (wc_20 hk0) rfl ml_RX8_94 im_yX8_isStrip se_yX8_isStrip in_RX8 co_yX8_isStrip hyV_X8_isStrip ⟨rfl, rfl⟩ ⟨by decide, by decide⟩ rfl hl rfl (Nat.le_of_ble_eq_true rfl) dX8_written_10 ⟨Nat.zero_le _, Nat.zero_le _⟩) (fun H locs d => ?_)
    refine lv_if_ne (tgt := 20) S.1 S.2.1 dX8_written_13 (by decide) (fun cc => ?_) (fun cc => ?_)
    · replace h := it_n cc h
      refine lv_aload_n S.1 S.2.1 dX8_written_20 rfl (lv_at hl 0 rfl) ?_
      refine lv_iload_n S.1 S.2.1 dX8_written_21 rfl (lv_at hl 1 rfl) ?_
      refine lv_iload_n S.1 S.2.1 dX8_written_22 rfl (lv_at hl 2 rfl) ?_
      obtain ⟨u3, hu3, h⟩ := bd_e h
      refine r_ri d (r_cV (As := [.int a1, .int a2]) (rest := []) S d (c_X8_isWritten l G M L fu k0 a1 a2 hk0 hu3) (ksdM S hk0) (wc_20 hk0) rfl ml_RX8_188 im_yX8_isWritten se_yX8_isWritten in_RX8 co_yX8_isWritten hyV_X8_isWritten ⟨rfl, rfl⟩ ⟨by decide, by decide⟩ rfl hl rfl (Nat.le_of_ble_eq_true rfl) dX8_written_23 ⟨Nat.zero_le _, Nat.zero_le _⟩) (fun H locs d => ?_)
      refine lv_if_eq (tgt := 33) S.1 S.2.1 dX8_written_26 (by decide) (fun cc => ?_) (fun cc => ?_)
      · replace h := it_p cc h
        refine lv_iconst (v := 0) S.1 S.2.1 dX8_written_33 (by decide) ?_
        obtain rfl := Option.some.inj h
        exact r_iret S d hr rfl rfl dX8_written_34
      · replace h := it_n cc h
        refine lv_iconst (v := 1) S.1 S.2.1 dX8_written_29 (by decide) ?_
        refine lv_goto (tgt := 34) S.1 S.2.1 dX8_written_30 (by decide) ?_
        obtain rfl := Option.some.inj h
        exact r_iret S d hr rfl rfl dX8_written_34
    · replace h := it_p cc h
      refine lv_iconst (v := (-1)) S.1 S.2.1 dX8_written_16 (by decide) ?_
      refine lv_goto (tgt := 34) S.1 S.2.1 dX8_written_17 (by decide) ?_
      obtain rfl := Option.some.inj h
      exact r_iret S d hr rfl rfl dX8_written_34
theorem hyV_X8_mayBe : yX8_mayBe.cls = RX8 ∧ yX8_mayBe.cls ≠ "java/lang/invoke/MethodHandle" ∧ yX8_mayBe.cls ≠ "java/lang/invoke/VarHandle" ∧ (parseMethodDescriptor yX8_mayBe.desc).map (fun d => d.parameters.length) = some 2 := by decide +kernel
abbrev rm_X8_mayBe : Room := { frames := 3, cells := 0, slots := 0, locals := 67 }
def lp_X8_mayBe_87 (fu : Nat) (M : Mem) (b0 : Nat) (b1 : Int32) (b2 : Int32) (b4 : Int32) (b5 : Int32) (K : Int32 → Option (Int32)) : Nat → Int32 → Int32 → Option (Int32)
  | 0, _, _ => none
  | n + 1, x3, x7 =>
    (if b4 ≤ x7 then (K x3)
    else (if x3 = 0 then some (0 : Int32)
      else gd (inb (b2 + x7) 9) (
        gd (inb b5 9) (
        gd (inb (((6 : Int32) * (M (b0 + 2) (b2 + x7).toNatClampNeg)) + (M (b0 + 2) b5.toNatClampNeg)) 36) (
        (if (M (b0 + 6) (((6 : Int32) * (M (b0 + 2) (b2 + x7).toNatClampNeg)) + (M (b0 + 2) b5.toNatClampNeg)).toNatClampNeg) = 0 then some (1 : Int32)
        else some (0 : Int32)))))).bind (fun t13 : Int32 =>
      lt (x7 + 1) (fun v18 : Int32 =>
      (lp_X8_mayBe_87 fu M b0 b1 b2 b4 b5 K n t13 v18))))
def lp_X8_mayBe_10 (fu : Nat) (M : Mem) (b0 : Nat) (b1 : Int32) (b2 : Int32) (K : Int32 → Option (Int32)) : Nat → Int32 → Int32 → Option (Int32)
  | 0, _, _ => none
  | n + 1, x3, x4 =>
    (f_X8_sizeOf M b0 b1).bind (fun u2 =>
    (if u2 ≤ x4 then (K x3)
    else (if x3 = 0 then (K x3)
      else lt ((b2 + x4)) (fun v3 : Int32 =>
        (f_X8_letterOf M b0 b1 x4).bind (fun u4 =>
        gd (inb u4 26) (
        lt ((M (b0 + 1) u4.toNatClampNeg)) (fun v6 : Int32 =>
        (f_X8_hasGrown fu M b0 v3 v6).bind (fun u7 =>
        (if u7 = 0 then some (0 : Int32)
        else (f_X8_seenOf fu M b0 v3).bind (fun u10 =>
          (f_X8_readsAs fu M b0 (u10 ||| v6)).bind (fun u11 =>
          (f_X8_letterOf M b0 b1 x4).bind (fun u12 =>
          (if u11 = u12 then some (1 : Int32)
          else some (0 : Int32)))))).bind (fun t8 : Int32 =>
        (lp_X8_mayBe_87 fu M b0 b1 b2 x4 v3 (fun (v19 : Int32) =>
          lt (x4 + 1) (fun v20 : Int32 =>
          (lp_X8_mayBe_10 fu M b0 b1 b2 K n v19 v20))) fu t8 (0 : Int32)))))))))))
def f_X8_mayBe (fu : Nat) (M : Mem) (k0 : Nat) (a1 : Int32) (a2 : Int32) : Option (Int32) :=
  (f_X8_hasRoom M k0 a1 a2).bind (fun u1 =>
  (lp_X8_mayBe_10 fu M k0 a1 a2 (fun (v21 : Int32) =>
    gd (isZ v21) (
    some (v21))) fu u1 (0 : Int32)))
set_option maxHeartbeats 4000000 in
set_option maxRecDepth 100000 in
theorem lc_X8_mayBe_87 {p : Program} {l : Launch} {e : Env} {s : State} {m : MethodId} {args : Array Value} {below : List Frame} {meth : Method} {c : Code} {G : Gx} {M : Mem} {L : MemL} {fu : Nat} {b0 : Nat} {b1 : Int32} {b2 : Int32} {b4 : Int32} {b5 : Int32} {z : Int32} (S : Sx G true p s m args meth c cX8_mayBe 8 RX8) (hr : meth.sig.returnType = (Option.some Jvm.ClassFile.FieldType.boolean)) (hb0 : kd b0 = 20) (K : Int32 → Option (Int32)) (hK : ∀ (y3 : Int32) (H : Heap) (locs : List Loc), Dy G s M L H locs → ∀ ls : Array Slot, lv_has ls 8 [(0, .ref (ad G b0)), (1, .int b1), (2, .int b2), (3, .int y3), (4, .int b4)] → K y3 = some z → W p l e rm_X8_mayBe s m args below meth c H locs 0 0 (MQ below (Qi G z M L) args s 0 0 (gA G)) (F0 m 138 ls [])) :
    ∀ (n : Nat) (x3 : Int32) (x7 : Int32), lp_X8_mayBe_87 fu M b0 b1 b2 b4 b5 K n x3 x7 = some z → ∀ (H : Heap) (locs : List Loc), Dy G s M L H locs → ∀ ls : Array Slot, lv_has ls 8 [(0, .ref (ad G b0)), (1, .int b1), (2, .int b2), (3, .int x3), (4, .int b4), (5, .int b5), (7, .int x7)] → W p l e rm_X8_mayBe s m args below meth c H locs 0 0 (MQ below (Qi G z M L) args s 0 0 (gA G)) (F0 m 87 ls []) := by
  intro n
  induction n with
  | zero =>
    intro x3 x7 h
    have h : (none : Option (Int32)) = some z := h
    cases h
  | succ n ih =>
    intro x3 x7 h H locs d ls hl
    rw [lp_X8_mayBe_87] at h
    refine lv_iload S.1 S.2.1 dX8_mayBe_87 (lv_at hl 6 rfl) ?_
    refine lv_iload S.1 S.2.1 dX8_mayBe_89 (lv_at hl 4 rfl) ?_
    refine lv_icmp_ge (tgt := 138) S.1 S.2.1 dX8_mayBe_91 (by decide) (fun cc => ?_) (fun cc => ?_)
    · replace h := it_p cc h
      exact hK _ _ _ d _ (lv_sub hl [0, 1, 2, 3, 4] rfl) h
    · replace h := it_n cc h
      refine lv_iload_n S.1 S.2.1 dX8_mayBe_94 rfl (lv_at hl 3 rfl) ?_
      obtain ⟨t13, g14, h⟩ := bd_e h
      have Jt13 : ∀ (H : Heap) (locs : List Loc), Dy G s M L H locs → W p l e rm_X8_mayBe s m args below meth c H locs 0 0 (MQ below (Qi G z M L) args s 0 0 (gA G)) (F0 m 131 ls [.int t13]) := by
        intro H locs d
        refine lv_istore_n (lv' := [(3, .int t13), (0, .ref (ad G b0)), (1, .int b1), (2, .int b2), (4, .int b4), (5, .int b5), (7, .int x7)]) S.1 S.2.1 dX8_mayBe_131 rfl hl (by decide) rfl (fun ls hl => ?_)
        obtain ⟨v18, ev18, h⟩ := lt_e h
        refine lv_iinc (v := v18) (lv' := [(7, .int v18), (3, .int t13), (0, .ref (ad G b0)), (1, .int b1), (2, .int b2), (4, .int b4), (5, .int b5)]) S.1 S.2.1 dX8_mayBe_132 hl (k := 6) rfl (by rw [ev18]; rfl) (by decide) rfl (fun ls hl => ?_)
        refine lv_goto (tgt := 87) S.1 S.2.1 dX8_mayBe_135 (by decide) ?_
        exact ih _ _ h _ _ d _ (lv_sub hl [2, 3, 4, 1, 5, 6, 0] rfl)
      have h := g14
      refine lv_if_eq (tgt := 130) S.1 S.2.1 dX8_mayBe_95 (by decide) (fun cc => ?_) (fun cc => ?_)
      · replace h := it_p cc h
        refine lv_iconst (v := 0) S.1 S.2.1 dX8_mayBe_130 (by decide) ?_
        obtain ej := Option.some.inj h
        refine r_top ej.symm ?_
        exact Jt13 _ _ d
      · replace h := it_n cc h
        refine lv_aload_n S.1 S.2.1 dX8_mayBe_98 rfl (lv_at hl 0 rfl) ?_
        refine gf_20_5 S d hb0 fl_RX8_25 dX8_mayBe_99 ?_
        refine lv_bipush (v := 6) S.1 S.2.1 dX8_mayBe_102 (by decide) ?_
        refine lv_aload_n S.1 S.2.1 dX8_mayBe_104 rfl (lv_at hl 0 rfl) ?_
        refine gf_20_1 S d hb0 fl_RX8_13 dX8_mayBe_105 ?_
        refine lv_iload_n S.1 S.2.1 dX8_mayBe_108 rfl (lv_at hl 2 rfl) ?_
        refine lv_iload S.1 S.2.1 dX8_mayBe_109 (lv_at hl 6 rfl) ?_
        refine lv_iadd S.1 S.2.1 dX8_mayBe_111 ?_
        obtain ⟨g15, h⟩ := gd_e h
        refine r_iald S d (ksdM S (ch_20_1 hb0).1) (wc_21 (ch_20_1 hb0).1) (ch_20_1 hb0).2 g15 dX8_mayBe_112 ?_
        refine lv_imul S.1 S.2.1 dX8_mayBe_113 ?_
        refine lv_aload_n S.1 S.2.1 dX8_mayBe_114 rfl (lv_at hl 0 rfl) ?_
        refine gf_20_1 S d hb0 fl_RX8_13 dX8_mayBe_115 ?_
        refine lv_iload S.1 S.2.1 dX8_mayBe_118 (lv_at hl 5 rfl) ?_
        obtain ⟨g16, h⟩ := gd_e h
        refine r_iald S d (ksdM S (ch_20_1 hb0).1) (wc_21 (ch_20_1 hb0).1) (ch_20_1 hb0).2 g16 dX8_mayBe_120 ?_
        refine lv_iadd S.1 S.2.1 dX8_mayBe_121 ?_
        obtain ⟨g17, h⟩ := gd_e h
        refine r_iald S d (ksdM S (ch_20_5 hb0).1) (wc_21 (ch_20_5 hb0).1) (ch_20_5 hb0).2 g17 dX8_mayBe_122 ?_
        refine lv_if_ne (tgt := 130) S.1 S.2.1 dX8_mayBe_123 (by decide) (fun cc => ?_) (fun cc => ?_)
        · replace h := it_n cc h
          refine lv_iconst (v := 0) S.1 S.2.1 dX8_mayBe_130 (by decide) ?_
          obtain ej := Option.some.inj h
          refine r_top ej.symm ?_
          exact Jt13 _ _ d
        · replace h := it_p cc h
          refine lv_iconst (v := 1) S.1 S.2.1 dX8_mayBe_126 (by decide) ?_
          refine lv_goto (tgt := 131) S.1 S.2.1 dX8_mayBe_127 (by decide) ?_
          obtain ej := Option.some.inj h
          refine r_top ej.symm ?_
          exact Jt13 _ _ d
set_option maxHeartbeats 4000000 in
set_option maxRecDepth 100000 in
theorem lc_X8_mayBe_10 {p : Program} {l : Launch} {e : Env} {s : State} {m : MethodId} {args : Array Value} {below : List Frame} {meth : Method} {c : Code} {G : Gx} {M : Mem} {L : MemL} {fu : Nat} {b0 : Nat} {b1 : Int32} {b2 : Int32} {z : Int32} (S : Sx G true p s m args meth c cX8_mayBe 8 RX8) (hr : meth.sig.returnType = (Option.some Jvm.ClassFile.FieldType.boolean)) (hb0 : kd b0 = 20) (K : Int32 → Option (Int32)) (hK : ∀ (y3 : Int32) (H : Heap) (locs : List Loc), Dy G s M L H locs → ∀ ls : Array Slot, lv_has ls 8 [(3, .int y3)] → K y3 = some z → W p l e rm_X8_mayBe s m args below meth c H locs 0 0 (MQ below (Qi G z M L) args s 0 0 (gA G)) (F0 m 144 ls [])) :
    ∀ (n : Nat) (x3 : Int32) (x4 : Int32), lp_X8_mayBe_10 fu M b0 b1 b2 K n x3 x4 = some z → ∀ (H : Heap) (locs : List Loc), Dy G s M L H locs → ∀ ls : Array Slot, lv_has ls 8 [(0, .ref (ad G b0)), (1, .int b1), (2, .int b2), (3, .int x3), (4, .int x4)] → W p l e rm_X8_mayBe s m args below meth c H locs 0 0 (MQ below (Qi G z M L) args s 0 0 (gA G)) (F0 m 10 ls []) := by
  intro n
  induction n with
  | zero =>
    intro x3 x4 h
    have h : (none : Option (Int32)) = some z := h
    cases h
  | succ n ih =>
    intro x3 x4 h H locs d ls hl
    rw [lp_X8_mayBe_10] at h
    refine lv_iload S.1 S.2.1 dX8_mayBe_10 (lv_at hl 4 rfl) ?_
    refine lv_aload_n S.1 S.2.1 dX8_mayBe_12 rfl (lv_at hl 0 rfl) ?_
    refine lv_iload_n S.1 S.2.1 dX8_mayBe_13 rfl (lv_at hl 1 rfl) ?_
    obtain ⟨u2, hu2, h⟩ := bd_e h
    refine r_ri d (r_cV (As := [.int b1]) (rest := [.int x4]) S d (c_X8_sizeOf l G M L b0 b1 hb0 hu2) (ksdM S hb0) (wc_20 hb0) rfl ml_RX8_179 im_yX8_sizeOf se_yX8_sizeOf in_RX8 co_yX8_sizeOf hyV_X8_sizeOf ⟨rfl, rfl⟩ ⟨by decide, by decide⟩ rfl hl rfl (Nat.le_of_ble_eq_true rfl) dX8_mayBe_14 ⟨Nat.zero_le _, Nat.zero_le _⟩) (fun H locs d => ?_)
    refine lv_icmp_ge (tgt := 144) S.1 S.2.1 dX8_mayBe_17 (by decide) (fun cc => ?_) (fun cc => ?_)
    · replace h := it_p cc h
      exact hK _ _ _ d _ (lv_sub hl [3] rfl) h
    · replace h := it_n cc h
      refine lv_iload_n S.1 S.2.1 dX8_mayBe_20 rfl (lv_at hl 3 rfl) ?_
      refine lv_if_eq (tgt := 144) S.1 S.2.1 dX8_mayBe_21 (by decide) (fun cc => ?_) (fun cc => ?_)
      · replace h := it_p cc h
        exact hK _ _ _ d _ (lv_sub hl [3] rfl) h
      · replace h := it_n cc h
        refine lv_iload_n S.1 S.2.1 dX8_mayBe_24 rfl (lv_at hl 2 rfl) ?_
        refine lv_iload S.1 S.2.1 dX8_mayBe_25 (lv_at hl 4 rfl) ?_
        refine lv_iadd S.1 S.2.1 dX8_mayBe_27 ?_
        obtain ⟨v3, ev3, h⟩ := lt_e h
        refine r_top ev3 ?_
        refine lv_istore (lv' := [(5, .int v3), (0, .ref (ad G b0)), (1, .int b1), (2, .int b2), (3, .int x3), (4, .int x4)]) S.1 S.2.1 dX8_mayBe_28 hl (by decide) rfl (fun ls hl => ?_)
        refine lv_aload_n S.1 S.2.1 dX8_mayBe_30 rfl (lv_at hl 1 rfl) ?_
        refine gf_20_0 S d hb0 fl_RX8_7 dX8_mayBe_31 ?_
        refine lv_aload_n S.1 S.2.1 dX8_mayBe_34 rfl (lv_at hl 1 rfl) ?_
        refine lv_iload_n S.1 S.2.1 dX8_mayBe_35 rfl (lv_at hl 2 rfl) ?_
        refine lv_iload S.1 S.2.1 dX8_mayBe_36 (lv_at hl 5 rfl) ?_
        obtain ⟨u4, hu4, h⟩ := bd_e h
        refine r_ri d (r_cV (As := [.int b1, .int x4]) (rest := [.ref (ad G (b0 + 1))]) S d (c_X8_letterOf l G M L b0 b1 x4 hb0 hu4) (ksdM S hb0) (wc_20 hb0) rfl ml_RX8_185 im_yX8_letterOf se_yX8_letterOf in_RX8 co_yX8_letterOf hyV_X8_letterOf ⟨rfl, rfl⟩ ⟨by decide, by decide⟩ rfl hl rfl (Nat.le_of_ble_eq_true rfl) dX8_mayBe_38 ⟨Nat.zero_le _, Nat.zero_le _⟩) (fun H locs d => ?_)
        obtain ⟨g5, h⟩ := gd_e h
        refine r_iald S d (ksdM S (ch_20_0 hb0).1) (wc_21 (ch_20_0 hb0).1) (ch_20_0 hb0).2 g5 dX8_mayBe_41 ?_
        obtain ⟨v6, ev6, h⟩ := lt_e h
        refine r_top ev6 ?_
        refine lv_istore (lv' := [(6, .int v6), (5, .int v3), (0, .ref (ad G b0)), (1, .int b1), (2, .int b2), (3, .int x3), (4, .int x4)]) S.1 S.2.1 dX8_mayBe_42 hl (by decide) rfl (fun ls hl => ?_)
        refine lv_aload_n S.1 S.2.1 dX8_mayBe_44 rfl (lv_at hl 2 rfl) ?_
        refine lv_iload S.1 S.2.1 dX8_mayBe_45 (lv_at hl 1 rfl) ?_
        refine lv_iload S.1 S.2.1 dX8_mayBe_47 (lv_at hl 0 rfl) ?_
        obtain ⟨u7, hu7, h⟩ := bd_e h
        refine r_ri d (r_cV (As := [.int v3, .int v6]) (rest := []) S d (c_X8_hasGrown l G M L fu b0 v3 v6 hb0 hu7) (ksdM S hb0) (wc_20 hb0) rfl ml_RX8_121 im_yX8_hasGrown se_yX8_hasGrown in_RX8 co_yX8_hasGrown hyV_X8_hasGrown ⟨rfl, rfl⟩ ⟨by decide, by decide⟩ rfl hl rfl (Nat.le_of_ble_eq_true rfl) dX8_mayBe_49 ⟨Nat.zero_le _, Nat.zero_le _⟩) (fun H locs d => ?_)
        obtain ⟨t8, g9, h⟩ := bd_e h
        have Jt8 : ∀ (H : Heap) (locs : List Loc), Dy G s M L H locs → W p l e rm_X8_mayBe s m args below meth c H locs 0 0 (MQ below (Qi G z M L) args s 0 0 (gA G)) (F0 m 83 ls [.int t8]) := by
          intro H locs d
          refine lv_istore_n (lv' := [(3, .int t8), (6, .int v6), (5, .int v3), (0, .ref (ad G b0)), (1, .int b1), (2, .int b2), (4, .int x4)]) S.1 S.2.1 dX8_mayBe_83 rfl hl (by decide) rfl (fun ls hl => ?_)
          refine lv_iconst (v := 0) S.1 S.2.1 dX8_mayBe_84 (by decide) ?_
          refine lv_istore (lv' := [(7, .int (0 : Int32)), (3, .int t8), (6, .int v6), (5, .int v3), (0, .ref (ad G b0)), (1, .int b1), (2, .int b2), (4, .int x4)]) S.1 S.2.1 dX8_mayBe_85 hl (by decide) rfl (fun ls hl => ?_)
          refine lc_X8_mayBe_87 S hr hb0 _ (fun v19 H locs d ls hl h => ?_) _ _ _  h _ _ d _ (lv_sub hl [4, 5, 6, 1, 7, 3, 0] rfl)
          obtain ⟨v20, ev20, h⟩ := lt_e h
          refine lv_iinc (v := v20) (lv' := [(4, .int v20), (0, .ref (ad G b0)), (1, .int b1), (2, .int b2), (3, .int v19)]) S.1 S.2.1 dX8_mayBe_138 hl (k := 4) rfl (by rw [ev20]; rfl) (by decide) rfl (fun ls hl => ?_)
          refine lv_goto (tgt := 10) S.1 S.2.1 dX8_mayBe_141 (by decide) ?_
          exact ih _ _ h _ _ d _ (lv_sub hl [1, 2, 3, 4, 0] rfl)
        have h := g9
        refine lv_if_eq (tgt := 82) S.1 S.2.1 dX8_mayBe_52 (by decide) (fun cc => ?_) (fun cc => ?_)
        · replace h := it_p cc h
          refine lv_iconst (v := 0) S.1 S.2.1 dX8_mayBe_82 (by decide) ?_
          obtain ej := Option.some.inj h
          refine r_top ej.symm ?_
          exact Jt8 _ _ d
        · replace h := it_n cc h
          refine lv_aload_n S.1 S.2.1 dX8_mayBe_55 rfl (lv_at hl 2 rfl) ?_
          refine lv_aload_n S.1 S.2.1 dX8_mayBe_56 rfl (lv_at hl 2 rfl) ?_
          refine lv_iload S.1 S.2.1 dX8_mayBe_57 (lv_at hl 1 rfl) ?_
          obtain ⟨u10, hu10, h⟩ := bd_e h
          refine r_ri d (r_cV (As := [.int v3]) (rest := [.ref (ad G b0)]) S d (c_X8_seenOf l G M L fu b0 v3 hb0 hu10) (ksdM S hb0) (wc_20 hb0) rfl ml_RX8_104 im_yX8_seenOf se_yX8_seenOf in_RX8 co_yX8_seenOf hyV_X8_seenOf ⟨rfl, rfl⟩ ⟨by decide, by decide⟩ rfl hl rfl (Nat.le_of_ble_eq_true rfl) dX8_mayBe_59 ⟨Nat.zero_le _, Nat.zero_le _⟩) (fun H locs d => ?_)
          refine lv_iload S.1 S.2.1 dX8_mayBe_62 (lv_at hl 0 rfl) ?_
          refine lv_ior S.1 S.2.1 dX8_mayBe_64 ?_
          obtain ⟨u11, hu11, h⟩ := bd_e h
          refine r_ri d (r_cV (As := [.int (u10 ||| v6)]) (rest := []) S d (c_X8_readsAs l G M L fu b0 (u10 ||| v6) hb0 hu11) (ksdM S hb0) (wc_20 hb0) rfl ml_RX8_114 im_yX8_readsAs se_yX8_readsAs in_RX8 co_yX8_readsAs hyV_X8_readsAs ⟨rfl, rfl⟩ ⟨by decide, by decide⟩ rfl hl rfl (Nat.le_of_ble_eq_true rfl) dX8_mayBe_65 ⟨Nat.zero_le _, Nat.zero_le _⟩) (fun H locs d => ?_)
          refine lv_aload_n S.1 S.2.1 dX8_mayBe_68 rfl (lv_at hl 2 rfl) ?_
          refine lv_iload_n S.1 S.2.1 dX8_mayBe_69 rfl (lv_at hl 3 rfl) ?_
          refine lv_iload S.1 S.2.1 dX8_mayBe_70 (lv_at hl 6 rfl) ?_
          obtain ⟨u12, hu12, h⟩ := bd_e h
          refine r_ri d (r_cV (As := [.int b1, .int x4]) (rest := [.int u11]) S d (c_X8_letterOf l G M L b0 b1 x4 hb0 hu12) (ksdM S hb0) (wc_20 hb0) rfl ml_RX8_185 im_yX8_letterOf se_yX8_letterOf in_RX8 co_yX8_letterOf hyV_X8_letterOf ⟨rfl, rfl⟩ ⟨by decide, by decide⟩ rfl hl rfl (Nat.le_of_ble_eq_true rfl) dX8_mayBe_72 ⟨Nat.zero_le _, Nat.zero_le _⟩) (fun H locs d => ?_)
          refine lv_icmp_ne (tgt := 82) S.1 S.2.1 dX8_mayBe_75 (by decide) (fun cc => ?_) (fun cc => ?_)
          · replace h := it_n cc h
            refine lv_iconst (v := 0) S.1 S.2.1 dX8_mayBe_82 (by decide) ?_
            obtain ej := Option.some.inj h
            refine r_top ej.symm ?_
            exact Jt8 _ _ d
          · replace h := it_p cc h
            refine lv_iconst (v := 1) S.1 S.2.1 dX8_mayBe_78 (by decide) ?_
            refine lv_goto (tgt := 83) S.1 S.2.1 dX8_mayBe_79 (by decide) ?_
            obtain ej := Option.some.inj h
            refine r_top ej.symm ?_
            exact Jt8 _ _ d
set_option maxHeartbeats 4000000 in
set_option maxRecDepth 100000 in
theorem c_X8_mayBe (l : Launch) (G : Gx) (M : Mem) (L : MemL) (fu : Nat) (k0 : Nat) (a1 : Int32) (a2 : Int32) (hk0 : kd k0 = 20) {z : Int32} (h : f_X8_mayBe fu M k0 a1 a2 = some z) : Met l yX8_mayBe (.code yX8_mayBe cX8_mayBe 8 (Option.some Jvm.ClassFile.FieldType.boolean) :: UW) rm_X8_mayBe (va_Pc [.ref (ad G k0), .int a1, .int a2] (PreG G true M L)) (Qi G z M L) 0 0 (gA G) := by
  refine r_in (by decide) (fun p e s m args below meth c S hr d ha ls hl => ?_) (Nat.le_of_ble_eq_true rfl)
  have S : Sx G true p s m args meth c cX8_mayBe 8 RX8 := S
  have hl : lv_has ls 8 [(0, .ref (ad G k0)), (1, .int a1), (2, .int a2)] := hl
  unfold f_X8_mayBe at h
  refine lv_aload_n S.1 S.2.1 dX8_mayBe_0 rfl (lv_at hl 0 rfl) ?_
  refine lv_iload_n S.1 S.2.1 dX8_mayBe_1 rfl (lv_at hl 1 rfl) ?_
  refine lv_iload_n S.1 S.2.1 dX8_mayBe_2 rfl (lv_at hl 2 rfl) ?_
  obtain ⟨u1, hu1, h⟩ := bd_e h
  refine r_ri d (r_cV (As := [.int a1, .int a2]) (rest := []) S d (c_X8_hasRoom l G M L k0 a1 a2 hk0 hu1) (ksdM S hk0) (wc_20 hk0) rfl ml_RX8_182 im_yX8_hasRoom se_yX8_hasRoom in_RX8 co_yX8_hasRoom hyV_X8_hasRoom ⟨rfl, rfl⟩ ⟨by decide, by decide⟩ rfl hl rfl (Nat.le_of_ble_eq_true rfl) dX8_mayBe_3 ⟨Nat.zero_le _, Nat.zero_le _⟩) (fun H locs d => ?_)
  refine lv_istore_n (lv' := [(3, .int u1), (0, .ref (ad G k0)), (1, .int a1), (2, .int a2)]) S.1 S.2.1 dX8_mayBe_6 rfl hl (by decide) rfl (fun ls hl => ?_)
  refine lv_iconst (v := 0) S.1 S.2.1 dX8_mayBe_7 (by decide) ?_
  refine lv_istore (lv' := [(4, .int (0 : Int32)), (3, .int u1), (0, .ref (ad G k0)), (1, .int a1), (2, .int a2)]) S.1 S.2.1 dX8_mayBe_8 hl (by decide) rfl (fun ls hl => ?_)
  refine lc_X8_mayBe_10 S hr hk0 _ (fun v21 H locs d ls hl h => ?_) _ _ _  h _ _ d _ (lv_sub hl [2, 3, 4, 1, 0] rfl)
  refine lv_iload_n S.1 S.2.1 dX8_mayBe_144 rfl (lv_at hl 0 rfl) ?_
  obtain ⟨gz, h⟩ := gd_e h
  obtain rfl := Option.some.inj h
  exact r_iret S d hr (isZ_nar gz) rfl dX8_mayBe_145
theorem hyV_X8_may : yX8_may.cls = RX8 ∧ yX8_may.cls ≠ "java/lang/invoke/MethodHandle" ∧ yX8_may.cls ≠ "java/lang/invoke/VarHandle" ∧ (parseMethodDescriptor yX8_may.desc).map (fun d => d.parameters.length) = some 2 := by decide +kernel
abbrev rm_X8_may : Room := { frames := 4, cells := 0, slots := 0, locals := 94 }
def f_X8_may (fu : Nat) (M : Mem) (k0 : Nat) (a1 : Int32) (a2 : Int32) : Option (Int32) :=
  (f_X8_isWord M k0 a1).bind (fun u1 =>
  (if u1 = 0 then some ((-1 : Int32))
  else (f_X8_isStrip M k0 a2).bind (fun u2 =>
    (if u2 = 0 then some ((-1 : Int32))
    else (f_X8_mayBe fu M k0 a1 a2).bind (fun u3 =>
      (if u3 = 0 then some ((0 : Int32))
      else some ((1 : Int32))))))))
set_option maxHeartbeats 4000000 in
set_option maxRecDepth 100000 in
theorem c_X8_may (l : Launch) (G : Gx) (M : Mem) (L : MemL) (fu : Nat) (k0 : Nat) (a1 : Int32) (a2 : Int32) (hk0 : kd k0 = 20) {z : Int32} (h : f_X8_may fu M k0 a1 a2 = some z) : Met l yX8_may (.code yX8_may cX8_may 3 (Option.some Jvm.ClassFile.FieldType.int) :: UW) rm_X8_may (va_Pc [.ref (ad G k0), .int a1, .int a2] (PreG G true M L)) (Qi G z M L) 0 0 (gA G) := by
  refine r_in (by decide) (fun p e s m args below meth c S hr d ha ls hl => ?_) (Nat.le_of_ble_eq_true rfl)
  have S : Sx G true p s m args meth c cX8_may 3 RX8 := S
  have hl : lv_has ls 3 [(0, .ref (ad G k0)), (1, .int a1), (2, .int a2)] := hl
  unfold f_X8_may at h
  refine lv_aload_n S.1 S.2.1 dX8_may_0 rfl (lv_at hl 0 rfl) ?_
  refine lv_iload_n S.1 S.2.1 dX8_may_1 rfl (lv_at hl 1 rfl) ?_
  obtain ⟨u1, hu1, h⟩ := bd_e h
  refine r_ri d (r_cV (As := [.int a1]) (rest := []) S d (c_X8_isWord l G M L k0 a1 hk0 hu1) (ksdM S hk0) (wc_20 hk0) rfl ml_RX8_174 im_yX8_isWord se_yX8_isWord in_RX8 co_yX8_isWord hyV_X8_isWord ⟨rfl, rfl⟩ ⟨by decide, by decide⟩ rfl hl rfl (Nat.le_of_ble_eq_true rfl) dX8_may_2 ⟨Nat.zero_le _, Nat.zero_le _⟩) (fun H locs d => ?_)
  refine lv_if_eq (tgt := 16) S.1 S.2.1 dX8_may_5 (by decide) (fun cc => ?_) (fun cc => ?_)
  · replace h := it_p cc h
    refine lv_iconst (v := (-1)) S.1 S.2.1 dX8_may_16 (by decide) ?_
    refine lv_goto (tgt := 34) S.1 S.2.1 dX8_may_17 (by decide) ?_
    obtain rfl := Option.some.inj h
    exact r_iret S d hr rfl rfl dX8_may_34
  · replace h := it_n cc h
    refine lv_aload_n S.1 S.2.1 dX8_may_8 rfl (lv_at hl 0 rfl) ?_
    refine lv_iload_n S.1 S.2.1 dX8_may_9 rfl (lv_at hl 2 rfl) ?_
    obtain ⟨u2, hu2, h⟩ := bd_e h
    refine r_ri d (r_cV (As := [.int a2]) (rest := []) S d (c_X8_isStrip l G M L k0 a2 hk0 hu2) (ksdM S hk0) (wc_20 hk0) rfl ml_RX8_94 im_yX8_isStrip se_yX8_isStrip in_RX8 co_yX8_isStrip hyV_X8_isStrip ⟨rfl, rfl⟩ ⟨by decide, by decide⟩ rfl hl rfl (Nat.le_of_ble_eq_true rfl) dX8_may_10 ⟨Nat.zero_le _, Nat.zero_le _⟩) (fun H locs d => ?_)
    refine lv_if_ne (tgt := 20) S.1 S.2.1 dX8_may_13 (by decide) (fun cc => ?_) (fun cc => ?_)
    · replace h := it_n cc h
      refine lv_aload_n S.1 S.2.1 dX8_may_20 rfl (lv_at hl 0 rfl) ?_
      refine lv_iload_n S.1 S.2.1 dX8_may_21 rfl (lv_at hl 1 rfl) ?_
      refine lv_iload_n S.1 S.2.1 dX8_may_22 rfl (lv_at hl 2 rfl) ?_
      obtain ⟨u3, hu3, h⟩ := bd_e h
      refine r_ri d (r_cV (As := [.int a1, .int a2]) (rest := []) S d (c_X8_mayBe l G M L fu k0 a1 a2 hk0 hu3) (ksdM S hk0) (wc_20 hk0) rfl ml_RX8_191 im_yX8_mayBe se_yX8_mayBe in_RX8 co_yX8_mayBe hyV_X8_mayBe ⟨rfl, rfl⟩ ⟨by decide, by decide⟩ rfl hl rfl (Nat.le_of_ble_eq_true rfl) dX8_may_23 ⟨Nat.zero_le _, Nat.zero_le _⟩) (fun H locs d => ?_)
      refine lv_if_eq (tgt := 33) S.1 S.2.1 dX8_may_26 (by decide) (fun cc => ?_) (fun cc => ?_)
      · replace h := it_p cc h
        refine lv_iconst (v := 0) S.1 S.2.1 dX8_may_33 (by decide) ?_
        obtain rfl := Option.some.inj h
        exact r_iret S d hr rfl rfl dX8_may_34
      · replace h := it_n cc h
        refine lv_iconst (v := 1) S.1 S.2.1 dX8_may_29 (by decide) ?_
        refine lv_goto (tgt := 34) S.1 S.2.1 dX8_may_30 (by decide) ?_
        obtain rfl := Option.some.inj h
        exact r_iret S d hr rfl rfl dX8_may_34
    · replace h := it_p cc h
      refine lv_iconst (v := (-1)) S.1 S.2.1 dX8_may_16 (by decide) ?_
      refine lv_goto (tgt := 34) S.1 S.2.1 dX8_may_17 (by decide) ?_
      obtain rfl := Option.some.inj h
      exact r_iret S d hr rfl rfl dX8_may_34
theorem hyV_X8_lostOn : yX8_lostOn.cls = RX8 ∧ yX8_lostOn.cls ≠ "java/lang/invoke/MethodHandle" ∧ yX8_lostOn.cls ≠ "java/lang/invoke/VarHandle" ∧ (parseMethodDescriptor yX8_lostOn.desc).map (fun d => d.parameters.length) = some 2 := by decide +kernel
abbrev rm_X8_lostOn : Room := { frames := 1, cells := 0, slots := 0, locals := 21 }
def lp_X8_lostOn_5 (fu : Nat) (M : Mem) (b0 : Nat) (b1 : Int32) (b2 : Int32) (K : Int32 → Option (Int32)) : Nat → Int32 → Int32 → Option (Int32)
  | 0, _, _ => none
  | n + 1, x3, x4 =>
    (if (15 : Int32) ≤ x4 then (K x3)
    else gd (inb (((15 : Int32) * b1) + x4) 135) (
      lt ((M (b0 + 3) (((15 : Int32) * b1) + x4).toNatClampNeg)) (fun v2 : Int32 =>
      gd (inb b2 26) (
      (f_X8_has (M (b0 + 1) b2.toNatClampNeg) x4).bind (fun u4 =>
      (if u4 = 0 then (if v2 ≤ (2 : Int32) then some (0 : Int32)
        else some v2)
      else some (0 : Int32)).bind (fun t5 : Int32 =>
      lt ((x3 + t5)) (fun v7 : Int32 =>
      lt (x4 + 1) (fun v8 : Int32 =>
      (lp_X8_lostOn_5 fu M b0 b1 b2 K n v7 v8)))))))))
def f_X8_lostOn (fu : Nat) (M : Mem) (k0 : Nat) (a1 : Int32) (a2 : Int32) : Option (Int32) :=
  (lp_X8_lostOn_5 fu M k0 a1 a2 (fun (v9 : Int32) =>
    gd (inb (3 : Int32) 4) (
    some (((M (k0 + 5) (3 : Int32).toNatClampNeg) * v9)))) fu (0 : Int32) (0 : Int32))
set_option maxHeartbeats 4000000 in
set_option maxRecDepth 100000 in
theorem lc_X8_lostOn_5 {p : Program} {l : Launch} {e : Env} {s : State} {m : MethodId} {args : Array Value} {below : List Frame} {meth : Method} {c : Code} {G : Gx} {M : Mem} {L : MemL} {fu : Nat} {b0 : Nat} {b1 : Int32} {b2 : Int32} {z : Int32} (S : Sx G true p s m args meth c cX8_lostOn 6 RX8) (hr : meth.sig.returnType = (Option.some Jvm.ClassFile.FieldType.int)) (hb0 : kd b0 = 20) (K : Int32 → Option (Int32)) (hK : ∀ (y3 : Int32) (H : Heap) (locs : List Loc), Dy G s M L H locs → ∀ ls : Array Slot, lv_has ls 6 [(0, .ref (ad G b0)), (3, .int y3)] → K y3 = some z → W p l e rm_X8_lostOn s m args below meth c H locs 0 0 (MQ below (Qi G z M L) args s 0 0 (gA G)) (F0 m 61 ls [])) :
    ∀ (n : Nat) (x3 : Int32) (x4 : Int32), lp_X8_lostOn_5 fu M b0 b1 b2 K n x3 x4 = some z → ∀ (H : Heap) (locs : List Loc), Dy G s M L H locs → ∀ ls : Array Slot, lv_has ls 6 [(0, .ref (ad G b0)), (1, .int b1), (2, .int b2), (3, .int x3), (4, .int x4)] → W p l e rm_X8_lostOn s m args below meth c H locs 0 0 (MQ below (Qi G z M L) args s 0 0 (gA G)) (F0 m 5 ls []) := by
  intro n
  induction n with
  | zero =>
    intro x3 x4 h
    have h : (none : Option (Int32)) = some z := h
    cases h
  | succ n ih =>
    intro x3 x4 h H locs d ls hl
    rw [lp_X8_lostOn_5] at h
    refine lv_iload S.1 S.2.1 dX8_lostOn_5 (lv_at hl 4 rfl) ?_
    refine lv_bipush (v := 15) S.1 S.2.1 dX8_lostOn_7 (by decide) ?_
    refine lv_icmp_ge (tgt := 61) S.1 S.2.1 dX8_lostOn_9 (by decide) (fun cc => ?_) (fun cc => ?_)
    · replace h := it_p cc h
      exact hK _ _ _ d _ (lv_sub hl [0, 3] rfl) h
    · replace h := it_n cc h
      refine lv_aload_n S.1 S.2.1 dX8_lostOn_12 rfl (lv_at hl 0 rfl) ?_
      refine gf_20_2 S d hb0 fl_RX8_16 dX8_lostOn_13 ?_
      refine lv_bipush (v := 15) S.1 S.2.1 dX8_lostOn_16 (by decide) ?_
      refine lv_iload_n S.1 S.2.1 dX8_lostOn_18 rfl (lv_at hl 1 rfl) ?_
      refine lv_imul S.1 S.2.1 dX8_lostOn_19 ?_
      refine lv_iload S.1 S.2.1 dX8_lostOn_20 (lv_at hl 4 rfl) ?_
      refine lv_iadd S.1 S.2.1 dX8_lostOn_22 ?_
      obtain ⟨g1, h⟩ := gd_e h
      refine r_iald S d (ksdM S (ch_20_2 hb0).1) (wc_21 (ch_20_2 hb0).1) (ch_20_2 hb0).2 g1 dX8_lostOn_23 ?_
      obtain ⟨v2, ev2, h⟩ := lt_e h
      refine r_top ev2 ?_
      refine lv_istore (lv' := [(5, .int v2), (0, .ref (ad G b0)), (1, .int b1), (2, .int b2), (3, .int x3), (4, .int x4)]) S.1 S.2.1 dX8_lostOn_24 hl (by decide) rfl (fun ls hl => ?_)
      refine lv_iload_n S.1 S.2.1 dX8_lostOn_26 rfl (lv_at hl 4 rfl) ?_
      refine lv_aload_n S.1 S.2.1 dX8_lostOn_27 rfl (lv_at hl 1 rfl) ?_
      refine gf_20_0 S d hb0 fl_RX8_7 dX8_lostOn_28 ?_
      refine lv_iload_n S.1 S.2.1 dX8_lostOn_31 rfl (lv_at hl 3 rfl) ?_
      obtain ⟨g3, h⟩ := gd_e h
      refine r_iald S d (ksdM S (ch_20_0 hb0).1) (wc_21 (ch_20_0 hb0).1) (ch_20_0 hb0).2 g3 dX8_lostOn_32 ?_
      refine lv_iload S.1 S.2.1 dX8_lostOn_33 (lv_at hl 5 rfl) ?_
      obtain ⟨u4, hu4, h⟩ := bd_e h
      refine r_ri d (r_cS (As := [.int (M (b0 + 1) b2.toNatClampNeg), .int x4]) (rest := [.int x3]) S d (c_X8_has l G M L (M (b0 + 1) b2.toNatClampNeg) x4 hu4) ml_RX8_117 sm_yX8_has in_RX8 co_yX8_has hyS_X8_has ⟨rfl, rfl⟩ ⟨by decide, by decide⟩ rfl hl rfl (Nat.le_of_ble_eq_true rfl) dX8_lostOn_35 ⟨Nat.zero_le _, Nat.zero_le _⟩) (fun H locs d => ?_)
      obtain ⟨t5, g6, h⟩ := bd_e h
      have Jt5 : ∀ (H : Heap) (locs : List Loc), Dy G s M L H locs → W p l e rm_X8_lostOn s m args below meth c H locs 0 0 (MQ below (Qi G z M L) args s 0 0 (gA G)) (F0 m 53 ls [.int t5, .int x3]) := by
        intro H locs d
        refine lv_iadd S.1 S.2.1 dX8_lostOn_53 ?_
        obtain ⟨v7, ev7, h⟩ := lt_e h
        refine r_top ev7 ?_
        refine lv_istore_n (lv' := [(3, .int v7), (5, .int v2), (0, .ref (ad G b0)), (1, .int b1), (2, .int b2), (4, .int x4)]) S.1 S.2.1 dX8_lostOn_54 rfl hl (by decide) rfl (fun ls hl => ?_)
        obtain ⟨v8, ev8, h⟩ := lt_e h
        refine lv_iinc (v := v8) (lv' := [(4, .int v8), (3, .int v7), (5, .int v2), (0, .ref (ad G b0)), (1, .int b1), (2, .int b2)]) S.1 S.2.1 dX8_lostOn_55 hl (k := 5) rfl (by rw [ev8]; rfl) (by decide) rfl (fun ls hl => ?_)
        refine lv_goto (tgt := 5) S.1 S.2.1 dX8_lostOn_58 (by decide) ?_
        exact ih _ _ h _ _ d _ (lv_sub hl [3, 4, 5, 1, 0] rfl)
      have h := g6
      refine lv_if_ne (tgt := 52) S.1 S.2.1 dX8_lostOn_38 (by decide) (fun cc => ?_) (fun cc => ?_)
      · replace h := it_n cc h
        refine lv_iconst (v := 0) S.1 S.2.1 dX8_lostOn_52 (by decide) ?_
        obtain ej := Option.some.inj h
        refine r_top ej.symm ?_
        exact Jt5 _ _ d
      · replace h := it_p cc h
        refine lv_iload S.1 S.2.1 dX8_lostOn_41 (lv_at hl 0 rfl) ?_
        refine lv_iconst (v := 2) S.1 S.2.1 dX8_lostOn_43 (by decide) ?_
        refine lv_icmp_le (tgt := 52) S.1 S.2.1 dX8_lostOn_44 (by decide) (fun cc => ?_) (fun cc => ?_)
        · replace h := it_p cc h
          refine lv_iconst (v := 0) S.1 S.2.1 dX8_lostOn_52 (by decide) ?_
          obtain ej := Option.some.inj h
          refine r_top ej.symm ?_
          exact Jt5 _ _ d
        · replace h := it_n cc h
          refine lv_iload S.1 S.2.1 dX8_lostOn_47 (lv_at hl 0 rfl) ?_
          refine lv_goto (tgt := 53) S.1 S.2.1 dX8_lostOn_49 (by decide) ?_
          obtain ej := Option.some.inj h
          refine r_top ej.symm ?_
          exact Jt5 _ _ d
set_option maxHeartbeats 4000000 in
set_option maxRecDepth 100000 in
theorem c_X8_lostOn (l : Launch) (G : Gx) (M : Mem) (L : MemL) (fu : Nat) (k0 : Nat) (a1 : Int32) (a2 : Int32) (hk0 : kd k0 = 20) {z : Int32} (h : f_X8_lostOn fu M k0 a1 a2 = some z) : Met l yX8_lostOn (.code yX8_lostOn cX8_lostOn 6 (Option.some Jvm.ClassFile.FieldType.int) :: UW) rm_X8_lostOn (va_Pc [.ref (ad G k0), .int a1, .int a2] (PreG G true M L)) (Qi G z M L) 0 0 (gA G) := by
  refine r_in (by decide) (fun p e s m args below meth c S hr d ha ls hl => ?_) (Nat.le_of_ble_eq_true rfl)
  have S : Sx G true p s m args meth c cX8_lostOn 6 RX8 := S
  have hl : lv_has ls 6 [(0, .ref (ad G k0)), (1, .int a1), (2, .int a2)] := hl
  unfold f_X8_lostOn at h
  refine lv_iconst (v := 0) S.1 S.2.1 dX8_lostOn_0 (by decide) ?_
  refine lv_istore_n (lv' := [(3, .int (0 : Int32)), (0, .ref (ad G k0)), (1, .int a1), (2, .int a2)]) S.1 S.2.1 dX8_lostOn_1 rfl hl (by decide) rfl (fun ls hl => ?_)
  refine lv_iconst (v := 0) S.1 S.2.1 dX8_lostOn_2 (by decide) ?_
  refine lv_istore (lv' := [(4, .int (0 : Int32)), (3, .int (0 : Int32)), (0, .ref (ad G k0)), (1, .int a1), (2, .int a2)]) S.1 S.2.1 dX8_lostOn_3 hl (by decide) rfl (fun ls hl => ?_)
  refine lc_X8_lostOn_5 S hr hk0 _ (fun v9 H locs d ls hl h => ?_) _ _ _  h _ _ d _ (lv_sub hl [2, 3, 4, 1, 0] rfl)
  refine lv_aload_n S.1 S.2.1 dX8_lostOn_61 rfl (lv_at hl 0 rfl) ?_
  refine gf_20_4 S d hk0 fl_RX8_22 dX8_lostOn_62 ?_
  refine lv_iconst (v := 3) S.1 S.2.1 dX8_lostOn_65 (by decide) ?_
  obtain ⟨g10, h⟩ := gd_e h
  refine r_iald S d (ksdM S (ch_20_4 hk0).1) (wc_21 (ch_20_4 hk0).1) (ch_20_4 hk0).2 g10 dX8_lostOn_66 ?_
  refine lv_iload_n S.1 S.2.1 dX8_lostOn_67 rfl (lv_at hl 1 rfl) ?_
  refine lv_imul S.1 S.2.1 dX8_lostOn_68 ?_
  obtain rfl := Option.some.inj h
  exact r_iret S d hr rfl rfl dX8_lostOn_69
theorem hyV_X8_lostBy : yX8_lostBy.cls = RX8 ∧ yX8_lostBy.cls ≠ "java/lang/invoke/MethodHandle" ∧ yX8_lostBy.cls ≠ "java/lang/invoke/VarHandle" ∧ (parseMethodDescriptor yX8_lostBy.desc).map (fun d => d.parameters.length) = some 2 := by decide +kernel
abbrev rm_X8_lostBy : Room := { frames := 2, cells := 0, slots := 0, locals := 46 }
def lp_X8_lostBy_5 (fu : Nat) (M : Mem) (b0 : Nat) (b1 : Int32) (b2 : Int32) (K : Int32 → Option (Int32)) : Nat → Int32 → Int32 → Option (Int32)
  | 0, _, _ => none
  | n + 1, x3, x4 =>
    (f_X8_sizeOf M b0 b1).bind (fun u1 =>
    (if u1 ≤ x4 then (K x3)
    else (f_X8_letterOf M b0 b1 x4).bind (fun u2 =>
      (f_X8_lostOn fu M b0 (b2 + x4) u2).bind (fun u3 =>
      lt ((x3 + u3)) (fun v4 : Int32 =>
      lt (x4 + 1) (fun v5 : Int32 =>
      (lp_X8_lostBy_5 fu M b0 b1 b2 K n v4 v5)))))))
def f_X8_lostBy (fu : Nat) (M : Mem) (k0 : Nat) (a1 : Int32) (a2 : Int32) : Option (Int32) :=
  (lp_X8_lostBy_5 fu M k0 a1 a2 (fun (v6 : Int32) =>
    some (v6)) fu (0 : Int32) (0 : Int32))
set_option maxHeartbeats 4000000 in
set_option maxRecDepth 100000 in
theorem lc_X8_lostBy_5 {p : Program} {l : Launch} {e : Env} {s : State} {m : MethodId} {args : Array Value} {below : List Frame} {meth : Method} {c : Code} {G : Gx} {M : Mem} {L : MemL} {fu : Nat} {b0 : Nat} {b1 : Int32} {b2 : Int32} {z : Int32} (S : Sx G true p s m args meth c cX8_lostBy 5 RX8) (hr : meth.sig.returnType = (Option.some Jvm.ClassFile.FieldType.int)) (hb0 : kd b0 = 20) (K : Int32 → Option (Int32)) (hK : ∀ (y3 : Int32) (H : Heap) (locs : List Loc), Dy G s M L H locs → ∀ ls : Array Slot, lv_has ls 5 [(3, .int y3)] → K y3 = some z → W p l e rm_X8_lostBy s m args below meth c H locs 0 0 (MQ below (Qi G z M L) args s 0 0 (gA G)) (F0 m 39 ls [])) :
    ∀ (n : Nat) (x3 : Int32) (x4 : Int32), lp_X8_lostBy_5 fu M b0 b1 b2 K n x3 x4 = some z → ∀ (H : Heap) (locs : List Loc), Dy G s M L H locs → ∀ ls : Array Slot, lv_has ls 5 [(0, .ref (ad G b0)), (1, .int b1), (2, .int b2), (3, .int x3), (4, .int x4)] → W p l e rm_X8_lostBy s m args below meth c H locs 0 0 (MQ below (Qi G z M L) args s 0 0 (gA G)) (F0 m 5 ls []) := by
  intro n
  induction n with
  | zero =>
    intro x3 x4 h
    have h : (none : Option (Int32)) = some z := h
    cases h
  | succ n ih =>
    intro x3 x4 h H locs d ls hl
    rw [lp_X8_lostBy_5] at h
    refine lv_iload S.1 S.2.1 dX8_lostBy_5 (lv_at hl 4 rfl) ?_
    refine lv_aload_n S.1 S.2.1 dX8_lostBy_7 rfl (lv_at hl 0 rfl) ?_
    refine lv_iload_n S.1 S.2.1 dX8_lostBy_8 rfl (lv_at hl 1 rfl) ?_
    obtain ⟨u1, hu1, h⟩ := bd_e h
    refine r_ri d (r_cV (As := [.int b1]) (rest := [.int x4]) S d (c_X8_sizeOf l G M L b0 b1 hb0 hu1) (ksdM S hb0) (wc_20 hb0) rfl ml_RX8_179 im_yX8_sizeOf se_yX8_sizeOf in_RX8 co_yX8_sizeOf hyV_X8_sizeOf ⟨rfl, rfl⟩ ⟨by decide, by decide⟩ rfl hl rfl (Nat.le_of_ble_eq_true rfl) dX8_lostBy_9 ⟨Nat.zero_le _, Nat.zero_le _⟩) (fun H locs d => ?_)
    refine lv_icmp_ge (tgt := 39) S.1 S.2.1 dX8_lostBy_12 (by decide) (fun cc => ?_) (fun cc => ?_)
    · replace h := it_p cc h
      exact hK _ _ _ d _ (lv_sub hl [3] rfl) h
    · replace h := it_n cc h
      refine lv_iload_n S.1 S.2.1 dX8_lostBy_15 rfl (lv_at hl 3 rfl) ?_
      refine lv_aload_n S.1 S.2.1 dX8_lostBy_16 rfl (lv_at hl 0 rfl) ?_
      refine lv_iload_n S.1 S.2.1 dX8_lostBy_17 rfl (lv_at hl 2 rfl) ?_
      refine lv_iload S.1 S.2.1 dX8_lostBy_18 (lv_at hl 4 rfl) ?_
      refine lv_iadd S.1 S.2.1 dX8_lostBy_20 ?_
      refine lv_aload_n S.1 S.2.1 dX8_lostBy_21 rfl (lv_at hl 0 rfl) ?_
      refine lv_iload_n S.1 S.2.1 dX8_lostBy_22 rfl (lv_at hl 1 rfl) ?_
      refine lv_iload S.1 S.2.1 dX8_lostBy_23 (lv_at hl 4 rfl) ?_
      obtain ⟨u2, hu2, h⟩ := bd_e h
      refine r_ri d (r_cV (As := [.int b1, .int x4]) (rest := [.int (b2 + x4), .ref (ad G b0), .int x3]) S d (c_X8_letterOf l G M L b0 b1 x4 hb0 hu2) (ksdM S hb0) (wc_20 hb0) rfl ml_RX8_185 im_yX8_letterOf se_yX8_letterOf in_RX8 co_yX8_letterOf hyV_X8_letterOf ⟨rfl, rfl⟩ ⟨by decide, by decide⟩ rfl hl rfl (Nat.le_of_ble_eq_true rfl) dX8_lostBy_25 ⟨Nat.zero_le _, Nat.zero_le _⟩) (fun H locs d => ?_)
      obtain ⟨u3, hu3, h⟩ := bd_e h
      refine r_ri d (r_cV (As := [.int (b2 + x4), .int u2]) (rest := [.int x3]) S d (c_X8_lostOn l G M L fu b0 (b2 + x4) u2 hb0 hu3) (ksdM S hb0) (wc_20 hb0) rfl ml_RX8_194 im_yX8_lostOn se_yX8_lostOn in_RX8 co_yX8_lostOn hyV_X8_lostOn ⟨rfl, rfl⟩ ⟨by decide, by decide⟩ rfl hl rfl (Nat.le_of_ble_eq_true rfl) dX8_lostBy_28 ⟨Nat.zero_le _, Nat.zero_le _⟩) (fun H locs d => ?_)
      refine lv_iadd S.1 S.2.1 dX8_lostBy_31 ?_
      obtain ⟨v4, ev4, h⟩ := lt_e h
      refine r_top ev4 ?_
      refine lv_istore_n (lv' := [(3, .int v4), (0, .ref (ad G b0)), (1, .int b1), (2, .int b2), (4, .int x4)]) S.1 S.2.1 dX8_lostBy_32 rfl hl (by decide) rfl (fun ls hl => ?_)
      obtain ⟨v5, ev5, h⟩ := lt_e h
      refine lv_iinc (v := v5) (lv' := [(4, .int v5), (3, .int v4), (0, .ref (ad G b0)), (1, .int b1), (2, .int b2)]) S.1 S.2.1 dX8_lostBy_33 hl (k := 4) rfl (by rw [ev5]; rfl) (by decide) rfl (fun ls hl => ?_)
      refine lv_goto (tgt := 5) S.1 S.2.1 dX8_lostBy_36 (by decide) ?_
      exact ih _ _ h _ _ d _ (lv_sub hl [2, 3, 4, 1, 0] rfl)
set_option maxHeartbeats 4000000 in
set_option maxRecDepth 100000 in
theorem c_X8_lostBy (l : Launch) (G : Gx) (M : Mem) (L : MemL) (fu : Nat) (k0 : Nat) (a1 : Int32) (a2 : Int32) (hk0 : kd k0 = 20) {z : Int32} (h : f_X8_lostBy fu M k0 a1 a2 = some z) : Met l yX8_lostBy (.code yX8_lostBy cX8_lostBy 5 (Option.some Jvm.ClassFile.FieldType.int) :: UW) rm_X8_lostBy (va_Pc [.ref (ad G k0), .int a1, .int a2] (PreG G true M L)) (Qi G z M L) 0 0 (gA G) := by
  refine r_in (by decide) (fun p e s m args below meth c S hr d ha ls hl => ?_) (Nat.le_of_ble_eq_true rfl)
  have S : Sx G true p s m args meth c cX8_lostBy 5 RX8 := S
  have hl : lv_has ls 5 [(0, .ref (ad G k0)), (1, .int a1), (2, .int a2)] := hl
  unfold f_X8_lostBy at h
  refine lv_iconst (v := 0) S.1 S.2.1 dX8_lostBy_0 (by decide) ?_
  refine lv_istore_n (lv' := [(3, .int (0 : Int32)), (0, .ref (ad G k0)), (1, .int a1), (2, .int a2)]) S.1 S.2.1 dX8_lostBy_1 rfl hl (by decide) rfl (fun ls hl => ?_)
  refine lv_iconst (v := 0) S.1 S.2.1 dX8_lostBy_2 (by decide) ?_
  refine lv_istore (lv' := [(4, .int (0 : Int32)), (3, .int (0 : Int32)), (0, .ref (ad G k0)), (1, .int a1), (2, .int a2)]) S.1 S.2.1 dX8_lostBy_3 hl (by decide) rfl (fun ls hl => ?_)
  refine lc_X8_lostBy_5 S hr hk0 _ (fun v6 H locs d ls hl h => ?_) _ _ _  h _ _ d _ (lv_sub hl [2, 3, 4, 1, 0] rfl)
  refine lv_iload_n S.1 S.2.1 dX8_lostBy_39 rfl (lv_at hl 0 rfl) ?_
  obtain rfl := Option.some.inj h
  exact r_iret S d hr rfl rfl dX8_lostBy_40
theorem hyV_X8_lost : yX8_lost.cls = RX8 ∧ yX8_lost.cls ≠ "java/lang/invoke/MethodHandle" ∧ yX8_lost.cls ≠ "java/lang/invoke/VarHandle" ∧ (parseMethodDescriptor yX8_lost.desc).map (fun d => d.parameters.length) = some 2 := by decide +kernel
abbrev rm_X8_lost : Room := { frames := 3, cells := 0, slots := 0, locals := 70 }
def f_X8_lost (fu : Nat) (M : Mem) (k0 : Nat) (a1 : Int32) (a2 : Int32) : Option (Int32) :=
  (f_X8_isWord M k0 a1).bind (fun u1 =>
  (if u1 = 0 then some ((-1 : Int32))
  else (f_X8_isStrip M k0 a2).bind (fun u2 =>
    (if u2 = 0 then some ((-1 : Int32))
    else (f_X8_hasRoom M k0 a1 a2).bind (fun u3 =>
      (if u3 = 0 then some ((-2 : Int32))
      else (f_X8_lostBy fu M k0 a1 a2).bind (fun u4 =>
        some (u4))))))))
set_option maxHeartbeats 4000000 in
set_option maxRecDepth 100000 in
theorem c_X8_lost (l : Launch) (G : Gx) (M : Mem) (L : MemL) (fu : Nat) (k0 : Nat) (a1 : Int32) (a2 : Int32) (hk0 : kd k0 = 20) {z : Int32} (h : f_X8_lost fu M k0 a1 a2 = some z) : Met l yX8_lost (.code yX8_lost cX8_lost 3 (Option.some Jvm.ClassFile.FieldType.int) :: UW) rm_X8_lost (va_Pc [.ref (ad G k0), .int a1, .int a2] (PreG G true M L)) (Qi G z M L) 0 0 (gA G) := by
  refine r_in (by decide) (fun p e s m args below meth c S hr d ha ls hl => ?_) (Nat.le_of_ble_eq_true rfl)
  have S : Sx G true p s m args meth c cX8_lost 3 RX8 := S
  have hl : lv_has ls 3 [(0, .ref (ad G k0)), (1, .int a1), (2, .int a2)] := hl
  unfold f_X8_lost at h
  refine lv_aload_n S.1 S.2.1 dX8_lost_0 rfl (lv_at hl 0 rfl) ?_
  refine lv_iload_n S.1 S.2.1 dX8_lost_1 rfl (lv_at hl 1 rfl) ?_
  obtain ⟨u1, hu1, h⟩ := bd_e h
  refine r_ri d (r_cV (As := [.int a1]) (rest := []) S d (c_X8_isWord l G M L k0 a1 hk0 hu1) (ksdM S hk0) (wc_20 hk0) rfl ml_RX8_174 im_yX8_isWord se_yX8_isWord in_RX8 co_yX8_isWord hyV_X8_isWord ⟨rfl, rfl⟩ ⟨by decide, by decide⟩ rfl hl rfl (Nat.le_of_ble_eq_true rfl) dX8_lost_2 ⟨Nat.zero_le _, Nat.zero_le _⟩) (fun H locs d => ?_)
  refine lv_if_eq (tgt := 16) S.1 S.2.1 dX8_lost_5 (by decide) (fun cc => ?_) (fun cc => ?_)
  · replace h := it_p cc h
    refine lv_iconst (v := (-1)) S.1 S.2.1 dX8_lost_16 (by decide) ?_
    refine lv_goto (tgt := 40) S.1 S.2.1 dX8_lost_17 (by decide) ?_
    obtain rfl := Option.some.inj h
    exact r_iret S d hr rfl rfl dX8_lost_40
  · replace h := it_n cc h
    refine lv_aload_n S.1 S.2.1 dX8_lost_8 rfl (lv_at hl 0 rfl) ?_
    refine lv_iload_n S.1 S.2.1 dX8_lost_9 rfl (lv_at hl 2 rfl) ?_
    obtain ⟨u2, hu2, h⟩ := bd_e h
    refine r_ri d (r_cV (As := [.int a2]) (rest := []) S d (c_X8_isStrip l G M L k0 a2 hk0 hu2) (ksdM S hk0) (wc_20 hk0) rfl ml_RX8_94 im_yX8_isStrip se_yX8_isStrip in_RX8 co_yX8_isStrip hyV_X8_isStrip ⟨rfl, rfl⟩ ⟨by decide, by decide⟩ rfl hl rfl (Nat.le_of_ble_eq_true rfl) dX8_lost_10 ⟨Nat.zero_le _, Nat.zero_le _⟩) (fun H locs d => ?_)
    refine lv_if_ne (tgt := 20) S.1 S.2.1 dX8_lost_13 (by decide) (fun cc => ?_) (fun cc => ?_)
    · replace h := it_n cc h
      refine lv_aload_n S.1 S.2.1 dX8_lost_20 rfl (lv_at hl 0 rfl) ?_
      refine lv_iload_n S.1 S.2.1 dX8_lost_21 rfl (lv_at hl 1 rfl) ?_
      refine lv_iload_n S.1 S.2.1 dX8_lost_22 rfl (lv_at hl 2 rfl) ?_
      obtain ⟨u3, hu3, h⟩ := bd_e h
      refine r_ri d (r_cV (As := [.int a1, .int a2]) (rest := []) S d (c_X8_hasRoom l G M L k0 a1 a2 hk0 hu3) (ksdM S hk0) (wc_20 hk0) rfl ml_RX8_182 im_yX8_hasRoom se_yX8_hasRoom in_RX8 co_yX8_hasRoom hyV_X8_hasRoom ⟨rfl, rfl⟩ ⟨by decide, by decide⟩ rfl hl rfl (Nat.le_of_ble_eq_true rfl) dX8_lost_23 ⟨Nat.zero_le _, Nat.zero_le _⟩) (fun H locs d => ?_)
      refine lv_if_eq (tgt := 38) S.1 S.2.1 dX8_lost_26 (by decide) (fun cc => ?_) (fun cc => ?_)
      · replace h := it_p cc h
        refine lv_bipush (v := (-2)) S.1 S.2.1 dX8_lost_38 (by decide) ?_
        obtain rfl := Option.some.inj h
        exact r_iret S d hr rfl rfl dX8_lost_40
      · replace h := it_n cc h
        refine lv_aload_n S.1 S.2.1 dX8_lost_29 rfl (lv_at hl 0 rfl) ?_
        refine lv_iload_n S.1 S.2.1 dX8_lost_30 rfl (lv_at hl 1 rfl) ?_
        refine lv_iload_n S.1 S.2.1 dX8_lost_31 rfl (lv_at hl 2 rfl) ?_
        obtain ⟨u4, hu4, h⟩ := bd_e h
        refine r_ri d (r_cV (As := [.int a1, .int a2]) (rest := []) S d (c_X8_lostBy l G M L fu k0 a1 a2 hk0 hu4) (ksdM S hk0) (wc_20 hk0) rfl ml_RX8_197 im_yX8_lostBy se_yX8_lostBy in_RX8 co_yX8_lostBy hyV_X8_lostBy ⟨rfl, rfl⟩ ⟨by decide, by decide⟩ rfl hl rfl (Nat.le_of_ble_eq_true rfl) dX8_lost_32 ⟨Nat.zero_le _, Nat.zero_le _⟩) (fun H locs d => ?_)
        refine lv_goto (tgt := 40) S.1 S.2.1 dX8_lost_35 (by decide) ?_
        obtain rfl := Option.some.inj h
        exact r_iret S d hr rfl rfl dX8_lost_40
    · replace h := it_p cc h
      refine lv_iconst (v := (-1)) S.1 S.2.1 dX8_lost_16 (by decide) ?_
      refine lv_goto (tgt := 40) S.1 S.2.1 dX8_lost_17 (by decide) ?_
      obtain rfl := Option.some.inj h
      exact r_iret S d hr rfl rfl dX8_lost_40
theorem hyV_X8_findRow : yX8_findRow.cls = RX8 ∧ yX8_findRow.cls ≠ "java/lang/invoke/MethodHandle" ∧ yX8_findRow.cls ≠ "java/lang/invoke/VarHandle" ∧ (parseMethodDescriptor yX8_findRow.desc).map (fun d => d.parameters.length) = some 0 := by decide +kernel
abbrev rm_X8_findRow : Room := { frames := 1, cells := 0, slots := 0, locals := 21 }
def lp_X8_findRow_37 (fu : Nat) (b0 : Nat) (b1 : Int32) (K : Mem → Option (Mem)) : Nat → Int32 → Mem → Option (Mem)
  | 0, _, _ => none
  | n + 1, x2, Mx =>
    (if (Mx b0 8) ≤ x2 then (K Mx)
    else gd (inb (((10 : Int32) * b1) + x2) 90) (
      (if (Mx (b0 + 12) (((10 : Int32) * b1) + x2).toNatClampNeg) = (1 : Int32) then gd (inb (((10 : Int32) * b1) + x2) 90) (
        (f_X8_sizeOf Mx b0 x2).bind (fun u9 =>
        gd (inb (b1 + u9) 10) (
        lt (((Mx (b0 + 13) (((10 : Int32) * b1) + x2).toNatClampNeg) + (Mx (b0 + 10) (b1 + u9).toNatClampNeg))) (fun v11 : Int32 =>
        gd (inb b1 10) (
        (if v11 ≤ (Mx (b0 + 10) b1.toNatClampNeg) then gd (inb b1 10) (
          some (Mx (b0 + 10) b1.toNatClampNeg))
        else some v11).bind (fun t13 : Int32 =>
        gd (inb b1 10) (
        lt (up Mx (b0 + 10) b1.toNatClampNeg t13) (fun M17 : Mem =>
        lt (x2 + 1) (fun v18 : Int32 =>
        (lp_X8_findRow_37 fu b0 b1 K n v18 M17))))))))))
      else lt (x2 + 1) (fun v19 : Int32 =>
        (lp_X8_findRow_37 fu b0 b1 K n v19 Mx)))))
def lp_X8_findRow_17 (fu : Nat) (b0 : Nat) (K : Mem → Option (Mem)) : Nat → Int32 → Mem → Option (Mem)
  | 0, _, _ => none
  | n + 1, x1, Mx =>
    (if x1 < 0 then (K Mx)
    else gd (inb (x1 + (1 : Int32)) 10) (
      gd (inb x1 10) (
      lt (up Mx (b0 + 10) x1.toNatClampNeg (Mx (b0 + 10) (x1 + (1 : Int32)).toNatClampNeg)) (fun M6 : Mem =>
      (lp_X8_findRow_37 fu b0 x1 (fun (M20 : Mem) =>
        lt (x1 + (-1)) (fun v21 : Int32 =>
        (lp_X8_findRow_17 fu b0 K n v21 M20))) fu (0 : Int32) M6)))))
def lp_X8_findRow_148 (fu : Nat) (M : Mem) (b0 : Nat) (b1 : Int32) (K : Int32 → Option (Mem)) : Nat → Int32 → Int32 → Option (Mem)
  | 0, _, _ => none
  | n + 1, x2, x3 =>
    (if x3 < 0 then (K x2)
    else gd (inb (((10 : Int32) * b1) + x3) 90) (
      (if (M (b0 + 12) (((10 : Int32) * b1) + x3).toNatClampNeg) = (1 : Int32) then gd (inb (((10 : Int32) * b1) + x3) 90) (
        (f_X8_sizeOf M b0 x3).bind (fun u29 =>
        gd (inb (b1 + u29) 10) (
        gd (inb b1 10) (
        (if ((M (b0 + 13) (((10 : Int32) * b1) + x3).toNatClampNeg) + (M (b0 + 10) (b1 + u29).toNatClampNeg)) = (M (b0 + 10) b1.toNatClampNeg) then some (1 : Int32)
        else some (0 : Int32))))))
      else some (0 : Int32)).bind (fun t26 : Int32 =>
      (if t26 = 0 then some x2
      else some x3).bind (fun t32 : Int32 =>
      lt (x3 + (-1)) (fun v34 : Int32 =>
      (lp_X8_findRow_148 fu M b0 b1 K n t32 v34))))))
def lp_X8_findRow_130 (fu : Nat) (b0 : Nat) (K : Mem → Option (Mem)) : Nat → Int32 → Mem → Option (Mem)
  | 0, _, _ => none
  | n + 1, x1, Mx =>
    (if (Mx b0 7) ≤ x1 then (K Mx)
    else lt (((Mx b0 8) - (1 : Int32))) (fun v24 : Int32 =>
      (lp_X8_findRow_148 fu Mx b0 x1 (fun (v35 : Int32) =>
        (if v35 < 0 then (if 0 ≤ v35 then (f_X8_sizeOf Mx b0 v35).bind (fun u45 =>
            some u45)
          else some (1 : Int32)).bind (fun t43 : Int32 =>
          lt ((x1 + t43)) (fun v46 : Int32 =>
          (lp_X8_findRow_130 fu b0 K n v46 Mx)))
        else gd (inb (Mx b0 16) 9) (
          lt (up Mx (b0 + 11) (Mx b0 16).toNatClampNeg (((10 : Int32) * x1) + v35)) (fun M37 : Mem =>
          lt (up M37 b0 16 ((M37 b0 16) + (1 : Int32))) (fun M38 : Mem =>
          (if 0 ≤ v35 then (f_X8_sizeOf M38 b0 v35).bind (fun u41 =>
            some u41)
          else some (1 : Int32)).bind (fun t39 : Int32 =>
          lt ((x1 + t39)) (fun v42 : Int32 =>
          (lp_X8_findRow_130 fu b0 K n v42 M38)))))))) fu (-4 : Int32) v24)))
def f_X8_findRow (fu : Nat) (M : Mem) (k0 : Nat) : Option (Mem) :=
  gd (inb (M k0 7) 10) (
  lt (up M (k0 + 10) (M k0 7).toNatClampNeg (0 : Int32)) (fun M2 : Mem =>
  lt (((M2 k0 7) - (1 : Int32))) (fun v3 : Int32 =>
  (lp_X8_findRow_17 fu k0 (fun (M22 : Mem) =>
    lt (up M22 k0 16 (0 : Int32)) (fun M23 : Mem =>
    (lp_X8_findRow_130 fu k0 (fun (M47 : Mem) =>
      some (M47)) fu (0 : Int32) M23))) fu v3 M2))))
set_option maxHeartbeats 4000000 in
set_option maxRecDepth 100000 in
theorem lc_X8_findRow_37 {p : Program} {l : Launch} {e : Env} {s : State} {m : MethodId} {args : Array Value} {below : List Frame} {meth : Method} {c : Code} {G : Gx} {L : MemL} {fu : Nat} {b0 : Nat} {b1 : Int32} {z : Mem} (S : Sx G true p s m args meth c cX8_findRow 5 RX8) (hr : meth.sig.returnType = (Option.none : Option Jvm.ClassFile.FieldType)) (hb0 : kd b0 = 20) (K : Mem → Option (Mem)) (hK : ∀ (My : Mem) (H : Heap) (locs : List Loc), Dy G s My L H locs → ∀ ls : Array Slot, lv_has ls 5 [(0, .ref (ad G b0)), (1, .int b1)] → K My = some z → W p l e rm_X8_findRow s m args below meth c H locs 0 0 (MQ below (Qv G z L) args s 0 0 (gA G)) (F0 m 117 ls [])) :
    ∀ (n : Nat) (x2 : Int32) (Mx : Mem), lp_X8_findRow_37 fu b0 b1 K n x2 Mx = some z → ∀ (H : Heap) (locs : List Loc), Dy G s Mx L H locs → ∀ ls : Array Slot, lv_has ls 5 [(0, .ref (ad G b0)), (1, .int b1), (2, .int x2)] → W p l e rm_X8_findRow s m args below meth c H locs 0 0 (MQ below (Qv G z L) args s 0 0 (gA G)) (F0 m 37 ls []) := by
  intro n
  induction n with
  | zero =>
    intro x2 Mx h
    have h : (none : Option (Mem)) = some z := h
    cases h
  | succ n ih =>
    intro x2 Mx h H locs d ls hl
    rw [lp_X8_findRow_37] at h
    refine lv_iload_n S.1 S.2.1 dX8_findRow_37 rfl (lv_at hl 2 rfl) ?_
    refine lv_aload_n S.1 S.2.1 dX8_findRow_38 rfl (lv_at hl 0 rfl) ?_
    refine gf_20_8 S d hb0 fl_RX8_83 dX8_findRow_39 ?_
    refine lv_icmp_ge (tgt := 117) S.1 S.2.1 dX8_findRow_42 (by decide) (fun cc => ?_) (fun cc => ?_)
    · replace h := it_p cc h
      exact hK _ _ _ d _ (lv_sub hl [0, 1] rfl) h
    · replace h := it_n cc h
      refine lv_aload_n S.1 S.2.1 dX8_findRow_45 rfl (lv_at hl 0 rfl) ?_
      refine gf_20_17 S d hb0 fl_RX8_43 dX8_findRow_46 ?_
      refine lv_bipush (v := 10) S.1 S.2.1 dX8_findRow_49 (by decide) ?_
      refine lv_iload_n S.1 S.2.1 dX8_findRow_51 rfl (lv_at hl 1 rfl) ?_
      refine lv_imul S.1 S.2.1 dX8_findRow_52 ?_
      refine lv_iload_n S.1 S.2.1 dX8_findRow_53 rfl (lv_at hl 2 rfl) ?_
      refine lv_iadd S.1 S.2.1 dX8_findRow_54 ?_
      obtain ⟨g7, h⟩ := gd_e h
      refine r_iald S d (ksdM S (ch_20_17 hb0).1) (wc_21 (ch_20_17 hb0).1) (ch_20_17 hb0).2 g7 dX8_findRow_55 ?_
      refine lv_iconst (v := 1) S.1 S.2.1 dX8_findRow_56 (by decide) ?_
      refine lv_icmp_ne (tgt := 111) S.1 S.2.1 dX8_findRow_57 (by decide) (fun cc => ?_) (fun cc => ?_)
      · replace h := it_n cc h
        obtain ⟨v19, ev19, h⟩ := lt_e h
        refine lv_iinc (v := v19) (lv' := [(2, .int v19), (0, .ref (ad G b0)), (1, .int b1)]) S.1 S.2.1 dX8_findRow_111 hl (k := 2) rfl (by rw [ev19]; rfl) (by decide) rfl (fun ls hl => ?_)
        refine lv_goto (tgt := 37) S.1 S.2.1 dX8_findRow_114 (by decide) ?_
        exact ih _ _ h _ _ d _ (lv_sub hl [1, 2, 0] rfl)
      · replace h := it_p cc h
        refine lv_aload_n S.1 S.2.1 dX8_findRow_60 rfl (lv_at hl 0 rfl) ?_
        refine gf_20_18 S d hb0 fl_RX8_46 dX8_findRow_61 ?_
        refine lv_bipush (v := 10) S.1 S.2.1 dX8_findRow_64 (by decide) ?_
        refine lv_iload_n S.1 S.2.1 dX8_findRow_66 rfl (lv_at hl 1 rfl) ?_
        refine lv_imul S.1 S.2.1 dX8_findRow_67 ?_
        refine lv_iload_n S.1 S.2.1 dX8_findRow_68 rfl (lv_at hl 2 rfl) ?_
        refine lv_iadd S.1 S.2.1 dX8_findRow_69 ?_
        obtain ⟨g8, h⟩ := gd_e h
        refine r_iald S d (ksdM S (ch_20_18 hb0).1) (wc_21 (ch_20_18 hb0).1) (ch_20_18 hb0).2 g8 dX8_findRow_70 ?_
        refine lv_aload_n S.1 S.2.1 dX8_findRow_71 rfl (lv_at hl 0 rfl) ?_
        refine gf_20_14 S d hb0 fl_RX8_37 dX8_findRow_72 ?_
        refine lv_iload_n S.1 S.2.1 dX8_findRow_75 rfl (lv_at hl 1 rfl) ?_
        refine lv_aload_n S.1 S.2.1 dX8_findRow_76 rfl (lv_at hl 0 rfl) ?_
        refine lv_iload_n S.1 S.2.1 dX8_findRow_77 rfl (lv_at hl 2 rfl) ?_
        obtain ⟨u9, hu9, h⟩ := bd_e h
        refine r_ri d (r_cV (As := [.int x2]) (rest := [.int b1, .ref (ad G (b0 + 10)), .int (Mx (b0 + 13) (((10 : Int32) * b1) + x2).toNatClampNeg)]) S d (c_X8_sizeOf l G Mx L b0 x2 hb0 hu9) (ksdM S hb0) (wc_20 hb0) rfl ml_RX8_179 im_yX8_sizeOf se_yX8_sizeOf in_RX8 co_yX8_sizeOf hyV_X8_sizeOf ⟨rfl, rfl⟩ ⟨by decide, by decide⟩ rfl hl rfl (Nat.le_of_ble_eq_true rfl) dX8_findRow_78 ⟨Nat.zero_le _, Nat.zero_le _⟩) (fun H locs d => ?_)
        refine lv_iadd S.1 S.2.1 dX8_findRow_81 ?_
        obtain ⟨g10, h⟩ := gd_e h
        refine r_iald S d (ksdM S (ch_20_14 hb0).1) (wc_21 (ch_20_14 hb0).1) (ch_20_14 hb0).2 g10 dX8_findRow_82 ?_
        refine lv_iadd S.1 S.2.1 dX8_findRow_83 ?_
        obtain ⟨v11, ev11, h⟩ := lt_e h
        refine r_top ev11 ?_
        refine lv_istore_n (lv' := [(3, .int v11), (0, .ref (ad G b0)), (1, .int b1), (2, .int x2)]) S.1 S.2.1 dX8_findRow_84 rfl hl (by decide) rfl (fun ls hl => ?_)
        refine lv_aload_n S.1 S.2.1 dX8_findRow_85 rfl (lv_at hl 1 rfl) ?_
        refine gf_20_14 S d hb0 fl_RX8_37 dX8_findRow_86 ?_
        refine lv_iload_n S.1 S.2.1 dX8_findRow_89 rfl (lv_at hl 2 rfl) ?_
        refine lv_iload_n S.1 S.2.1 dX8_findRow_90 rfl (lv_at hl 0 rfl) ?_
        refine lv_aload_n S.1 S.2.1 dX8_findRow_91 rfl (lv_at hl 1 rfl) ?_
        refine gf_20_14 S d hb0 fl_RX8_37 dX8_findRow_92 ?_
        refine lv_iload_n S.1 S.2.1 dX8_findRow_95 rfl (lv_at hl 2 rfl) ?_
        obtain ⟨g12, h⟩ := gd_e h
        refine r_iald S d (ksdM S (ch_20_14 hb0).1) (wc_21 (ch_20_14 hb0).1) (ch_20_14 hb0).2 g12 dX8_findRow_96 ?_
        obtain ⟨t13, g14, h⟩ := bd_e h
        have Jt13 : ∀ (H : Heap) (locs : List Loc), Dy G s Mx L H locs → W p l e rm_X8_findRow s m args below meth c H locs 0 0 (MQ below (Qv G z L) args s 0 0 (gA G)) (F0 m 110 ls [.int t13, .int b1, .ref (ad G (b0 + 10))]) := by
          intro H locs d
          obtain ⟨g16, h⟩ := gd_e h
          obtain ⟨M17, eM17, h⟩ := lt_e h
          refine r_iast S d eM17 (ksdM S (ch_20_14 hb0).1) (fun _ => wc_21 (ch_20_14 hb0).1) (ch_20_14 hb0).2 g16 dX8_findRow_110 (fun H locs d => ?_)
          obtain ⟨v18, ev18, h⟩ := lt_e h
          refine lv_iinc (v := v18) (lv' := [(2, .int v18), (3, .int v11), (0, .ref (ad G b0)), (1, .int b1)]) S.1 S.2.1 dX8_findRow_111 hl (k := 3) rfl (by rw [ev18]; rfl) (by decide) rfl (fun ls hl => ?_)
          refine lv_goto (tgt := 37) S.1 S.2.1 dX8_findRow_114 (by decide) ?_
          exact ih _ _ h _ _ d _ (lv_sub hl [2, 3, 0] rfl)
        have h := g14
        refine lv_icmp_le (tgt := 104) S.1 S.2.1 dX8_findRow_97 (by decide) (fun cc => ?_) (fun cc => ?_)
        · replace h := it_p cc h
          refine lv_aload_n S.1 S.2.1 dX8_findRow_104 rfl (lv_at hl 1 rfl) ?_
          refine gf_20_14 S d hb0 fl_RX8_37 dX8_findRow_105 ?_
          refine lv_iload_n S.1 S.2.1 dX8_findRow_108 rfl (lv_at hl 2 rfl) ?_
          obtain ⟨g15, h⟩ := gd_e h
          refine r_iald S d (ksdM S (ch_20_14 hb0).1) (wc_21 (ch_20_14 hb0).1) (ch_20_14 hb0).2 g15 dX8_findRow_109 ?_
          obtain ej := Option.some.inj h
          refine r_top ej.symm ?_
          exact Jt13 _ _ d
        · replace h := it_n cc h
          refine lv_iload_n S.1 S.2.1 dX8_findRow_100 rfl (lv_at hl 0 rfl) ?_
          refine lv_goto (tgt := 110) S.1 S.2.1 dX8_findRow_101 (by decide) ?_
          obtain ej := Option.some.inj h
          refine r_top ej.symm ?_
          exact Jt13 _ _ d
set_option maxHeartbeats 4000000 in
set_option maxRecDepth 100000 in
theorem lc_X8_findRow_17 {p : Program} {l : Launch} {e : Env} {s : State} {m : MethodId} {args : Array Value} {below : List Frame} {meth : Method} {c : Code} {G : Gx} {L : MemL} {fu : Nat} {b0 : Nat} {z : Mem} (S : Sx G true p s m args meth c cX8_findRow 5 RX8) (hr : meth.sig.returnType = (Option.none : Option Jvm.ClassFile.FieldType)) (hb0 : kd b0 = 20) (K : Mem → Option (Mem)) (hK : ∀ (My : Mem) (H : Heap) (locs : List Loc), Dy G s My L H locs → ∀ ls : Array Slot, lv_has ls 5 [(0, .ref (ad G b0))] → K My = some z → W p l e rm_X8_findRow s m args below meth c H locs 0 0 (MQ below (Qv G z L) args s 0 0 (gA G)) (F0 m 123 ls [])) :
    ∀ (n : Nat) (x1 : Int32) (Mx : Mem), lp_X8_findRow_17 fu b0 K n x1 Mx = some z → ∀ (H : Heap) (locs : List Loc), Dy G s Mx L H locs → ∀ ls : Array Slot, lv_has ls 5 [(0, .ref (ad G b0)), (1, .int x1)] → W p l e rm_X8_findRow s m args below meth c H locs 0 0 (MQ below (Qv G z L) args s 0 0 (gA G)) (F0 m 17 ls []) := by
  intro n
  induction n with
  | zero =>
    intro x1 Mx h
    have h : (none : Option (Mem)) = some z := h
    cases h
  | succ n ih =>
    intro x1 Mx h H locs d ls hl
    rw [lp_X8_findRow_17] at h
    refine lv_iload_n S.1 S.2.1 dX8_findRow_17 rfl (lv_at hl 1 rfl) ?_
    refine lv_if_lt (tgt := 123) S.1 S.2.1 dX8_findRow_18 (by decide) (fun cc => ?_) (fun cc => ?_)
    · replace h := it_p cc h
      exact hK _ _ _ d _ (lv_sub hl [0] rfl) h
    · replace h := it_n cc h
      refine lv_aload_n S.1 S.2.1 dX8_findRow_21 rfl (lv_at hl 0 rfl) ?_
      refine gf_20_14 S d hb0 fl_RX8_37 dX8_findRow_22 ?_
      refine lv_iload_n S.1 S.2.1 dX8_findRow_25 rfl (lv_at hl 1 rfl) ?_
      refine lv_aload_n S.1 S.2.1 dX8_findRow_26 rfl (lv_at hl 0 rfl) ?_
      refine gf_20_14 S d hb0 fl_RX8_37 dX8_findRow_27 ?_
      refine lv_iload_n S.1 S.2.1 dX8_findRow_30 rfl (lv_at hl 1 rfl) ?_
      refine lv_iconst (v := 1) S.1 S.2.1 dX8_findRow_31 (by decide) ?_
      refine lv_iadd S.1 S.2.1 dX8_findRow_32 ?_
      obtain ⟨g4, h⟩ := gd_e h
      refine r_iald S d (ksdM S (ch_20_14 hb0).1) (wc_21 (ch_20_14 hb0).1) (ch_20_14 hb0).2 g4 dX8_findRow_33 ?_
      obtain ⟨g5, h⟩ := gd_e h
      obtain ⟨M6, eM6, h⟩ := lt_e h
      refine r_iast S d eM6 (ksdM S (ch_20_14 hb0).1) (fun _ => wc_21 (ch_20_14 hb0).1) (ch_20_14 hb0).2 g5 dX8_findRow_34 (fun H locs d => ?_)
      refine lv_iconst (v := 0) S.1 S.2.1 dX8_findRow_35 (by decide) ?_
      refine lv_istore_n (lv' := [(2, .int (0 : Int32)), (0, .ref (ad G b0)), (1, .int x1)]) S.1 S.2.1 dX8_findRow_36 rfl hl (by decide) rfl (fun ls hl => ?_)
      refine lc_X8_findRow_37 S hr hb0 _ (fun M20 H locs d ls hl h => ?_) _ _ _  h _ _ d _ (lv_sub hl [1, 2, 0] rfl)
      obtain ⟨v21, ev21, h⟩ := lt_e h
      refine lv_iinc (v := v21) (lv' := [(1, .int v21), (0, .ref (ad G b0))]) S.1 S.2.1 dX8_findRow_117 hl (k := 1) rfl (by rw [ev21]; rfl) (by decide) rfl (fun ls hl => ?_)
      refine lv_goto (tgt := 17) S.1 S.2.1 dX8_findRow_120 (by decide) ?_
      exact ih _ _ h _ _ d _ (lv_sub hl [1, 0] rfl)
set_option maxHeartbeats 4000000 in
set_option maxRecDepth 100000 in
theorem lc_X8_findRow_148 {p : Program} {l : Launch} {e : Env} {s : State} {m : MethodId} {args : Array Value} {below : List Frame} {meth : Method} {c : Code} {G : Gx} {M : Mem} {L : MemL} {fu : Nat} {b0 : Nat} {b1 : Int32} {z : Mem} (S : Sx G true p s m args meth c cX8_findRow 5 RX8) (hr : meth.sig.returnType = (Option.none : Option Jvm.ClassFile.FieldType)) (hb0 : kd b0 = 20) (K : Int32 → Option (Mem)) (hK : ∀ (y2 : Int32) (H : Heap) (locs : List Loc), Dy G s M L H locs → ∀ ls : Array Slot, lv_has ls 5 [(0, .ref (ad G b0)), (1, .int b1), (2, .int y2)] → K y2 = some z → W p l e rm_X8_findRow s m args below meth c H locs 0 0 (MQ below (Qv G z L) args s 0 0 (gA G)) (F0 m 224 ls [])) :
    ∀ (n : Nat) (x2 : Int32) (x3 : Int32), lp_X8_findRow_148 fu M b0 b1 K n x2 x3 = some z → ∀ (H : Heap) (locs : List Loc), Dy G s M L H locs → ∀ ls : Array Slot, lv_has ls 5 [(0, .ref (ad G b0)), (1, .int b1), (2, .int x2), (3, .int x3)] → W p l e rm_X8_findRow s m args below meth c H locs 0 0 (MQ below (Qv G z L) args s 0 0 (gA G)) (F0 m 148 ls []) := by
  intro n
  induction n with
  | zero =>
    intro x2 x3 h
    have h : (none : Option (Mem)) = some z := h
    cases h
  | succ n ih =>
    intro x2 x3 h H locs d ls hl
    rw [lp_X8_findRow_148] at h
    refine lv_iload_n S.1 S.2.1 dX8_findRow_148 rfl (lv_at hl 3 rfl) ?_
    refine lv_if_lt (tgt := 224) S.1 S.2.1 dX8_findRow_149 (by decide) (fun cc => ?_) (fun cc => ?_)
    · replace h := it_p cc h
      exact hK _ _ _ d _ (lv_sub hl [0, 1, 2] rfl) h
    · replace h := it_n cc h
      refine lv_aload_n S.1 S.2.1 dX8_findRow_152 rfl (lv_at hl 0 rfl) ?_
      refine gf_20_17 S d hb0 fl_RX8_43 dX8_findRow_153 ?_
      refine lv_bipush (v := 10) S.1 S.2.1 dX8_findRow_156 (by decide) ?_
      refine lv_iload_n S.1 S.2.1 dX8_findRow_158 rfl (lv_at hl 1 rfl) ?_
      refine lv_imul S.1 S.2.1 dX8_findRow_159 ?_
      refine lv_iload_n S.1 S.2.1 dX8_findRow_160 rfl (lv_at hl 3 rfl) ?_
      refine lv_iadd S.1 S.2.1 dX8_findRow_161 ?_
      obtain ⟨g25, h⟩ := gd_e h
      refine r_iald S d (ksdM S (ch_20_17 hb0).1) (wc_21 (ch_20_17 hb0).1) (ch_20_17 hb0).2 g25 dX8_findRow_162 ?_
      refine lv_iconst (v := 1) S.1 S.2.1 dX8_findRow_163 (by decide) ?_
      obtain ⟨t26, g27, h⟩ := bd_e h
      have Jt26 : ∀ (H : Heap) (locs : List Loc), Dy G s M L H locs → W p l e rm_X8_findRow s m args below meth c H locs 0 0 (MQ below (Qv G z L) args s 0 0 (gA G)) (F0 m 205 ls [.int t26]) := by
        intro H locs d
        refine lv_istore (lv' := [(4, .int t26), (0, .ref (ad G b0)), (1, .int b1), (2, .int x2), (3, .int x3)]) S.1 S.2.1 dX8_findRow_205 hl (by decide) rfl (fun ls hl => ?_)
        refine lv_iload S.1 S.2.1 dX8_findRow_207 (lv_at hl 0 rfl) ?_
        obtain ⟨t32, g33, h⟩ := bd_e h
        have Jt32 : ∀ (H : Heap) (locs : List Loc), Dy G s M L H locs → W p l e rm_X8_findRow s m args below meth c H locs 0 0 (MQ below (Qv G z L) args s 0 0 (gA G)) (F0 m 217 ls [.int t32]) := by
          intro H locs d
          refine lv_istore_n (lv' := [(2, .int t32), (4, .int t26), (0, .ref (ad G b0)), (1, .int b1), (3, .int x3)]) S.1 S.2.1 dX8_findRow_217 rfl hl (by decide) rfl (fun ls hl => ?_)
          obtain ⟨v34, ev34, h⟩ := lt_e h
          refine lv_iinc (v := v34) (lv' := [(3, .int v34), (2, .int t32), (4, .int t26), (0, .ref (ad G b0)), (1, .int b1)]) S.1 S.2.1 dX8_findRow_218 hl (k := 4) rfl (by rw [ev34]; rfl) (by decide) rfl (fun ls hl => ?_)
          refine lv_goto (tgt := 148) S.1 S.2.1 dX8_findRow_221 (by decide) ?_
          exact ih _ _ h _ _ d _ (lv_sub hl [3, 4, 1, 0] rfl)
        have h := g33
        refine lv_if_eq (tgt := 216) S.1 S.2.1 dX8_findRow_209 (by decide) (fun cc => ?_) (fun cc => ?_)
        · replace h := it_p cc h
          refine lv_iload_n S.1 S.2.1 dX8_findRow_216 rfl (lv_at hl 3 rfl) ?_
          obtain ej := Option.some.inj h
          refine r_top ej.symm ?_
          exact Jt32 _ _ d
        · replace h := it_n cc h
          refine lv_iload_n S.1 S.2.1 dX8_findRow_212 rfl (lv_at hl 4 rfl) ?_
          refine lv_goto (tgt := 217) S.1 S.2.1 dX8_findRow_213 (by decide) ?_
          obtain ej := Option.some.inj h
          refine r_top ej.symm ?_
          exact Jt32 _ _ d
      have h := g27
      refine lv_icmp_ne (tgt := 204) S.1 S.2.1 dX8_findRow_164 (by decide) (fun cc => ?_) (fun cc => ?_)
      · replace h := it_n cc h
        refine lv_iconst (v := 0) S.1 S.2.1 dX8_findRow_204 (by decide) ?_
        obtain ej := Option.some.inj h
        refine r_top ej.symm ?_
        exact Jt26 _ _ d
      · replace h := it_p cc h
        refine lv_aload_n S.1 S.2.1 dX8_findRow_167 rfl (lv_at hl 0 rfl) ?_
        refine gf_20_18 S d hb0 fl_RX8_46 dX8_findRow_168 ?_
        refine lv_bipush (v := 10) S.1 S.2.1 dX8_findRow_171 (by decide) ?_
        refine lv_iload_n S.1 S.2.1 dX8_findRow_173 rfl (lv_at hl 1 rfl) ?_
        refine lv_imul S.1 S.2.1 dX8_findRow_174 ?_
        refine lv_iload_n S.1 S.2.1 dX8_findRow_175 rfl (lv_at hl 3 rfl) ?_
        refine lv_iadd S.1 S.2.1 dX8_findRow_176 ?_
        obtain ⟨g28, h⟩ := gd_e h
        refine r_iald S d (ksdM S (ch_20_18 hb0).1) (wc_21 (ch_20_18 hb0).1) (ch_20_18 hb0).2 g28 dX8_findRow_177 ?_
        refine lv_aload_n S.1 S.2.1 dX8_findRow_178 rfl (lv_at hl 0 rfl) ?_
        refine gf_20_14 S d hb0 fl_RX8_37 dX8_findRow_179 ?_
        refine lv_iload_n S.1 S.2.1 dX8_findRow_182 rfl (lv_at hl 1 rfl) ?_
        refine lv_aload_n S.1 S.2.1 dX8_findRow_183 rfl (lv_at hl 0 rfl) ?_
        refine lv_iload_n S.1 S.2.1 dX8_findRow_184 rfl (lv_at hl 3 rfl) ?_
        obtain ⟨u29, hu29, h⟩ := bd_e h
        refine r_ri d (r_cV (As := [.int x3]) (rest := [.int b1, .ref (ad G (b0 + 10)), .int (M (b0 + 13) (((10 : Int32) * b1) + x3).toNatClampNeg)]) S d (c_X8_sizeOf l G M L b0 x3 hb0 hu29) (ksdM S hb0) (wc_20 hb0) rfl ml_RX8_179 im_yX8_sizeOf se_yX8_sizeOf in_RX8 co_yX8_sizeOf hyV_X8_sizeOf ⟨rfl, rfl⟩ ⟨by decide, by decide⟩ rfl hl rfl (Nat.le_of_ble_eq_true rfl) dX8_findRow_185 ⟨Nat.zero_le _, Nat.zero_le _⟩) (fun H locs d => ?_)
        refine lv_iadd S.1 S.2.1 dX8_findRow_188 ?_
        obtain ⟨g30, h⟩ := gd_e h
        refine r_iald S d (ksdM S (ch_20_14 hb0).1) (wc_21 (ch_20_14 hb0).1) (ch_20_14 hb0).2 g30 dX8_findRow_189 ?_
        refine lv_iadd S.1 S.2.1 dX8_findRow_190 ?_
        refine lv_aload_n S.1 S.2.1 dX8_findRow_191 rfl (lv_at hl 0 rfl) ?_
        refine gf_20_14 S d hb0 fl_RX8_37 dX8_findRow_192 ?_
        refine lv_iload_n S.1 S.2.1 dX8_findRow_195 rfl (lv_at hl 1 rfl) ?_
        obtain ⟨g31, h⟩ := gd_e h
        refine r_iald S d (ksdM S (ch_20_14 hb0).1) (wc_21 (ch_20_14 hb0).1) (ch_20_14 hb0).2 g31 dX8_findRow_196 ?_
        refine lv_icmp_ne (tgt := 204) S.1 S.2.1 dX8_findRow_197 (by decide) (fun cc => ?_) (fun cc => ?_)
        · replace h := it_n cc h
          refine lv_iconst (v := 0) S.1 S.2.1 dX8_findRow_204 (by decide) ?_
          obtain ej := Option.some.inj h
          refine r_top ej.symm ?_
          exact Jt26 _ _ d
        · replace h := it_p cc h
          refine lv_iconst (v := 1) S.1 S.2.1 dX8_findRow_200 (by decide) ?_
          refine lv_goto (tgt := 205) S.1 S.2.1 dX8_findRow_201 (by decide) ?_
          obtain ej := Option.some.inj h
          refine r_top ej.symm ?_
          exact Jt26 _ _ d
set_option maxHeartbeats 4000000 in
set_option maxRecDepth 100000 in
theorem lc_X8_findRow_130 {p : Program} {l : Launch} {e : Env} {s : State} {m : MethodId} {args : Array Value} {below : List Frame} {meth : Method} {c : Code} {G : Gx} {L : MemL} {fu : Nat} {b0 : Nat} {z : Mem} (S : Sx G true p s m args meth c cX8_findRow 5 RX8) (hr : meth.sig.returnType = (Option.none : Option Jvm.ClassFile.FieldType)) (hb0 : kd b0 = 20) (K : Mem → Option (Mem)) (hK : ∀ (My : Mem) (H : Heap) (locs : List Loc), Dy G s My L H locs → ∀ ls : Array Slot, lv_has ls 5 [] → K My = some z → W p l e rm_X8_findRow s m args below meth c H locs 0 0 (MQ below (Qv G z L) args s 0 0 (gA G)) (F0 m 272 ls [])) :
    ∀ (n : Nat) (x1 : Int32) (Mx : Mem), lp_X8_findRow_130 fu b0 K n x1 Mx = some z → ∀ (H : Heap) (locs : List Loc), Dy G s Mx L H locs → ∀ ls : Array Slot, lv_has ls 5 [(0, .ref (ad G b0)), (1, .int x1)] → W p l e rm_X8_findRow s m args below meth c H locs 0 0 (MQ below (Qv G z L) args s 0 0 (gA G)) (F0 m 130 ls []) := by
  intro n
  induction n with
  | zero =>
    intro x1 Mx h
    have h : (none : Option (Mem)) = some z := h
    cases h
  | succ n ih =>
    intro x1 Mx h H locs d ls hl
    rw [lp_X8_findRow_130] at h
    refine lv_iload_n S.1 S.2.1 dX8_findRow_130 rfl (lv_at hl 1 rfl) ?_
    refine lv_aload_n S.1 S.2.1 dX8_findRow_131 rfl (lv_at hl 0 rfl) ?_
    refine gf_20_7 S d hb0 fl_RX8_71 dX8_findRow_132 ?_
    refine lv_icmp_ge (tgt := 272) S.1 S.2.1 dX8_findRow_135 (by decide) (fun cc => ?_) (fun cc => ?_)
    · replace h := it_p cc h
      exact hK _ _ _ d _ (lv_sub hl [] rfl) h
    · replace h := it_n cc h
      refine lv_bipush (v := (-4)) S.1 S.2.1 dX8_findRow_138 (by decide) ?_
      refine lv_istore_n (lv' := [(2, .int (-4 : Int32)), (0, .ref (ad G b0)), (1, .int x1)]) S.1 S.2.1 dX8_findRow_140 rfl hl (by decide) rfl (fun ls hl => ?_)
      refine lv_aload_n S.1 S.2.1 dX8_findRow_141 rfl (lv_at hl 1 rfl) ?_
      refine gf_20_8 S d hb0 fl_RX8_83 dX8_findRow_142 ?_
      refine lv_iconst (v := 1) S.1 S.2.1 dX8_findRow_145 (by decide) ?_
      refine lv_isub S.1 S.2.1 dX8_findRow_146 ?_
      obtain ⟨v24, ev24, h⟩ := lt_e h
      refine r_top ev24 ?_
      refine lv_istore_n (lv' := [(3, .int v24), (2, .int (-4 : Int32)), (0, .ref (ad G b0)), (1, .int x1)]) S.1 S.2.1 dX8_findRow_147 rfl hl (by decide) rfl (fun ls hl => ?_)
      refine lc_X8_findRow_148 S hr hb0 _ (fun v35 H locs d ls hl h => ?_) _ _ _  h _ _ d _ (lv_sub hl [2, 3, 1, 0] rfl)
      refine lv_iload_n S.1 S.2.1 dX8_findRow_224 rfl (lv_at hl 2 rfl) ?_
      refine lv_if_lt (tgt := 253) S.1 S.2.1 dX8_findRow_225 (by decide) (fun cc => ?_) (fun cc => ?_)
      · replace h := it_p cc h
        refine lv_iload_n S.1 S.2.1 dX8_findRow_253 rfl (lv_at hl 1 rfl) ?_
        refine lv_iload_n S.1 S.2.1 dX8_findRow_254 rfl (lv_at hl 2 rfl) ?_
        obtain ⟨t43, g44, h⟩ := bd_e h
        have Jt43 : ∀ (H : Heap) (locs : List Loc), Dy G s Mx L H locs → W p l e rm_X8_findRow s m args below meth c H locs 0 0 (MQ below (Qv G z L) args s 0 0 (gA G)) (F0 m 267 ls [.int t43, .int x1]) := by
          intro H locs d
          refine lv_iadd S.1 S.2.1 dX8_findRow_267 ?_
          obtain ⟨v46, ev46, h⟩ := lt_e h
          refine r_top ev46 ?_
          refine lv_istore_n (lv' := [(1, .int v46), (0, .ref (ad G b0)), (2, .int v35)]) S.1 S.2.1 dX8_findRow_268 rfl hl (by decide) rfl (fun ls hl => ?_)
          refine lv_goto (tgt := 130) S.1 S.2.1 dX8_findRow_269 (by decide) ?_
          exact ih _ _ h _ _ d _ (lv_sub hl [1, 0] rfl)
        have h := g44
        refine lv_if_ge (tgt := 262) S.1 S.2.1 dX8_findRow_255 (by decide) (fun cc => ?_) (fun cc => ?_)
        · replace h := it_p cc h
          refine lv_aload_n S.1 S.2.1 dX8_findRow_262 rfl (lv_at hl 0 rfl) ?_
          refine lv_iload_n S.1 S.2.1 dX8_findRow_263 rfl (lv_at hl 2 rfl) ?_
          obtain ⟨u45, hu45, h⟩ := bd_e h
          refine r_ri d (r_cV (As := [.int v35]) (rest := [.int x1]) S d (c_X8_sizeOf l G Mx L b0 v35 hb0 hu45) (ksdM S hb0) (wc_20 hb0) rfl ml_RX8_179 im_yX8_sizeOf se_yX8_sizeOf in_RX8 co_yX8_sizeOf hyV_X8_sizeOf ⟨rfl, rfl⟩ ⟨by decide, by decide⟩ rfl hl rfl (Nat.le_of_ble_eq_true rfl) dX8_findRow_264 ⟨Nat.zero_le _, Nat.zero_le _⟩) (fun H locs d => ?_)
          obtain ej := Option.some.inj h
          refine r_top ej.symm ?_
          exact Jt43 _ _ d
        · replace h := it_n cc h
          refine lv_iconst (v := 1) S.1 S.2.1 dX8_findRow_258 (by decide) ?_
          refine lv_goto (tgt := 267) S.1 S.2.1 dX8_findRow_259 (by decide) ?_
          obtain ej := Option.some.inj h
          refine r_top ej.symm ?_
          exact Jt43 _ _ d
      · replace h := it_n cc h
        refine lv_aload_n S.1 S.2.1 dX8_findRow_228 rfl (lv_at hl 0 rfl) ?_
        refine gf_20_15 S d hb0 fl_RX8_40 dX8_findRow_229 ?_
        refine lv_aload_n S.1 S.2.1 dX8_findRow_232 rfl (lv_at hl 0 rfl) ?_
        refine gf_20_16 S d hb0 fl_RX8_200 dX8_findRow_233 ?_
        refine lv_bipush (v := 10) S.1 S.2.1 dX8_findRow_236 (by decide) ?_
        refine lv_iload_n S.1 S.2.1 dX8_findRow_238 rfl (lv_at hl 1 rfl) ?_
        refine lv_imul S.1 S.2.1 dX8_findRow_239 ?_
        refine lv_iload_n S.1 S.2.1 dX8_findRow_240 rfl (lv_at hl 2 rfl) ?_
        refine lv_iadd S.1 S.2.1 dX8_findRow_241 ?_
        obtain ⟨g36, h⟩ := gd_e h
        obtain ⟨M37, eM37, h⟩ := lt_e h
        refine r_iast S d eM37 (ksdM S (ch_20_15 hb0).1) (fun _ => wc_21 (ch_20_15 hb0).1) (ch_20_15 hb0).2 g36 dX8_findRow_242 (fun H locs d => ?_)
        refine lv_aload_n S.1 S.2.1 dX8_findRow_243 rfl (lv_at hl 0 rfl) ?_
        refine lv_dup S.1 S.2.1 dX8_findRow_244 rfl ?_
        refine gf_20_16 S d hb0 fl_RX8_200 dX8_findRow_245 ?_
        refine lv_iconst (v := 1) S.1 S.2.1 dX8_findRow_248 (by decide) ?_
        refine lv_iadd S.1 S.2.1 dX8_findRow_249 ?_
        obtain ⟨M38, eM38, h⟩ := lt_e h
        refine pf_20_16 S d eM38 hb0 fl_RX8_200 dX8_findRow_250 (fun H locs d => ?_)
        refine lv_iload_n S.1 S.2.1 dX8_findRow_253 rfl (lv_at hl 1 rfl) ?_
        refine lv_iload_n S.1 S.2.1 dX8_findRow_254 rfl (lv_at hl 2 rfl) ?_
        obtain ⟨t39, g40, h⟩ := bd_e h
        have Jt39 : ∀ (H : Heap) (locs : List Loc), Dy G s M38 L H locs → W p l e rm_X8_findRow s m args below meth c H locs 0 0 (MQ below (Qv G z L) args s 0 0 (gA G)) (F0 m 267 ls [.int t39, .int x1]) := by
          intro H locs d
          refine lv_iadd S.1 S.2.1 dX8_findRow_267 ?_
          obtain ⟨v42, ev42, h⟩ := lt_e h
          refine r_top ev42 ?_
          refine lv_istore_n (lv' := [(1, .int v42), (0, .ref (ad G b0)), (2, .int v35)]) S.1 S.2.1 dX8_findRow_268 rfl hl (by decide) rfl (fun ls hl => ?_)
          refine lv_goto (tgt := 130) S.1 S.2.1 dX8_findRow_269 (by decide) ?_
          exact ih _ _ h _ _ d _ (lv_sub hl [1, 0] rfl)
        have h := g40
        refine lv_if_ge (tgt := 262) S.1 S.2.1 dX8_findRow_255 (by decide) (fun cc => ?_) (fun cc => ?_)
        · replace h := it_p cc h
          refine lv_aload_n S.1 S.2.1 dX8_findRow_262 rfl (lv_at hl 0 rfl) ?_
          refine lv_iload_n S.1 S.2.1 dX8_findRow_263 rfl (lv_at hl 2 rfl) ?_
          obtain ⟨u41, hu41, h⟩ := bd_e h
          refine r_ri d (r_cV (As := [.int v35]) (rest := [.int x1]) S d (c_X8_sizeOf l G M38 L b0 v35 hb0 hu41) (ksdM S hb0) (wc_20 hb0) rfl ml_RX8_179 im_yX8_sizeOf se_yX8_sizeOf in_RX8 co_yX8_sizeOf hyV_X8_sizeOf ⟨rfl, rfl⟩ ⟨by decide, by decide⟩ rfl hl rfl (Nat.le_of_ble_eq_true rfl) dX8_findRow_264 ⟨Nat.zero_le _, Nat.zero_le _⟩) (fun H locs d => ?_)
          obtain ej := Option.some.inj h
          refine r_top ej.symm ?_
          exact Jt39 _ _ d
        · replace h := it_n cc h
          refine lv_iconst (v := 1) S.1 S.2.1 dX8_findRow_258 (by decide) ?_
          refine lv_goto (tgt := 267) S.1 S.2.1 dX8_findRow_259 (by decide) ?_
          obtain ej := Option.some.inj h
          refine r_top ej.symm ?_
          exact Jt39 _ _ d
set_option maxHeartbeats 4000000 in
set_option maxRecDepth 100000 in
theorem c_X8_findRow (l : Launch) (G : Gx) (M : Mem) (L : MemL) (fu : Nat) (k0 : Nat) (hk0 : kd k0 = 20) {z : Mem} (h : f_X8_findRow fu M k0 = some z) : Met l yX8_findRow (.code yX8_findRow cX8_findRow 5 (Option.none : Option Jvm.ClassFile.FieldType) :: UW) rm_X8_findRow (va_Pc [.ref (ad G k0)] (PreG G true M L)) (Qv G z L) 0 0 (gA G) := by
  refine r_in (by decide) (fun p e s m args below meth c S hr d ha ls hl => ?_) (Nat.le_of_ble_eq_true rfl)
  have S : Sx G true p s m args meth c cX8_findRow 5 RX8 := S
  have hl : lv_has ls 5 [(0, .ref (ad G k0))] := hl
  unfold f_X8_findRow at h
  refine lv_aload_n S.1 S.2.1 dX8_findRow_0 rfl (lv_at hl 0 rfl) ?_
  refine gf_20_14 S d hk0 fl_RX8_37 dX8_findRow_1 ?_
  refine lv_aload_n S.1 S.2.1 dX8_findRow_4 rfl (lv_at hl 0 rfl) ?_
  refine gf_20_7 S d hk0 fl_RX8_71 dX8_findRow_5 ?_
  refine lv_iconst (v := 0) S.1 S.2.1 dX8_findRow_8 (by decide) ?_
  obtain ⟨g1, h⟩ := gd_e h
  obtain ⟨M2, eM2, h⟩ := lt_e h
  refine r_iast S d eM2 (ksdM S (ch_20_14 hk0).1) (fun _ => wc_21 (ch_20_14 hk0).1) (ch_20_14 hk0).2 g1 dX8_findRow_9 (fun H locs d => ?_)
  refine lv_aload_n S.1 S.2.1 dX8_findRow_10 rfl (lv_at hl 0 rfl) ?_
  refine gf_20_7 S d hk0 fl_RX8_71 dX8_findRow_11 ?_
  refine lv_iconst (v := 1) S.1 S.2.1 dX8_findRow_14 (by decide) ?_
  refine lv_isub S.1 S.2.1 dX8_findRow_15 ?_
  obtain ⟨v3, ev3, h⟩ := lt_e h
  refine r_top ev3 ?_
  refine lv_istore_n (lv' := [(1, .int v3), (0, .ref (ad G k0))]) S.1 S.2.1 dX8_findRow_16 rfl hl (by decide) rfl (fun ls hl => ?_)
  refine lc_X8_findRow_17 S hr hk0 _ (fun M22 H locs d ls hl h => ?_) _ _ _  h _ _ d _ (lv_sub hl [1, 0] rfl)
  refine lv_aload_n S.1 S.2.1 dX8_findRow_123 rfl (lv_at hl 0 rfl) ?_
  refine lv_iconst (v := 0) S.1 S.2.1 dX8_findRow_124 (by decide) ?_
  obtain ⟨M23, eM23, h⟩ := lt_e h
  refine pf_20_16 S d eM23 hk0 fl_RX8_200 dX8_findRow_125 (fun H locs d => ?_)
  refine lv_iconst (v := 0) S.1 S.2.1 dX8_findRow_128 (by decide) ?_
  refine lv_istore_n (lv' := [(1, .int (0 : Int32)), (0, .ref (ad G k0))]) S.1 S.2.1 dX8_findRow_129 rfl hl (by decide) rfl (fun ls hl => ?_)
  refine lc_X8_findRow_130 S hr hk0 _ (fun M47 H locs d ls hl h => ?_) _ _ _  h _ _ d _ (lv_sub hl [1, 0] rfl)
  obtain rfl := Option.some.inj h
  exact r_vret S d hr dX8_findRow_272
theorem hyV_X8_tellRow : yX8_tellRow.cls = RX8 ∧ yX8_tellRow.cls ≠ "java/lang/invoke/MethodHandle" ∧ yX8_tellRow.cls ≠ "java/lang/invoke/VarHandle" ∧ (parseMethodDescriptor yX8_tellRow.desc).map (fun d => d.parameters.length) = some 1 := by decide +kernel
abbrev rm_X8_tellRow : Room := { frames := 0, cells := 0, slots := 0, locals := 0 }
def f_X8_tellRow (M : Mem) (k0 : Nat) (a1 : Int32) : Option (Int32) :=
  (if a1 = (-1 : Int32) then gd (inb (0 : Int32) 10) (
    some ((M (k0 + 10) (0 : Int32).toNatClampNeg)))
  else (if a1 = (-2 : Int32) then some ((M k0 16))
    else (if (M k0 16) ≤ a1 then some ((-4 : Int32))
      else gd (inb a1 9) (
        some ((M (k0 + 11) a1.toNatClampNeg))))))
set_option maxHeartbeats 4000000 in
set_option maxRecDepth 100000 in
theorem c_X8_tellRow (l : Launch) (G : Gx) (M : Mem) (L : MemL) (k0 : Nat) (a1 : Int32) (hk0 : kd k0 = 20) {z : Int32} (h : f_X8_tellRow M k0 a1 = some z) : Met l yX8_tellRow (.code yX8_tellRow cX8_tellRow 2 (Option.some Jvm.ClassFile.FieldType.int) :: UW) rm_X8_tellRow (va_Pc [.ref (ad G k0), .int a1] (PreG G true M L)) (Qi G z M L) 0 0 (gA G) := by
  refine r_in (by decide) (fun p e s m args below meth c S hr d ha ls hl => ?_) (Nat.le_of_ble_eq_true rfl)
  have S : Sx G true p s m args meth c cX8_tellRow 2 RX8 := S
  have hl : lv_has ls 2 [(0, .ref (ad G k0)), (1, .int a1)] := hl
  unfold f_X8_tellRow at h
  refine lv_iload_n S.1 S.2.1 dX8_tellRow_0 rfl (lv_at hl 1 rfl) ?_
  refine lv_iconst (v := (-1)) S.1 S.2.1 dX8_tellRow_1 (by decide) ?_
  refine lv_icmp_ne (tgt := 14) S.1 S.2.1 dX8_tellRow_2 (by decide) (fun cc => ?_) (fun cc => ?_)
  · replace h := it_n cc h
    refine lv_iload_n S.1 S.2.1 dX8_tellRow_14 rfl (lv_at hl 1 rfl) ?_
    refine lv_bipush (v := (-2)) S.1 S.2.1 dX8_tellRow_15 (by decide) ?_
    refine lv_icmp_ne (tgt := 27) S.1 S.2.1 dX8_tellRow_17 (by decide) (fun cc => ?_) (fun cc => ?_)
    · replace h := it_n cc h
      refine lv_iload_n S.1 S.2.1 dX8_tellRow_27 rfl (lv_at hl 1 rfl) ?_
      refine lv_aload_n S.1 S.2.1 dX8_tellRow_28 rfl (lv_at hl 0 rfl) ?_
      refine gf_20_16 S d hk0 fl_RX8_200 dX8_tellRow_29 ?_
      refine lv_icmp_ge (tgt := 44) S.1 S.2.1 dX8_tellRow_32 (by decide) (fun cc => ?_) (fun cc => ?_)
      · replace h := it_p cc h
        refine lv_bipush (v := (-4)) S.1 S.2.1 dX8_tellRow_44 (by decide) ?_
        obtain rfl := Option.some.inj h
        exact r_iret S d hr rfl rfl dX8_tellRow_46
      · replace h := it_n cc h
        refine lv_aload_n S.1 S.2.1 dX8_tellRow_35 rfl (lv_at hl 0 rfl) ?_
        refine gf_20_15 S d hk0 fl_RX8_40 dX8_tellRow_36 ?_
        refine lv_iload_n S.1 S.2.1 dX8_tellRow_39 rfl (lv_at hl 1 rfl) ?_
        obtain ⟨g2, h⟩ := gd_e h
        refine r_iald S d (ksdM S (ch_20_15 hk0).1) (wc_21 (ch_20_15 hk0).1) (ch_20_15 hk0).2 g2 dX8_tellRow_40 ?_
        refine lv_goto (tgt := 46) S.1 S.2.1 dX8_tellRow_41 (by decide) ?_
        obtain rfl := Option.some.inj h
        exact r_iret S d hr rfl rfl dX8_tellRow_46
    · replace h := it_p cc h
      refine lv_aload_n S.1 S.2.1 dX8_tellRow_20 rfl (lv_at hl 0 rfl) ?_
      refine gf_20_16 S d hk0 fl_RX8_200 dX8_tellRow_21 ?_
      refine lv_goto (tgt := 46) S.1 S.2.1 dX8_tellRow_24 (by decide) ?_
      obtain rfl := Option.some.inj h
      exact r_iret S d hr rfl rfl dX8_tellRow_46
  · replace h := it_p cc h
    refine lv_aload_n S.1 S.2.1 dX8_tellRow_5 rfl (lv_at hl 0 rfl) ?_
    refine gf_20_14 S d hk0 fl_RX8_37 dX8_tellRow_6 ?_
    refine lv_iconst (v := 0) S.1 S.2.1 dX8_tellRow_9 (by decide) ?_
    obtain ⟨g1, h⟩ := gd_e h
    refine r_iald S d (ksdM S (ch_20_14 hk0).1) (wc_21 (ch_20_14 hk0).1) (ch_20_14 hk0).2 g1 dX8_tellRow_10 ?_
    refine lv_goto (tgt := 46) S.1 S.2.1 dX8_tellRow_11 (by decide) ?_
    obtain rfl := Option.some.inj h
    exact r_iret S d hr rfl rfl dX8_tellRow_46
theorem hyV_X8_read : yX8_read.cls = RX8 ∧ yX8_read.cls ≠ "java/lang/invoke/MethodHandle" ∧ yX8_read.cls ≠ "java/lang/invoke/VarHandle" ∧ (parseMethodDescriptor yX8_read.desc).map (fun d => d.parameters.length) = some 1 := by decide +kernel
abbrev rm_X8_read : Room := { frames := 4, cells := 0, slots := 0, locals := 91 }
def lp_X8_read_28 (fu : Nat) (b0 : Nat) (b1 : Int32) (b2 : Int32) (K : Mem → Option (Int32 × Mem)) : Nat → Int32 → Mem → Option (Int32 × Mem)
  | 0, _, _ => none
  | n + 1, x3, Mx =>
    (if (Mx b0 8) ≤ x3 then (K Mx)
    else (f_X8_isWritten fu Mx b0 x3 b2).bind (fun u2 =>
      (if u2 = 0 then some (0 : Int32)
      else some (1 : Int32)).bind (fun t3 : Int32 =>
      gd (inb (((10 : Int32) * b2) + x3) 90) (
      lt (up Mx (b0 + 12) (((10 : Int32) * b2) + x3).toNatClampNeg t3) (fun M6 : Mem =>
      gd (inb (((8 : Int32) * x3) + (1 : Int32)) 80) (
      gd (inb (((10 : Int32) * b2) + x3) 90) (
      lt (up M6 (b0 + 13) (((10 : Int32) * b2) + x3).toNatClampNeg (M6 (b0 + 7) (((8 : Int32) * x3) + (1 : Int32)).toNatClampNeg)) (fun M9 : Mem =>
      lt (x3 + 1) (fun v10 : Int32 =>
      (lp_X8_read_28 fu b0 b1 b2 K n v10 M9))))))))))
def lp_X8_read_18 (fu : Nat) (b0 : Nat) (b1 : Int32) (K : Mem → Option (Int32 × Mem)) : Nat → Int32 → Mem → Option (Int32 × Mem)
  | 0, _, _ => none
  | n + 1, x2, Mx =>
    (if (Mx b0 7) ≤ x2 then (K Mx)
    else (lp_X8_read_28 fu b0 b1 x2 (fun (M11 : Mem) =>
        lt (x2 + 1) (fun v12 : Int32 =>
        (lp_X8_read_18 fu b0 b1 K n v12 M11))) fu (0 : Int32) Mx))
def f_X8_read (fu : Nat) (M : Mem) (k0 : Nat) (a1 : Int32) : Option (Int32 × Mem) :=
  (f_X8_in ((a1).toInt64) (-2 : Int64) (8 : Int64)).bind (fun u1 =>
  (if u1 = 0 then some ((-1 : Int32), M)
  else (lp_X8_read_18 fu k0 a1 (fun (M13 : Mem) =>
      (f_X8_findRow fu M13 k0).bind (fun u14 =>
      (f_X8_tellRow u14 k0 a1).bind (fun u15 =>
      some (u15, u14)))) fu (0 : Int32) M)))
set_option maxHeartbeats 4000000 in
set_option maxRecDepth 100000 in
theorem lc_X8_read_28 {p : Program} {l : Launch} {e : Env} {s : State} {m : MethodId} {args : Array Value} {below : List Frame} {meth : Method} {c : Code} {G : Gx} {L : MemL} {fu : Nat} {b0 : Nat} {b1 : Int32} {b2 : Int32} {z : Int32 × Mem} (S : Sx G true p s m args meth c cX8_read 4 RX8) (hr : meth.sig.returnType = (Option.some Jvm.ClassFile.FieldType.int)) (hb0 : kd b0 = 20) (K : Mem → Option (Int32 × Mem)) (hK : ∀ (My : Mem) (H : Heap) (locs : List Loc), Dy G s My L H locs → ∀ ls : Array Slot, lv_has ls 4 [(0, .ref (ad G b0)), (1, .int b1), (2, .int b2)] → K My = some z → W p l e rm_X8_read s m args below meth c H locs 0 0 (MQ below (Qi G z.1 z.2 L) args s 0 0 (gA G)) (F0 m 89 ls [])) :
    ∀ (n : Nat) (x3 : Int32) (Mx : Mem), lp_X8_read_28 fu b0 b1 b2 K n x3 Mx = some z → ∀ (H : Heap) (locs : List Loc), Dy G s Mx L H locs → ∀ ls : Array Slot, lv_has ls 4 [(0, .ref (ad G b0)), (1, .int b1), (2, .int b2), (3, .int x3)] → W p l e rm_X8_read s m args below meth c H locs 0 0 (MQ below (Qi G z.1 z.2 L) args s 0 0 (gA G)) (F0 m 28 ls []) := by
  intro n
  induction n with
  | zero =>
    intro x3 Mx h
    have h : (none : Option (Int32 × Mem)) = some z := h
    cases h
  | succ n ih =>
    intro x3 Mx h H locs d ls hl
    rw [lp_X8_read_28] at h
    refine lv_iload_n S.1 S.2.1 dX8_read_28 rfl (lv_at hl 3 rfl) ?_
    refine lv_aload_n S.1 S.2.1 dX8_read_29 rfl (lv_at hl 0 rfl) ?_
    refine gf_20_8 S d hb0 fl_RX8_83 dX8_read_30 ?_
    refine lv_icmp_ge (tgt := 89) S.1 S.2.1 dX8_read_33 (by decide) (fun cc => ?_) (fun cc => ?_)
    · replace h := it_p cc h
      exact hK _ _ _ d _ (lv_sub hl [0, 1, 2] rfl) h
    · replace h := it_n cc h
      refine lv_aload_n S.1 S.2.1 dX8_read_36 rfl (lv_at hl 0 rfl) ?_
      refine gf_20_17 S d hb0 fl_RX8_43 dX8_read_37 ?_
      refine lv_bipush (v := 10) S.1 S.2.1 dX8_read_40 (by decide) ?_
      refine lv_iload_n S.1 S.2.1 dX8_read_42 rfl (lv_at hl 2 rfl) ?_
      refine lv_imul S.1 S.2.1 dX8_read_43 ?_
      refine lv_iload_n S.1 S.2.1 dX8_read_44 rfl (lv_at hl 3 rfl) ?_
      refine lv_iadd S.1 S.2.1 dX8_read_45 ?_
      refine lv_aload_n S.1 S.2.1 dX8_read_46 rfl (lv_at hl 0 rfl) ?_
      refine lv_iload_n S.1 S.2.1 dX8_read_47 rfl (lv_at hl 3 rfl) ?_
      refine lv_iload_n S.1 S.2.1 dX8_read_48 rfl (lv_at hl 2 rfl) ?_
      obtain ⟨u2, hu2, h⟩ := bd_e h
      refine r_ri d (r_cV (As := [.int x3, .int b2]) (rest := [.int (((10 : Int32) * b2) + x3), .ref (ad G (b0 + 12))]) S d (c_X8_isWritten l G Mx L fu b0 x3 b2 hb0 hu2) (ksdM S hb0) (wc_20 hb0) rfl ml_RX8_188 im_yX8_isWritten se_yX8_isWritten in_RX8 co_yX8_isWritten hyV_X8_isWritten ⟨rfl, rfl⟩ ⟨by decide, by decide⟩ rfl hl rfl (Nat.le_of_ble_eq_true rfl) dX8_read_49 ⟨Nat.zero_le _, Nat.zero_le _⟩) (fun H locs d => ?_)
      obtain ⟨t3, g4, h⟩ := bd_e h
      have Jt3 : ∀ (H : Heap) (locs : List Loc), Dy G s Mx L H locs → W p l e rm_X8_read s m args below meth c H locs 0 0 (MQ below (Qi G z.1 z.2 L) args s 0 0 (gA G)) (F0 m 60 ls [.int t3, .int (((10 : Int32) * b2) + x3), .ref (ad G (b0 + 12))]) := by
        intro H locs d
        obtain ⟨g5, h⟩ := gd_e h
        obtain ⟨M6, eM6, h⟩ := lt_e h
        refine r_iast S d eM6 (ksdM S (ch_20_17 hb0).1) (fun _ => wc_21 (ch_20_17 hb0).1) (ch_20_17 hb0).2 g5 dX8_read_60 (fun H locs d => ?_)
        refine lv_aload_n S.1 S.2.1 dX8_read_61 rfl (lv_at hl 0 rfl) ?_
        refine gf_20_18 S d hb0 fl_RX8_46 dX8_read_62 ?_
        refine lv_bipush (v := 10) S.1 S.2.1 dX8_read_65 (by decide) ?_
        refine lv_iload_n S.1 S.2.1 dX8_read_67 rfl (lv_at hl 2 rfl) ?_
        refine lv_imul S.1 S.2.1 dX8_read_68 ?_
        refine lv_iload_n S.1 S.2.1 dX8_read_69 rfl (lv_at hl 3 rfl) ?_
        refine lv_iadd S.1 S.2.1 dX8_read_70 ?_
        refine lv_aload_n S.1 S.2.1 dX8_read_71 rfl (lv_at hl 0 rfl) ?_
        refine gf_20_6 S d hb0 fl_RX8_28 dX8_read_72 ?_
        refine lv_bipush (v := 8) S.1 S.2.1 dX8_read_75 (by decide) ?_
        refine lv_iload_n S.1 S.2.1 dX8_read_77 rfl (lv_at hl 3 rfl) ?_
        refine lv_imul S.1 S.2.1 dX8_read_78 ?_
        refine lv_iconst (v := 1) S.1 S.2.1 dX8_read_79 (by decide) ?_
        refine lv_iadd S.1 S.2.1 dX8_read_80 ?_
        obtain ⟨g7, h⟩ := gd_e h
        refine r_iald S d (ksdM S (ch_20_6 hb0).1) (wc_21 (ch_20_6 hb0).1) (ch_20_6 hb0).2 g7 dX8_read_81 ?_
        obtain ⟨g8, h⟩ := gd_e h
        obtain ⟨M9, eM9, h⟩ := lt_e h
        refine r_iast S d eM9 (ksdM S (ch_20_18 hb0).1) (fun _ => wc_21 (ch_20_18 hb0).1) (ch_20_18 hb0).2 g8 dX8_read_82 (fun H locs d => ?_)
        obtain ⟨v10, ev10, h⟩ := lt_e h
        refine lv_iinc (v := v10) (lv' := [(3, .int v10), (0, .ref (ad G b0)), (1, .int b1), (2, .int b2)]) S.1 S.2.1 dX8_read_83 hl (k := 3) rfl (by rw [ev10]; rfl) (by decide) rfl (fun ls hl => ?_)
        refine lv_goto (tgt := 28) S.1 S.2.1 dX8_read_86 (by decide) ?_
        exact ih _ _ h _ _ d _ (lv_sub hl [1, 2, 3, 0] rfl)
      have h := g4
      refine lv_if_eq (tgt := 59) S.1 S.2.1 dX8_read_52 (by decide) (fun cc => ?_) (fun cc => ?_)
      · replace h := it_p cc h
        refine lv_iconst (v := 0) S.1 S.2.1 dX8_read_59 (by decide) ?_
        obtain ej := Option.some.inj h
        refine r_top ej.symm ?_
        exact Jt3 _ _ d
      · replace h := it_n cc h
        refine lv_iconst (v := 1) S.1 S.2.1 dX8_read_55 (by decide) ?_
        refine lv_goto (tgt := 60) S.1 S.2.1 dX8_read_56 (by decide) ?_
        obtain ej := Option.some.inj h
        refine r_top ej.symm ?_
        exact Jt3 _ _ d
set_option maxHeartbeats 4000000 in
set_option maxRecDepth 100000 in
theorem lc_X8_read_18 {p : Program} {l : Launch} {e : Env} {s : State} {m : MethodId} {args : Array Value} {below : List Frame} {meth : Method} {c : Code} {G : Gx} {L : MemL} {fu : Nat} {b0 : Nat} {b1 : Int32} {z : Int32 × Mem} (S : Sx G true p s m args meth c cX8_read 4 RX8) (hr : meth.sig.returnType = (Option.some Jvm.ClassFile.FieldType.int)) (hb0 : kd b0 = 20) (K : Mem → Option (Int32 × Mem)) (hK : ∀ (My : Mem) (H : Heap) (locs : List Loc), Dy G s My L H locs → ∀ ls : Array Slot, lv_has ls 4 [(0, .ref (ad G b0)), (1, .int b1)] → K My = some z → W p l e rm_X8_read s m args below meth c H locs 0 0 (MQ below (Qi G z.1 z.2 L) args s 0 0 (gA G)) (F0 m 95 ls [])) :
    ∀ (n : Nat) (x2 : Int32) (Mx : Mem), lp_X8_read_18 fu b0 b1 K n x2 Mx = some z → ∀ (H : Heap) (locs : List Loc), Dy G s Mx L H locs → ∀ ls : Array Slot, lv_has ls 4 [(0, .ref (ad G b0)), (1, .int b1), (2, .int x2)] → W p l e rm_X8_read s m args below meth c H locs 0 0 (MQ below (Qi G z.1 z.2 L) args s 0 0 (gA G)) (F0 m 18 ls []) := by
  intro n
  induction n with
  | zero =>
    intro x2 Mx h
    have h : (none : Option (Int32 × Mem)) = some z := h
    cases h
  | succ n ih =>
    intro x2 Mx h H locs d ls hl
    rw [lp_X8_read_18] at h
    refine lv_iload_n S.1 S.2.1 dX8_read_18 rfl (lv_at hl 2 rfl) ?_
    refine lv_aload_n S.1 S.2.1 dX8_read_19 rfl (lv_at hl 0 rfl) ?_
    refine gf_20_7 S d hb0 fl_RX8_71 dX8_read_20 ?_
    refine lv_icmp_ge (tgt := 95) S.1 S.2.1 dX8_read_23 (by decide) (fun cc => ?_) (fun cc => ?_)
    · replace h := it_p cc h
      exact hK _ _ _ d _ (lv_sub hl [0, 1] rfl) h
    · replace h := it_n cc h
      refine lv_iconst (v := 0) S.1 S.2.1 dX8_read_26 (by decide) ?_
      refine lv_istore_n (lv' := [(3, .int (0 : Int32)), (0, .ref (ad G b0)), (1, .int b1), (2, .int x2)]) S.1 S.2.1 dX8_read_27 rfl hl (by decide) rfl (fun ls hl => ?_)
      refine lc_X8_read_28 S hr hb0 _ (fun M11 H locs d ls hl h => ?_) _ _ _  h _ _ d _ (lv_sub hl [1, 2, 3, 0] rfl)
      obtain ⟨v12, ev12, h⟩ := lt_e h
      refine lv_iinc (v := v12) (lv' := [(2, .int v12), (0, .ref (ad G b0)), (1, .int b1)]) S.1 S.2.1 dX8_read_89 hl (k := 2) rfl (by rw [ev12]; rfl) (by decide) rfl (fun ls hl => ?_)
      refine lv_goto (tgt := 18) S.1 S.2.1 dX8_read_92 (by decide) ?_
      exact ih _ _ h _ _ d _ (lv_sub hl [1, 2, 0] rfl)
set_option maxHeartbeats 4000000 in
set_option maxRecDepth 100000 in
theorem c_X8_read (l : Launch) (G : Gx) (M : Mem) (L : MemL) (fu : Nat) (k0 : Nat) (a1 : Int32) (hk0 : kd k0 = 20) {z : Int32 × Mem} (h : f_X8_read fu M k0 a1 = some z) : Met l yX8_read (.code yX8_read cX8_read 4 (Option.some Jvm.ClassFile.FieldType.int) :: UW) rm_X8_read (va_Pc [.ref (ad G k0), .int a1] (PreG G true M L)) (Qi G z.1 z.2 L) 0 0 (gA G) := by
  refine r_in (by decide) (fun p e s m args below meth c S hr d ha ls hl => ?_) (Nat.le_of_ble_eq_true rfl)
  have S : Sx G true p s m args meth c cX8_read 4 RX8 := S
  have hl : lv_has ls 4 [(0, .ref (ad G k0)), (1, .int a1)] := hl
  unfold f_X8_read at h
  refine lv_iload_n S.1 S.2.1 dX8_read_0 rfl (lv_at hl 1 rfl) ?_
  refine lv_i2l S.1 S.2.1 dX8_read_1 rfl ?_
  refine lv_ldc2 (v := (-2)) S.1 S.2.1 S.2.2.2.1 (S.uw cn_RX8_203) dX8_read_2 ?_
  refine lv_ldc2 (v := 8) S.1 S.2.1 S.2.2.2.1 (S.uw cn_RX8_133) dX8_read_5 ?_
  obtain ⟨u1, hu1, h⟩ := bd_e h
  refine r_ri d (r_cS (As := [.long ((a1).toInt64), .long (-2 : Int64), .long (8 : Int64)]) (rest := []) S d (c_X8_in l G M L ((a1).toInt64) (-2 : Int64) (8 : Int64) hu1) ml_RX8_75 sm_yX8_in in_RX8 co_yX8_in hyS_X8_in ⟨rfl, rfl⟩ ⟨by decide, by decide⟩ rfl hl rfl (Nat.le_of_ble_eq_true rfl) dX8_read_8 ⟨Nat.zero_le _, Nat.zero_le _⟩) (fun H locs d => ?_)
  refine lv_if_ne (tgt := 16) S.1 S.2.1 dX8_read_11 (by decide) (fun cc => ?_) (fun cc => ?_)
  · replace h := it_n cc h
    refine lv_iconst (v := 0) S.1 S.2.1 dX8_read_16 (by decide) ?_
    refine lv_istore_n (lv' := [(2, .int (0 : Int32)), (0, .ref (ad G k0)), (1, .int a1)]) S.1 S.2.1 dX8_read_17 rfl hl (by decide) rfl (fun ls hl => ?_)
    refine lc_X8_read_18 S hr hk0 _ (fun M13 H locs d ls hl h => ?_) _ _ _  h _ _ d _ (lv_sub hl [1, 2, 0] rfl)
    refine lv_aload_n S.1 S.2.1 dX8_read_95 rfl (lv_at hl 0 rfl) ?_
    obtain ⟨u14, hu14, h⟩ := bd_e h
    refine r_rv d (r_cV (As := []) (rest := []) S d (c_X8_findRow l G M13 L fu k0 hk0 hu14) (ksdM S hk0) (wc_20 hk0) rfl ml_RX8_205 im_yX8_findRow se_yX8_findRow in_RX8 co_yX8_findRow hyV_X8_findRow ⟨rfl, rfl⟩ ⟨by decide, by decide⟩ rfl hl rfl (Nat.le_of_ble_eq_true rfl) dX8_read_96 ⟨Nat.zero_le _, Nat.zero_le _⟩) (fun H locs d => ?_)
    refine lv_aload_n S.1 S.2.1 dX8_read_99 rfl (lv_at hl 0 rfl) ?_
    refine lv_iload_n S.1 S.2.1 dX8_read_100 rfl (lv_at hl 1 rfl) ?_
    obtain ⟨u15, hu15, h⟩ := bd_e h
    refine r_ri d (r_cV (As := [.int a1]) (rest := []) S d (c_X8_tellRow l G u14 L k0 a1 hk0 hu15) (ksdM S hk0) (wc_20 hk0) rfl ml_RX8_208 im_yX8_tellRow se_yX8_tellRow in_RX8 co_yX8_tellRow hyV_X8_tellRow ⟨rfl, rfl⟩ ⟨by decide, by decide⟩ rfl hl rfl (Nat.le_of_ble_eq_true rfl) dX8_read_101 ⟨Nat.zero_le _, Nat.zero_le _⟩) (fun H locs d => ?_)
    obtain rfl := Option.some.inj h
    exact r_iret S d hr rfl rfl dX8_read_104
  · replace h := it_p cc h
    refine lv_iconst (v := (-1)) S.1 S.2.1 dX8_read_14 (by decide) ?_
    obtain rfl := Option.some.inj h
    exact r_iret S d hr rfl rfl dX8_read_15
theorem hyV_X8_plan : yX8_plan.cls = RX8 ∧ yX8_plan.cls ≠ "java/lang/invoke/MethodHandle" ∧ yX8_plan.cls ≠ "java/lang/invoke/VarHandle" ∧ (parseMethodDescriptor yX8_plan.desc).map (fun d => d.parameters.length) = some 1 := by decide +kernel
abbrev rm_X8_plan : Room := { frames := 4, cells := 0, slots := 0, locals := 94 }
def lp_X8_plan_28 (fu : Nat) (b0 : Nat) (b1 : Int32) (b2 : Int32) (K : Mem → Option (Int32 × Mem)) : Nat → Int32 → Mem → Option (Int32 × Mem)
  | 0, _, _ => none
  | n + 1, x3, Mx =>
    (if (Mx b0 8) ≤ x3 then (K Mx)
    else (f_X8_mayBe fu Mx b0 x3 b2).bind (fun u2 =>
      (if u2 = 0 then some (0 : Int32)
      else some (1 : Int32)).bind (fun t3 : Int32 =>
      gd (inb (((10 : Int32) * b2) + x3) 90) (
      lt (up Mx (b0 + 12) (((10 : Int32) * b2) + x3).toNatClampNeg t3) (fun M6 : Mem =>
      (f_X8_hasRoom M6 b0 x3 b2).bind (fun u7 =>
      (if u7 = 0 then some (0 : Int32)
      else gd (inb (((8 : Int32) * x3) + (1 : Int32)) 80) (
        (f_X8_lostBy fu M6 b0 x3 b2).bind (fun u11 =>
        some ((M6 (b0 + 7) (((8 : Int32) * x3) + (1 : Int32)).toNatClampNeg) - u11)))).bind (fun t8 : Int32 =>
      gd (inb (((10 : Int32) * b2) + x3) 90) (
      lt (up M6 (b0 + 13) (((10 : Int32) * b2) + x3).toNatClampNeg t8) (fun M13 : Mem =>
      lt (x3 + 1) (fun v14 : Int32 =>
      (lp_X8_plan_28 fu b0 b1 b2 K n v14 M13)))))))))))
def lp_X8_plan_18 (fu : Nat) (b0 : Nat) (b1 : Int32) (K : Mem → Option (Int32 × Mem)) : Nat → Int32 → Mem → Option (Int32 × Mem)
  | 0, _, _ => none
  | n + 1, x2, Mx =>
    (if (Mx b0 7) ≤ x2 then (K Mx)
    else (lp_X8_plan_28 fu b0 b1 x2 (fun (M15 : Mem) =>
        lt (x2 + 1) (fun v16 : Int32 =>
        (lp_X8_plan_18 fu b0 b1 K n v16 M15))) fu (0 : Int32) Mx))
def f_X8_plan (fu : Nat) (M : Mem) (k0 : Nat) (a1 : Int32) : Option (Int32 × Mem) :=
  (f_X8_in ((a1).toInt64) (-2 : Int64) (8 : Int64)).bind (fun u1 =>
  (if u1 = 0 then some ((-1 : Int32), M)
  else (lp_X8_plan_18 fu k0 a1 (fun (M17 : Mem) =>
      (f_X8_findRow fu M17 k0).bind (fun u18 =>
      (f_X8_tellRow u18 k0 a1).bind (fun u19 =>
      some (u19, u18)))) fu (0 : Int32) M)))
set_option maxHeartbeats 4000000 in
set_option maxRecDepth 100000 in
theorem lc_X8_plan_28 {p : Program} {l : Launch} {e : Env} {s : State} {m : MethodId} {args : Array Value} {below : List Frame} {meth : Method} {c : Code} {G : Gx} {L : MemL} {fu : Nat} {b0 : Nat} {b1 : Int32} {b2 : Int32} {z : Int32 × Mem} (S : Sx G true p s m args meth c cX8_plan 4 RX8) (hr : meth.sig.returnType = (Option.some Jvm.ClassFile.FieldType.int)) (hb0 : kd b0 = 20) (K : Mem → Option (Int32 × Mem)) (hK : ∀ (My : Mem) (H : Heap) (locs : List Loc), Dy G s My L H locs → ∀ ls : Array Slot, lv_has ls 4 [(0, .ref (ad G b0)), (1, .int b1), (2, .int b2)] → K My = some z → W p l e rm_X8_plan s m args below meth c H locs 0 0 (MQ below (Qi G z.1 z.2 L) args s 0 0 (gA G)) (F0 m 109 ls [])) :
    ∀ (n : Nat) (x3 : Int32) (Mx : Mem), lp_X8_plan_28 fu b0 b1 b2 K n x3 Mx = some z → ∀ (H : Heap) (locs : List Loc), Dy G s Mx L H locs → ∀ ls : Array Slot, lv_has ls 4 [(0, .ref (ad G b0)), (1, .int b1), (2, .int b2), (3, .int x3)] → W p l e rm_X8_plan s m args below meth c H locs 0 0 (MQ below (Qi G z.1 z.2 L) args s 0 0 (gA G)) (F0 m 28 ls []) := by
  intro n
  induction n with
  | zero =>
    intro x3 Mx h
    have h : (none : Option (Int32 × Mem)) = some z := h
    cases h
  | succ n ih =>
    intro x3 Mx h H locs d ls hl
    rw [lp_X8_plan_28] at h
    refine lv_iload_n S.1 S.2.1 dX8_plan_28 rfl (lv_at hl 3 rfl) ?_
    refine lv_aload_n S.1 S.2.1 dX8_plan_29 rfl (lv_at hl 0 rfl) ?_
    refine gf_20_8 S d hb0 fl_RX8_83 dX8_plan_30 ?_
    refine lv_icmp_ge (tgt := 109) S.1 S.2.1 dX8_plan_33 (by decide) (fun cc => ?_) (fun cc => ?_)
    · replace h := it_p cc h
      exact hK _ _ _ d _ (lv_sub hl [0, 1, 2] rfl) h
    · replace h := it_n cc h
      refine lv_aload_n S.1 S.2.1 dX8_plan_36 rfl (lv_at hl 0 rfl) ?_
      refine gf_20_17 S d hb0 fl_RX8_43 dX8_plan_37 ?_
      refine lv_bipush (v := 10) S.1 S.2.1 dX8_plan_40 (by decide) ?_
      refine lv_iload_n S.1 S.2.1 dX8_plan_42 rfl (lv_at hl 2 rfl) ?_
      refine lv_imul S.1 S.2.1 dX8_plan_43 ?_
      refine lv_iload_n S.1 S.2.1 dX8_plan_44 rfl (lv_at hl 3 rfl) ?_
      refine lv_iadd S.1 S.2.1 dX8_plan_45 ?_
      refine lv_aload_n S.1 S.2.1 dX8_plan_46 rfl (lv_at hl 0 rfl) ?_
      refine lv_iload_n S.1 S.2.1 dX8_plan_47 rfl (lv_at hl 3 rfl) ?_
      refine lv_iload_n S.1 S.2.1 dX8_plan_48 rfl (lv_at hl 2 rfl) ?_
      obtain ⟨u2, hu2, h⟩ := bd_e h
      refine r_ri d (r_cV (As := [.int x3, .int b2]) (rest := [.int (((10 : Int32) * b2) + x3), .ref (ad G (b0 + 12))]) S d (c_X8_mayBe l G Mx L fu b0 x3 b2 hb0 hu2) (ksdM S hb0) (wc_20 hb0) rfl ml_RX8_191 im_yX8_mayBe se_yX8_mayBe in_RX8 co_yX8_mayBe hyV_X8_mayBe ⟨rfl, rfl⟩ ⟨by decide, by decide⟩ rfl hl rfl (Nat.le_of_ble_eq_true rfl) dX8_plan_49 ⟨Nat.zero_le _, Nat.zero_le _⟩) (fun H locs d => ?_)
      obtain ⟨t3, g4, h⟩ := bd_e h
      have Jt3 : ∀ (H : Heap) (locs : List Loc), Dy G s Mx L H locs → W p l e rm_X8_plan s m args below meth c H locs 0 0 (MQ below (Qi G z.1 z.2 L) args s 0 0 (gA G)) (F0 m 60 ls [.int t3, .int (((10 : Int32) * b2) + x3), .ref (ad G (b0 + 12))]) := by
        intro H locs d
        obtain ⟨g5, h⟩ := gd_e h
        obtain ⟨M6, eM6, h⟩ := lt_e h
        refine r_iast S d eM6 (ksdM S (ch_20_17 hb0).1) (fun _ => wc_21 (ch_20_17 hb0).1) (ch_20_17 hb0).2 g5 dX8_plan_60 (fun H locs d => ?_)
        refine lv_aload_n S.1 S.2.1 dX8_plan_61 rfl (lv_at hl 0 rfl) ?_
        refine gf_20_18 S d hb0 fl_RX8_46 dX8_plan_62 ?_
        refine lv_bipush (v := 10) S.1 S.2.1 dX8_plan_65 (by decide) ?_
        refine lv_iload_n S.1 S.2.1 dX8_plan_67 rfl (lv_at hl 2 rfl) ?_
        refine lv_imul S.1 S.2.1 dX8_plan_68 ?_
        refine lv_iload_n S.1 S.2.1 dX8_plan_69 rfl (lv_at hl 3 rfl) ?_
        refine lv_iadd S.1 S.2.1 dX8_plan_70 ?_
        refine lv_aload_n S.1 S.2.1 dX8_plan_71 rfl (lv_at hl 0 rfl) ?_
        refine lv_iload_n S.1 S.2.1 dX8_plan_72 rfl (lv_at hl 3 rfl) ?_
        refine lv_iload_n S.1 S.2.1 dX8_plan_73 rfl (lv_at hl 2 rfl) ?_
        obtain ⟨u7, hu7, h⟩ := bd_e h
        refine r_ri d (r_cV (As := [.int x3, .int b2]) (rest := [.int (((10 : Int32) * b2) + x3), .ref (ad G (b0 + 13))]) S d (c_X8_hasRoom l G M6 L b0 x3 b2 hb0 hu7) (ksdM S hb0) (wc_20 hb0) rfl ml_RX8_182 im_yX8_hasRoom se_yX8_hasRoom in_RX8 co_yX8_hasRoom hyV_X8_hasRoom ⟨rfl, rfl⟩ ⟨by decide, by decide⟩ rfl hl rfl (Nat.le_of_ble_eq_true rfl) dX8_plan_74 ⟨Nat.zero_le _, Nat.zero_le _⟩) (fun H locs d => ?_)
        obtain ⟨t8, g9, h⟩ := bd_e h
        have Jt8 : ∀ (H : Heap) (locs : List Loc), Dy G s M6 L H locs → W p l e rm_X8_plan s m args below meth c H locs 0 0 (MQ below (Qi G z.1 z.2 L) args s 0 0 (gA G)) (F0 m 102 ls [.int t8, .int (((10 : Int32) * b2) + x3), .ref (ad G (b0 + 13))]) := by
          intro H locs d
          obtain ⟨g12, h⟩ := gd_e h
          obtain ⟨M13, eM13, h⟩ := lt_e h
          refine r_iast S d eM13 (ksdM S (ch_20_18 hb0).1) (fun _ => wc_21 (ch_20_18 hb0).1) (ch_20_18 hb0).2 g12 dX8_plan_102 (fun H locs d => ?_)
          obtain ⟨v14, ev14, h⟩ := lt_e h
          refine lv_iinc (v := v14) (lv' := [(3, .int v14), (0, .ref (ad G b0)), (1, .int b1), (2, .int b2)]) S.1 S.2.1 dX8_plan_103 hl (k := 3) rfl (by rw [ev14]; rfl) (by decide) rfl (fun ls hl => ?_)
          refine lv_goto (tgt := 28) S.1 S.2.1 dX8_plan_106 (by decide) ?_
          exact ih _ _ h _ _ d _ (lv_sub hl [1, 2, 3, 0] rfl)
        have h := g9
        refine lv_if_eq (tgt := 101) S.1 S.2.1 dX8_plan_77 (by decide) (fun cc => ?_) (fun cc => ?_)
        · replace h := it_p cc h
          refine lv_iconst (v := 0) S.1 S.2.1 dX8_plan_101 (by decide) ?_
          obtain ej := Option.some.inj h
          refine r_top ej.symm ?_
          exact Jt8 _ _ d
        · replace h := it_n cc h
          refine lv_aload_n S.1 S.2.1 dX8_plan_80 rfl (lv_at hl 0 rfl) ?_
          refine gf_20_6 S d hb0 fl_RX8_28 dX8_plan_81 ?_
          refine lv_bipush (v := 8) S.1 S.2.1 dX8_plan_84 (by decide) ?_
          refine lv_iload_n S.1 S.2.1 dX8_plan_86 rfl (lv_at hl 3 rfl) ?_
          refine lv_imul S.1 S.2.1 dX8_plan_87 ?_
          refine lv_iconst (v := 1) S.1 S.2.1 dX8_plan_88 (by decide) ?_
          refine lv_iadd S.1 S.2.1 dX8_plan_89 ?_
          obtain ⟨g10, h⟩ := gd_e h
          refine r_iald S d (ksdM S (ch_20_6 hb0).1) (wc_21 (ch_20_6 hb0).1) (ch_20_6 hb0).2 g10 dX8_plan_90 ?_
          refine lv_aload_n S.1 S.2.1 dX8_plan_91 rfl (lv_at hl 0 rfl) ?_
          refine lv_iload_n S.1 S.2.1 dX8_plan_92 rfl (lv_at hl 3 rfl) ?_
          refine lv_iload_n S.1 S.2.1 dX8_plan_93 rfl (lv_at hl 2 rfl) ?_
          obtain ⟨u11, hu11, h⟩ := bd_e h
          refine r_ri d (r_cV (As := [.int x3, .int b2]) (rest := [.int (M6 (b0 + 7) (((8 : Int32) * x3) + (1 : Int32)).toNatClampNeg), .int (((10 : Int32) * b2) + x3), .ref (ad G (b0 + 13))]) S d (c_X8_lostBy l G M6 L fu b0 x3 b2 hb0 hu11) (ksdM S hb0) (wc_20 hb0) rfl ml_RX8_197 im_yX8_lostBy se_yX8_lostBy in_RX8 co_yX8_lostBy hyV_X8_lostBy ⟨rfl, rfl⟩ ⟨by decide, by decide⟩ rfl hl rfl (Nat.le_of_ble_eq_true rfl) dX8_plan_94 ⟨Nat.zero_le _, Nat.zero_le _⟩) (fun H locs d => ?_)
          refine lv_isub S.1 S.2.1 dX8_plan_97 ?_
          refine lv_goto (tgt := 102) S.1 S.2.1 dX8_plan_98 (by decide) ?_
          obtain ej := Option.some.inj h
          refine r_top ej.symm ?_
          exact Jt8 _ _ d
      have h := g4
      refine lv_if_eq (tgt := 59) S.1 S.2.1 dX8_plan_52 (by decide) (fun cc => ?_) (fun cc => ?_)
      · replace h := it_p cc h
        refine lv_iconst (v := 0) S.1 S.2.1 dX8_plan_59 (by decide) ?_
        obtain ej := Option.some.inj h
        refine r_top ej.symm ?_
        exact Jt3 _ _ d
      · replace h := it_n cc h
        refine lv_iconst (v := 1) S.1 S.2.1 dX8_plan_55 (by decide) ?_
        refine lv_goto (tgt := 60) S.1 S.2.1 dX8_plan_56 (by decide) ?_
        obtain ej := Option.some.inj h
        refine r_top ej.symm ?_
        exact Jt3 _ _ d
set_option maxHeartbeats 4000000 in
set_option maxRecDepth 100000 in
theorem lc_X8_plan_18 {p : Program} {l : Launch} {e : Env} {s : State} {m : MethodId} {args : Array Value} {below : List Frame} {meth : Method} {c : Code} {G : Gx} {L : MemL} {fu : Nat} {b0 : Nat} {b1 : Int32} {z : Int32 × Mem} (S : Sx G true p s m args meth c cX8_plan 4 RX8) (hr : meth.sig.returnType = (Option.some Jvm.ClassFile.FieldType.int)) (hb0 : kd b0 = 20) (K : Mem → Option (Int32 × Mem)) (hK : ∀ (My : Mem) (H : Heap) (locs : List Loc), Dy G s My L H locs → ∀ ls : Array Slot, lv_has ls 4 [(0, .ref (ad G b0)), (1, .int b1)] → K My = some z → W p l e rm_X8_plan s m args below meth c H locs 0 0 (MQ below (Qi G z.1 z.2 L) args s 0 0 (gA G)) (F0 m 115 ls [])) :
    ∀ (n : Nat) (x2 : Int32) (Mx : Mem), lp_X8_plan_18 fu b0 b1 K n x2 Mx = some z → ∀ (H : Heap) (locs : List Loc), Dy G s Mx L H locs → ∀ ls : Array Slot, lv_has ls 4 [(0, .ref (ad G b0)), (1, .int b1), (2, .int x2)] → W p l e rm_X8_plan s m args below meth c H locs 0 0 (MQ below (Qi G z.1 z.2 L) args s 0 0 (gA G)) (F0 m 18 ls []) := by
  intro n
  induction n with
  | zero =>
    intro x2 Mx h
    have h : (none : Option (Int32 × Mem)) = some z := h
    cases h
  | succ n ih =>
    intro x2 Mx h H locs d ls hl
    rw [lp_X8_plan_18] at h
    refine lv_iload_n S.1 S.2.1 dX8_plan_18 rfl (lv_at hl 2 rfl) ?_
    refine lv_aload_n S.1 S.2.1 dX8_plan_19 rfl (lv_at hl 0 rfl) ?_
    refine gf_20_7 S d hb0 fl_RX8_71 dX8_plan_20 ?_
    refine lv_icmp_ge (tgt := 115) S.1 S.2.1 dX8_plan_23 (by decide) (fun cc => ?_) (fun cc => ?_)
    · replace h := it_p cc h
      exact hK _ _ _ d _ (lv_sub hl [0, 1] rfl) h
    · replace h := it_n cc h
      refine lv_iconst (v := 0) S.1 S.2.1 dX8_plan_26 (by decide) ?_
      refine lv_istore_n (lv' := [(3, .int (0 : Int32)), (0, .ref (ad G b0)), (1, .int b1), (2, .int x2)]) S.1 S.2.1 dX8_plan_27 rfl hl (by decide) rfl (fun ls hl => ?_)
      refine lc_X8_plan_28 S hr hb0 _ (fun M15 H locs d ls hl h => ?_) _ _ _  h _ _ d _ (lv_sub hl [1, 2, 3, 0] rfl)
      obtain ⟨v16, ev16, h⟩ := lt_e h
      refine lv_iinc (v := v16) (lv' := [(2, .int v16), (0, .ref (ad G b0)), (1, .int b1)]) S.1 S.2.1 dX8_plan_109 hl (k := 2) rfl (by rw [ev16]; rfl) (by decide) rfl (fun ls hl => ?_)
      refine lv_goto (tgt := 18) S.1 S.2.1 dX8_plan_112 (by decide) ?_
      exact ih _ _ h _ _ d _ (lv_sub hl [1, 2, 0] rfl)
set_option maxHeartbeats 4000000 in
set_option maxRecDepth 100000 in
theorem c_X8_plan (l : Launch) (G : Gx) (M : Mem) (L : MemL) (fu : Nat) (k0 : Nat) (a1 : Int32) (hk0 : kd k0 = 20) {z : Int32 × Mem} (h : f_X8_plan fu M k0 a1 = some z) : Met l yX8_plan (.code yX8_plan cX8_plan 4 (Option.some Jvm.ClassFile.FieldType.int) :: UW) rm_X8_plan (va_Pc [.ref (ad G k0), .int a1] (PreG G true M L)) (Qi G z.1 z.2 L) 0 0 (gA G) := by
  refine r_in (by decide) (fun p e s m args below meth c S hr d ha ls hl => ?_) (Nat.le_of_ble_eq_true rfl)
  have S : Sx G true p s m args meth c cX8_plan 4 RX8 := S
  have hl : lv_has ls 4 [(0, .ref (ad G k0)), (1, .int a1)] := hl
  unfold f_X8_plan at h
  refine lv_iload_n S.1 S.2.1 dX8_plan_0 rfl (lv_at hl 1 rfl) ?_
  refine lv_i2l S.1 S.2.1 dX8_plan_1 rfl ?_
  refine lv_ldc2 (v := (-2)) S.1 S.2.1 S.2.2.2.1 (S.uw cn_RX8_203) dX8_plan_2 ?_
  refine lv_ldc2 (v := 8) S.1 S.2.1 S.2.2.2.1 (S.uw cn_RX8_133) dX8_plan_5 ?_
  obtain ⟨u1, hu1, h⟩ := bd_e h
  refine r_ri d (r_cS (As := [.long ((a1).toInt64), .long (-2 : Int64), .long (8 : Int64)]) (rest := []) S d (c_X8_in l G M L ((a1).toInt64) (-2 : Int64) (8 : Int64) hu1) ml_RX8_75 sm_yX8_in in_RX8 co_yX8_in hyS_X8_in ⟨rfl, rfl⟩ ⟨by decide, by decide⟩ rfl hl rfl (Nat.le_of_ble_eq_true rfl) dX8_plan_8 ⟨Nat.zero_le _, Nat.zero_le _⟩) (fun H locs d => ?_)
  refine lv_if_ne (tgt := 16) S.1 S.2.1 dX8_plan_11 (by decide) (fun cc => ?_) (fun cc => ?_)
  · replace h := it_n cc h
    refine lv_iconst (v := 0) S.1 S.2.1 dX8_plan_16 (by decide) ?_
    refine lv_istore_n (lv' := [(2, .int (0 : Int32)), (0, .ref (ad G k0)), (1, .int a1)]) S.1 S.2.1 dX8_plan_17 rfl hl (by decide) rfl (fun ls hl => ?_)
    refine lc_X8_plan_18 S hr hk0 _ (fun M17 H locs d ls hl h => ?_) _ _ _  h _ _ d _ (lv_sub hl [1, 2, 0] rfl)
    refine lv_aload_n S.1 S.2.1 dX8_plan_115 rfl (lv_at hl 0 rfl) ?_
    obtain ⟨u18, hu18, h⟩ := bd_e h
    refine r_rv d (r_cV (As := []) (rest := []) S d (c_X8_findRow l G M17 L fu k0 hk0 hu18) (ksdM S hk0) (wc_20 hk0) rfl ml_RX8_205 im_yX8_findRow se_yX8_findRow in_RX8 co_yX8_findRow hyV_X8_findRow ⟨rfl, rfl⟩ ⟨by decide, by decide⟩ rfl hl rfl (Nat.le_of_ble_eq_true rfl) dX8_plan_116 ⟨Nat.zero_le _, Nat.zero_le _⟩) (fun H locs d => ?_)
    refine lv_aload_n S.1 S.2.1 dX8_plan_119 rfl (lv_at hl 0 rfl) ?_
    refine lv_iload_n S.1 S.2.1 dX8_plan_120 rfl (lv_at hl 1 rfl) ?_
    obtain ⟨u19, hu19, h⟩ := bd_e h
    refine r_ri d (r_cV (As := [.int a1]) (rest := []) S d (c_X8_tellRow l G u18 L k0 a1 hk0 hu19) (ksdM S hk0) (wc_20 hk0) rfl ml_RX8_208 im_yX8_tellRow se_yX8_tellRow in_RX8 co_yX8_tellRow hyV_X8_tellRow ⟨rfl, rfl⟩ ⟨by decide, by decide⟩ rfl hl rfl (Nat.le_of_ble_eq_true rfl) dX8_plan_121 ⟨Nat.zero_le _, Nat.zero_le _⟩) (fun H locs d => ?_)
    obtain rfl := Option.some.inj h
    exact r_iret S d hr rfl rfl dX8_plan_124
  · replace h := it_p cc h
    refine lv_iconst (v := (-1)) S.1 S.2.1 dX8_plan_14 (by decide) ?_
    obtain rfl := Option.some.inj h
    exact r_iret S d hr rfl rfl dX8_plan_15
theorem hyV_X8_nearest : yX8_nearest.cls = RX8 ∧ yX8_nearest.cls ≠ "java/lang/invoke/MethodHandle" ∧ yX8_nearest.cls ≠ "java/lang/invoke/VarHandle" ∧ (parseMethodDescriptor yX8_nearest.desc).map (fun d => d.parameters.length) = some 2 := by decide +kernel
abbrev rm_X8_nearest : Room := { frames := 2, cells := 0, slots := 0, locals := 46 }
def lp_X8_nearest_44 (fu : Nat) (M : Mem) (b0 : Nat) (b1 : Int32) (b2 : Int32) (b3 : Int32) (b4 : Int32) (b5 : Int32) (K : Int32 → Option (Int32)) : Nat → Int32 → Int32 → Option (Int32)
  | 0, _, _ => none
  | n + 1, x6, x7 =>
    (f_X8_sizeOf M b0 b5).bind (fun u3 =>
    (if u3 ≤ x7 then (K x6)
    else (f_X8_hasRoom M b0 b5 b1).bind (fun u4 =>
      (if u4 = 0 then (K x6)
      else (f_X8_seenOf fu M b0 (b1 + x7)).bind (fun u5 =>
        (f_X8_letterOf M b0 b5 x7).bind (fun u6 =>
        gd (inb u6 26) (
        (f_X8_ones fu (u5 ^^^ (M (b0 + 1) u6.toNatClampNeg))).bind (fun u8 =>
        lt ((x6 + u8)) (fun v9 : Int32 =>
        lt (x7 + 1) (fun v10 : Int32 =>
        (lp_X8_nearest_44 fu M b0 b1 b2 b3 b4 b5 K n v9 v10)))))))))))
def lp_X8_nearest_29 (fu : Nat) (M : Mem) (b0 : Nat) (b1 : Int32) (b2 : Int32) (K : Int32 → Int32 → Option (Int32)) : Nat → Int32 → Int32 → Int32 → Option (Int32)
  | 0, _, _, _ => none
  | n + 1, x3, x4, x5 =>
    (if (M b0 8) ≤ x5 then (K x3 x4)
    else (lp_X8_nearest_44 fu M b0 b1 b2 x3 x4 x5 (fun (v11 : Int32) =>
        (f_X8_hasRoom M b0 x5 b1).bind (fun u12 =>
        (if u12 = 0 then lt (x5 + 1) (fun v16 : Int32 =>
          (lp_X8_nearest_29 fu M b0 b1 b2 K n x3 x4 v16))
        else (if x3 < 0 then lt (x5 + 1) (fun v15 : Int32 =>
            (lp_X8_nearest_29 fu M b0 b1 b2 K n x5 v11 v15))
          else (if x4 ≤ v11 then lt (x5 + 1) (fun v14 : Int32 =>
              (lp_X8_nearest_29 fu M b0 b1 b2 K n x3 x4 v14))
            else lt (x5 + 1) (fun v13 : Int32 =>
              (lp_X8_nearest_29 fu M b0 b1 b2 K n x5 v11 v13))))))) fu (0 : Int32) (0 : Int32)))
def f_X8_nearest (fu : Nat) (M : Mem) (k0 : Nat) (a1 : Int32) (a2 : Int32) : Option (Int32) :=
  (f_X8_isStrip M k0 a1).bind (fun u1 =>
  (if u1 = 0 then some ((-1 : Int32))
  else (f_X8_in ((a2).toInt64) (0 : Int64) (1 : Int64)).bind (fun u2 =>
    (if u2 = 0 then some ((-1 : Int32))
    else (lp_X8_nearest_29 fu M k0 a1 a2 (fun (v17 : Int32) (v18 : Int32) =>
        (if 0 ≤ v17 then (if a2 = 0 then some (v17)
          else some (v18))
        else some ((-4 : Int32)))) fu (-4 : Int32) (0 : Int32) (0 : Int32))))))
set_option maxHeartbeats 4000000 in
set_option maxRecDepth 100000 in
theorem lc_X8_nearest_44 {p : Program} {l : Launch} {e : Env} {s : State} {m : MethodId} {args : Array Value} {below : List Frame} {meth : Method} {c : Code} {G : Gx} {M : Mem} {L : MemL} {fu : Nat} {b0 : Nat} {b1 : Int32} {b2 : Int32} {b3 : Int32} {b4 : Int32} {b5 : Int32} {z : Int32} (S : Sx G true p s m args meth c cX8_nearest 8 RX8) (hr : meth.sig.returnType = (Option.some Jvm.ClassFile.FieldType.int)) (hb0 : kd b0 = 20) (K : Int32 → Option (Int32)) (hK : ∀ (y6 : Int32) (H : Heap) (locs : List Loc), Dy G s M L H locs → ∀ ls : Array Slot, lv_has ls 8 [(0, .ref (ad G b0)), (1, .int b1), (2, .int b2), (3, .int b3), (4, .int b4), (5, .int b5), (6, .int y6)] → K y6 = some z → W p l e rm_X8_nearest s m args below meth c H locs 0 0 (MQ below (Qi G z M L) args s 0 0 (gA G)) (F0 m 101 ls [])) :
    ∀ (n : Nat) (x6 : Int32) (x7 : Int32), lp_X8_nearest_44 fu M b0 b1 b2 b3 b4 b5 K n x6 x7 = some z → ∀ (H : Heap) (locs : List Loc), Dy G s M L H locs → ∀ ls : Array Slot, lv_has ls 8 [(0, .ref (ad G b0)), (1, .int b1), (2, .int b2), (3, .int b3), (4, .int b4), (5, .int b5), (6, .int x6), (7, .int x7)] → W p l e rm_X8_nearest s m args below meth c H locs 0 0 (MQ below (Qi G z M L) args s 0 0 (gA G)) (F0 m 44 ls []) := by
  intro n
  induction n with
  | zero =>
    intro x6 x7 h
    have h : (none : Option (Int32)) = some z := h
    cases h
  | succ n ih =>
    intro x6 x7 h H locs d ls hl
    rw [lp_X8_nearest_44] at h
    refine lv_iload S.1 S.2.1 dX8_nearest_44 (lv_at hl 7 rfl) ?_
    refine lv_aload_n S.1 S.2.1 dX8_nearest_46 rfl (lv_at hl 0 rfl) ?_
    refine lv_iload S.1 S.2.1 dX8_nearest_47 (lv_at hl 5 rfl) ?_
    obtain ⟨u3, hu3, h⟩ := bd_e h
    refine r_ri d (r_cV (As := [.int b5]) (rest := [.int x7]) S d (c_X8_sizeOf l G M L b0 b5 hb0 hu3) (ksdM S hb0) (wc_20 hb0) rfl ml_RX8_179 im_yX8_sizeOf se_yX8_sizeOf in_RX8 co_yX8_sizeOf hyV_X8_sizeOf ⟨rfl, rfl⟩ ⟨by decide, by decide⟩ rfl hl rfl (Nat.le_of_ble_eq_true rfl) dX8_nearest_49 ⟨Nat.zero_le _, Nat.zero_le _⟩) (fun H locs d => ?_)
    refine lv_icmp_ge (tgt := 101) S.1 S.2.1 dX8_nearest_52 (by decide) (fun cc => ?_) (fun cc => ?_)
    · replace h := it_p cc h
      exact hK _ _ _ d _ (lv_sub hl [0, 1, 2, 3, 4, 5, 6] rfl) h
    · replace h := it_n cc h
      refine lv_aload_n S.1 S.2.1 dX8_nearest_55 rfl (lv_at hl 0 rfl) ?_
      refine lv_iload S.1 S.2.1 dX8_nearest_56 (lv_at hl 5 rfl) ?_
      refine lv_iload_n S.1 S.2.1 dX8_nearest_58 rfl (lv_at hl 1 rfl) ?_
      obtain ⟨u4, hu4, h⟩ := bd_e h
      refine r_ri d (r_cV (As := [.int b5, .int b1]) (rest := []) S d (c_X8_hasRoom l G M L b0 b5 b1 hb0 hu4) (ksdM S hb0) (wc_20 hb0) rfl ml_RX8_182 im_yX8_hasRoom se_yX8_hasRoom in_RX8 co_yX8_hasRoom hyV_X8_hasRoom ⟨rfl, rfl⟩ ⟨by decide, by decide⟩ rfl hl rfl (Nat.le_of_ble_eq_true rfl) dX8_nearest_59 ⟨Nat.zero_le _, Nat.zero_le _⟩) (fun H locs d => ?_)
      refine lv_if_eq (tgt := 101) S.1 S.2.1 dX8_nearest_62 (by decide) (fun cc => ?_) (fun cc => ?_)
      · replace h := it_p cc h
        exact hK _ _ _ d _ (lv_sub hl [0, 1, 2, 3, 4, 5, 6] rfl) h
      · replace h := it_n cc h
        refine lv_iload S.1 S.2.1 dX8_nearest_65 (lv_at hl 6 rfl) ?_
        refine lv_aload_n S.1 S.2.1 dX8_nearest_67 rfl (lv_at hl 0 rfl) ?_
        refine lv_iload_n S.1 S.2.1 dX8_nearest_68 rfl (lv_at hl 1 rfl) ?_
        refine lv_iload S.1 S.2.1 dX8_nearest_69 (lv_at hl 7 rfl) ?_
        refine lv_iadd S.1 S.2.1 dX8_nearest_71 ?_
        obtain ⟨u5, hu5, h⟩ := bd_e h
        refine r_ri d (r_cV (As := [.int (b1 + x7)]) (rest := [.int x6]) S d (c_X8_seenOf l G M L fu b0 (b1 + x7) hb0 hu5) (ksdM S hb0) (wc_20 hb0) rfl ml_RX8_104 im_yX8_seenOf se_yX8_seenOf in_RX8 co_yX8_seenOf hyV_X8_seenOf ⟨rfl, rfl⟩ ⟨by decide, by decide⟩ rfl hl rfl (Nat.le_of_ble_eq_true rfl) dX8_nearest_72 ⟨Nat.zero_le _, Nat.zero_le _⟩) (fun H locs d => ?_)
        refine lv_aload_n S.1 S.2.1 dX8_nearest_75 rfl (lv_at hl 0 rfl) ?_
        refine gf_20_0 S d hb0 fl_RX8_7 dX8_nearest_76 ?_
        refine lv_aload_n S.1 S.2.1 dX8_nearest_79 rfl (lv_at hl 0 rfl) ?_
        refine lv_iload S.1 S.2.1 dX8_nearest_80 (lv_at hl 5 rfl) ?_
        refine lv_iload S.1 S.2.1 dX8_nearest_82 (lv_at hl 7 rfl) ?_
        obtain ⟨u6, hu6, h⟩ := bd_e h
        refine r_ri d (r_cV (As := [.int b5, .int x7]) (rest := [.ref (ad G (b0 + 1)), .int u5, .int x6]) S d (c_X8_letterOf l G M L b0 b5 x7 hb0 hu6) (ksdM S hb0) (wc_20 hb0) rfl ml_RX8_185 im_yX8_letterOf se_yX8_letterOf in_RX8 co_yX8_letterOf hyV_X8_letterOf ⟨rfl, rfl⟩ ⟨by decide, by decide⟩ rfl hl rfl (Nat.le_of_ble_eq_true rfl) dX8_nearest_84 ⟨Nat.zero_le _, Nat.zero_le _⟩) (fun H locs d => ?_)
        obtain ⟨g7, h⟩ := gd_e h
        refine r_iald S d (ksdM S (ch_20_0 hb0).1) (wc_21 (ch_20_0 hb0).1) (ch_20_0 hb0).2 g7 dX8_nearest_87 ?_
        refine lv_ixor S.1 S.2.1 dX8_nearest_88 ?_
        obtain ⟨u8, hu8, h⟩ := bd_e h
        refine r_ri d (r_cS (As := [.int (u5 ^^^ (M (b0 + 1) u6.toNatClampNeg))]) (rest := [.int x6]) S d (c_X8_ones l G M L fu (u5 ^^^ (M (b0 + 1) u6.toNatClampNeg)) hu8) ml_RX8_108 sm_yX8_ones in_RX8 co_yX8_ones hyS_X8_ones ⟨rfl, rfl⟩ ⟨by decide, by decide⟩ rfl hl rfl (Nat.le_of_ble_eq_true rfl) dX8_nearest_89 ⟨Nat.zero_le _, Nat.zero_le _⟩) (fun H locs d => ?_)
        refine lv_iadd S.1 S.2.1 dX8_nearest_92 ?_
        obtain ⟨v9, ev9, h⟩ := lt_e h
        refine r_top ev9 ?_
        refine lv_istore (lv' := [(6, .int v9), (0, .ref (ad G b0)), (1, .int b1), (2, .int b2), (3, .int b3), (4, .int b4), (5, .int b5), (7, .int x7)]) S.1 S.2.1 dX8_nearest_93 hl (by decide) rfl (fun ls hl => ?_)
        obtain ⟨v10, ev10, h⟩ := lt_e h
        refine lv_iinc (v := v10) (lv' := [(7, .int v10), (6, .int v9), (0, .ref (ad G b0)), (1, .int b1), (2, .int b2), (3, .int b3), (4, .int b4), (5, .int b5)]) S.1 S.2.1 dX8_nearest_95 hl (k := 7) rfl (by rw [ev10]; rfl) (by decide) rfl (fun ls hl => ?_)
        refine lv_goto (tgt := 44) S.1 S.2.1 dX8_nearest_98 (by decide) ?_
        exact ih _ _ h _ _ d _ (lv_sub hl [2, 3, 4, 5, 6, 7, 1, 0] rfl)
set_option maxHeartbeats 4000000 in
set_option maxRecDepth 100000 in
theorem lc_X8_nearest_29 {p : Program} {l : Launch} {e : Env} {s : State} {m : MethodId} {args : Array Value} {below : List Frame} {meth : Method} {c : Code} {G : Gx} {M : Mem} {L : MemL} {fu : Nat} {b0 : Nat} {b1 : Int32} {b2 : Int32} {z : Int32} (S : Sx G true p s m args meth c cX8_nearest 8 RX8) (hr : meth.sig.returnType = (Option.some Jvm.ClassFile.FieldType.int)) (hb0 : kd b0 = 20) (K : Int32 → Int32 → Option (Int32)) (hK : ∀ (y3 : Int32) (y4 : Int32) (H : Heap) (locs : List Loc), Dy G s M L H locs → ∀ ls : Array Slot, lv_has ls 8 [(2, .int b2), (3, .int y3), (4, .int y4)] → K y3 y4 = some z → W p l e rm_X8_nearest s m args below meth c H locs 0 0 (MQ below (Qi G z M L) args s 0 0 (gA G)) (F0 m 135 ls [])) :
    ∀ (n : Nat) (x3 : Int32) (x4 : Int32) (x5 : Int32), lp_X8_nearest_29 fu M b0 b1 b2 K n x3 x4 x5 = some z → ∀ (H : Heap) (locs : List Loc), Dy G s M L H locs → ∀ ls : Array Slot, lv_has ls 8 [(0, .ref (ad G b0)), (1, .int b1), (2, .int b2), (3, .int x3), (4, .int x4), (5, .int x5)] → W p l e rm_X8_nearest s m args below meth c H locs 0 0 (MQ below (Qi G z M L) args s 0 0 (gA G)) (F0 m 29 ls []) := by
  intro n
  induction n with
  | zero =>
    intro x3 x4 x5 h
    have h : (none : Option (Int32)) = some z := h
    cases h
  | succ n ih =>
    intro x3 x4 x5 h H locs d ls hl
    rw [lp_X8_nearest_29] at h
    refine lv_iload S.1 S.2.1 dX8_nearest_29 (lv_at hl 5 rfl) ?_
    refine lv_aload_n S.1 S.2.1 dX8_nearest_31 rfl (lv_at hl 0 rfl) ?_
    refine gf_20_8 S d hb0 fl_RX8_83 dX8_nearest_32 ?_
    refine lv_icmp_ge (tgt := 135) S.1 S.2.1 dX8_nearest_35 (by decide) (fun cc => ?_) (fun cc => ?_)
    · replace h := it_p cc h
      exact hK _ _ _ _ d _ (lv_sub hl [2, 3, 4] rfl) h
    · replace h := it_n cc h
      refine lv_iconst (v := 0) S.1 S.2.1 dX8_nearest_38 (by decide) ?_
      refine lv_istore (lv' := [(6, .int (0 : Int32)), (0, .ref (ad G b0)), (1, .int b1), (2, .int b2), (3, .int x3), (4, .int x4), (5, .int x5)]) S.1 S.2.1 dX8_nearest_39 hl (by decide) rfl (fun ls hl => ?_)
      refine lv_iconst (v := 0) S.1 S.2.1 dX8_nearest_41 (by decide) ?_
      refine lv_istore (lv' := [(7, .int (0 : Int32)), (6, .int (0 : Int32)), (0, .ref (ad G b0)), (1, .int b1), (2, .int b2), (3, .int x3), (4, .int x4), (5, .int x5)]) S.1 S.2.1 dX8_nearest_42 hl (by decide) rfl (fun ls hl => ?_)
      refine lc_X8_nearest_44 S hr hb0 _ (fun v11 H locs d ls hl h => ?_) _ _ _  h _ _ d _ (lv_sub hl [2, 3, 4, 5, 6, 7, 1, 0] rfl)
      refine lv_aload_n S.1 S.2.1 dX8_nearest_101 rfl (lv_at hl 0 rfl) ?_
      refine lv_iload S.1 S.2.1 dX8_nearest_102 (lv_at hl 5 rfl) ?_
      refine lv_iload_n S.1 S.2.1 dX8_nearest_104 rfl (lv_at hl 1 rfl) ?_
      obtain ⟨u12, hu12, h⟩ := bd_e h
      refine r_ri d (r_cV (As := [.int x5, .int b1]) (rest := []) S d (c_X8_hasRoom l G M L b0 x5 b1 hb0 hu12) (ksdM S hb0) (wc_20 hb0) rfl ml_RX8_182 im_yX8_hasRoom se_yX8_hasRoom in_RX8 co_yX8_hasRoom hyV_X8_hasRoom ⟨rfl, rfl⟩ ⟨by decide, by decide⟩ rfl hl rfl (Nat.le_of_ble_eq_true rfl) dX8_nearest_105 ⟨Nat.zero_le _, Nat.zero_le _⟩) (fun H locs d => ?_)
      refine lv_if_eq (tgt := 129) S.1 S.2.1 dX8_nearest_108 (by decide) (fun cc => ?_) (fun cc => ?_)
      · replace h := it_p cc h
        obtain ⟨v16, ev16, h⟩ := lt_e h
        refine lv_iinc (v := v16) (lv' := [(5, .int v16), (0, .ref (ad G b0)), (1, .int b1), (2, .int b2), (3, .int x3), (4, .int x4), (6, .int v11)]) S.1 S.2.1 dX8_nearest_129 hl (k := 5) rfl (by rw [ev16]; rfl) (by decide) rfl (fun ls hl => ?_)
        refine lv_goto (tgt := 29) S.1 S.2.1 dX8_nearest_132 (by decide) ?_
        exact ih _ _ _ h _ _ d _ (lv_sub hl [1, 2, 3, 4, 5, 0] rfl)
      · replace h := it_n cc h
        refine lv_iload_n S.1 S.2.1 dX8_nearest_111 rfl (lv_at hl 3 rfl) ?_
        refine lv_if_lt (tgt := 122) S.1 S.2.1 dX8_nearest_112 (by decide) (fun cc => ?_) (fun cc => ?_)
        · replace h := it_p cc h
          refine lv_iload S.1 S.2.1 dX8_nearest_122 (lv_at hl 5 rfl) ?_
          refine lv_istore_n (lv' := [(3, .int x5), (0, .ref (ad G b0)), (1, .int b1), (2, .int b2), (4, .int x4), (5, .int x5), (6, .int v11)]) S.1 S.2.1 dX8_nearest_124 rfl hl (by decide) rfl (fun ls hl => ?_)
          refine lv_iload S.1 S.2.1 dX8_nearest_125 (lv_at hl 6 rfl) ?_
          refine lv_istore (lv' := [(4, .int v11), (3, .int x5), (0, .ref (ad G b0)), (1, .int b1), (2, .int b2), (5, .int x5), (6, .int v11)]) S.1 S.2.1 dX8_nearest_127 hl (by decide) rfl (fun ls hl => ?_)
          obtain ⟨v15, ev15, h⟩ := lt_e h
          refine lv_iinc (v := v15) (lv' := [(5, .int v15), (4, .int v11), (3, .int x5), (0, .ref (ad G b0)), (1, .int b1), (2, .int b2), (6, .int v11)]) S.1 S.2.1 dX8_nearest_129 hl (k := 5) rfl (by rw [ev15]; rfl) (by decide) rfl (fun ls hl => ?_)
          refine lv_goto (tgt := 29) S.1 S.2.1 dX8_nearest_132 (by decide) ?_
          exact ih _ _ _ h _ _ d _ (lv_sub hl [3, 4, 5, 2, 1, 0] rfl)
        · replace h := it_n cc h
          refine lv_iload S.1 S.2.1 dX8_nearest_115 (lv_at hl 6 rfl) ?_
          refine lv_iload S.1 S.2.1 dX8_nearest_117 (lv_at hl 4 rfl) ?_
          refine lv_icmp_ge (tgt := 129) S.1 S.2.1 dX8_nearest_119 (by decide) (fun cc => ?_) (fun cc => ?_)
          · replace h := it_p cc h
            obtain ⟨v14, ev14, h⟩ := lt_e h
            refine lv_iinc (v := v14) (lv' := [(5, .int v14), (0, .ref (ad G b0)), (1, .int b1), (2, .int b2), (3, .int x3), (4, .int x4), (6, .int v11)]) S.1 S.2.1 dX8_nearest_129 hl (k := 5) rfl (by rw [ev14]; rfl) (by decide) rfl (fun ls hl => ?_)
            refine lv_goto (tgt := 29) S.1 S.2.1 dX8_nearest_132 (by decide) ?_
            exact ih _ _ _ h _ _ d _ (lv_sub hl [1, 2, 3, 4, 5, 0] rfl)
          · replace h := it_n cc h
            refine lv_iload S.1 S.2.1 dX8_nearest_122 (lv_at hl 5 rfl) ?_
            refine lv_istore_n (lv' := [(3, .int x5), (0, .ref (ad G b0)), (1, .int b1), (2, .int b2), (4, .int x4), (5, .int x5), (6, .int v11)]) S.1 S.2.1 dX8_nearest_124 rfl hl (by decide) rfl (fun ls hl => ?_)
            refine lv_iload S.1 S.2.1 dX8_nearest_125 (lv_at hl 6 rfl) ?_
            refine lv_istore (lv' := [(4, .int v11), (3, .int x5), (0, .ref (ad G b0)), (1, .int b1), (2, .int b2), (5, .int x5), (6, .int v11)]) S.1 S.2.1 dX8_nearest_127 hl (by decide) rfl (fun ls hl => ?_)
            obtain ⟨v13, ev13, h⟩ := lt_e h
            refine lv_iinc (v := v13) (lv' := [(5, .int v13), (4, .int v11), (3, .int x5), (0, .ref (ad G b0)), (1, .int b1), (2, .int b2), (6, .int v11)]) S.1 S.2.1 dX8_nearest_129 hl (k := 5) rfl (by rw [ev13]; rfl) (by decide) rfl (fun ls hl => ?_)
            refine lv_goto (tgt := 29) S.1 S.2.1 dX8_nearest_132 (by decide) ?_
            exact ih _ _ _ h _ _ d _ (lv_sub hl [3, 4, 5, 2, 1, 0] rfl)
set_option maxHeartbeats 4000000 in
set_option maxRecDepth 100000 in
theorem c_X8_nearest (l : Launch) (G : Gx) (M : Mem) (L : MemL) (fu : Nat) (k0 : Nat) (a1 : Int32) (a2 : Int32) (hk0 : kd k0 = 20) {z : Int32} (h : f_X8_nearest fu M k0 a1 a2 = some z) : Met l yX8_nearest (.code yX8_nearest cX8_nearest 8 (Option.some Jvm.ClassFile.FieldType.int) :: UW) rm_X8_nearest (va_Pc [.ref (ad G k0), .int a1, .int a2] (PreG G true M L)) (Qi G z M L) 0 0 (gA G) := by
  refine r_in (by decide) (fun p e s m args below meth c S hr d ha ls hl => ?_) (Nat.le_of_ble_eq_true rfl)
  have S : Sx G true p s m args meth c cX8_nearest 8 RX8 := S
  have hl : lv_has ls 8 [(0, .ref (ad G k0)), (1, .int a1), (2, .int a2)] := hl
  unfold f_X8_nearest at h
  refine lv_aload_n S.1 S.2.1 dX8_nearest_0 rfl (lv_at hl 0 rfl) ?_
  refine lv_iload_n S.1 S.2.1 dX8_nearest_1 rfl (lv_at hl 1 rfl) ?_
  obtain ⟨u1, hu1, h⟩ := bd_e h
  refine r_ri d (r_cV (As := [.int a1]) (rest := []) S d (c_X8_isStrip l G M L k0 a1 hk0 hu1) (ksdM S hk0) (wc_20 hk0) rfl ml_RX8_94 im_yX8_isStrip se_yX8_isStrip in_RX8 co_yX8_isStrip hyV_X8_isStrip ⟨rfl, rfl⟩ ⟨by decide, by decide⟩ rfl hl rfl (Nat.le_of_ble_eq_true rfl) dX8_nearest_2 ⟨Nat.zero_le _, Nat.zero_le _⟩) (fun H locs d => ?_)
  refine lv_if_eq (tgt := 18) S.1 S.2.1 dX8_nearest_5 (by decide) (fun cc => ?_) (fun cc => ?_)
  · replace h := it_p cc h
    refine lv_iconst (v := (-1)) S.1 S.2.1 dX8_nearest_18 (by decide) ?_
    obtain rfl := Option.some.inj h
    exact r_iret S d hr rfl rfl dX8_nearest_19
  · replace h := it_n cc h
    refine lv_iload_n S.1 S.2.1 dX8_nearest_8 rfl (lv_at hl 2 rfl) ?_
    refine lv_i2l S.1 S.2.1 dX8_nearest_9 rfl ?_
    refine lv_lconst (v := 0) S.1 S.2.1 dX8_nearest_10 (by decide) ?_
    refine lv_lconst (v := 1) S.1 S.2.1 dX8_nearest_11 (by decide) ?_
    obtain ⟨u2, hu2, h⟩ := bd_e h
    refine r_ri d (r_cS (As := [.long ((a2).toInt64), .long (0 : Int64), .long (1 : Int64)]) (rest := []) S d (c_X8_in l G M L ((a2).toInt64) (0 : Int64) (1 : Int64) hu2) ml_RX8_75 sm_yX8_in in_RX8 co_yX8_in hyS_X8_in ⟨rfl, rfl⟩ ⟨by decide, by decide⟩ rfl hl rfl (Nat.le_of_ble_eq_true rfl) dX8_nearest_12 ⟨Nat.zero_le _, Nat.zero_le _⟩) (fun H locs d => ?_)
    refine lv_if_ne (tgt := 20) S.1 S.2.1 dX8_nearest_15 (by decide) (fun cc => ?_) (fun cc => ?_)
    · replace h := it_n cc h
      refine lv_bipush (v := (-4)) S.1 S.2.1 dX8_nearest_20 (by decide) ?_
      refine lv_istore_n (lv' := [(3, .int (-4 : Int32)), (0, .ref (ad G k0)), (1, .int a1), (2, .int a2)]) S.1 S.2.1 dX8_nearest_22 rfl hl (by decide) rfl (fun ls hl => ?_)
      refine lv_iconst (v := 0) S.1 S.2.1 dX8_nearest_23 (by decide) ?_
      refine lv_istore (lv' := [(4, .int (0 : Int32)), (3, .int (-4 : Int32)), (0, .ref (ad G k0)), (1, .int a1), (2, .int a2)]) S.1 S.2.1 dX8_nearest_24 hl (by decide) rfl (fun ls hl => ?_)
      refine lv_iconst (v := 0) S.1 S.2.1 dX8_nearest_26 (by decide) ?_
      refine lv_istore (lv' := [(5, .int (0 : Int32)), (4, .int (0 : Int32)), (3, .int (-4 : Int32)), (0, .ref (ad G k0)), (1, .int a1), (2, .int a2)]) S.1 S.2.1 dX8_nearest_27 hl (by decide) rfl (fun ls hl => ?_)
      refine lc_X8_nearest_29 S hr hk0 _ (fun v17 v18 H locs d ls hl h => ?_) _ _ _ _  h _ _ d _ (lv_sub hl [3, 4, 5, 2, 1, 0] rfl)
      refine lv_iload_n S.1 S.2.1 dX8_nearest_135 rfl (lv_at hl 1 rfl) ?_
      refine lv_if_ge (tgt := 144) S.1 S.2.1 dX8_nearest_136 (by decide) (fun cc => ?_) (fun cc => ?_)
      · replace h := it_p cc h
        refine lv_iload_n S.1 S.2.1 dX8_nearest_144 rfl (lv_at hl 0 rfl) ?_
        refine lv_if_ne (tgt := 152) S.1 S.2.1 dX8_nearest_145 (by decide) (fun cc => ?_) (fun cc => ?_)
        · replace h := it_n cc h
          refine lv_iload S.1 S.2.1 dX8_nearest_152 (lv_at hl 2 rfl) ?_
          obtain rfl := Option.some.inj h
          exact r_iret S d hr rfl rfl dX8_nearest_154
        · replace h := it_p cc h
          refine lv_iload_n S.1 S.2.1 dX8_nearest_148 rfl (lv_at hl 1 rfl) ?_
          refine lv_goto (tgt := 154) S.1 S.2.1 dX8_nearest_149 (by decide) ?_
          obtain rfl := Option.some.inj h
          exact r_iret S d hr rfl rfl dX8_nearest_154
      · replace h := it_n cc h
        refine lv_bipush (v := (-4)) S.1 S.2.1 dX8_nearest_139 (by decide) ?_
        refine lv_goto (tgt := 154) S.1 S.2.1 dX8_nearest_141 (by decide) ?_
        obtain rfl := Option.some.inj h
        exact r_iret S d hr rfl rfl dX8_nearest_154
    · replace h := it_p cc h
      refine lv_iconst (v := (-1)) S.1 S.2.1 dX8_nearest_18 (by decide) ?_
      obtain rfl := Option.some.inj h
      exact r_iret S d hr rfl rfl dX8_nearest_19
theorem hyV_X8_write : yX8_write.cls = RX8 ∧ yX8_write.cls ≠ "java/lang/invoke/MethodHandle" ∧ yX8_write.cls ≠ "java/lang/invoke/VarHandle" ∧ (parseMethodDescriptor yX8_write.desc).map (fun d => d.parameters.length) = some 2 := by decide +kernel
abbrev rm_X8_write : Room := { frames := 4, cells := 0, slots := 0, locals := 94 }
def lp_X8_write_35 (fu : Nat) (b0 : Nat) (b1 : Int32) (b2 : Int32) (K : Int32 → Mem → Option (Int32 × Mem)) : Nat → Int32 → Int32 → Mem → Option (Int32 × Mem)
  | 0, _, _, _ => none
  | n + 1, x3, x4, Mx =>
    (f_X8_sizeOf Mx b0 b1).bind (fun u4 =>
    (if u4 ≤ x4 then (K x3 Mx)
    else (f_X8_letterOf Mx b0 b1 x4).bind (fun u5 =>
      gd (inb u5 26) (
      (f_X8_mowSet fu Mx b0 (b2 + x4) (Mx (b0 + 1) u5.toNatClampNeg)).bind (fun u7 =>
      lt ((x3 + u7.1)) (fun v8 : Int32 =>
      lt (x4 + 1) (fun v9 : Int32 =>
      (lp_X8_write_35 fu b0 b1 b2 K n v8 v9 u7.2))))))))
def f_X8_write (fu : Nat) (M : Mem) (k0 : Nat) (a1 : Int32) (a2 : Int32) : Option (Int32 × Mem) :=
  (f_X8_isWord M k0 a1).bind (fun u1 =>
  (if u1 = 0 then some ((-1 : Int32), M)
  else (f_X8_isStrip M k0 a2).bind (fun u2 =>
    (if u2 = 0 then some ((-1 : Int32), M)
    else (f_X8_mayBe fu M k0 a1 a2).bind (fun u3 =>
      (if u3 = 0 then some ((-2 : Int32), M)
      else (lp_X8_write_35 fu k0 a1 a2 (fun (v10 : Int32) (M11 : Mem) =>
          some (v10, M11)) fu (0 : Int32) (0 : Int32) M)))))))
set_option maxHeartbeats 4000000 in
set_option maxRecDepth 100000 in
theorem lc_X8_write_35 {p : Program} {l : Launch} {e : Env} {s : State} {m : MethodId} {args : Array Value} {below : List Frame} {meth : Method} {c : Code} {G : Gx} {L : MemL} {fu : Nat} {b0 : Nat} {b1 : Int32} {b2 : Int32} {z : Int32 × Mem} (S : Sx G true p s m args meth c cX8_write 5 RX8) (hr : meth.sig.returnType = (Option.some Jvm.ClassFile.FieldType.int)) (hb0 : kd b0 = 20) (K : Int32 → Mem → Option (Int32 × Mem)) (hK : ∀ (y3 : Int32) (My : Mem) (H : Heap) (locs : List Loc), Dy G s My L H locs → ∀ ls : Array Slot, lv_has ls 5 [(3, .int y3)] → K y3 My = some z → W p l e rm_X8_write s m args below meth c H locs 0 0 (MQ below (Qi G z.1 z.2 L) args s 0 0 (gA G)) (F0 m 74 ls [])) :
    ∀ (n : Nat) (x3 : Int32) (x4 : Int32) (Mx : Mem), lp_X8_write_35 fu b0 b1 b2 K n x3 x4 Mx = some z → ∀ (H : Heap) (locs : List Loc), Dy G s Mx L H locs → ∀ ls : Array Slot, lv_has ls 5 [(0, .ref (ad G b0)), (1, .int b1), (2, .int b2), (3, .int x3), (4, .int x4)] → W p l e rm_X8_write s m args below meth c H locs 0 0 (MQ below (Qi G z.1 z.2 L) args s 0 0 (gA G)) (F0 m 35 ls []) := by
  intro n
  induction n with
  | zero =>
    intro x3 x4 Mx h
    have h : (none : Option (Int32 × Mem)) = some z := h
    cases h
  | succ n ih =>
    intro x3 x4 Mx h H locs d ls hl
    rw [lp_X8_write_35] at h
    refine lv_iload S.1 S.2.1 dX8_write_35 (lv_at hl 4 rfl) ?_
    refine lv_aload_n S.1 S.2.1 dX8_write_37 rfl (lv_at hl 0 rfl) ?_
    refine lv_iload_n S.1 S.2.1 dX8_write_38 rfl (lv_at hl 1 rfl) ?_
    obtain ⟨u4, hu4, h⟩ := bd_e h
    refine r_ri d (r_cV (As := [.int b1]) (rest := [.int x4]) S d (c_X8_sizeOf l G Mx L b0 b1 hb0 hu4) (ksdM S hb0) (wc_20 hb0) rfl ml_RX8_179 im_yX8_sizeOf se_yX8_sizeOf in_RX8 co_yX8_sizeOf hyV_X8_sizeOf ⟨rfl, rfl⟩ ⟨by decide, by decide⟩ rfl hl rfl (Nat.le_of_ble_eq_true rfl) dX8_write_39 ⟨Nat.zero_le _, Nat.zero_le _⟩) (fun H locs d => ?_)
    refine lv_icmp_ge (tgt := 74) S.1 S.2.1 dX8_write_42 (by decide) (fun cc => ?_) (fun cc => ?_)
    · replace h := it_p cc h
      exact hK _ _ _ _ d _ (lv_sub hl [3] rfl) h
    · replace h := it_n cc h
      refine lv_iload_n S.1 S.2.1 dX8_write_45 rfl (lv_at hl 3 rfl) ?_
      refine lv_aload_n S.1 S.2.1 dX8_write_46 rfl (lv_at hl 0 rfl) ?_
      refine lv_iload_n S.1 S.2.1 dX8_write_47 rfl (lv_at hl 2 rfl) ?_
      refine lv_iload S.1 S.2.1 dX8_write_48 (lv_at hl 4 rfl) ?_
      refine lv_iadd S.1 S.2.1 dX8_write_50 ?_
      refine lv_aload_n S.1 S.2.1 dX8_write_51 rfl (lv_at hl 0 rfl) ?_
      refine gf_20_0 S d hb0 fl_RX8_7 dX8_write_52 ?_
      refine lv_aload_n S.1 S.2.1 dX8_write_55 rfl (lv_at hl 0 rfl) ?_
      refine lv_iload_n S.1 S.2.1 dX8_write_56 rfl (lv_at hl 1 rfl) ?_
      refine lv_iload S.1 S.2.1 dX8_write_57 (lv_at hl 4 rfl) ?_
      obtain ⟨u5, hu5, h⟩ := bd_e h
      refine r_ri d (r_cV (As := [.int b1, .int x4]) (rest := [.ref (ad G (b0 + 1)), .int (b2 + x4), .ref (ad G b0), .int x3]) S d (c_X8_letterOf l G Mx L b0 b1 x4 hb0 hu5) (ksdM S hb0) (wc_20 hb0) rfl ml_RX8_185 im_yX8_letterOf se_yX8_letterOf in_RX8 co_yX8_letterOf hyV_X8_letterOf ⟨rfl, rfl⟩ ⟨by decide, by decide⟩ rfl hl rfl (Nat.le_of_ble_eq_true rfl) dX8_write_59 ⟨Nat.zero_le _, Nat.zero_le _⟩) (fun H locs d => ?_)
      obtain ⟨g6, h⟩ := gd_e h
      refine r_iald S d (ksdM S (ch_20_0 hb0).1) (wc_21 (ch_20_0 hb0).1) (ch_20_0 hb0).2 g6 dX8_write_62 ?_
      obtain ⟨u7, hu7, h⟩ := bd_e h
      refine r_ri d (r_cV (As := [.int (b2 + x4), .int (Mx (b0 + 1) u5.toNatClampNeg)]) (rest := [.int x3]) S d (c_X8_mowSet l G Mx L fu b0 (b2 + x4) (Mx (b0 + 1) u5.toNatClampNeg) hb0 hu7) (ksdM S hb0) (wc_20 hb0) rfl ml_RX8_124 im_yX8_mowSet se_yX8_mowSet in_RX8 co_yX8_mowSet hyV_X8_mowSet ⟨rfl, rfl⟩ ⟨by decide, by decide⟩ rfl hl rfl (Nat.le_of_ble_eq_true rfl) dX8_write_63 ⟨Nat.zero_le _, Nat.zero_le _⟩) (fun H locs d => ?_)
      refine lv_iadd S.1 S.2.1 dX8_write_66 ?_
      obtain ⟨v8, ev8, h⟩ := lt_e h
      refine r_top ev8 ?_
      refine lv_istore_n (lv' := [(3, .int v8), (0, .ref (ad G b0)), (1, .int b1), (2, .int b2), (4, .int x4)]) S.1 S.2.1 dX8_write_67 rfl hl (by decide) rfl (fun ls hl => ?_)
      obtain ⟨v9, ev9, h⟩ := lt_e h
      refine lv_iinc (v := v9) (lv' := [(4, .int v9), (3, .int v8), (0, .ref (ad G b0)), (1, .int b1), (2, .int b2)]) S.1 S.2.1 dX8_write_68 hl (k := 4) rfl (by rw [ev9]; rfl) (by decide) rfl (fun ls hl => ?_)
      refine lv_goto (tgt := 35) S.1 S.2.1 dX8_write_71 (by decide) ?_
      exact ih _ _ _ h _ _ d _ (lv_sub hl [2, 3, 4, 1, 0] rfl)
set_option maxHeartbeats 4000000 in
set_option maxRecDepth 100000 in
theorem c_X8_write (l : Launch) (G : Gx) (M : Mem) (L : MemL) (fu : Nat) (k0 : Nat) (a1 : Int32) (a2 : Int32) (hk0 : kd k0 = 20) {z : Int32 × Mem} (h : f_X8_write fu M k0 a1 a2 = some z) : Met l yX8_write (.code yX8_write cX8_write 5 (Option.some Jvm.ClassFile.FieldType.int) :: UW) rm_X8_write (va_Pc [.ref (ad G k0), .int a1, .int a2] (PreG G true M L)) (Qi G z.1 z.2 L) 0 0 (gA G) := by
  refine r_in (by decide) (fun p e s m args below meth c S hr d ha ls hl => ?_) (Nat.le_of_ble_eq_true rfl)
  have S : Sx G true p s m args meth c cX8_write 5 RX8 := S
  have hl : lv_has ls 5 [(0, .ref (ad G k0)), (1, .int a1), (2, .int a2)] := hl
  unfold f_X8_write at h
  refine lv_aload_n S.1 S.2.1 dX8_write_0 rfl (lv_at hl 0 rfl) ?_
  refine lv_iload_n S.1 S.2.1 dX8_write_1 rfl (lv_at hl 1 rfl) ?_
  obtain ⟨u1, hu1, h⟩ := bd_e h
  refine r_ri d (r_cV (As := [.int a1]) (rest := []) S d (c_X8_isWord l G M L k0 a1 hk0 hu1) (ksdM S hk0) (wc_20 hk0) rfl ml_RX8_174 im_yX8_isWord se_yX8_isWord in_RX8 co_yX8_isWord hyV_X8_isWord ⟨rfl, rfl⟩ ⟨by decide, by decide⟩ rfl hl rfl (Nat.le_of_ble_eq_true rfl) dX8_write_2 ⟨Nat.zero_le _, Nat.zero_le _⟩) (fun H locs d => ?_)
  refine lv_if_eq (tgt := 16) S.1 S.2.1 dX8_write_5 (by decide) (fun cc => ?_) (fun cc => ?_)
  · replace h := it_p cc h
    refine lv_iconst (v := (-1)) S.1 S.2.1 dX8_write_16 (by decide) ?_
    obtain rfl := Option.some.inj h
    exact r_iret S d hr rfl rfl dX8_write_17
  · replace h := it_n cc h
    refine lv_aload_n S.1 S.2.1 dX8_write_8 rfl (lv_at hl 0 rfl) ?_
    refine lv_iload_n S.1 S.2.1 dX8_write_9 rfl (lv_at hl 2 rfl) ?_
    obtain ⟨u2, hu2, h⟩ := bd_e h
    refine r_ri d (r_cV (As := [.int a2]) (rest := []) S d (c_X8_isStrip l G M L k0 a2 hk0 hu2) (ksdM S hk0) (wc_20 hk0) rfl ml_RX8_94 im_yX8_isStrip se_yX8_isStrip in_RX8 co_yX8_isStrip hyV_X8_isStrip ⟨rfl, rfl⟩ ⟨by decide, by decide⟩ rfl hl rfl (Nat.le_of_ble_eq_true rfl) dX8_write_10 ⟨Nat.zero_le _, Nat.zero_le _⟩) (fun H locs d => ?_)
    refine lv_if_ne (tgt := 18) S.1 S.2.1 dX8_write_13 (by decide) (fun cc => ?_) (fun cc => ?_)
    · replace h := it_n cc h
      refine lv_aload_n S.1 S.2.1 dX8_write_18 rfl (lv_at hl 0 rfl) ?_
      refine lv_iload_n S.1 S.2.1 dX8_write_19 rfl (lv_at hl 1 rfl) ?_
      refine lv_iload_n S.1 S.2.1 dX8_write_20 rfl (lv_at hl 2 rfl) ?_
      obtain ⟨u3, hu3, h⟩ := bd_e h
      refine r_ri d (r_cV (As := [.int a1, .int a2]) (rest := []) S d (c_X8_mayBe l G M L fu k0 a1 a2 hk0 hu3) (ksdM S hk0) (wc_20 hk0) rfl ml_RX8_191 im_yX8_mayBe se_yX8_mayBe in_RX8 co_yX8_mayBe hyV_X8_mayBe ⟨rfl, rfl⟩ ⟨by decide, by decide⟩ rfl hl rfl (Nat.le_of_ble_eq_true rfl) dX8_write_21 ⟨Nat.zero_le _, Nat.zero_le _⟩) (fun H locs d => ?_)
      refine lv_if_ne (tgt := 30) S.1 S.2.1 dX8_write_24 (by decide) (fun cc => ?_) (fun cc => ?_)
      · replace h := it_n cc h
        refine lv_iconst (v := 0) S.1 S.2.1 dX8_write_30 (by decide) ?_
        refine lv_istore_n (lv' := [(3, .int (0 : Int32)), (0, .ref (ad G k0)), (1, .int a1), (2, .int a2)]) S.1 S.2.1 dX8_write_31 rfl hl (by decide) rfl (fun ls hl => ?_)
        refine lv_iconst (v := 0) S.1 S.2.1 dX8_write_32 (by decide) ?_
        refine lv_istore (lv' := [(4, .int (0 : Int32)), (3, .int (0 : Int32)), (0, .ref (ad G k0)), (1, .int a1), (2, .int a2)]) S.1 S.2.1 dX8_write_33 hl (by decide) rfl (fun ls hl => ?_)
        refine lc_X8_write_35 S hr hk0 _ (fun v10 M11 H locs d ls hl h => ?_) _ _ _ _  h _ _ d _ (lv_sub hl [2, 3, 4, 1, 0] rfl)
        refine lv_iload_n S.1 S.2.1 dX8_write_74 rfl (lv_at hl 0 rfl) ?_
        obtain rfl := Option.some.inj h
        exact r_iret S d hr rfl rfl dX8_write_75
      · replace h := it_p cc h
        refine lv_bipush (v := (-2)) S.1 S.2.1 dX8_write_27 (by decide) ?_
        obtain rfl := Option.some.inj h
        exact r_iret S d hr rfl rfl dX8_write_29
    · replace h := it_p cc h
      refine lv_iconst (v := (-1)) S.1 S.2.1 dX8_write_16 (by decide) ?_
      obtain rfl := Option.some.inj h
      exact r_iret S d hr rfl rfl dX8_write_17
theorem hyV_X8_share : yX8_share.cls = RX8 ∧ yX8_share.cls ≠ "java/lang/invoke/MethodHandle" ∧ yX8_share.cls ≠ "java/lang/invoke/VarHandle" ∧ (parseMethodDescriptor yX8_share.desc).map (fun d => d.parameters.length) = some 3 := by decide +kernel
abbrev rm_X8_share : Room := { frames := 3, cells := 0, slots := 0, locals := 70 }
def lp_X8_share_83 (fu : Nat) (M : Mem) (b0 : Nat) (b1 : Int32) (b2 : Int32) (b3 : Int32) (b4 : Int32) (b5 : Int32) (K : Int32 → Option (Int32)) : Nat → Int32 → Int32 → Option (Int32)
  | 0, _, _ => none
  | n + 1, x6, x7 =>
    (if b5 ≤ x7 then (K x6)
    else (f_X8_letterOf M b0 b1 x7).bind (fun u9 =>
      (f_X8_lostOn fu M b0 (b2 + x7) u9).bind (fun u10 =>
      gd (decide (¬ b5 = 0)) (
      gd (decide (¬ b5 = 0)) (
      (if (b4 - b4 / b5 * b5) ≤ x7 then some (0 : Int32)
      else some (1 : Int32)).bind (fun t13 : Int32 =>
      lt (((u10 + (b4 / b5)) + t13)) (fun v15 : Int32 =>
      gd (inb (b2 + x7) 9) (
      (if (M (b0 + 2) (b2 + x7).toNatClampNeg) = b3 then some v15
      else some (0 : Int32)).bind (fun t17 : Int32 =>
      lt ((x6 + t17)) (fun v19 : Int32 =>
      lt (x7 + 1) (fun v20 : Int32 =>
      (lp_X8_share_83 fu M b0 b1 b2 b3 b4 b5 K n v19 v20))))))))))))
def f_X8_share (fu : Nat) (M : Mem) (k0 : Nat) (a1 : Int32) (a2 : Int32) (a3 : Int32) : Option (Int32) :=
  (f_X8_isWord M k0 a1).bind (fun u1 =>
  (if u1 = 0 then some ((-1 : Int32))
  else (f_X8_isStrip M k0 a2).bind (fun u2 =>
    (if u2 = 0 then some ((-1 : Int32))
    else (f_X8_in ((a3).toInt64) (0 : Int64) (5 : Int64)).bind (fun u3 =>
      (if u3 = 0 then some ((-1 : Int32))
      else (f_X8_hasRoom M k0 a1 a2).bind (fun u4 =>
        (if u4 = 0 then some ((-2 : Int32))
        else gd (inb (((8 : Int32) * a1) + (1 : Int32)) 80) (
          (f_X8_lostBy fu M k0 a1 a2).bind (fun u6 =>
          lt (((M (k0 + 7) (((8 : Int32) * a1) + (1 : Int32)).toNatClampNeg) - u6)) (fun v7 : Int32 =>
          (if 0 ≤ v7 then (f_X8_sizeOf M k0 a1).bind (fun u8 =>
            (lp_X8_share_83 fu M k0 a1 a2 a3 v7 u8 (fun (v21 : Int32) =>
              some (v21)) fu (0 : Int32) (0 : Int32)))
          else some ((-2 : Int32))))))))))))))
set_option maxHeartbeats 4000000 in
set_option maxRecDepth 100000 in
theorem lc_X8_share_83 {p : Program} {l : Launch} {e : Env} {s : State} {m : MethodId} {args : Array Value} {below : List Frame} {meth : Method} {c : Code} {G : Gx} {M : Mem} {L : MemL} {fu : Nat} {b0 : Nat} {b1 : Int32} {b2 : Int32} {b3 : Int32} {b4 : Int32} {b5 : Int32} {z : Int32} (S : Sx G true p s m args meth c cX8_share 9 RX8) (hr : meth.sig.returnType = (Option.some Jvm.ClassFile.FieldType.int)) (hb0 : kd b0 = 20) (K : Int32 → Option (Int32)) (hK : ∀ (y6 : Int32) (H : Heap) (locs : List Loc), Dy G s M L H locs → ∀ ls : Array Slot, lv_has ls 9 [(6, .int y6)] → K y6 = some z → W p l e rm_X8_share s m args below meth c H locs 0 0 (MQ below (Qi G z M L) args s 0 0 (gA G)) (F0 m 159 ls [])) :
    ∀ (n : Nat) (x6 : Int32) (x7 : Int32), lp_X8_share_83 fu M b0 b1 b2 b3 b4 b5 K n x6 x7 = some z → ∀ (H : Heap) (locs : List Loc), Dy G s M L H locs → ∀ ls : Array Slot, lv_has ls 9 [(0, .ref (ad G b0)), (1, .int b1), (2, .int b2), (3, .int b3), (4, .int b4), (5, .int b5), (6, .int x6), (7, .int x7)] → W p l e rm_X8_share s m args below meth c H locs 0 0 (MQ below (Qi G z M L) args s 0 0 (gA G)) (F0 m 83 ls []) := by
  intro n
  induction n with
  | zero =>
    intro x6 x7 h
    have h : (none : Option (Int32)) = some z := h
    cases h
  | succ n ih =>
    intro x6 x7 h H locs d ls hl
    rw [lp_X8_share_83] at h
    refine lv_iload S.1 S.2.1 dX8_share_83 (lv_at hl 7 rfl) ?_
    refine lv_iload S.1 S.2.1 dX8_share_85 (lv_at hl 5 rfl) ?_
    refine lv_icmp_ge (tgt := 159) S.1 S.2.1 dX8_share_87 (by decide) (fun cc => ?_) (fun cc => ?_)
    · replace h := it_p cc h
      exact hK _ _ _ d _ (lv_sub hl [6] rfl) h
    · replace h := it_n cc h
      refine lv_aload_n S.1 S.2.1 dX8_share_90 rfl (lv_at hl 0 rfl) ?_
      refine lv_iload_n S.1 S.2.1 dX8_share_91 rfl (lv_at hl 2 rfl) ?_
      refine lv_iload S.1 S.2.1 dX8_share_92 (lv_at hl 7 rfl) ?_
      refine lv_iadd S.1 S.2.1 dX8_share_94 ?_
      refine lv_aload_n S.1 S.2.1 dX8_share_95 rfl (lv_at hl 0 rfl) ?_
      refine lv_iload_n S.1 S.2.1 dX8_share_96 rfl (lv_at hl 1 rfl) ?_
      refine lv_iload S.1 S.2.1 dX8_share_97 (lv_at hl 7 rfl) ?_
      obtain ⟨u9, hu9, h⟩ := bd_e h
      refine r_ri d (r_cV (As := [.int b1, .int x7]) (rest := [.int (b2 + x7), .ref (ad G b0)]) S d (c_X8_letterOf l G M L b0 b1 x7 hb0 hu9) (ksdM S hb0) (wc_20 hb0) rfl ml_RX8_185 im_yX8_letterOf se_yX8_letterOf in_RX8 co_yX8_letterOf hyV_X8_letterOf ⟨rfl, rfl⟩ ⟨by decide, by decide⟩ rfl hl rfl (Nat.le_of_ble_eq_true rfl) dX8_share_99 ⟨Nat.zero_le _, Nat.zero_le _⟩) (fun H locs d => ?_)
      obtain ⟨u10, hu10, h⟩ := bd_e h
      refine r_ri d (r_cV (As := [.int (b2 + x7), .int u9]) (rest := []) S d (c_X8_lostOn l G M L fu b0 (b2 + x7) u9 hb0 hu10) (ksdM S hb0) (wc_20 hb0) rfl ml_RX8_194 im_yX8_lostOn se_yX8_lostOn in_RX8 co_yX8_lostOn hyV_X8_lostOn ⟨rfl, rfl⟩ ⟨by decide, by decide⟩ rfl hl rfl (Nat.le_of_ble_eq_true rfl) dX8_share_102 ⟨Nat.zero_le _, Nat.zero_le _⟩) (fun H locs d => ?_)
      refine lv_iload S.1 S.2.1 dX8_share_105 (lv_at hl 4 rfl) ?_
      refine lv_iload S.1 S.2.1 dX8_share_107 (lv_at hl 5 rfl) ?_
      obtain ⟨g11, h⟩ := gd_e h
      refine lv_idiv S.1 S.2.1 dX8_share_109 (of_decide_eq_true g11) ?_
      refine lv_iadd S.1 S.2.1 dX8_share_110 ?_
      refine lv_iload S.1 S.2.1 dX8_share_111 (lv_at hl 7 rfl) ?_
      refine lv_iload S.1 S.2.1 dX8_share_113 (lv_at hl 4 rfl) ?_
      refine lv_iload S.1 S.2.1 dX8_share_115 (lv_at hl 5 rfl) ?_
      obtain ⟨g12, h⟩ := gd_e h
      refine lv_irem S.1 S.2.1 dX8_share_117 (of_decide_eq_true g12) ?_
      obtain ⟨t13, g14, h⟩ := bd_e h
      have Jt13 : ∀ (H : Heap) (locs : List Loc), Dy G s M L H locs → W p l e rm_X8_share s m args below meth c H locs 0 0 (MQ below (Qi G z M L) args s 0 0 (gA G)) (F0 m 126 ls [.int t13, .int (u10 + (b4 / b5))]) := by
        intro H locs d
        refine lv_iadd S.1 S.2.1 dX8_share_126 ?_
        obtain ⟨v15, ev15, h⟩ := lt_e h
        refine r_top ev15 ?_
        refine lv_istore (lv' := [(8, .int v15), (0, .ref (ad G b0)), (1, .int b1), (2, .int b2), (3, .int b3), (4, .int b4), (5, .int b5), (6, .int x6), (7, .int x7)]) S.1 S.2.1 dX8_share_127 hl (by decide) rfl (fun ls hl => ?_)
        refine lv_iload S.1 S.2.1 dX8_share_129 (lv_at hl 7 rfl) ?_
        refine lv_aload_n S.1 S.2.1 dX8_share_131 rfl (lv_at hl 1 rfl) ?_
        refine gf_20_1 S d hb0 fl_RX8_13 dX8_share_132 ?_
        refine lv_iload_n S.1 S.2.1 dX8_share_135 rfl (lv_at hl 3 rfl) ?_
        refine lv_iload S.1 S.2.1 dX8_share_136 (lv_at hl 8 rfl) ?_
        refine lv_iadd S.1 S.2.1 dX8_share_138 ?_
        obtain ⟨g16, h⟩ := gd_e h
        refine r_iald S d (ksdM S (ch_20_1 hb0).1) (wc_21 (ch_20_1 hb0).1) (ch_20_1 hb0).2 g16 dX8_share_139 ?_
        refine lv_iload_n S.1 S.2.1 dX8_share_140 rfl (lv_at hl 4 rfl) ?_
        obtain ⟨t17, g18, h⟩ := bd_e h
        have Jt17 : ∀ (H : Heap) (locs : List Loc), Dy G s M L H locs → W p l e rm_X8_share s m args below meth c H locs 0 0 (MQ below (Qi G z M L) args s 0 0 (gA G)) (F0 m 150 ls [.int t17, .int x6]) := by
          intro H locs d
          refine lv_iadd S.1 S.2.1 dX8_share_150 ?_
          obtain ⟨v19, ev19, h⟩ := lt_e h
          refine r_top ev19 ?_
          refine lv_istore (lv' := [(6, .int v19), (8, .int v15), (0, .ref (ad G b0)), (1, .int b1), (2, .int b2), (3, .int b3), (4, .int b4), (5, .int b5), (7, .int x7)]) S.1 S.2.1 dX8_share_151 hl (by decide) rfl (fun ls hl => ?_)
          obtain ⟨v20, ev20, h⟩ := lt_e h
          refine lv_iinc (v := v20) (lv' := [(7, .int v20), (6, .int v19), (8, .int v15), (0, .ref (ad G b0)), (1, .int b1), (2, .int b2), (3, .int b3), (4, .int b4), (5, .int b5)]) S.1 S.2.1 dX8_share_153 hl (k := 8) rfl (by rw [ev20]; rfl) (by decide) rfl (fun ls hl => ?_)
          refine lv_goto (tgt := 83) S.1 S.2.1 dX8_share_156 (by decide) ?_
          exact ih _ _ h _ _ d _ (lv_sub hl [3, 4, 5, 6, 7, 8, 1, 0] rfl)
        have h := g18
        refine lv_icmp_ne (tgt := 149) S.1 S.2.1 dX8_share_141 (by decide) (fun cc => ?_) (fun cc => ?_)
        · replace h := it_n cc h
          refine lv_iconst (v := 0) S.1 S.2.1 dX8_share_149 (by decide) ?_
          obtain ej := Option.some.inj h
          refine r_top ej.symm ?_
          exact Jt17 _ _ d
        · replace h := it_p cc h
          refine lv_iload S.1 S.2.1 dX8_share_144 (lv_at hl 0 rfl) ?_
          refine lv_goto (tgt := 150) S.1 S.2.1 dX8_share_146 (by decide) ?_
          obtain ej := Option.some.inj h
          refine r_top ej.symm ?_
          exact Jt17 _ _ d
      have h := g14
      refine lv_icmp_ge (tgt := 125) S.1 S.2.1 dX8_share_118 (by decide) (fun cc => ?_) (fun cc => ?_)
      · replace h := it_p cc h
        refine lv_iconst (v := 0) S.1 S.2.1 dX8_share_125 (by decide) ?_
        obtain ej := Option.some.inj h
        refine r_top ej.symm ?_
        exact Jt13 _ _ d
      · replace h := it_n cc h
        refine lv_iconst (v := 1) S.1 S.2.1 dX8_share_121 (by decide) ?_
        refine lv_goto (tgt := 126) S.1 S.2.1 dX8_share_122 (by decide) ?_
        obtain ej := Option.some.inj h
        refine r_top ej.symm ?_
        exact Jt13 _ _ d
set_option maxHeartbeats 4000000 in
set_option maxRecDepth 100000 in
theorem c_X8_share (l : Launch) (G : Gx) (M : Mem) (L : MemL) (fu : Nat) (k0 : Nat) (a1 : Int32) (a2 : Int32) (a3 : Int32) (hk0 : kd k0 = 20) {z : Int32} (h : f_X8_share fu M k0 a1 a2 a3 = some z) : Met l yX8_share (.code yX8_share cX8_share 9 (Option.some Jvm.ClassFile.FieldType.int) :: UW) rm_X8_share (va_Pc [.ref (ad G k0), .int a1, .int a2, .int a3] (PreG G true M L)) (Qi G z M L) 0 0 (gA G) := by
  refine r_in (by decide) (fun p e s m args below meth c S hr d ha ls hl => ?_) (Nat.le_of_ble_eq_true rfl)
  have S : Sx G true p s m args meth c cX8_share 9 RX8 := S
  have hl : lv_has ls 9 [(0, .ref (ad G k0)), (1, .int a1), (2, .int a2), (3, .int a3)] := hl
  unfold f_X8_share at h
  refine lv_aload_n S.1 S.2.1 dX8_share_0 rfl (lv_at hl 0 rfl) ?_
  refine lv_iload_n S.1 S.2.1 dX8_share_1 rfl (lv_at hl 1 rfl) ?_
  obtain ⟨u1, hu1, h⟩ := bd_e h
  refine r_ri d (r_cV (As := [.int a1]) (rest := []) S d (c_X8_isWord l G M L k0 a1 hk0 hu1) (ksdM S hk0) (wc_20 hk0) rfl ml_RX8_174 im_yX8_isWord se_yX8_isWord in_RX8 co_yX8_isWord hyV_X8_isWord ⟨rfl, rfl⟩ ⟨by decide, by decide⟩ rfl hl rfl (Nat.le_of_ble_eq_true rfl) dX8_share_2 ⟨Nat.zero_le _, Nat.zero_le _⟩) (fun H locs d => ?_)
  refine lv_if_eq (tgt := 28) S.1 S.2.1 dX8_share_5 (by decide) (fun cc => ?_) (fun cc => ?_)
  · replace h := it_p cc h
    refine lv_iconst (v := (-1)) S.1 S.2.1 dX8_share_28 (by decide) ?_
    obtain rfl := Option.some.inj h
    exact r_iret S d hr rfl rfl dX8_share_29
  · replace h := it_n cc h
    refine lv_aload_n S.1 S.2.1 dX8_share_8 rfl (lv_at hl 0 rfl) ?_
    refine lv_iload_n S.1 S.2.1 dX8_share_9 rfl (lv_at hl 2 rfl) ?_
    obtain ⟨u2, hu2, h⟩ := bd_e h
    refine r_ri d (r_cV (As := [.int a2]) (rest := []) S d (c_X8_isStrip l G M L k0 a2 hk0 hu2) (ksdM S hk0) (wc_20 hk0) rfl ml_RX8_94 im_yX8_isStrip se_yX8_isStrip in_RX8 co_yX8_isStrip hyV_X8_isStrip ⟨rfl, rfl⟩ ⟨by decide, by decide⟩ rfl hl rfl (Nat.le_of_ble_eq_true rfl) dX8_share_10 ⟨Nat.zero_le _, Nat.zero_le _⟩) (fun H locs d => ?_)
    refine lv_if_eq (tgt := 28) S.1 S.2.1 dX8_share_13 (by decide) (fun cc => ?_) (fun cc => ?_)
    · replace h := it_p cc h
      refine lv_iconst (v := (-1)) S.1 S.2.1 dX8_share_28 (by decide) ?_
      obtain rfl := Option.some.inj h
      exact r_iret S d hr rfl rfl dX8_share_29
    · replace h := it_n cc h
      refine lv_iload_n S.1 S.2.1 dX8_share_16 rfl (lv_at hl 3 rfl) ?_
      refine lv_i2l S.1 S.2.1 dX8_share_17 rfl ?_
      refine lv_lconst (v := 0) S.1 S.2.1 dX8_share_18 (by decide) ?_
      refine lv_ldc2 (v := 5) S.1 S.2.1 S.2.2.2.1 (S.uw cn_RX8_86) dX8_share_19 ?_
      obtain ⟨u3, hu3, h⟩ := bd_e h
      refine r_ri d (r_cS (As := [.long ((a3).toInt64), .long (0 : Int64), .long (5 : Int64)]) (rest := []) S d (c_X8_in l G M L ((a3).toInt64) (0 : Int64) (5 : Int64) hu3) ml_RX8_75 sm_yX8_in in_RX8 co_yX8_in hyS_X8_in ⟨rfl, rfl⟩ ⟨by decide, by decide⟩ rfl hl rfl (Nat.le_of_ble_eq_true rfl) dX8_share_22 ⟨Nat.zero_le _, Nat.zero_le _⟩) (fun H locs d => ?_)
      refine lv_if_ne (tgt := 30) S.1 S.2.1 dX8_share_25 (by decide) (fun cc => ?_) (fun cc => ?_)
      · replace h := it_n cc h
        refine lv_aload_n S.1 S.2.1 dX8_share_30 rfl (lv_at hl 0 rfl) ?_
        refine lv_iload_n S.1 S.2.1 dX8_share_31 rfl (lv_at hl 1 rfl) ?_
        refine lv_iload_n S.1 S.2.1 dX8_share_32 rfl (lv_at hl 2 rfl) ?_
        obtain ⟨u4, hu4, h⟩ := bd_e h
        refine r_ri d (r_cV (As := [.int a1, .int a2]) (rest := []) S d (c_X8_hasRoom l G M L k0 a1 a2 hk0 hu4) (ksdM S hk0) (wc_20 hk0) rfl ml_RX8_182 im_yX8_hasRoom se_yX8_hasRoom in_RX8 co_yX8_hasRoom hyV_X8_hasRoom ⟨rfl, rfl⟩ ⟨by decide, by decide⟩ rfl hl rfl (Nat.le_of_ble_eq_true rfl) dX8_share_33 ⟨Nat.zero_le _, Nat.zero_le _⟩) (fun H locs d => ?_)
        refine lv_if_ne (tgt := 42) S.1 S.2.1 dX8_share_36 (by decide) (fun cc => ?_) (fun cc => ?_)
        · replace h := it_n cc h
          refine lv_aload_n S.1 S.2.1 dX8_share_42 rfl (lv_at hl 0 rfl) ?_
          refine gf_20_6 S d hk0 fl_RX8_28 dX8_share_43 ?_
          refine lv_bipush (v := 8) S.1 S.2.1 dX8_share_46 (by decide) ?_
          refine lv_iload_n S.1 S.2.1 dX8_share_48 rfl (lv_at hl 1 rfl) ?_
          refine lv_imul S.1 S.2.1 dX8_share_49 ?_
          refine lv_iconst (v := 1) S.1 S.2.1 dX8_share_50 (by decide) ?_
          refine lv_iadd S.1 S.2.1 dX8_share_51 ?_
          obtain ⟨g5, h⟩ := gd_e h
          refine r_iald S d (ksdM S (ch_20_6 hk0).1) (wc_21 (ch_20_6 hk0).1) (ch_20_6 hk0).2 g5 dX8_share_52 ?_
          refine lv_aload_n S.1 S.2.1 dX8_share_53 rfl (lv_at hl 0 rfl) ?_
          refine lv_iload_n S.1 S.2.1 dX8_share_54 rfl (lv_at hl 1 rfl) ?_
          refine lv_iload_n S.1 S.2.1 dX8_share_55 rfl (lv_at hl 2 rfl) ?_
          obtain ⟨u6, hu6, h⟩ := bd_e h
          refine r_ri d (r_cV (As := [.int a1, .int a2]) (rest := [.int (M (k0 + 7) (((8 : Int32) * a1) + (1 : Int32)).toNatClampNeg)]) S d (c_X8_lostBy l G M L fu k0 a1 a2 hk0 hu6) (ksdM S hk0) (wc_20 hk0) rfl ml_RX8_197 im_yX8_lostBy se_yX8_lostBy in_RX8 co_yX8_lostBy hyV_X8_lostBy ⟨rfl, rfl⟩ ⟨by decide, by decide⟩ rfl hl rfl (Nat.le_of_ble_eq_true rfl) dX8_share_56 ⟨Nat.zero_le _, Nat.zero_le _⟩) (fun H locs d => ?_)
          refine lv_isub S.1 S.2.1 dX8_share_59 ?_
          obtain ⟨v7, ev7, h⟩ := lt_e h
          refine r_top ev7 ?_
          refine lv_istore (lv' := [(4, .int v7), (0, .ref (ad G k0)), (1, .int a1), (2, .int a2), (3, .int a3)]) S.1 S.2.1 dX8_share_60 hl (by decide) rfl (fun ls hl => ?_)
          refine lv_iload S.1 S.2.1 dX8_share_62 (lv_at hl 0 rfl) ?_
          refine lv_if_ge (tgt := 70) S.1 S.2.1 dX8_share_64 (by decide) (fun cc => ?_) (fun cc => ?_)
          · replace h := it_p cc h
            refine lv_aload_n S.1 S.2.1 dX8_share_70 rfl (lv_at hl 1 rfl) ?_
            refine lv_iload_n S.1 S.2.1 dX8_share_71 rfl (lv_at hl 2 rfl) ?_
            obtain ⟨u8, hu8, h⟩ := bd_e h
            refine r_ri d (r_cV (As := [.int a1]) (rest := []) S d (c_X8_sizeOf l G M L k0 a1 hk0 hu8) (ksdM S hk0) (wc_20 hk0) rfl ml_RX8_179 im_yX8_sizeOf se_yX8_sizeOf in_RX8 co_yX8_sizeOf hyV_X8_sizeOf ⟨rfl, rfl⟩ ⟨by decide, by decide⟩ rfl hl rfl (Nat.le_of_ble_eq_true rfl) dX8_share_72 ⟨Nat.zero_le _, Nat.zero_le _⟩) (fun H locs d => ?_)
            refine lv_istore (lv' := [(5, .int u8), (4, .int v7), (0, .ref (ad G k0)), (1, .int a1), (2, .int a2), (3, .int a3)]) S.1 S.2.1 dX8_share_75 hl (by decide) rfl (fun ls hl => ?_)
            refine lv_iconst (v := 0) S.1 S.2.1 dX8_share_77 (by decide) ?_
            refine lv_istore (lv' := [(6, .int (0 : Int32)), (5, .int u8), (4, .int v7), (0, .ref (ad G k0)), (1, .int a1), (2, .int a2), (3, .int a3)]) S.1 S.2.1 dX8_share_78 hl (by decide) rfl (fun ls hl => ?_)
            refine lv_iconst (v := 0) S.1 S.2.1 dX8_share_80 (by decide) ?_
            refine lv_istore (lv' := [(7, .int (0 : Int32)), (6, .int (0 : Int32)), (5, .int u8), (4, .int v7), (0, .ref (ad G k0)), (1, .int a1), (2, .int a2), (3, .int a3)]) S.1 S.2.1 dX8_share_81 hl (by decide) rfl (fun ls hl => ?_)
            refine lc_X8_share_83 S hr hk0 _ (fun v21 H locs d ls hl h => ?_) _ _ _  h _ _ d _ (lv_sub hl [4, 5, 6, 7, 3, 2, 1, 0] rfl)
            refine lv_iload S.1 S.2.1 dX8_share_159 (lv_at hl 0 rfl) ?_
            obtain rfl := Option.some.inj h
            exact r_iret S d hr rfl rfl dX8_share_161
          · replace h := it_n cc h
            refine lv_bipush (v := (-2)) S.1 S.2.1 dX8_share_67 (by decide) ?_
            obtain rfl := Option.some.inj h
            exact r_iret S d hr rfl rfl dX8_share_69
        · replace h := it_p cc h
          refine lv_bipush (v := (-2)) S.1 S.2.1 dX8_share_39 (by decide) ?_
          obtain rfl := Option.some.inj h
          exact r_iret S d hr rfl rfl dX8_share_41
      · replace h := it_p cc h
        refine lv_iconst (v := (-1)) S.1 S.2.1 dX8_share_28 (by decide) ?_
        obtain rfl := Option.some.inj h
        exact r_iret S d hr rfl rfl dX8_share_29
