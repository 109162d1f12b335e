theorem hyV_X8_share : yX8_share.cls = RX8 ∧ yX8_share.cls ≠ "java/lang/invoke/MethodHandle" ∧ yX8_share.cls ≠ "java/lang/invoke/VarHandle" ∧ (parseMethodDescriptor yX8_share.desc).map (fun d => d.parameters.length) = some 3 := by decide +kernel
abbrev rm_X8_share : Room := { frames := 4, cells := 0, slots := 0, locals := 94 }
def f_X8_share (fu : Nat) (M : Mem) (k0 : Nat) (a1 : Int32) (a2 : Int32) (a3 : Int32) : Option (Int32) :=
  (f_X8_isWord M k0 a1).bind (fun u1 =>
  (if u1 = 0 then some ((-1 : Int32))
  else (f_X8_isStrip M k0 a2).bind (fun u2 =>
    (if u2 = 0 then some ((-1 : Int32))
    else (f_X8_isBelow a3 (6 : Int32)).bind (fun u3 =>
      (if u3 = 0 then some ((-1 : Int32))
      else gd (inb a1 10) (
        lt ((((k0 + 1) + 3) + 21 + 2 * a1.toNatClampNeg)) (fun r5 : Nat =>
        (f_X0_hasRoom M (k0 + 1) r5 a2).bind (fun u6 =>
        (if u6 = 0 then some ((-2 : Int32))
        else (f_X0_lossBy fu M (k0 + 1) r5 a2).bind (fun u7 =>
          lt (((M r5 1) - u7)) (fun v8 : Int32 =>
          (if 0 ≤ v8 then (f_X0_shareOf fu M (k0 + 1) r5 a2 a3 v8).bind (fun u9 =>
            some (u9))
          else some ((-2 : Int32)))))))))))))))
set_option maxHeartbeats 4000000 in
set_option maxRecDepth 100000 in
theorem c_X8_share (l : Launch) (G : Gx) (M : Mem) (L : MemL) (fu : Nat) (k0 : Nat) (a1 : Int32) (a2 : Int32) (a3 : Int32) (hk0 : kd k0 = 0) {z : Int32} (h : f_X8_share fu M k0 a1 a2 a3 = some z) : Met l yX8_share (.code yX8_share cX8_share 6 (Option.some Jvm.ClassFile.FieldType.int) :: UW) rm_X8_share (va_Pc [.ref (ad G k0), .int a1, .int a2, .int a3] (PreG G false M L)) (Qi G z M L) 0 0 (gA G) := by
  refine r_in (by decide) (fun p e s m args below meth c S hr d ha ls hl => ?_) (Nat.le_of_ble_eq_true rfl)
  have S : Sx G false p s m args meth c cX8_share 6 RX8 := S
  have hl : lv_has ls 6 [(0, .ref (ad G k0)), (1, .int a1), (2, .int a2), (3, .int a3)] := hl
  unfold f_X8_share at h
  refine lv_aload_n S.1 S.2.1 dX8_share_0 rfl (lv_at hl 0 rfl) ?_
  refine lv_iload_n S.1 S.2.1 dX8_share_1 rfl (lv_at hl 1 rfl) ?_
  obtain ⟨u1, hu1, h⟩ := bd_e h
  refine r_ri d (r_cV (As := [.int a1]) (rest := []) S d (c_X8_isWord l G M L k0 a1 hk0 hu1) (ksdC S hk0) (wc_0 hk0) rfl ml_RX8_144 im_yX8_isWord se_yX8_isWord in_RX8 co_yX8_isWord hyV_X8_isWord ⟨rfl, rfl⟩ ⟨by decide, by decide⟩ rfl hl rfl (Nat.le_of_ble_eq_true rfl) dX8_share_2 ⟨Nat.zero_le _, Nat.zero_le _⟩) (fun H locs d => ?_)
  refine lv_if_eq (tgt := 25) S.1 S.2.1 dX8_share_5 (by decide) (fun cc => ?_) (fun cc => ?_)
  · replace h := it_p cc h
    refine lv_iconst (v := (-1)) S.1 S.2.1 dX8_share_25 (by decide) ?_
    obtain rfl := Option.some.inj h
    exact r_iret S d hr rfl rfl dX8_share_26
  · replace h := it_n cc h
    refine lv_aload_n S.1 S.2.1 dX8_share_8 rfl (lv_at hl 0 rfl) ?_
    refine lv_iload_n S.1 S.2.1 dX8_share_9 rfl (lv_at hl 2 rfl) ?_
    obtain ⟨u2, hu2, h⟩ := bd_e h
    refine r_ri d (r_cV (As := [.int a2]) (rest := []) S d (c_X8_isStrip l G M L k0 a2 hk0 hu2) (ksdC S hk0) (wc_0 hk0) rfl ml_RX8_70 im_yX8_isStrip se_yX8_isStrip in_RX8 co_yX8_isStrip hyV_X8_isStrip ⟨rfl, rfl⟩ ⟨by decide, by decide⟩ rfl hl rfl (Nat.le_of_ble_eq_true rfl) dX8_share_10 ⟨Nat.zero_le _, Nat.zero_le _⟩) (fun H locs d => ?_)
    refine lv_if_eq (tgt := 25) S.1 S.2.1 dX8_share_13 (by decide) (fun cc => ?_) (fun cc => ?_)
    · replace h := it_p cc h
      refine lv_iconst (v := (-1)) S.1 S.2.1 dX8_share_25 (by decide) ?_
      obtain rfl := Option.some.inj h
      exact r_iret S d hr rfl rfl dX8_share_26
    · replace h := it_n cc h
      refine lv_iload_n S.1 S.2.1 dX8_share_16 rfl (lv_at hl 3 rfl) ?_
      refine lv_bipush (v := 6) S.1 S.2.1 dX8_share_17 (by decide) ?_
      obtain ⟨u3, hu3, h⟩ := bd_e h
      refine r_ri d (r_cS (As := [.int a3, .int (6 : Int32)]) (rest := []) S d (c_X8_isBelow l G M L a3 (6 : Int32) hu3) ml_RX8_51 sm_yX8_isBelow in_RX8 co_yX8_isBelow hyS_X8_isBelow ⟨rfl, rfl⟩ ⟨by decide, by decide⟩ rfl hl rfl (Nat.le_of_ble_eq_true rfl) dX8_share_19 ⟨Nat.zero_le _, Nat.zero_le _⟩) (fun H locs d => ?_)
      refine lv_if_ne (tgt := 27) S.1 S.2.1 dX8_share_22 (by decide) (fun cc => ?_) (fun cc => ?_)
      · replace h := it_n cc h
        refine lv_aload_n S.1 S.2.1 dX8_share_27 rfl (lv_at hl 0 rfl) ?_
        refine gf_0_0 S d hk0 fl_RX8_12 dX8_share_28 ?_
        refine gf_1_3 S d (ch_0_0 hk0).1 fl_RX8_147 dX8_share_31 ?_
        refine lv_iload_n S.1 S.2.1 dX8_share_34 rfl (lv_at hl 1 rfl) ?_
        obtain ⟨g4, h⟩ := gd_e h
        refine r_aald S d (ksdC S (ch_1_3 (ch_0_0 hk0).1).1) (wc_14 (ch_1_3 (ch_0_0 hk0).1).1) rfl rfl g4 rfl dX8_share_35 ?_
        obtain ⟨r5, er5, h⟩ := lt_e h
        refine r_topr er5 ?_
        have hkr5 : kd r5 = 3 := by rw [er5]; exact (ca_14 (ch_1_3 (ch_0_0 hk0).1).1 (inb_lt g4)).1
        refine lv_astore (lv' := [(4, .ref (ad G r5)), (0, .ref (ad G k0)), (1, .int a1), (2, .int a2), (3, .int a3)]) S.1 S.2.1 dX8_share_36 hl (by decide) rfl (fun ls hl => ?_)
        refine lv_aload_n S.1 S.2.1 dX8_share_38 rfl (lv_at hl 1 rfl) ?_
        refine gf_0_0 S d hk0 fl_RX8_12 dX8_share_39 ?_
        refine lv_aload S.1 S.2.1 dX8_share_42 (lv_at hl 0 rfl) ?_
        refine lv_iload_n S.1 S.2.1 dX8_share_44 rfl (lv_at hl 3 rfl) ?_
        obtain ⟨u6, hu6, h⟩ := bd_e h
        refine r_ri d (r_cV (As := [.ref (ad G r5), .int a2]) (rest := []) S d (c_X0_hasRoom l G M L (k0 + 1) r5 a2 (ch_0_0 hk0).1 hkr5 hu6) (ksdC S (ch_0_0 hk0).1) (wc_1 (ch_0_0 hk0).1) rfl ml_RX8_189 im_yX0_hasRoom se_yX0_hasRoom in_RX0 co_yX0_hasRoom hyV_X0_hasRoom ⟨rfl, rfl⟩ ⟨by decide, by decide⟩ rfl hl rfl (Nat.le_of_ble_eq_true rfl) dX8_share_45 ⟨Nat.zero_le _, Nat.zero_le _⟩) (fun H locs d => ?_)
        refine lv_if_ne (tgt := 54) S.1 S.2.1 dX8_share_48 (by decide) (fun cc => ?_) (fun cc => ?_)
        · replace h := it_n cc h
          refine lv_aload S.1 S.2.1 dX8_share_54 (lv_at hl 0 rfl) ?_
          refine gf_3_1 S d hkr5 fl_RX8_150 dX8_share_56 ?_
          refine lv_aload_n S.1 S.2.1 dX8_share_59 rfl (lv_at hl 1 rfl) ?_
          refine gf_0_0 S d hk0 fl_RX8_12 dX8_share_60 ?_
          refine lv_aload S.1 S.2.1 dX8_share_63 (lv_at hl 0 rfl) ?_
          refine lv_iload_n S.1 S.2.1 dX8_share_65 rfl (lv_at hl 3 rfl) ?_
          obtain ⟨u7, hu7, h⟩ := bd_e h
          refine r_ri d (r_cV (As := [.ref (ad G r5), .int a2]) (rest := [.int (M r5 1)]) S d (c_X0_lossBy l G M L fu (k0 + 1) r5 a2 (ch_0_0 hk0).1 hkr5 hu7) (ksdC S (ch_0_0 hk0).1) (wc_1 (ch_0_0 hk0).1) rfl ml_RX8_200 im_yX0_lossBy se_yX0_lossBy in_RX0 co_yX0_lossBy hyV_X0_lossBy ⟨rfl, rfl⟩ ⟨by decide, by decide⟩ rfl hl rfl (Nat.le_of_ble_eq_true rfl) dX8_share_66 ⟨Nat.zero_le _, Nat.zero_le _⟩) (fun H locs d => ?_)
          refine lv_isub S.1 S.2.1 dX8_share_69 ?_
          obtain ⟨v8, ev8, h⟩ := lt_e h
          refine r_top ev8 ?_
          refine lv_istore (lv' := [(5, .int v8), (4, .ref (ad G r5)), (0, .ref (ad G k0)), (1, .int a1), (2, .int a2), (3, .int a3)]) S.1 S.2.1 dX8_share_70 hl (by decide) rfl (fun ls hl => ?_)
          refine lv_iload S.1 S.2.1 dX8_share_72 (lv_at hl 0 rfl) ?_
          refine lv_if_ge (tgt := 82) S.1 S.2.1 dX8_share_74 (by decide) (fun cc => ?_) (fun cc => ?_)
          · replace h := it_p cc h
            refine lv_aload_n S.1 S.2.1 dX8_share_82 rfl (lv_at hl 2 rfl) ?_
            refine gf_0_0 S d hk0 fl_RX8_12 dX8_share_83 ?_
            refine lv_aload S.1 S.2.1 dX8_share_86 (lv_at hl 1 rfl) ?_
            refine lv_iload_n S.1 S.2.1 dX8_share_88 rfl (lv_at hl 4 rfl) ?_
            refine lv_iload_n S.1 S.2.1 dX8_share_89 rfl (lv_at hl 5 rfl) ?_
            refine lv_iload S.1 S.2.1 dX8_share_90 (lv_at hl 0 rfl) ?_
            obtain ⟨u9, hu9, h⟩ := bd_e h
            refine r_ri d (r_cV (As := [.ref (ad G r5), .int a2, .int a3, .int v8]) (rest := []) S d (c_X0_shareOf l G M L fu (k0 + 1) r5 a2 a3 v8 (ch_0_0 hk0).1 hkr5 hu9) (ksdC S (ch_0_0 hk0).1) (wc_1 (ch_0_0 hk0).1) rfl ml_RX8_206 im_yX0_shareOf se_yX0_shareOf in_RX0 co_yX0_shareOf hyV_X0_shareOf ⟨rfl, rfl⟩ ⟨by decide, by decide⟩ rfl hl rfl (Nat.le_of_ble_eq_true rfl) dX8_share_92 ⟨Nat.zero_le _, Nat.zero_le _⟩) (fun H locs d => ?_)
            obtain rfl := Option.some.inj h
            exact r_iret S d hr rfl rfl dX8_share_95
          · replace h := it_n cc h
            refine lv_bipush (v := (-2)) S.1 S.2.1 dX8_share_77 (by decide) ?_
            refine lv_goto (tgt := 95) S.1 S.2.1 dX8_share_79 (by decide) ?_
            obtain rfl := Option.some.inj h
            exact r_iret S d hr rfl rfl dX8_share_95
        · replace h := it_p cc h
          refine lv_bipush (v := (-2)) S.1 S.2.1 dX8_share_51 (by decide) ?_
          obtain rfl := Option.some.inj h
          exact r_iret S d hr rfl rfl dX8_share_53
      · replace h := it_p cc h
        refine lv_iconst (v := (-1)) S.1 S.2.1 dX8_share_25 (by decide) ?_
        obtain rfl := Option.some.inj h
        exact r_iret S d hr rfl rfl dX8_share_26
theorem hyV_X8_fades : yX8_fades.cls = RX8 ∧ yX8_fades.cls ≠ "java/lang/invoke/MethodHandle" ∧ yX8_fades.cls ≠ "java/lang/invoke/VarHandle" ∧ (parseMethodDescriptor yX8_fades.desc).map (fun d => d.parameters.length) = some 2 := by decide +kernel
abbrev rm_X8_fades : Room := { frames := 4, cells := 0, slots := 0, locals := 90 }
def lp_X8_fades_47 (fu : Nat) (M : Mem) (b0 : Nat) (b2 : Int32) (b3 : Nat) (K : Unit → Option (Int32)) : Nat → Int32 → Option (Int32)
  | 0, _ => none
  | n + 1, x4 =>
    (if (30 : Int32) < x4 then (K ())
    else (f_X0_isWritten fu M (b0 + 1) b3 b2 x4).bind (fun u6 =>
      (if u6 = 0 then some (x4)
      else lt (x4 + 1) (fun v7 : Int32 =>
        (lp_X8_fades_47 fu M b0 b2 b3 K n v7)))))
def f_X8_fades (fu : Nat) (M : Mem) (k0 : Nat) (a1 : Int32) (a2 : Int32) : Option (Int32) :=
  (f_X8_isWord M k0 a1).bind (fun u1 =>
  (if u1 = 0 then some ((-1 : Int32))
  else (f_X8_isStrip M k0 a2).bind (fun u2 =>
    (if u2 = 0 then some ((-1 : Int32))
    else gd (inb a1 10) (
      lt ((((k0 + 1) + 3) + 21 + 2 * a1.toNatClampNeg)) (fun r4 : Nat =>
      (f_X0_isWritten fu M (k0 + 1) r4 a2 (0 : Int32)).bind (fun u5 =>
      (if u5 = 0 then some ((-2 : Int32))
      else (lp_X8_fades_47 fu M k0 a2 r4 (fun (_ : Unit) =>
          some ((-4 : Int32))) fu (1 : Int32))))))))))
set_option maxHeartbeats 4000000 in
set_option maxRecDepth 100000 in
theorem lc_X8_fades_47 {p : Program} {l : Launch} {e : Env} {s : State} {m : MethodId} {args : Array Value} {below : List Frame} {meth : Method} {c : Code} {G : Gx} {M : Mem} {L : MemL} {fu : Nat} {b0 : Nat} {b2 : Int32} {b3 : Nat} {z : Int32} (S : Sx G false p s m args meth c cX8_fades 5 RX8) (hr : meth.sig.returnType = (Option.some Jvm.ClassFile.FieldType.int)) (hb0 : kd b0 = 0) (hb3 : kd b3 = 3) (K : Unit → Option (Int32)) (hK : ∀ (_ : Unit) (H : Heap) (locs : List Loc), Dy G s M L H locs → ∀ ls : Array Slot, lv_has ls 5 [] → K () = some z → W p l e rm_X8_fades s m args below meth c H locs 0 0 (MQ below (Qi G z M L) args s 0 0 (gA G)) (F0 m 77 ls [])) :
    ∀ (n : Nat) (x4 : Int32), lp_X8_fades_47 fu M b0 b2 b3 K n x4 = some z → ∀ (H : Heap) (locs : List Loc), Dy G s M L H locs → ∀ ls : Array Slot, lv_has ls 5 [(0, .ref (ad G b0)), (2, .int b2), (3, .ref (ad G b3)), (4, .int x4)] → W p l e rm_X8_fades s m args below meth c H locs 0 0 (MQ below (Qi G z M L) args s 0 0 (gA G)) (F0 m 47 ls []) := by
  intro n
  induction n with
  | zero =>
    intro x4 h
    have h : (none : Option (Int32)) = some z := h
    cases h
  | succ n ih =>
    intro x4 h H locs d ls hl
    rw [lp_X8_fades_47] at h
    refine lv_iload S.1 S.2.1 dX8_fades_47 (lv_at hl 3 rfl) ?_
    refine lv_bipush (v := 30) S.1 S.2.1 dX8_fades_49 (by decide) ?_
    refine lv_icmp_gt (tgt := 77) S.1 S.2.1 dX8_fades_51 (by decide) (fun cc => ?_) (fun cc => ?_)
    · replace h := it_p cc h
      exact hK () _ _ d _ (lv_sub hl [] rfl) h
    · replace h := it_n cc h
      refine lv_aload_n S.1 S.2.1 dX8_fades_54 rfl (lv_at hl 0 rfl) ?_
      refine gf_0_0 S d hb0 fl_RX8_12 dX8_fades_55 ?_
      refine lv_aload_n S.1 S.2.1 dX8_fades_58 rfl (lv_at hl 2 rfl) ?_
      refine lv_iload_n S.1 S.2.1 dX8_fades_59 rfl (lv_at hl 1 rfl) ?_
      refine lv_iload S.1 S.2.1 dX8_fades_60 (lv_at hl 3 rfl) ?_
      obtain ⟨u6, hu6, h⟩ := bd_e h
      refine r_ri d (r_cV (As := [.ref (ad G b3), .int b2, .int x4]) (rest := []) S d (c_X0_isWritten l G M L fu (b0 + 1) b3 b2 x4 (ch_0_0 hb0).1 hb3 hu6) (ksdC S (ch_0_0 hb0).1) (wc_1 (ch_0_0 hb0).1) rfl ml_RX8_172 im_yX0_isWritten se_yX0_isWritten in_RX0 co_yX0_isWritten hyV_X0_isWritten ⟨rfl, rfl⟩ ⟨by decide, by decide⟩ rfl hl rfl (Nat.le_of_ble_eq_true rfl) dX8_fades_62 ⟨Nat.zero_le _, Nat.zero_le _⟩) (fun H locs d => ?_)
      refine lv_if_ne (tgt := 71) S.1 S.2.1 dX8_fades_65 (by decide) (fun cc => ?_) (fun cc => ?_)
      · replace h := it_n cc h
        obtain ⟨v7, ev7, h⟩ := lt_e h
        refine lv_iinc (v := v7) (lv' := [(4, .int v7), (0, .ref (ad G b0)), (2, .int b2), (3, .ref (ad G b3))]) S.1 S.2.1 dX8_fades_71 hl (k := 3) rfl (by rw [ev7]; rfl) (by decide) rfl (fun ls hl => ?_)
        refine lv_goto (tgt := 47) S.1 S.2.1 dX8_fades_74 (by decide) ?_
        exact ih _ h _ _ d _ (lv_sub hl [1, 2, 3, 0] rfl)
      · replace h := it_p cc h
        refine lv_iload S.1 S.2.1 dX8_fades_68 (lv_at hl 3 rfl) ?_
        obtain rfl := Option.some.inj h
        exact r_iret S d hr rfl rfl dX8_fades_70
set_option maxHeartbeats 4000000 in
set_option maxRecDepth 100000 in
theorem c_X8_fades (l : Launch) (G : Gx) (M : Mem) (L : MemL) (fu : Nat) (k0 : Nat) (a1 : Int32) (a2 : Int32) (hk0 : kd k0 = 0) {z : Int32} (h : f_X8_fades fu M k0 a1 a2 = some z) : Met l yX8_fades (.code yX8_fades cX8_fades 5 (Option.some Jvm.ClassFile.FieldType.int) :: UW) rm_X8_fades (va_Pc [.ref (ad G k0), .int a1, .int a2] (PreG G false M L)) (Qi G z M L) 0 0 (gA G) := by
  refine r_in (by decide) (fun p e s m args below meth c S hr d ha ls hl => ?_) (Nat.le_of_ble_eq_true rfl)
  have S : Sx G false p s m args meth c cX8_fades 5 RX8 := S
  have hl : lv_has ls 5 [(0, .ref (ad G k0)), (1, .int a1), (2, .int a2)] := hl
  unfold f_X8_fades at h
  refine lv_aload_n S.1 S.2.1 dX8_fades_0 rfl (lv_at hl 0 rfl) ?_
  refine lv_iload_n S.1 S.2.1 dX8_fades_1 rfl (lv_at hl 1 rfl) ?_
  obtain ⟨u1, hu1, h⟩ := bd_e h
  refine r_ri d (r_cV (As := [.int a1]) (rest := []) S d (c_X8_isWord l G M L k0 a1 hk0 hu1) (ksdC S hk0) (wc_0 hk0) rfl ml_RX8_144 im_yX8_isWord se_yX8_isWord in_RX8 co_yX8_isWord hyV_X8_isWord ⟨rfl, rfl⟩ ⟨by decide, by decide⟩ rfl hl rfl (Nat.le_of_ble_eq_true rfl) dX8_fades_2 ⟨Nat.zero_le _, Nat.zero_le _⟩) (fun H locs d => ?_)
  refine lv_if_eq (tgt := 16) S.1 S.2.1 dX8_fades_5 (by decide) (fun cc => ?_) (fun cc => ?_)
  · replace h := it_p cc h
    refine lv_iconst (v := (-1)) S.1 S.2.1 dX8_fades_16 (by decide) ?_
    obtain rfl := Option.some.inj h
    exact r_iret S d hr rfl rfl dX8_fades_17
  · replace h := it_n cc h
    refine lv_aload_n S.1 S.2.1 dX8_fades_8 rfl (lv_at hl 0 rfl) ?_
    refine lv_iload_n S.1 S.2.1 dX8_fades_9 rfl (lv_at hl 2 rfl) ?_
    obtain ⟨u2, hu2, h⟩ := bd_e h
    refine r_ri d (r_cV (As := [.int a2]) (rest := []) S d (c_X8_isStrip l G M L k0 a2 hk0 hu2) (ksdC S hk0) (wc_0 hk0) rfl ml_RX8_70 im_yX8_isStrip se_yX8_isStrip in_RX8 co_yX8_isStrip hyV_X8_isStrip ⟨rfl, rfl⟩ ⟨by decide, by decide⟩ rfl hl rfl (Nat.le_of_ble_eq_true rfl) dX8_fades_10 ⟨Nat.zero_le _, Nat.zero_le _⟩) (fun H locs d => ?_)
    refine lv_if_ne (tgt := 18) S.1 S.2.1 dX8_fades_13 (by decide) (fun cc => ?_) (fun cc => ?_)
    · replace h := it_n cc h
      refine lv_aload_n S.1 S.2.1 dX8_fades_18 rfl (lv_at hl 0 rfl) ?_
      refine gf_0_0 S d hk0 fl_RX8_12 dX8_fades_19 ?_
      refine gf_1_3 S d (ch_0_0 hk0).1 fl_RX8_147 dX8_fades_22 ?_
      refine lv_iload_n S.1 S.2.1 dX8_fades_25 rfl (lv_at hl 1 rfl) ?_
      obtain ⟨g3, h⟩ := gd_e h
      refine r_aald S d (ksdC S (ch_1_3 (ch_0_0 hk0).1).1) (wc_14 (ch_1_3 (ch_0_0 hk0).1).1) rfl rfl g3 rfl dX8_fades_26 ?_
      obtain ⟨r4, er4, h⟩ := lt_e h
      refine r_topr er4 ?_
      have hkr4 : kd r4 = 3 := by rw [er4]; exact (ca_14 (ch_1_3 (ch_0_0 hk0).1).1 (inb_lt g3)).1
      refine lv_astore_n (lv' := [(3, .ref (ad G r4)), (0, .ref (ad G k0)), (1, .int a1), (2, .int a2)]) S.1 S.2.1 dX8_fades_27 rfl hl (by decide) rfl (fun ls hl => ?_)
      refine lv_aload_n S.1 S.2.1 dX8_fades_28 rfl (lv_at hl 1 rfl) ?_
      refine gf_0_0 S d hk0 fl_RX8_12 dX8_fades_29 ?_
      refine lv_aload_n S.1 S.2.1 dX8_fades_32 rfl (lv_at hl 0 rfl) ?_
      refine lv_iload_n S.1 S.2.1 dX8_fades_33 rfl (lv_at hl 3 rfl) ?_
      refine lv_iconst (v := 0) S.1 S.2.1 dX8_fades_34 (by decide) ?_
      obtain ⟨u5, hu5, h⟩ := bd_e h
      refine r_ri d (r_cV (As := [.ref (ad G r4), .int a2, .int (0 : Int32)]) (rest := []) S d (c_X0_isWritten l G M L fu (k0 + 1) r4 a2 (0 : Int32) (ch_0_0 hk0).1 hkr4 hu5) (ksdC S (ch_0_0 hk0).1) (wc_1 (ch_0_0 hk0).1) rfl ml_RX8_172 im_yX0_isWritten se_yX0_isWritten in_RX0 co_yX0_isWritten hyV_X0_isWritten ⟨rfl, rfl⟩ ⟨by decide, by decide⟩ rfl hl rfl (Nat.le_of_ble_eq_true rfl) dX8_fades_35 ⟨Nat.zero_le _, Nat.zero_le _⟩) (fun H locs d => ?_)
      refine lv_if_ne (tgt := 44) S.1 S.2.1 dX8_fades_38 (by decide) (fun cc => ?_) (fun cc => ?_)
      · replace h := it_n cc h
        refine lv_iconst (v := 1) S.1 S.2.1 dX8_fades_44 (by decide) ?_
        refine lv_istore (lv' := [(4, .int (1 : Int32)), (3, .ref (ad G r4)), (0, .ref (ad G k0)), (1, .int a1), (2, .int a2)]) S.1 S.2.1 dX8_fades_45 hl (by decide) rfl (fun ls hl => ?_)
        refine lc_X8_fades_47 S hr hk0 hkr4 _ (fun _ H locs d ls hl h => ?_) _ _  h _ _ d _ (lv_sub hl [2, 4, 1, 0] rfl)
        refine lv_bipush (v := (-4)) S.1 S.2.1 dX8_fades_77 (by decide) ?_
        obtain rfl := Option.some.inj h
        exact r_iret S d hr rfl rfl dX8_fades_79
      · replace h := it_p cc h
        refine lv_bipush (v := (-2)) S.1 S.2.1 dX8_fades_41 (by decide) ?_
        obtain rfl := Option.some.inj h
        exact r_iret S d hr rfl rfl dX8_fades_43
    · replace h := it_p cc h
      refine lv_iconst (v := (-1)) S.1 S.2.1 dX8_fades_16 (by decide) ?_
      obtain rfl := Option.some.inj h
      exact r_iret S d hr rfl rfl dX8_fades_17
theorem hyV_X7_isLike : yX7_isLike.cls = RX7 ∧ yX7_isLike.cls ≠ "java/lang/invoke/MethodHandle" ∧ yX7_isLike.cls ≠ "java/lang/invoke/VarHandle" ∧ (parseMethodDescriptor yX7_isLike.desc).map (fun d => d.parameters.length) = some 1 := by decide +kernel
abbrev rm_X7_isLike : Room := { frames := 0, cells := 0, slots := 0, locals := 0 }
def lp_X7_isLike_15 (fu : Nat) (M : Mem) (b0 : Nat) (b1 : Nat) (K : Unit → Option (Int32)) : Nat → Int32 → Option (Int32)
  | 0, _ => none
  | n + 1, x2 =>
    (if (M b0 0) ≤ x2 then (K ())
    else gd (inb x2 6) (
      gd (inb x2 6) (
      (if (M (b0 + 1) x2.toNatClampNeg) = (M (b1 + 1) x2.toNatClampNeg) then lt (x2 + 1) (fun v3 : Int32 =>
        (lp_X7_isLike_15 fu M b0 b1 K n v3))
      else some ((0 : Int32))))))
def f_X7_isLike (fu : Nat) (M : Mem) (k0 : Nat) (k1 : Nat) : Option (Int32) :=
  (if (M k0 0) = (M k1 0) then (lp_X7_isLike_15 fu M k0 k1 (fun (_ : Unit) =>
      some ((1 : Int32))) fu (0 : Int32))
  else some ((0 : Int32)))
set_option maxHeartbeats 4000000 in
set_option maxRecDepth 100000 in
theorem lc_X7_isLike_15 {p : Program} {l : Launch} {e : Env} {s : State} {m : MethodId} {args : Array Value} {below : List Frame} {meth : Method} {c : Code} {G : Gx} {M : Mem} {L : MemL} {fu : Nat} {b0 : Nat} {b1 : Nat} {z : Int32} (S : Sx G false p s m args meth c cX7_isLike 3 RX7) (hr : meth.sig.returnType = (Option.some Jvm.ClassFile.FieldType.boolean)) (hb0 : kd b0 = 3) (hb1 : kd b1 = 3) (K : Unit → Option (Int32)) (hK : ∀ (_ : Unit) (H : Heap) (locs : List Loc), Dy G s M L H locs → ∀ ls : Array Slot, lv_has ls 3 [] → K () = some z → W p l e rm_X7_isLike s m args below meth c H locs 0 0 (MQ below (Qi G z M L) args s 0 0 (gA G)) (F0 m 46 ls [])) :
    ∀ (n : Nat) (x2 : Int32), lp_X7_isLike_15 fu M b0 b1 K n x2 = some z → ∀ (H : Heap) (locs : List Loc), Dy G s M L H locs → ∀ ls : Array Slot, lv_has ls 3 [(0, .ref (ad G b0)), (1, .ref (ad G b1)), (2, .int x2)] → W p l e rm_X7_isLike s m args below meth c H locs 0 0 (MQ below (Qi G z M L) args s 0 0 (gA G)) (F0 m 15 ls []) := by
  intro n
  induction n with
  | zero =>
    intro x2 h
    have h : (none : Option (Int32)) = some z := h
    cases h
  | succ n ih =>
    intro x2 h H locs d ls hl
    rw [lp_X7_isLike_15] at h
    refine lv_iload_n S.1 S.2.1 dX7_isLike_15 rfl (lv_at hl 2 rfl) ?_
    refine lv_aload_n S.1 S.2.1 dX7_isLike_16 rfl (lv_at hl 0 rfl) ?_
    refine gf_3_0 S d hb0 fl_RX7_9 dX7_isLike_17 ?_
    refine lv_icmp_ge (tgt := 46) S.1 S.2.1 dX7_isLike_20 (by decide) (fun cc => ?_) (fun cc => ?_)
    · replace h := it_p cc h
      exact hK () _ _ d _ (lv_sub hl [] rfl) h
    · replace h := it_n cc h
      refine lv_aload_n S.1 S.2.1 dX7_isLike_23 rfl (lv_at hl 0 rfl) ?_
      refine gf_3_2 S d hb0 fl_RX7_18 dX7_isLike_24 ?_
      refine lv_iload_n S.1 S.2.1 dX7_isLike_27 rfl (lv_at hl 2 rfl) ?_
      obtain ⟨g1, h⟩ := gd_e h
      refine r_iald S d (ksdC S (ch_3_2 hb0).1) (wc_10 (ch_3_2 hb0).1) (ch_3_2 hb0).2 g1 dX7_isLike_28 ?_
      refine lv_aload_n S.1 S.2.1 dX7_isLike_29 rfl (lv_at hl 1 rfl) ?_
      refine gf_3_2 S d hb1 fl_RX7_18 dX7_isLike_30 ?_
      refine lv_iload_n S.1 S.2.1 dX7_isLike_33 rfl (lv_at hl 2 rfl) ?_
      obtain ⟨g2, h⟩ := gd_e h
      refine r_iald S d (ksdC S (ch_3_2 hb1).1) (wc_10 (ch_3_2 hb1).1) (ch_3_2 hb1).2 g2 dX7_isLike_34 ?_
      refine lv_icmp_eq (tgt := 40) S.1 S.2.1 dX7_isLike_35 (by decide) (fun cc => ?_) (fun cc => ?_)
      · replace h := it_p cc h
        obtain ⟨v3, ev3, h⟩ := lt_e h
        refine lv_iinc (v := v3) (lv' := [(2, .int v3), (0, .ref (ad G b0)), (1, .ref (ad G b1))]) S.1 S.2.1 dX7_isLike_40 hl (k := 2) rfl (by rw [ev3]; rfl) (by decide) rfl (fun ls hl => ?_)
        refine lv_goto (tgt := 15) S.1 S.2.1 dX7_isLike_43 (by decide) ?_
        exact ih _ h _ _ d _ (lv_sub hl [1, 2, 0] rfl)
      · replace h := it_n cc h
        refine lv_iconst (v := 0) S.1 S.2.1 dX7_isLike_38 (by decide) ?_
        obtain rfl := Option.some.inj h
        exact r_iret S d hr rfl rfl dX7_isLike_39
set_option maxHeartbeats 4000000 in
set_option maxRecDepth 100000 in
theorem c_X7_isLike (l : Launch) (G : Gx) (M : Mem) (L : MemL) (fu : Nat) (k0 : Nat) (k1 : Nat) (hk0 : kd k0 = 3) (hk1 : kd k1 = 3) {z : Int32} (h : f_X7_isLike fu M k0 k1 = some z) : Met l yX7_isLike (.code yX7_isLike cX7_isLike 3 (Option.some Jvm.ClassFile.FieldType.boolean) :: UW) rm_X7_isLike (va_Pc [.ref (ad G k0), .ref (ad G k1)] (PreG G false M L)) (Qi G z M L) 0 0 (gA G) := by
  refine r_in (by decide) (fun p e s m args below meth c S hr d ha ls hl => ?_) (Nat.le_of_ble_eq_true rfl)
  have S : Sx G false p s m args meth c cX7_isLike 3 RX7 := S
  have hl : lv_has ls 3 [(0, .ref (ad G k0)), (1, .ref (ad G k1))] := hl
  unfold f_X7_isLike at h
  refine lv_aload_n S.1 S.2.1 dX7_isLike_0 rfl (lv_at hl 0 rfl) ?_
  refine gf_3_0 S d hk0 fl_RX7_9 dX7_isLike_1 ?_
  refine lv_aload_n S.1 S.2.1 dX7_isLike_4 rfl (lv_at hl 1 rfl) ?_
  refine gf_3_0 S d hk1 fl_RX7_9 dX7_isLike_5 ?_
  refine lv_icmp_eq (tgt := 13) S.1 S.2.1 dX7_isLike_8 (by decide) (fun cc => ?_) (fun cc => ?_)
  · replace h := it_p cc h
    refine lv_iconst (v := 0) S.1 S.2.1 dX7_isLike_13 (by decide) ?_
    refine lv_istore_n (lv' := [(2, .int (0 : Int32)), (0, .ref (ad G k0)), (1, .ref (ad G k1))]) S.1 S.2.1 dX7_isLike_14 rfl hl (by decide) rfl (fun ls hl => ?_)
    refine lc_X7_isLike_15 S hr hk0 hk1 _ (fun _ H locs d ls hl h => ?_) _ _  h _ _ d _ (lv_sub hl [1, 2, 0] rfl)
    refine lv_iconst (v := 1) S.1 S.2.1 dX7_isLike_46 (by decide) ?_
    obtain rfl := Option.some.inj h
    exact r_iret S d hr rfl rfl dX7_isLike_47
  · replace h := it_n cc h
    refine lv_iconst (v := 0) S.1 S.2.1 dX7_isLike_11 (by decide) ?_
    obtain rfl := Option.some.inj h
    exact r_iret S d hr rfl rfl dX7_isLike_12
theorem hyV_X7_placeBehind : yX7_placeBehind.cls = RX7 ∧ yX7_placeBehind.cls ≠ "java/lang/invoke/MethodHandle" ∧ yX7_placeBehind.cls ≠ "java/lang/invoke/VarHandle" ∧ (parseMethodDescriptor yX7_placeBehind.desc).map (fun d => d.parameters.length) = some 2 := by decide +kernel
abbrev rm_X7_placeBehind : Room := { frames := 0, cells := 0, slots := 0, locals := 0 }
def lp_X7_placeBehind_2 (fu : Nat) (M : Mem) (b0 : Nat) (b1 : Int32) (K : Unit → Option (Int32)) : Nat → Int32 → Option (Int32)
  | 0, _ => none
  | n + 1, x3 =>
    (if (M b0 0) ≤ x3 then (K ())
    else gd (inb x3 6) (
      (if (M (b0 + 1) x3.toNatClampNeg) = b1 then some ((x3 + (1 : Int32)))
      else lt (x3 + 1) (fun v2 : Int32 =>
        (lp_X7_placeBehind_2 fu M b0 b1 K n v2)))))
def f_X7_placeBehind (fu : Nat) (M : Mem) (k0 : Nat) (a1 : Int32) (a2 : Int32) : Option (Int32) :=
  (lp_X7_placeBehind_2 fu M k0 a1 (fun (_ : Unit) =>
    some ((-4 : Int32))) fu a2)
set_option maxHeartbeats 4000000 in
set_option maxRecDepth 100000 in
theorem lc_X7_placeBehind_2 {p : Program} {l : Launch} {e : Env} {s : State} {m : MethodId} {args : Array Value} {below : List Frame} {meth : Method} {c : Code} {G : Gx} {M : Mem} {L : MemL} {fu : Nat} {b0 : Nat} {b1 : Int32} {z : Int32} (S : Sx G false p s m args meth c cX7_placeBehind 4 RX7) (hr : meth.sig.returnType = (Option.some Jvm.ClassFile.FieldType.int)) (hb0 : kd b0 = 3) (K : Unit → Option (Int32)) (hK : ∀ (_ : Unit) (H : Heap) (locs : List Loc), Dy G s M L H locs → ∀ ls : Array Slot, lv_has ls 4 [] → K () = some z → W p l e rm_X7_placeBehind s m args below meth c H locs 0 0 (MQ below (Qi G z M L) args s 0 0 (gA G)) (F0 m 30 ls [])) :
    ∀ (n : Nat) (x3 : Int32), lp_X7_placeBehind_2 fu M b0 b1 K n x3 = some z → ∀ (H : Heap) (locs : List Loc), Dy G s M L H locs → ∀ ls : Array Slot, lv_has ls 4 [(0, .ref (ad G b0)), (1, .int b1), (3, .int x3)] → W p l e rm_X7_placeBehind s m args below meth c H locs 0 0 (MQ below (Qi G z M L) args s 0 0 (gA G)) (F0 m 2 ls []) := by
  intro n
  induction n with
  | zero =>
    intro x3 h
    have h : (none : Option (Int32)) = some z := h
    cases h
  | succ n ih =>
    intro x3 h H locs d ls hl
    rw [lp_X7_placeBehind_2] at h
    refine lv_iload_n S.1 S.2.1 dX7_placeBehind_2 rfl (lv_at hl 2 rfl) ?_
    refine lv_aload_n S.1 S.2.1 dX7_placeBehind_3 rfl (lv_at hl 0 rfl) ?_
    refine gf_3_0 S d hb0 fl_RX7_9 dX7_placeBehind_4 ?_
    refine lv_icmp_ge (tgt := 30) S.1 S.2.1 dX7_placeBehind_7 (by decide) (fun cc => ?_) (fun cc => ?_)
    · replace h := it_p cc h
      exact hK () _ _ d _ (lv_sub hl [] rfl) h
    · replace h := it_n cc h
      refine lv_aload_n S.1 S.2.1 dX7_placeBehind_10 rfl (lv_at hl 0 rfl) ?_
      refine gf_3_2 S d hb0 fl_RX7_18 dX7_placeBehind_11 ?_
      refine lv_iload_n S.1 S.2.1 dX7_placeBehind_14 rfl (lv_at hl 2 rfl) ?_
      obtain ⟨g1, h⟩ := gd_e h
      refine r_iald S d (ksdC S (ch_3_2 hb0).1) (wc_10 (ch_3_2 hb0).1) (ch_3_2 hb0).2 g1 dX7_placeBehind_15 ?_
      refine lv_iload_n S.1 S.2.1 dX7_placeBehind_16 rfl (lv_at hl 1 rfl) ?_
      refine lv_icmp_ne (tgt := 24) S.1 S.2.1 dX7_placeBehind_17 (by decide) (fun cc => ?_) (fun cc => ?_)
      · replace h := it_n cc h
        obtain ⟨v2, ev2, h⟩ := lt_e h
        refine lv_iinc (v := v2) (lv' := [(3, .int v2), (0, .ref (ad G b0)), (1, .int b1)]) S.1 S.2.1 dX7_placeBehind_24 hl (k := 2) rfl (by rw [ev2]; rfl) (by decide) rfl (fun ls hl => ?_)
        refine lv_goto (tgt := 2) S.1 S.2.1 dX7_placeBehind_27 (by decide) ?_
        exact ih _ h _ _ d _ (lv_sub hl [1, 2, 0] rfl)
      · replace h := it_p cc h
        refine lv_iload_n S.1 S.2.1 dX7_placeBehind_20 rfl (lv_at hl 2 rfl) ?_
        refine lv_iconst (v := 1) S.1 S.2.1 dX7_placeBehind_21 (by decide) ?_
        refine lv_iadd S.1 S.2.1 dX7_placeBehind_22 ?_
        obtain rfl := Option.some.inj h
        exact r_iret S d hr rfl rfl dX7_placeBehind_23
set_option maxHeartbeats 4000000 in
set_option maxRecDepth 100000 in
theorem c_X7_placeBehind (l : Launch) (G : Gx) (M : Mem) (L : MemL) (fu : Nat) (k0 : Nat) (a1 : Int32) (a2 : Int32) (hk0 : kd k0 = 3) {z : Int32} (h : f_X7_placeBehind fu M k0 a1 a2 = some z) : Met l yX7_placeBehind (.code yX7_placeBehind cX7_placeBehind 4 (Option.some Jvm.ClassFile.FieldType.int) :: UW) rm_X7_placeBehind (va_Pc [.ref (ad G k0), .int a1, .int a2] (PreG G false M L)) (Qi G z M L) 0 0 (gA G) := by
  refine r_in (by decide) (fun p e s m args below meth c S hr d ha ls hl => ?_) (Nat.le_of_ble_eq_true rfl)
  have S : Sx G false p s m args meth c cX7_placeBehind 4 RX7 := S
  have hl : lv_has ls 4 [(0, .ref (ad G k0)), (1, .int a1), (2, .int a2)] := hl
  unfold f_X7_placeBehind at h
  refine lv_iload_n S.1 S.2.1 dX7_placeBehind_0 rfl (lv_at hl 2 rfl) ?_
  refine lv_istore_n (lv' := [(3, .int a2), (0, .ref (ad G k0)), (1, .int a1), (2, .int a2)]) S.1 S.2.1 dX7_placeBehind_1 rfl hl (by decide) rfl (fun ls hl => ?_)
  refine lc_X7_placeBehind_2 S hr hk0 _ (fun _ H locs d ls hl h => ?_) _ _  h _ _ d _ (lv_sub hl [1, 2, 0] rfl)
  refine lv_bipush (v := (-4)) S.1 S.2.1 dX7_placeBehind_30 (by decide) ?_
  obtain rfl := Option.some.inj h
  exact r_iret S d hr rfl rfl dX7_placeBehind_32
theorem hyV_X7_hasFormIn : yX7_hasFormIn.cls = RX7 ∧ yX7_hasFormIn.cls ≠ "java/lang/invoke/MethodHandle" ∧ yX7_hasFormIn.cls ≠ "java/lang/invoke/VarHandle" ∧ (parseMethodDescriptor yX7_hasFormIn.desc).map (fun d => d.parameters.length) = some 2 := by decide +kernel
abbrev rm_X7_hasFormIn : Room := { frames := 1, cells := 0, slots := 0, locals := 23 }
def lp_X7_hasFormIn_5 (fu : Nat) (M : Mem) (b0 : Nat) (b1 : Int32) (b2 : Nat) (K : Unit → Option (Int32)) : Nat → Int32 → Int32 → Option (Int32)
  | 0, _, _ => none
  | n + 1, x3, x4 =>
    (if (M b0 0) ≤ x4 then (K ())
    else (if ((b1 >>> (x4 &&& 31)) &&& (1 : Int32)) = (1 : Int32) then gd (inb x4 6) (
        (f_X7_placeBehind fu M b2 (M (b0 + 1) x4.toNatClampNeg) x3).bind (fun u2 =>
        (if 0 ≤ u2 then lt (x4 + 1) (fun v3 : Int32 =>
          (lp_X7_hasFormIn_5 fu M b0 b1 b2 K n u2 v3))
        else some ((0 : Int32)))))
      else lt (x4 + 1) (fun v4 : Int32 =>
        (lp_X7_hasFormIn_5 fu M b0 b1 b2 K n x3 v4))))
def f_X7_hasFormIn (fu : Nat) (M : Mem) (k0 : Nat) (a1 : Int32) (k2 : Nat) : Option (Int32) :=
  (lp_X7_hasFormIn_5 fu M k0 a1 k2 (fun (_ : Unit) =>
    some ((1 : Int32))) fu (0 : Int32) (0 : Int32))
set_option maxHeartbeats 4000000 in
set_option maxRecDepth 100000 in
theorem lc_X7_hasFormIn_5 {p : Program} {l : Launch} {e : Env} {s : State} {m : MethodId} {args : Array Value} {below : List Frame} {meth : Method} {c : Code} {G : Gx} {M : Mem} {L : MemL} {fu : Nat} {b0 : Nat} {b1 : Int32} {b2 : Nat} {z : Int32} (S : Sx G false p s m args meth c cX7_hasFormIn 5 RX7) (hr : meth.sig.returnType = (Option.some Jvm.ClassFile.FieldType.boolean)) (hb0 : kd b0 = 3) (hb2 : kd b2 = 3) (K : Unit → Option (Int32)) (hK : ∀ (_ : Unit) (H : Heap) (locs : List Loc), Dy G s M L H locs → ∀ ls : Array Slot, lv_has ls 5 [] → K () = some z → W p l e rm_X7_hasFormIn s m args below meth c H locs 0 0 (MQ below (Qi G z M L) args s 0 0 (gA G)) (F0 m 49 ls [])) :
    ∀ (n : Nat) (x3 : Int32) (x4 : Int32), lp_X7_hasFormIn_5 fu M b0 b1 b2 K n x3 x4 = some z → ∀ (H : Heap) (locs : List Loc), Dy G s M L H locs → ∀ ls : Array Slot, lv_has ls 5 [(0, .ref (ad G b0)), (1, .int b1), (2, .ref (ad G b2)), (3, .int x3), (4, .int x4)] → W p l e rm_X7_hasFormIn s m args below meth c H locs 0 0 (MQ below (Qi G z M L) args s 0 0 (gA G)) (F0 m 5 ls []) := by
  intro n
  induction n with
  | zero =>
    intro x3 x4 h
    have h : (none : Option (Int32)) = some z := h
    cases h
  | succ n ih =>
    intro x3 x4 h H locs d ls hl
    rw [lp_X7_hasFormIn_5] at h
    refine lv_iload S.1 S.2.1 dX7_hasFormIn_5 (lv_at hl 4 rfl) ?_
    refine lv_aload_n S.1 S.2.1 dX7_hasFormIn_7 rfl (lv_at hl 0 rfl) ?_
    refine gf_3_0 S d hb0 fl_RX7_9 dX7_hasFormIn_8 ?_
    refine lv_icmp_ge (tgt := 49) S.1 S.2.1 dX7_hasFormIn_11 (by decide) (fun cc => ?_) (fun cc => ?_)
    · replace h := it_p cc h
      exact hK () _ _ d _ (lv_sub hl [] rfl) h
    · replace h := it_n cc h
      refine lv_iload_n S.1 S.2.1 dX7_hasFormIn_14 rfl (lv_at hl 1 rfl) ?_
      refine lv_iload S.1 S.2.1 dX7_hasFormIn_15 (lv_at hl 4 rfl) ?_
      refine lv_ishr S.1 S.2.1 dX7_hasFormIn_17 ?_
      refine lv_iconst (v := 1) S.1 S.2.1 dX7_hasFormIn_18 (by decide) ?_
      refine lv_iand S.1 S.2.1 dX7_hasFormIn_19 ?_
      refine lv_iconst (v := 1) S.1 S.2.1 dX7_hasFormIn_20 (by decide) ?_
      refine lv_icmp_ne (tgt := 43) S.1 S.2.1 dX7_hasFormIn_21 (by decide) (fun cc => ?_) (fun cc => ?_)
      · replace h := it_n cc h
        obtain ⟨v4, ev4, h⟩ := lt_e h
        refine lv_iinc (v := v4) (lv' := [(4, .int v4), (0, .ref (ad G b0)), (1, .int b1), (2, .ref (ad G b2)), (3, .int x3)]) S.1 S.2.1 dX7_hasFormIn_43 hl (k := 4) rfl (by rw [ev4]; rfl) (by decide) rfl (fun ls hl => ?_)
        refine lv_goto (tgt := 5) S.1 S.2.1 dX7_hasFormIn_46 (by decide) ?_
        exact ih _ _ h _ _ d _ (lv_sub hl [1, 2, 3, 4, 0] rfl)
      · replace h := it_p cc h
        refine lv_aload_n S.1 S.2.1 dX7_hasFormIn_24 rfl (lv_at hl 2 rfl) ?_
        refine lv_aload_n S.1 S.2.1 dX7_hasFormIn_25 rfl (lv_at hl 0 rfl) ?_
        refine gf_3_2 S d hb0 fl_RX7_18 dX7_hasFormIn_26 ?_
        refine lv_iload S.1 S.2.1 dX7_hasFormIn_29 (lv_at hl 4 rfl) ?_
        obtain ⟨g1, h⟩ := gd_e h
        refine r_iald S d (ksdC S (ch_3_2 hb0).1) (wc_10 (ch_3_2 hb0).1) (ch_3_2 hb0).2 g1 dX7_hasFormIn_31 ?_
        refine lv_iload_n S.1 S.2.1 dX7_hasFormIn_32 rfl (lv_at hl 3 rfl) ?_
        obtain ⟨u2, hu2, h⟩ := bd_e h
        refine r_ri d (r_cV (As := [.int (M (b0 + 1) x4.toNatClampNeg), .int x3]) (rest := []) S d (c_X7_placeBehind l G M L fu b2 (M (b0 + 1) x4.toNatClampNeg) x3 hb2 hu2) (ksdC S hb2) (wc_3 hb2) rfl ml_RX7_28 im_yX7_placeBehind se_yX7_placeBehind in_RX7 co_yX7_placeBehind hyV_X7_placeBehind ⟨rfl, rfl⟩ ⟨by decide, by decide⟩ rfl hl rfl (Nat.le_of_ble_eq_true rfl) dX7_hasFormIn_33 ⟨Nat.zero_le _, Nat.zero_le _⟩) (fun H locs d => ?_)
        refine lv_istore_n (lv' := [(3, .int u2), (0, .ref (ad G b0)), (1, .int b1), (2, .ref (ad G b2)), (4, .int x4)]) S.1 S.2.1 dX7_hasFormIn_36 rfl hl (by decide) rfl (fun ls hl => ?_)
        refine lv_iload_n S.1 S.2.1 dX7_hasFormIn_37 rfl (lv_at hl 0 rfl) ?_
        refine lv_if_ge (tgt := 43) S.1 S.2.1 dX7_hasFormIn_38 (by decide) (fun cc => ?_) (fun cc => ?_)
        · replace h := it_p cc h
          obtain ⟨v3, ev3, h⟩ := lt_e h
          refine lv_iinc (v := v3) (lv' := [(4, .int v3), (3, .int u2), (0, .ref (ad G b0)), (1, .int b1), (2, .ref (ad G b2))]) S.1 S.2.1 dX7_hasFormIn_43 hl (k := 4) rfl (by rw [ev3]; rfl) (by decide) rfl (fun ls hl => ?_)
          refine lv_goto (tgt := 5) S.1 S.2.1 dX7_hasFormIn_46 (by decide) ?_
          exact ih _ _ h _ _ d _ (lv_sub hl [2, 3, 4, 1, 0] rfl)
        · replace h := it_n cc h
          refine lv_iconst (v := 0) S.1 S.2.1 dX7_hasFormIn_41 (by decide) ?_
          obtain rfl := Option.some.inj h
          exact r_iret S d hr rfl rfl dX7_hasFormIn_42
set_option maxHeartbeats 4000000 in
set_option maxRecDepth 100000 in
theorem c_X7_hasFormIn (l : Launch) (G : Gx) (M : Mem) (L : MemL) (fu : Nat) (k0 : Nat) (a1 : Int32) (k2 : Nat) (hk0 : kd k0 = 3) (hk2 : kd k2 = 3) {z : Int32} (h : f_X7_hasFormIn fu M k0 a1 k2 = some z) : Met l yX7_hasFormIn (.code yX7_hasFormIn cX7_hasFormIn 5 (Option.some Jvm.ClassFile.FieldType.boolean) :: UW) rm_X7_hasFormIn (va_Pc [.ref (ad G k0), .int a1, .ref (ad G k2)] (PreG G false M L)) (Qi G z M L) 0 0 (gA G) := by
  refine r_in (by decide) (fun p e s m args below meth c S hr d ha ls hl => ?_) (Nat.le_of_ble_eq_true rfl)
  have S : Sx G false p s m args meth c cX7_hasFormIn 5 RX7 := S
  have hl : lv_has ls 5 [(0, .ref (ad G k0)), (1, .int a1), (2, .ref (ad G k2))] := hl
  unfold f_X7_hasFormIn at h
  refine lv_iconst (v := 0) S.1 S.2.1 dX7_hasFormIn_0 (by decide) ?_
  refine lv_istore_n (lv' := [(3, .int (0 : Int32)), (0, .ref (ad G k0)), (1, .int a1), (2, .ref (ad G k2))]) S.1 S.2.1 dX7_hasFormIn_1 rfl hl (by decide) rfl (fun ls hl => ?_)
  refine lv_iconst (v := 0) S.1 S.2.1 dX7_hasFormIn_2 (by decide) ?_
  refine lv_istore (lv' := [(4, .int (0 : Int32)), (3, .int (0 : Int32)), (0, .ref (ad G k0)), (1, .int a1), (2, .ref (ad G k2))]) S.1 S.2.1 dX7_hasFormIn_3 hl (by decide) rfl (fun ls hl => ?_)
  refine lc_X7_hasFormIn_5 S hr hk0 hk2 _ (fun _ H locs d ls hl h => ?_) _ _ _  h _ _ d _ (lv_sub hl [2, 3, 4, 1, 0] rfl)
  refine lv_iconst (v := 1) S.1 S.2.1 dX7_hasFormIn_49 (by decide) ?_
  obtain rfl := Option.some.inj h
  exact r_iret S d hr rfl rfl dX7_hasFormIn_50
theorem hyV_X0_isOwnForm : yX0_isOwnForm.cls = RX0 ∧ yX0_isOwnForm.cls ≠ "java/lang/invoke/MethodHandle" ∧ yX0_isOwnForm.cls ≠ "java/lang/invoke/VarHandle" ∧ (parseMethodDescriptor yX0_isOwnForm.desc).map (fun d => d.parameters.length) = some 2 := by decide +kernel
abbrev rm_X0_isOwnForm : Room := { frames := 2, cells := 0, slots := 0, locals := 47 }
def lp_X0_isOwnForm_2 (fu : Nat) (M : Mem) (b0 : Nat) (b1 : Nat) (b2 : Int32) (K : Unit → Option (Int32)) : Nat → Int32 → Option (Int32)
  | 0, _ => none
  | n + 1, x3 =>
    (if (M b0 4) ≤ x3 then (K ())
    else gd (inb x3 10) (
      (f_X7_isLike fu M b1 ((b0 + 3) + 21 + 2 * x3.toNatClampNeg)).bind (fun u2 =>
      (if u2 = 0 then gd (inb x3 10) (
        (f_X7_hasFormIn fu M b1 b2 ((b0 + 3) + 21 + 2 * x3.toNatClampNeg)).bind (fun u4 =>
        (if u4 = 0 then lt (x3 + 1) (fun v5 : Int32 =>
          (lp_X0_isOwnForm_2 fu M b0 b1 b2 K n v5))
        else some ((0 : Int32)))))
      else lt (x3 + 1) (fun v6 : Int32 =>
        (lp_X0_isOwnForm_2 fu M b0 b1 b2 K n v6))))))
def f_X0_isOwnForm (fu : Nat) (M : Mem) (k0 : Nat) (k1 : Nat) (a2 : Int32) : Option (Int32) :=
  (lp_X0_isOwnForm_2 fu M k0 k1 a2 (fun (_ : Unit) =>
    some ((1 : Int32))) fu (0 : Int32))
set_option maxHeartbeats 4000000 in
set_option maxRecDepth 100000 in
theorem lc_X0_isOwnForm_2 {p : Program} {l : Launch} {e : Env} {s : State} {m : MethodId} {args : Array Value} {below : List Frame} {meth : Method} {c : Code} {G : Gx} {M : Mem} {L : MemL} {fu : Nat} {b0 : Nat} {b1 : Nat} {b2 : Int32} {z : Int32} (S : Sx G false p s m args meth c cX0_isOwnForm 4 RX0) (hr : meth.sig.returnType = (Option.some Jvm.ClassFile.FieldType.boolean)) (hb0 : kd b0 = 1) (hb1 : kd b1 = 3) (K : Unit → Option (Int32)) (hK : ∀ (_ : Unit) (H : Heap) (locs : List Loc), Dy G s M L H locs → ∀ ls : Array Slot, lv_has ls 4 [] → K () = some z → W p l e rm_X0_isOwnForm s m args below meth c H locs 0 0 (MQ below (Qi G z M L) args s 0 0 (gA G)) (F0 m 45 ls [])) :
    ∀ (n : Nat) (x3 : Int32), lp_X0_isOwnForm_2 fu M b0 b1 b2 K n x3 = some z → ∀ (H : Heap) (locs : List Loc), Dy G s M L H locs → ∀ ls : Array Slot, lv_has ls 4 [(0, .ref (ad G b0)), (1, .ref (ad G b1)), (2, .int b2), (3, .int x3)] → W p l e rm_X0_isOwnForm s m args below meth c H locs 0 0 (MQ below (Qi G z M L) args s 0 0 (gA G)) (F0 m 2 ls []) := by
  intro n
  induction n with
  | zero =>
    intro x3 h
    have h : (none : Option (Int32)) = some z := h
    cases h
  | succ n ih =>
    intro x3 h H locs d ls hl
    rw [lp_X0_isOwnForm_2] at h
    refine lv_iload_n S.1 S.2.1 dX0_isOwnForm_2 rfl (lv_at hl 3 rfl) ?_
    refine lv_aload_n S.1 S.2.1 dX0_isOwnForm_3 rfl (lv_at hl 0 rfl) ?_
    refine gf_1_4 S d hb0 fl_RX0_34 dX0_isOwnForm_4 ?_
    refine lv_icmp_ge (tgt := 45) S.1 S.2.1 dX0_isOwnForm_7 (by decide) (fun cc => ?_) (fun cc => ?_)
    · replace h := it_p cc h
      exact hK () _ _ d _ (lv_sub hl [] rfl) h
    · replace h := it_n cc h
      refine lv_aload_n S.1 S.2.1 dX0_isOwnForm_10 rfl (lv_at hl 1 rfl) ?_
      refine lv_aload_n S.1 S.2.1 dX0_isOwnForm_11 rfl (lv_at hl 0 rfl) ?_
      refine gf_1_3 S d hb0 fl_RX0_30 dX0_isOwnForm_12 ?_
      refine lv_iload_n S.1 S.2.1 dX0_isOwnForm_15 rfl (lv_at hl 3 rfl) ?_
      obtain ⟨g1, h⟩ := gd_e h
      refine r_aald S d (ksdC S (ch_1_3 hb0).1) (wc_14 (ch_1_3 hb0).1) rfl rfl g1 rfl dX0_isOwnForm_16 ?_
      obtain ⟨u2, hu2, h⟩ := bd_e h
      refine r_ri d (r_cV (As := [.ref (ad G ((b0 + 3) + 21 + 2 * x3.toNatClampNeg))]) (rest := []) S d (c_X7_isLike l G M L fu b1 ((b0 + 3) + 21 + 2 * x3.toNatClampNeg) hb1 (ca_14 (ch_1_3 hb0).1 (inb_lt g1)).1 hu2) (ksdC S hb1) (wc_3 hb1) rfl ml_RX0_127 im_yX7_isLike se_yX7_isLike in_RX7 co_yX7_isLike hyV_X7_isLike ⟨rfl, rfl⟩ ⟨by decide, by decide⟩ rfl hl rfl (Nat.le_of_ble_eq_true rfl) dX0_isOwnForm_17 ⟨Nat.zero_le _, Nat.zero_le _⟩) (fun H locs d => ?_)
      refine lv_if_ne (tgt := 39) S.1 S.2.1 dX0_isOwnForm_20 (by decide) (fun cc => ?_) (fun cc => ?_)
      · replace h := it_n cc h
        obtain ⟨v6, ev6, h⟩ := lt_e h
        refine lv_iinc (v := v6) (lv' := [(3, .int v6), (0, .ref (ad G b0)), (1, .ref (ad G b1)), (2, .int b2)]) S.1 S.2.1 dX0_isOwnForm_39 hl (k := 3) rfl (by rw [ev6]; rfl) (by decide) rfl (fun ls hl => ?_)
        refine lv_goto (tgt := 2) S.1 S.2.1 dX0_isOwnForm_42 (by decide) ?_
        exact ih _ h _ _ d _ (lv_sub hl [1, 2, 3, 0] rfl)
      · replace h := it_p cc h
        refine lv_aload_n S.1 S.2.1 dX0_isOwnForm_23 rfl (lv_at hl 1 rfl) ?_
        refine lv_iload_n S.1 S.2.1 dX0_isOwnForm_24 rfl (lv_at hl 2 rfl) ?_
        refine lv_aload_n S.1 S.2.1 dX0_isOwnForm_25 rfl (lv_at hl 0 rfl) ?_
        refine gf_1_3 S d hb0 fl_RX0_30 dX0_isOwnForm_26 ?_
        refine lv_iload_n S.1 S.2.1 dX0_isOwnForm_29 rfl (lv_at hl 3 rfl) ?_
        obtain ⟨g3, h⟩ := gd_e h
        refine r_aald S d (ksdC S (ch_1_3 hb0).1) (wc_14 (ch_1_3 hb0).1) rfl rfl g3 rfl dX0_isOwnForm_30 ?_
        obtain ⟨u4, hu4, h⟩ := bd_e h
        refine r_ri d (r_cV (As := [.int b2, .ref (ad G ((b0 + 3) + 21 + 2 * x3.toNatClampNeg))]) (rest := []) S d (c_X7_hasFormIn l G M L fu b1 b2 ((b0 + 3) + 21 + 2 * x3.toNatClampNeg) hb1 (ca_14 (ch_1_3 hb0).1 (inb_lt g3)).1 hu4) (ksdC S hb1) (wc_3 hb1) rfl ml_RX0_131 im_yX7_hasFormIn se_yX7_hasFormIn in_RX7 co_yX7_hasFormIn hyV_X7_hasFormIn ⟨rfl, rfl⟩ ⟨by decide, by decide⟩ rfl hl rfl (Nat.le_of_ble_eq_true rfl) dX0_isOwnForm_31 ⟨Nat.zero_le _, Nat.zero_le _⟩) (fun H locs d => ?_)
        refine lv_if_eq (tgt := 39) S.1 S.2.1 dX0_isOwnForm_34 (by decide) (fun cc => ?_) (fun cc => ?_)
        · replace h := it_p cc h
          obtain ⟨v5, ev5, h⟩ := lt_e h
          refine lv_iinc (v := v5) (lv' := [(3, .int v5), (0, .ref (ad G b0)), (1, .ref (ad G b1)), (2, .int b2)]) S.1 S.2.1 dX0_isOwnForm_39 hl (k := 3) rfl (by rw [ev5]; rfl) (by decide) rfl (fun ls hl => ?_)
          refine lv_goto (tgt := 2) S.1 S.2.1 dX0_isOwnForm_42 (by decide) ?_
          exact ih _ h _ _ d _ (lv_sub hl [1, 2, 3, 0] rfl)
        · replace h := it_n cc h
          refine lv_iconst (v := 0) S.1 S.2.1 dX0_isOwnForm_37 (by decide) ?_
          obtain rfl := Option.some.inj h
          exact r_iret S d hr rfl rfl dX0_isOwnForm_38
set_option maxHeartbeats 4000000 in
set_option maxRecDepth 100000 in
theorem c_X0_isOwnForm (l : Launch) (G : Gx) (M : Mem) (L : MemL) (fu : Nat) (k0 : Nat) (k1 : Nat) (a2 : Int32) (hk0 : kd k0 = 1) (hk1 : kd k1 = 3) {z : Int32} (h : f_X0_isOwnForm fu M k0 k1 a2 = some z) : Met l yX0_isOwnForm (.code yX0_isOwnForm cX0_isOwnForm 4 (Option.some Jvm.ClassFile.FieldType.boolean) :: UW) rm_X0_isOwnForm (va_Pc [.ref (ad G k0), .ref (ad G k1), .int a2] (PreG G false M L)) (Qi G z M L) 0 0 (gA G) := by
  refine r_in (by decide) (fun p e s m args below meth c S hr d ha ls hl => ?_) (Nat.le_of_ble_eq_true rfl)
  have S : Sx G false p s m args meth c cX0_isOwnForm 4 RX0 := S
  have hl : lv_has ls 4 [(0, .ref (ad G k0)), (1, .ref (ad G k1)), (2, .int a2)] := hl
  unfold f_X0_isOwnForm at h
  refine lv_iconst (v := 0) S.1 S.2.1 dX0_isOwnForm_0 (by decide) ?_
  refine lv_istore_n (lv' := [(3, .int (0 : Int32)), (0, .ref (ad G k0)), (1, .ref (ad G k1)), (2, .int a2)]) S.1 S.2.1 dX0_isOwnForm_1 rfl hl (by decide) rfl (fun ls hl => ?_)
  refine lc_X0_isOwnForm_2 S hr hk0 hk1 _ (fun _ H locs d ls hl h => ?_) _ _  h _ _ d _ (lv_sub hl [1, 2, 3, 0] rfl)
  refine lv_iconst (v := 1) S.1 S.2.1 dX0_isOwnForm_45 (by decide) ?_
  obtain rfl := Option.some.inj h
  exact r_iret S d hr rfl rfl dX0_isOwnForm_46
theorem hyV_X8_brief : yX8_brief.cls = RX8 ∧ yX8_brief.cls ≠ "java/lang/invoke/MethodHandle" ∧ yX8_brief.cls ≠ "java/lang/invoke/VarHandle" ∧ (parseMethodDescriptor yX8_brief.desc).map (fun d => d.parameters.length) = some 1 := by decide +kernel
abbrev rm_X8_brief : Room := { frames := 3, cells := 0, slots := 0, locals := 70 }
def lp_X8_brief_35 (fu : Nat) (M : Mem) (b0 : Nat) (b1 : Int32) (b4 : Int32) (K : Int32 → Option (Int32)) : Nat → Int32 → Int32 → Int32 → Option (Int32)
  | 0, _, _, _ => none
  | n + 1, x2, x3, x5 =>
    (if b4 ≤ x5 then (K x2)
    else (f_J6_bitCount_0f7a4 x5).bind (fun u4 =>
      (if x3 ≤ u4 then lt (x5 + 1) (fun v10 : Int32 =>
        (lp_X8_brief_35 fu M b0 b1 b4 K n x2 x3 v10))
      else gd (inb b1 10) (
        (f_X0_isOwnForm fu M (b0 + 1) (((b0 + 1) + 3) + 21 + 2 * b1.toNatClampNeg) x5).bind (fun u6 =>
        (if u6 = 0 then lt (x5 + 1) (fun v9 : Int32 =>
          (lp_X8_brief_35 fu M b0 b1 b4 K n x2 x3 v9))
        else (f_J6_bitCount_0f7a4 x5).bind (fun u7 =>
          lt (x5 + 1) (fun v8 : Int32 =>
          (lp_X8_brief_35 fu M b0 b1 b4 K n x5 u7 v8)))))))))
def f_X8_brief (fu : Nat) (M : Mem) (k0 : Nat) (a1 : Int32) : Option (Int32) :=
  (f_X8_isWord M k0 a1).bind (fun u1 =>
  (if u1 = 0 then some ((-1 : Int32))
  else gd (inb a1 10) (
    lt (((1 : Int32) <<< ((M (((k0 + 1) + 3) + 21 + 2 * a1.toNatClampNeg) 0) &&& 31))) (fun v3 : Int32 =>
    (lp_X8_brief_35 fu M k0 a1 v3 (fun (v11 : Int32) =>
      some (v11)) fu (-4 : Int32) (7 : Int32) (1 : Int32))))))
set_option maxHeartbeats 4000000 in
set_option maxRecDepth 100000 in
theorem lc_X8_brief_35 {p : Program} {l : Launch} {e : Env} {s : State} {m : MethodId} {args : Array Value} {below : List Frame} {meth : Method} {c : Code} {G : Gx} {M : Mem} {L : MemL} {fu : Nat} {b0 : Nat} {b1 : Int32} {b4 : Int32} {z : Int32} (S : Sx G false p s m args meth c cX8_brief 6 RX8) (hr : meth.sig.returnType = (Option.some Jvm.ClassFile.FieldType.int)) (hb0 : kd b0 = 0) (K : Int32 → Option (Int32)) (hK : ∀ (y2 : Int32) (H : Heap) (locs : List Loc), Dy G s M L H locs → ∀ ls : Array Slot, lv_has ls 6 [(2, .int y2)] → K y2 = some z → W p l e rm_X8_brief s m args below meth c H locs 0 0 (MQ below (Qi G z M L) args s 0 0 (gA G)) (F0 m 87 ls [])) :
    ∀ (n : Nat) (x2 : Int32) (x3 : Int32) (x5 : Int32), lp_X8_brief_35 fu M b0 b1 b4 K n x2 x3 x5 = some z → ∀ (H : Heap) (locs : List Loc), Dy G s M L H locs → ∀ ls : Array Slot, lv_has ls 6 [(0, .ref (ad G b0)), (1, .int b1), (2, .int x2), (3, .int x3), (4, .int b4), (5, .int x5)] → W p l e rm_X8_brief s m args below meth c H locs 0 0 (MQ below (Qi G z M L) args s 0 0 (gA G)) (F0 m 35 ls []) := by
  intro n
  induction n with
  | zero =>
    intro x2 x3 x5 h
    have h : (none : Option (Int32)) = some z := h
    cases h
  | succ n ih =>
    intro x2 x3 x5 h H locs d ls hl
    rw [lp_X8_brief_35] at h
    refine lv_iload S.1 S.2.1 dX8_brief_35 (lv_at hl 5 rfl) ?_
    refine lv_iload S.1 S.2.1 dX8_brief_37 (lv_at hl 4 rfl) ?_
    refine lv_icmp_ge (tgt := 87) S.1 S.2.1 dX8_brief_39 (by decide) (fun cc => ?_) (fun cc => ?_)
    · replace h := it_p cc h
      exact hK _ _ _ d _ (lv_sub hl [2] rfl) h
    · replace h := it_n cc h
      refine lv_iload S.1 S.2.1 dX8_brief_42 (lv_at hl 5 rfl) ?_
      obtain ⟨u4, hu4, h⟩ := bd_e h
      refine r_ri d (r_cS (As := [.int x5]) (rest := []) S d (c_J6_bitCount_0f7a4 l G M L x5 hu4) ml_RX8_217 sm_yJ6_bitCount_0f7a4 in_RJ6 co_yJ6_bitCount_0f7a4 hyS_J6_bitCount_0f7a4 ⟨rfl, rfl⟩ ⟨by decide, by decide⟩ rfl hl rfl (Nat.le_of_ble_eq_true rfl) dX8_brief_44 ⟨Nat.zero_le _, Nat.zero_le _⟩) (fun H locs d => ?_)
      refine lv_iload_n S.1 S.2.1 dX8_brief_47 rfl (lv_at hl 3 rfl) ?_
      refine lv_icmp_ge (tgt := 81) S.1 S.2.1 dX8_brief_48 (by decide) (fun cc => ?_) (fun cc => ?_)
      · replace h := it_p cc h
        obtain ⟨v10, ev10, h⟩ := lt_e h
        refine lv_iinc (v := v10) (lv' := [(5, .int v10), (0, .ref (ad G b0)), (1, .int b1), (2, .int x2), (3, .int x3), (4, .int b4)]) S.1 S.2.1 dX8_brief_81 hl (k := 5) rfl (by rw [ev10]; rfl) (by decide) rfl (fun ls hl => ?_)
        refine lv_goto (tgt := 35) S.1 S.2.1 dX8_brief_84 (by decide) ?_
        exact ih _ _ _ h _ _ d _ (lv_sub hl [1, 2, 3, 4, 5, 0] rfl)
      · replace h := it_n cc h
        refine lv_aload_n S.1 S.2.1 dX8_brief_51 rfl (lv_at hl 0 rfl) ?_
        refine gf_0_0 S d hb0 fl_RX8_12 dX8_brief_52 ?_
        refine lv_aload_n S.1 S.2.1 dX8_brief_55 rfl (lv_at hl 0 rfl) ?_
        refine gf_0_0 S d hb0 fl_RX8_12 dX8_brief_56 ?_
        refine gf_1_3 S d (ch_0_0 hb0).1 fl_RX8_147 dX8_brief_59 ?_
        refine lv_iload_n S.1 S.2.1 dX8_brief_62 rfl (lv_at hl 1 rfl) ?_
        obtain ⟨g5, h⟩ := gd_e h
        refine r_aald S d (ksdC S (ch_1_3 (ch_0_0 hb0).1).1) (wc_14 (ch_1_3 (ch_0_0 hb0).1).1) rfl rfl g5 rfl dX8_brief_63 ?_
        refine lv_iload S.1 S.2.1 dX8_brief_64 (lv_at hl 5 rfl) ?_
        obtain ⟨u6, hu6, h⟩ := bd_e h
        refine r_ri d (r_cV (As := [.ref (ad G (((b0 + 1) + 3) + 21 + 2 * b1.toNatClampNeg)), .int x5]) (rest := []) S d (c_X0_isOwnForm l G M L fu (b0 + 1) (((b0 + 1) + 3) + 21 + 2 * b1.toNatClampNeg) x5 (ch_0_0 hb0).1 (ca_14 (ch_1_3 (ch_0_0 hb0).1).1 (inb_lt g5)).1 hu6) (ksdC S (ch_0_0 hb0).1) (wc_1 (ch_0_0 hb0).1) rfl ml_RX8_222 im_yX0_isOwnForm se_yX0_isOwnForm in_RX0 co_yX0_isOwnForm hyV_X0_isOwnForm ⟨rfl, rfl⟩ ⟨by decide, by decide⟩ rfl hl rfl (Nat.le_of_ble_eq_true rfl) dX8_brief_66 ⟨Nat.zero_le _, Nat.zero_le _⟩) (fun H locs d => ?_)
        refine lv_if_eq (tgt := 81) S.1 S.2.1 dX8_brief_69 (by decide) (fun cc => ?_) (fun cc => ?_)
        · replace h := it_p cc h
          obtain ⟨v9, ev9, h⟩ := lt_e h
          refine lv_iinc (v := v9) (lv' := [(5, .int v9), (0, .ref (ad G b0)), (1, .int b1), (2, .int x2), (3, .int x3), (4, .int b4)]) S.1 S.2.1 dX8_brief_81 hl (k := 5) rfl (by rw [ev9]; rfl) (by decide) rfl (fun ls hl => ?_)
          refine lv_goto (tgt := 35) S.1 S.2.1 dX8_brief_84 (by decide) ?_
          exact ih _ _ _ h _ _ d _ (lv_sub hl [1, 2, 3, 4, 5, 0] rfl)
        · replace h := it_n cc h
          refine lv_iload S.1 S.2.1 dX8_brief_72 (lv_at hl 5 rfl) ?_
          refine lv_istore_n (lv' := [(2, .int x5), (0, .ref (ad G b0)), (1, .int b1), (3, .int x3), (4, .int b4), (5, .int x5)]) S.1 S.2.1 dX8_brief_74 rfl hl (by decide) rfl (fun ls hl => ?_)
          refine lv_iload S.1 S.2.1 dX8_brief_75 (lv_at hl 5 rfl) ?_
          obtain ⟨u7, hu7, h⟩ := bd_e h
          refine r_ri d (r_cS (As := [.int x5]) (rest := []) S d (c_J6_bitCount_0f7a4 l G M L x5 hu7) ml_RX8_217 sm_yJ6_bitCount_0f7a4 in_RJ6 co_yJ6_bitCount_0f7a4 hyS_J6_bitCount_0f7a4 ⟨rfl, rfl⟩ ⟨by decide, by decide⟩ rfl hl rfl (Nat.le_of_ble_eq_true rfl) dX8_brief_77 ⟨Nat.zero_le _, Nat.zero_le _⟩) (fun H locs d => ?_)
          refine lv_istore_n (lv' := [(3, .int u7), (2, .int x5), (0, .ref (ad G b0)), (1, .int b1), (4, .int b4), (5, .int x5)]) S.1 S.2.1 dX8_brief_80 rfl hl (by decide) rfl (fun ls hl => ?_)
          obtain ⟨v8, ev8, h⟩ := lt_e h
          refine lv_iinc (v := v8) (lv' := [(5, .int v8), (3, .int u7), (2, .int x5), (0, .ref (ad G b0)), (1, .int b1), (4, .int b4)]) S.1 S.2.1 dX8_brief_81 hl (k := 5) rfl (by rw [ev8]; rfl) (by decide) rfl (fun ls hl => ?_)
          refine lv_goto (tgt := 35) S.1 S.2.1 dX8_brief_84 (by decide) ?_
          exact ih _ _ _ h _ _ d _ (lv_sub hl [3, 4, 2, 1, 5, 0] rfl)
set_option maxHeartbeats 4000000 in
set_option maxRecDepth 100000 in
theorem c_X8_brief (l : Launch) (G : Gx) (M : Mem) (L : MemL) (fu : Nat) (k0 : Nat) (a1 : Int32) (hk0 : kd k0 = 0) {z : Int32} (h : f_X8_brief fu M k0 a1 = some z) : Met l yX8_brief (.code yX8_brief cX8_brief 6 (Option.some Jvm.ClassFile.FieldType.int) :: UW) rm_X8_brief (va_Pc [.ref (ad G k0), .int a1] (PreG G false M L)) (Qi G z M L) 0 0 (gA G) := by
  refine r_in (by decide) (fun p e s m args below meth c S hr d ha ls hl => ?_) (Nat.le_of_ble_eq_true rfl)
  have S : Sx G false p s m args meth c cX8_brief 6 RX8 := S
  have hl : lv_has ls 6 [(0, .ref (ad G k0)), (1, .int a1)] := hl
  unfold f_X8_brief at h
  refine lv_aload_n S.1 S.2.1 dX8_brief_0 rfl (lv_at hl 0 rfl) ?_
  refine lv_iload_n S.1 S.2.1 dX8_brief_1 rfl (lv_at hl 1 rfl) ?_
  obtain ⟨u1, hu1, h⟩ := bd_e h
  refine r_ri d (r_cV (As := [.int a1]) (rest := []) S d (c_X8_isWord l G M L k0 a1 hk0 hu1) (ksdC S hk0) (wc_0 hk0) rfl ml_RX8_144 im_yX8_isWord se_yX8_isWord in_RX8 co_yX8_isWord hyV_X8_isWord ⟨rfl, rfl⟩ ⟨by decide, by decide⟩ rfl hl rfl (Nat.le_of_ble_eq_true rfl) dX8_brief_2 ⟨Nat.zero_le _, Nat.zero_le _⟩) (fun H locs d => ?_)
  refine lv_if_ne (tgt := 10) S.1 S.2.1 dX8_brief_5 (by decide) (fun cc => ?_) (fun cc => ?_)
  · replace h := it_n cc h
    refine lv_bipush (v := (-4)) S.1 S.2.1 dX8_brief_10 (by decide) ?_
    refine lv_istore_n (lv' := [(2, .int (-4 : Int32)), (0, .ref (ad G k0)), (1, .int a1)]) S.1 S.2.1 dX8_brief_12 rfl hl (by decide) rfl (fun ls hl => ?_)
    refine lv_bipush (v := 7) S.1 S.2.1 dX8_brief_13 (by decide) ?_
    refine lv_istore_n (lv' := [(3, .int (7 : Int32)), (2, .int (-4 : Int32)), (0, .ref (ad G k0)), (1, .int a1)]) S.1 S.2.1 dX8_brief_15 rfl hl (by decide) rfl (fun ls hl => ?_)
    refine lv_iconst (v := 1) S.1 S.2.1 dX8_brief_16 (by decide) ?_
    refine lv_aload_n S.1 S.2.1 dX8_brief_17 rfl (lv_at hl 2 rfl) ?_
    refine gf_0_0 S d hk0 fl_RX8_12 dX8_brief_18 ?_
    refine gf_1_3 S d (ch_0_0 hk0).1 fl_RX8_147 dX8_brief_21 ?_
    refine lv_iload_n S.1 S.2.1 dX8_brief_24 rfl (lv_at hl 3 rfl) ?_
    obtain ⟨g2, h⟩ := gd_e h
    refine r_aald S d (ksdC S (ch_1_3 (ch_0_0 hk0).1).1) (wc_14 (ch_1_3 (ch_0_0 hk0).1).1) rfl rfl g2 rfl dX8_brief_25 ?_
    refine gf_3_0 S d (ca_14 (ch_1_3 (ch_0_0 hk0).1).1 (inb_lt g2)).1 fl_RX8_155 dX8_brief_26 ?_
    refine lv_ishl S.1 S.2.1 dX8_brief_29 ?_
    obtain ⟨v3, ev3, h⟩ := lt_e h
    refine r_top ev3 ?_
    refine lv_istore (lv' := [(4, .int v3), (3, .int (7 : Int32)), (2, .int (-4 : Int32)), (0, .ref (ad G k0)), (1, .int a1)]) S.1 S.2.1 dX8_brief_30 hl (by decide) rfl (fun ls hl => ?_)
    refine lv_iconst (v := 1) S.1 S.2.1 dX8_brief_32 (by decide) ?_
    refine lv_istore (lv' := [(5, .int (1 : Int32)), (4, .int v3), (3, .int (7 : Int32)), (2, .int (-4 : Int32)), (0, .ref (ad G k0)), (1, .int a1)]) S.1 S.2.1 dX8_brief_33 hl (by decide) rfl (fun ls hl => ?_)
    refine lc_X8_brief_35 S hr hk0 _ (fun v11 H locs d ls hl h => ?_) _ _ _ _  h _ _ d _ (lv_sub hl [4, 5, 3, 2, 1, 0] rfl)
    refine lv_iload_n S.1 S.2.1 dX8_brief_87 rfl (lv_at hl 0 rfl) ?_
    obtain rfl := Option.some.inj h
    exact r_iret S d hr rfl rfl dX8_brief_88
  · replace h := it_p cc h
    refine lv_iconst (v := (-1)) S.1 S.2.1 dX8_brief_8 (by decide) ?_
    obtain rfl := Option.some.inj h
    exact r_iret S d hr rfl rfl dX8_brief_9
theorem hyV_X4_copyFrom : yX4_copyFrom.cls = RX4 ∧ yX4_copyFrom.cls ≠ "java/lang/invoke/MethodHandle" ∧ yX4_copyFrom.cls ≠ "java/lang/invoke/VarHandle" ∧ (parseMethodDescriptor yX4_copyFrom.desc).map (fun d => d.parameters.length) = some 1 := by decide +kernel
abbrev rm_X4_copyFrom : Room := { frames := 1, cells := 0, slots := 0, locals := 26 }
def f_X4_copyFrom (M : Mem) (k0 : Nat) (k1 : Nat) : Option (Mem) :=
  lt (up M k0 0 (M k1 0)) (fun M1 : Mem =>
  gd (decide (¬ (0 : Int32) < 0 ∧ ¬ (0 : Int32) < 0 ∧ ¬ (15 : Int32) < 0 ∧ (0 : Int32).toNatClampNeg + (15 : Int32).toNatClampNeg ≤ 15 ∧ (0 : Int32).toNatClampNeg + (15 : Int32).toNatClampNeg ≤ 15)) (
  lt (upR M1 (k0 + 1) (va_cpy (M1 (k1 + 1)) (M1 (k0 + 1)) (0 : Int32).toNatClampNeg (0 : Int32).toNatClampNeg (15 : Int32).toNatClampNeg)) (fun M2 : Mem =>
  some (M2))))
set_option maxHeartbeats 4000000 in
set_option maxRecDepth 100000 in
theorem c_X4_copyFrom (l : Launch) (G : Gx) (M : Mem) (L : MemL) (k0 : Nat) (k1 : Nat) (hk0 : kd k0 = 2) (hk1 : kd k1 = 2) {z : Mem} (h : f_X4_copyFrom M k0 k1 = some z) : Met l yX4_copyFrom (.code yX4_copyFrom cX4_copyFrom 2 (Option.none : Option Jvm.ClassFile.FieldType) :: UW) rm_X4_copyFrom (va_Pc [.ref (ad G k0), .ref (ad G k1)] (PreG G false M L)) (Qv G z L) 0 0 (gA G) := by
  refine r_in (by decide) (fun p e s m args below meth c S hr d ha ls hl => ?_) (Nat.le_of_ble_eq_true rfl)
  have S : Sx G false p s m args meth c cX4_copyFrom 2 RX4 := S
  have hl : lv_has ls 2 [(0, .ref (ad G k0)), (1, .ref (ad G k1))] := hl
  unfold f_X4_copyFrom at h
  refine lv_aload_n S.1 S.2.1 dX4_copyFrom_0 rfl (lv_at hl 0 rfl) ?_
  refine lv_aload_n S.1 S.2.1 dX4_copyFrom_1 rfl (lv_at hl 1 rfl) ?_
  refine gf_2_0 S d hk1 fl_RX4_9 dX4_copyFrom_2 ?_
  obtain ⟨M1, eM1, h⟩ := lt_e h
  refine pf_2_0 S d eM1 hk0 fl_RX4_9 dX4_copyFrom_5 (fun H locs d => ?_)
  refine lv_aload_n S.1 S.2.1 dX4_copyFrom_8 rfl (lv_at hl 1 rfl) ?_
  refine gf_2_1 S d hk1 fl_RX4_15 dX4_copyFrom_9 ?_
  refine lv_iconst (v := 0) S.1 S.2.1 dX4_copyFrom_12 (by decide) ?_
  refine lv_aload_n S.1 S.2.1 dX4_copyFrom_13 rfl (lv_at hl 0 rfl) ?_
  refine gf_2_1 S d hk0 fl_RX4_15 dX4_copyFrom_14 ?_
  refine lv_iconst (v := 0) S.1 S.2.1 dX4_copyFrom_17 (by decide) ?_
  refine lv_bipush (v := 15) S.1 S.2.1 dX4_copyFrom_18 (by decide) ?_
  obtain ⟨g3, h⟩ := gd_e h
  obtain ⟨M2, eM2, h⟩ := lt_e h
  refine r_cpy S d hl eM2 (ksdC S (ch_2_1 hk1).1) (ksdC S (ch_2_1 hk0).1) (fun _ => wc_10 (ch_2_1 hk1).1) (fun _ => wc_10 (ch_2_1 hk0).1) (ch_2_1 hk1).2 (ch_2_1 hk0).2 g3 ml_RX4_25 ⟨by decide, Nat.le_of_ble_eq_true rfl⟩ dX4_copyFrom_20 (fun H locs d => ?_)
  obtain rfl := Option.some.inj h
  exact r_vret S d hr dX4_copyFrom_23
theorem hyV_X0_copyFrom : yX0_copyFrom.cls = RX0 ∧ yX0_copyFrom.cls ≠ "java/lang/invoke/MethodHandle" ∧ yX0_copyFrom.cls ≠ "java/lang/invoke/VarHandle" ∧ (parseMethodDescriptor yX0_copyFrom.desc).map (fun d => d.parameters.length) = some 1 := by decide +kernel
abbrev rm_X0_copyFrom : Room := { frames := 2, cells := 0, slots := 0, locals := 47 }
def lp_X0_copyFrom_57 (fu : Nat) (b0 : Nat) (b1 : Nat) (K : Mem → Option (Mem)) : Nat → Int32 → Mem → Option (Mem)
  | 0, _, _ => none
  | n + 1, x2, Mx =>
    (if (9 : Int32) ≤ x2 then (K Mx)
    else gd (inb x2 9) (
      gd (inb x2 9) (
      (f_X4_copyFrom Mx ((b0 + 2) + 4 + 2 * x2.toNatClampNeg) ((b1 + 2) + 4 + 2 * x2.toNatClampNeg)).bind (fun u11 =>
      lt (x2 + 1) (fun v12 : Int32 =>
      (lp_X0_copyFrom_57 fu b0 b1 K n v12 u11))))))
def lp_X0_copyFrom_94 (fu : Nat) (b0 : Nat) (b1 : Nat) (K : Mem → Option (Mem)) : Nat → Int32 → Mem → Option (Mem)
  | 0, _, _ => none
  | n + 1, x2, Mx =>
    (if (10 : Int32) ≤ x2 then (K Mx)
    else gd (inb x2 10) (
      gd (inb x2 10) (
      (f_X7_copyFrom Mx ((b0 + 3) + 21 + 2 * x2.toNatClampNeg) ((b1 + 3) + 21 + 2 * x2.toNatClampNeg)).bind (fun u17 =>
      lt (x2 + 1) (fun v18 : Int32 =>
      (lp_X0_copyFrom_94 fu b0 b1 K n v18 u17))))))
def f_X0_copyFrom (fu : Nat) (M : Mem) (k0 : Nat) (k1 : Nat) : Option (Mem) :=
  gd (decide (¬ (0 : Int32) < 0 ∧ ¬ (0 : Int32) < 0 ∧ ¬ (4 : Int32) < 0 ∧ (0 : Int32).toNatClampNeg + (4 : Int32).toNatClampNeg ≤ 4 ∧ (0 : Int32).toNatClampNeg + (4 : Int32).toNatClampNeg ≤ 4)) (
  lt (upR M (k0 + 1) (va_cpy (M (k1 + 1)) (M (k0 + 1)) (0 : Int32).toNatClampNeg (0 : Int32).toNatClampNeg (4 : Int32).toNatClampNeg)) (fun M2 : Mem =>
  gd (decide (¬ (0 : Int32) < 0 ∧ ¬ (0 : Int32) < 0 ∧ ¬ (6 : Int32) < 0 ∧ (0 : Int32).toNatClampNeg + (6 : Int32).toNatClampNeg ≤ 6 ∧ (0 : Int32).toNatClampNeg + (6 : Int32).toNatClampNeg ≤ 6)) (
  lt (upR M2 (k0 + 4) (va_cpy (M2 (k1 + 4)) (M2 (k0 + 4)) (0 : Int32).toNatClampNeg (0 : Int32).toNatClampNeg (6 : Int32).toNatClampNeg)) (fun M4 : Mem =>
  gd (decide (¬ (0 : Int32) < 0 ∧ ¬ (0 : Int32) < 0 ∧ ¬ (6 : Int32) < 0 ∧ (0 : Int32).toNatClampNeg + (6 : Int32).toNatClampNeg ≤ 6 ∧ (0 : Int32).toNatClampNeg + (6 : Int32).toNatClampNeg ≤ 6)) (
  lt (upR M4 (k0 + 5) (va_cpy (M4 (k1 + 5)) (M4 (k0 + 5)) (0 : Int32).toNatClampNeg (0 : Int32).toNatClampNeg (6 : Int32).toNatClampNeg)) (fun M6 : Mem =>
  lt (up M6 k0 2 (M6 k1 2)) (fun M8 : Mem =>
  (lp_X0_copyFrom_57 fu k0 k1 (fun (M13 : Mem) =>
    lt (up M13 k0 4 (M13 k1 4)) (fun M14 : Mem =>
    (lp_X0_copyFrom_94 fu k0 k1 (fun (M19 : Mem) =>
      some (M19)) fu (0 : Int32) M14))) fu (0 : Int32) M8))))))))
set_option maxHeartbeats 4000000 in
set_option maxRecDepth 100000 in
theorem lc_X0_copyFrom_57 {p : Program} {l : Launch} {e : Env} {s : State} {m : MethodId} {args : Array Value} {below : List Frame} {meth : Method} {c : Code} {G : Gx} {L : MemL} {fu : Nat} {b0 : Nat} {b1 : Nat} {z : Mem} (S : Sx G false p s m args meth c cX0_copyFrom 3 RX0) (hr : meth.sig.returnType = (Option.none : Option Jvm.ClassFile.FieldType)) (hb0 : kd b0 = 1) (hb1 : kd b1 = 1) (K : Mem → Option (Mem)) (hK : ∀ (My : Mem) (H : Heap) (locs : List Loc), Dy G s My L H locs → ∀ ls : Array Slot, lv_has ls 3 [(0, .ref (ad G b0)), (1, .ref (ad G b1))] → K My = some z → W p l e rm_X0_copyFrom s m args below meth c H locs 0 0 (MQ below (Qv G z L) args s 0 0 (gA G)) (F0 m 84 ls [])) :
    ∀ (n : Nat) (x2 : Int32) (Mx : Mem), lp_X0_copyFrom_57 fu b0 b1 K n x2 Mx = some z → ∀ (H : Heap) (locs : List Loc), Dy G s Mx L H locs → ∀ ls : Array Slot, lv_has ls 3 [(0, .ref (ad G b0)), (1, .ref (ad G b1)), (2, .int x2)] → W p l e rm_X0_copyFrom s m args below meth c H locs 0 0 (MQ below (Qv G z L) args s 0 0 (gA G)) (F0 m 57 ls []) := by
  intro n
  induction n with
  | zero =>
    intro x2 Mx h
    have h : (none : Option (Mem)) = some z := h
    cases h
  | succ n ih =>
    intro x2 Mx h H locs d ls hl
    rw [lp_X0_copyFrom_57] at h
    refine lv_iload_n S.1 S.2.1 dX0_copyFrom_57 rfl (lv_at hl 2 rfl) ?_
    refine lv_bipush (v := 9) S.1 S.2.1 dX0_copyFrom_58 (by decide) ?_
    refine lv_icmp_ge (tgt := 84) S.1 S.2.1 dX0_copyFrom_60 (by decide) (fun cc => ?_) (fun cc => ?_)
    · replace h := it_p cc h
      exact hK _ _ _ d _ (lv_sub hl [0, 1] rfl) h
    · replace h := it_n cc h
      refine lv_aload_n S.1 S.2.1 dX0_copyFrom_63 rfl (lv_at hl 0 rfl) ?_
      refine gf_1_1 S d hb0 fl_RX0_20 dX0_copyFrom_64 ?_
      refine lv_iload_n S.1 S.2.1 dX0_copyFrom_67 rfl (lv_at hl 2 rfl) ?_
      obtain ⟨g9, h⟩ := gd_e h
      refine r_aald S d (ksdC S (ch_1_1 hb0).1) (wc_13 (ch_1_1 hb0).1) rfl rfl g9 rfl dX0_copyFrom_68 ?_
      refine lv_aload_n S.1 S.2.1 dX0_copyFrom_69 rfl (lv_at hl 1 rfl) ?_
      refine gf_1_1 S d hb1 fl_RX0_20 dX0_copyFrom_70 ?_
      refine lv_iload_n S.1 S.2.1 dX0_copyFrom_73 rfl (lv_at hl 2 rfl) ?_
      obtain ⟨g10, h⟩ := gd_e h
      refine r_aald S d (ksdC S (ch_1_1 hb1).1) (wc_13 (ch_1_1 hb1).1) rfl rfl g10 rfl dX0_copyFrom_74 ?_
      obtain ⟨u11, hu11, h⟩ := bd_e h
      refine r_rv d (r_cV (As := [.ref (ad G ((b1 + 2) + 4 + 2 * x2.toNatClampNeg))]) (rest := []) S d (c_X4_copyFrom l G Mx L ((b0 + 2) + 4 + 2 * x2.toNatClampNeg) ((b1 + 2) + 4 + 2 * x2.toNatClampNeg) (ca_13 (ch_1_1 hb0).1 (inb_lt g9)).1 (ca_13 (ch_1_1 hb1).1 (inb_lt g10)).1 hu11) (ksdC S (ca_13 (ch_1_1 hb0).1 (inb_lt g9)).1) (wc_2 (ca_13 (ch_1_1 hb0).1 (inb_lt g9)).1) rfl ml_RX0_51 im_yX4_copyFrom se_yX4_copyFrom in_RX4 co_yX4_copyFrom hyV_X4_copyFrom ⟨rfl, rfl⟩ ⟨by decide, by decide⟩ rfl hl rfl (Nat.le_of_ble_eq_true rfl) dX0_copyFrom_75 ⟨Nat.zero_le _, Nat.zero_le _⟩) (fun H locs d => ?_)
      obtain ⟨v12, ev12, h⟩ := lt_e h
      refine lv_iinc (v := v12) (lv' := [(2, .int v12), (0, .ref (ad G b0)), (1, .ref (ad G b1))]) S.1 S.2.1 dX0_copyFrom_78 hl (k := 2) rfl (by rw [ev12]; rfl) (by decide) rfl (fun ls hl => ?_)
      refine lv_goto (tgt := 57) S.1 S.2.1 dX0_copyFrom_81 (by decide) ?_
      exact ih _ _ h _ _ d _ (lv_sub hl [1, 2, 0] rfl)
set_option maxHeartbeats 4000000 in
set_option maxRecDepth 100000 in
theorem lc_X0_copyFrom_94 {p : Program} {l : Launch} {e : Env} {s : State} {m : MethodId} {args : Array Value} {below : List Frame} {meth : Method} {c : Code} {G : Gx} {L : MemL} {fu : Nat} {b0 : Nat} {b1 : Nat} {z : Mem} (S : Sx G false p s m args meth c cX0_copyFrom 3 RX0) (hr : meth.sig.returnType = (Option.none : Option Jvm.ClassFile.FieldType)) (hb0 : kd b0 = 1) (hb1 : kd b1 = 1) (K : Mem → Option (Mem)) (hK : ∀ (My : Mem) (H : Heap) (locs : List Loc), Dy G s My L H locs → ∀ ls : Array Slot, lv_has ls 3 [] → K My = some z → W p l e rm_X0_copyFrom s m args below meth c H locs 0 0 (MQ below (Qv G z L) args s 0 0 (gA G)) (F0 m 121 ls [])) :
    ∀ (n : Nat) (x2 : Int32) (Mx : Mem), lp_X0_copyFrom_94 fu b0 b1 K n x2 Mx = some z → ∀ (H : Heap) (locs : List Loc), Dy G s Mx L H locs → ∀ ls : Array Slot, lv_has ls 3 [(0, .ref (ad G b0)), (1, .ref (ad G b1)), (2, .int x2)] → W p l e rm_X0_copyFrom s m args below meth c H locs 0 0 (MQ below (Qv G z L) args s 0 0 (gA G)) (F0 m 94 ls []) := by
  intro n
  induction n with
  | zero =>
    intro x2 Mx h
    have h : (none : Option (Mem)) = some z := h
    cases h
  | succ n ih =>
    intro x2 Mx h H locs d ls hl
    rw [lp_X0_copyFrom_94] at h
    refine lv_iload_n S.1 S.2.1 dX0_copyFrom_94 rfl (lv_at hl 2 rfl) ?_
    refine lv_bipush (v := 10) S.1 S.2.1 dX0_copyFrom_95 (by decide) ?_
    refine lv_icmp_ge (tgt := 121) S.1 S.2.1 dX0_copyFrom_97 (by decide) (fun cc => ?_) (fun cc => ?_)
    · replace h := it_p cc h
      exact hK _ _ _ d _ (lv_sub hl [] rfl) h
    · replace h := it_n cc h
      refine lv_aload_n S.1 S.2.1 dX0_copyFrom_100 rfl (lv_at hl 0 rfl) ?_
      refine gf_1_3 S d hb0 fl_RX0_30 dX0_copyFrom_101 ?_
      refine lv_iload_n S.1 S.2.1 dX0_copyFrom_104 rfl (lv_at hl 2 rfl) ?_
      obtain ⟨g15, h⟩ := gd_e h
      refine r_aald S d (ksdC S (ch_1_3 hb0).1) (wc_14 (ch_1_3 hb0).1) rfl rfl g15 rfl dX0_copyFrom_105 ?_
      refine lv_aload_n S.1 S.2.1 dX0_copyFrom_106 rfl (lv_at hl 1 rfl) ?_
      refine gf_1_3 S d hb1 fl_RX0_30 dX0_copyFrom_107 ?_
      refine lv_iload_n S.1 S.2.1 dX0_copyFrom_110 rfl (lv_at hl 2 rfl) ?_
      obtain ⟨g16, h⟩ := gd_e h
      refine r_aald S d (ksdC S (ch_1_3 hb1).1) (wc_14 (ch_1_3 hb1).1) rfl rfl g16 rfl dX0_copyFrom_111 ?_
      obtain ⟨u17, hu17, h⟩ := bd_e h
      refine r_rv d (r_cV (As := [.ref (ad G ((b1 + 3) + 21 + 2 * x2.toNatClampNeg))]) (rest := []) S d (c_X7_copyFrom l G Mx L ((b0 + 3) + 21 + 2 * x2.toNatClampNeg) ((b1 + 3) + 21 + 2 * x2.toNatClampNeg) (ca_14 (ch_1_3 hb0).1 (inb_lt g15)).1 (ca_14 (ch_1_3 hb1).1 (inb_lt g16)).1 hu17) (ksdC S (ca_14 (ch_1_3 hb0).1 (inb_lt g15)).1) (wc_3 (ca_14 (ch_1_3 hb0).1 (inb_lt g15)).1) rfl ml_RX0_55 im_yX7_copyFrom se_yX7_copyFrom in_RX7 co_yX7_copyFrom hyV_X7_copyFrom ⟨rfl, rfl⟩ ⟨by decide, by decide⟩ rfl hl rfl (Nat.le_of_ble_eq_true rfl) dX0_copyFrom_112 ⟨Nat.zero_le _, Nat.zero_le _⟩) (fun H locs d => ?_)
      obtain ⟨v18, ev18, h⟩ := lt_e h
      refine lv_iinc (v := v18) (lv' := [(2, .int v18), (0, .ref (ad G b0)), (1, .ref (ad G b1))]) S.1 S.2.1 dX0_copyFrom_115 hl (k := 2) rfl (by rw [ev18]; rfl) (by decide) rfl (fun ls hl => ?_)
      refine lv_goto (tgt := 94) S.1 S.2.1 dX0_copyFrom_118 (by decide) ?_
      exact ih _ _ h _ _ d _ (lv_sub hl [1, 2, 0] rfl)
set_option maxHeartbeats 4000000 in
set_option maxRecDepth 100000 in
theorem c_X0_copyFrom (l : Launch) (G : Gx) (M : Mem) (L : MemL) (fu : Nat) (k0 : Nat) (k1 : Nat) (hk0 : kd k0 = 1) (hk1 : kd k1 = 1) {z : Mem} (h : f_X0_copyFrom fu M k0 k1 = some z) : Met l yX0_copyFrom (.code yX0_copyFrom cX0_copyFrom 3 (Option.none : Option Jvm.ClassFile.FieldType) :: UW) rm_X0_copyFrom (va_Pc [.ref (ad G k0), .ref (ad G k1)] (PreG G false M L)) (Qv G z L) 0 0 (gA G) := by
  refine r_in (by decide) (fun p e s m args below meth c S hr d ha ls hl => ?_) (Nat.le_of_ble_eq_true rfl)
  have S : Sx G false p s m args meth c cX0_copyFrom 3 RX0 := S
  have hl : lv_has ls 3 [(0, .ref (ad G k0)), (1, .ref (ad G k1))] := hl
  unfold f_X0_copyFrom at h
  refine lv_aload_n S.1 S.2.1 dX0_copyFrom_0 rfl (lv_at hl 1 rfl) ?_
  refine gf_1_0 S d hk1 fl_RX0_13 dX0_copyFrom_1 ?_
  refine lv_iconst (v := 0) S.1 S.2.1 dX0_copyFrom_4 (by decide) ?_
  refine lv_aload_n S.1 S.2.1 dX0_copyFrom_5 rfl (lv_at hl 0 rfl) ?_
  refine gf_1_0 S d hk0 fl_RX0_13 dX0_copyFrom_6 ?_
  refine lv_iconst (v := 0) S.1 S.2.1 dX0_copyFrom_9 (by decide) ?_
  refine r_gst S d S.2.2.2.2.2.2.2.1.2.2.1 (Or.inr ⟨_, va_Nw.use rfl (nv_RX0_9 S.2.2.2.2.2.2.2.1.2.2.2)⟩) dX0_copyFrom_10 (fun t1 ht1 => ?_)
  refine r_tlen S d ht1 (v := 4) rfl dX0_copyFrom_13 ?_
  obtain ⟨g3, h⟩ := gd_e h
  obtain ⟨M2, eM2, h⟩ := lt_e h
  refine r_cpy S d hl eM2 (ksdC S (ch_1_0 hk1).1) (ksdC S (ch_1_0 hk0).1) (fun _ => wc_10 (ch_1_0 hk1).1) (fun _ => wc_10 (ch_1_0 hk0).1) (ch_1_0 hk1).2 (ch_1_0 hk0).2 g3 ml_RX0_43 ⟨by decide, Nat.le_of_ble_eq_true rfl⟩ dX0_copyFrom_14 (fun H locs d => ?_)
  refine lv_aload_n S.1 S.2.1 dX0_copyFrom_17 rfl (lv_at hl 1 rfl) ?_
  refine gf_1_5 S d hk1 fl_RX0_37 dX0_copyFrom_18 ?_
  refine lv_iconst (v := 0) S.1 S.2.1 dX0_copyFrom_21 (by decide) ?_
  refine lv_aload_n S.1 S.2.1 dX0_copyFrom_22 rfl (lv_at hl 0 rfl) ?_
  refine gf_1_5 S d hk0 fl_RX0_37 dX0_copyFrom_23 ?_
  refine lv_iconst (v := 0) S.1 S.2.1 dX0_copyFrom_26 (by decide) ?_
  refine lv_bipush (v := 6) S.1 S.2.1 dX0_copyFrom_27 (by decide) ?_
  obtain ⟨g5, h⟩ := gd_e h
  obtain ⟨M4, eM4, h⟩ := lt_e h
  refine r_cpy S d hl eM4 (ksdC S (ch_1_5 hk1).1) (ksdC S (ch_1_5 hk0).1) (fun _ => wc_10 (ch_1_5 hk1).1) (fun _ => wc_10 (ch_1_5 hk0).1) (ch_1_5 hk1).2 (ch_1_5 hk0).2 g5 ml_RX0_43 ⟨by decide, Nat.le_of_ble_eq_true rfl⟩ dX0_copyFrom_29 (fun H locs d => ?_)
  refine lv_aload_n S.1 S.2.1 dX0_copyFrom_32 rfl (lv_at hl 1 rfl) ?_
  refine gf_1_6 S d hk1 fl_RX0_40 dX0_copyFrom_33 ?_
  refine lv_iconst (v := 0) S.1 S.2.1 dX0_copyFrom_36 (by decide) ?_
  refine lv_aload_n S.1 S.2.1 dX0_copyFrom_37 rfl (lv_at hl 0 rfl) ?_
  refine gf_1_6 S d hk0 fl_RX0_40 dX0_copyFrom_38 ?_
  refine lv_iconst (v := 0) S.1 S.2.1 dX0_copyFrom_41 (by decide) ?_
  refine lv_bipush (v := 6) S.1 S.2.1 dX0_copyFrom_42 (by decide) ?_
  obtain ⟨g7, h⟩ := gd_e h
  obtain ⟨M6, eM6, h⟩ := lt_e h
  refine r_cpy S d hl eM6 (ksdC S (ch_1_6 hk1).1) (ksdC S (ch_1_6 hk0).1) (fun _ => wc_10 (ch_1_6 hk1).1) (fun _ => wc_10 (ch_1_6 hk0).1) (ch_1_6 hk1).2 (ch_1_6 hk0).2 g7 ml_RX0_43 ⟨by decide, Nat.le_of_ble_eq_true rfl⟩ dX0_copyFrom_44 (fun H locs d => ?_)
  refine lv_aload_n S.1 S.2.1 dX0_copyFrom_47 rfl (lv_at hl 0 rfl) ?_
  refine lv_aload_n S.1 S.2.1 dX0_copyFrom_48 rfl (lv_at hl 1 rfl) ?_
  refine gf_1_2 S d hk1 fl_RX0_24 dX0_copyFrom_49 ?_
  obtain ⟨M8, eM8, h⟩ := lt_e h
  refine pf_1_2 S d eM8 hk0 fl_RX0_24 dX0_copyFrom_52 (fun H locs d => ?_)
  refine lv_iconst (v := 0) S.1 S.2.1 dX0_copyFrom_55 (by decide) ?_
  refine lv_istore_n (lv' := [(2, .int (0 : Int32)), (0, .ref (ad G k0)), (1, .ref (ad G k1))]) S.1 S.2.1 dX0_copyFrom_56 rfl hl (by decide) rfl (fun ls hl => ?_)
  refine lc_X0_copyFrom_57 S hr hk0 hk1 _ (fun M13 H locs d ls hl h => ?_) _ _ _  h _ _ d _ (lv_sub hl [1, 2, 0] rfl)
  refine lv_aload_n S.1 S.2.1 dX0_copyFrom_84 rfl (lv_at hl 0 rfl) ?_
  refine lv_aload_n S.1 S.2.1 dX0_copyFrom_85 rfl (lv_at hl 1 rfl) ?_
  refine gf_1_4 S d hk1 fl_RX0_34 dX0_copyFrom_86 ?_
  obtain ⟨M14, eM14, h⟩ := lt_e h
  refine pf_1_4 S d eM14 hk0 fl_RX0_34 dX0_copyFrom_89 (fun H locs d => ?_)
  refine lv_iconst (v := 0) S.1 S.2.1 dX0_copyFrom_92 (by decide) ?_
  refine lv_istore_n (lv' := [(2, .int (0 : Int32)), (0, .ref (ad G k0)), (1, .ref (ad G k1))]) S.1 S.2.1 dX0_copyFrom_93 rfl hl (by decide) rfl (fun ls hl => ?_)
  refine lc_X0_copyFrom_94 S hr hk0 hk1 _ (fun M19 H locs d ls hl h => ?_) _ _ _  h _ _ d _ (lv_sub hl [1, 2, 0] rfl)
  obtain rfl := Option.some.inj h
  exact r_vret S d hr dX0_copyFrom_121
theorem hyV_X8_image : yX8_image.cls = RX8 ∧ yX8_image.cls ≠ "java/lang/invoke/MethodHandle" ∧ yX8_image.cls ≠ "java/lang/invoke/VarHandle" ∧ (parseMethodDescriptor yX8_image.desc).map (fun d => d.parameters.length) = some 0 := by decide +kernel
abbrev rm_X8_image : Room := { frames := 3, cells := 0, slots := 0, locals := 69 }
def f_X8_image (fu : Nat) (M : Mem) (k0 : Nat) : Option (Int32 × Mem) :=
  (f_X0_copyFrom fu M (k0 + 45) (k0 + 1)).bind (fun u1 =>
  lt (up u1 k0 2 (1 : Int32)) (fun M2 : Mem =>
  some ((1 : Int32), M2)))
set_option maxHeartbeats 4000000 in
set_option maxRecDepth 100000 in
theorem c_X8_image (l : Launch) (G : Gx) (M : Mem) (L : MemL) (fu : Nat) (k0 : Nat) (hk0 : kd k0 = 0) {z : Int32 × Mem} (h : f_X8_image fu M k0 = some z) : Met l yX8_image (.code yX8_image cX8_image 1 (Option.some Jvm.ClassFile.FieldType.int) :: UW) rm_X8_image (va_Pc [.ref (ad G k0)] (PreG G false M L)) (Qi G z.1 z.2 L) 0 0 (gA G) := by
  refine r_in (by decide) (fun p e s m args below meth c S hr d ha ls hl => ?_) (Nat.le_of_ble_eq_true rfl)
  have S : Sx G false p s m args meth c cX8_image 1 RX8 := S
  have hl : lv_has ls 1 [(0, .ref (ad G k0))] := hl
  unfold f_X8_image at h
  refine lv_aload_n S.1 S.2.1 dX8_image_0 rfl (lv_at hl 0 rfl) ?_
  refine gf_0_1 S d hk0 fl_RX8_16 dX8_image_1 ?_
  refine lv_aload_n S.1 S.2.1 dX8_image_4 rfl (lv_at hl 0 rfl) ?_
  refine gf_0_0 S d hk0 fl_RX8_12 dX8_image_5 ?_
  obtain ⟨u1, hu1, h⟩ := bd_e h
  refine r_rv d (r_cV (As := [.ref (ad G (k0 + 1))]) (rest := []) S d (c_X0_copyFrom l G M L fu (k0 + 45) (k0 + 1) (ch_0_1 hk0).1 (ch_0_0 hk0).1 hu1) (ksdC S (ch_0_1 hk0).1) (wc_1 (ch_0_1 hk0).1) rfl ml_RX8_225 im_yX0_copyFrom se_yX0_copyFrom in_RX0 co_yX0_copyFrom hyV_X0_copyFrom ⟨rfl, rfl⟩ ⟨by decide, by decide⟩ rfl hl rfl (Nat.le_of_ble_eq_true rfl) dX8_image_8 ⟨Nat.zero_le _, Nat.zero_le _⟩) (fun H locs d => ?_)
  refine lv_aload_n S.1 S.2.1 dX8_image_11 rfl (lv_at hl 0 rfl) ?_
  refine lv_iconst (v := 1) S.1 S.2.1 dX8_image_12 (by decide) ?_
  obtain ⟨M2, eM2, h⟩ := lt_e h
  refine pf_0_2 S d eM2 (by decide) hk0 fl_RX8_19 dX8_image_13 (fun H locs d => ?_)
  refine lv_iconst (v := 1) S.1 S.2.1 dX8_image_16 (by decide) ?_
  obtain rfl := Option.some.inj h
  exact r_iret S d hr rfl rfl dX8_image_17
theorem hyV_X8_restore : yX8_restore.cls = RX8 ∧ yX8_restore.cls ≠ "java/lang/invoke/MethodHandle" ∧ yX8_restore.cls ≠ "java/lang/invoke/VarHandle" ∧ (parseMethodDescriptor yX8_restore.desc).map (fun d => d.parameters.length) = some 0 := by decide +kernel
abbrev rm_X8_restore : Room := { frames := 3, cells := 0, slots := 0, locals := 69 }
def f_X8_restore (fu : Nat) (M : Mem) (k0 : Nat) : Option (Int32 × Mem) :=
  (if (M k0 2) = 0 then some ((-4 : Int32), M)
  else (f_X0_copyFrom fu M (k0 + 1) (k0 + 45)).bind (fun u1 =>
    some ((1 : Int32), u1)))
set_option maxHeartbeats 4000000 in
set_option maxRecDepth 100000 in
theorem c_X8_restore (l : Launch) (G : Gx) (M : Mem) (L : MemL) (fu : Nat) (k0 : Nat) (hk0 : kd k0 = 0) {z : Int32 × Mem} (h : f_X8_restore fu M k0 = some z) : Met l yX8_restore (.code yX8_restore cX8_restore 1 (Option.some Jvm.ClassFile.FieldType.int) :: UW) rm_X8_restore (va_Pc [.ref (ad G k0)] (PreG G false M L)) (Qi G z.1 z.2 L) 0 0 (gA G) := by
  refine r_in (by decide) (fun p e s m args below meth c S hr d ha ls hl => ?_) (Nat.le_of_ble_eq_true rfl)
  have S : Sx G false p s m args meth c cX8_restore 1 RX8 := S
  have hl : lv_has ls 1 [(0, .ref (ad G k0))] := hl
  unfold f_X8_restore at h
  refine lv_aload_n S.1 S.2.1 dX8_restore_0 rfl (lv_at hl 0 rfl) ?_
  refine gf_0_2 S d hk0 fl_RX8_19 dX8_restore_1 ?_
  refine lv_if_ne (tgt := 10) S.1 S.2.1 dX8_restore_4 (by decide) (fun cc => ?_) (fun cc => ?_)
  · replace h := it_n cc h
    refine lv_aload_n S.1 S.2.1 dX8_restore_10 rfl (lv_at hl 0 rfl) ?_
    refine gf_0_0 S d hk0 fl_RX8_12 dX8_restore_11 ?_
    refine lv_aload_n S.1 S.2.1 dX8_restore_14 rfl (lv_at hl 0 rfl) ?_
    refine gf_0_1 S d hk0 fl_RX8_16 dX8_restore_15 ?_
    obtain ⟨u1, hu1, h⟩ := bd_e h
    refine r_rv d (r_cV (As := [.ref (ad G (k0 + 45))]) (rest := []) S d (c_X0_copyFrom l G M L fu (k0 + 1) (k0 + 45) (ch_0_0 hk0).1 (ch_0_1 hk0).1 hu1) (ksdC S (ch_0_0 hk0).1) (wc_1 (ch_0_0 hk0).1) rfl ml_RX8_225 im_yX0_copyFrom se_yX0_copyFrom in_RX0 co_yX0_copyFrom hyV_X0_copyFrom ⟨rfl, rfl⟩ ⟨by decide, by decide⟩ rfl hl rfl (Nat.le_of_ble_eq_true rfl) dX8_restore_18 ⟨Nat.zero_le _, Nat.zero_le _⟩) (fun H locs d => ?_)
    refine lv_iconst (v := 1) S.1 S.2.1 dX8_restore_21 (by decide) ?_
    obtain rfl := Option.some.inj h
    exact r_iret S d hr rfl rfl dX8_restore_22
  · replace h := it_p cc h
    refine lv_bipush (v := (-4)) S.1 S.2.1 dX8_restore_7 (by decide) ?_
    obtain rfl := Option.some.inj h
    exact r_iret S d hr rfl rfl dX8_restore_9
theorem hyS_X8_isSheet : yX8_isSheet.cls ≠ "java/lang/invoke/MethodHandle" ∧ yX8_isSheet.cls ≠ "java/lang/invoke/VarHandle" ∧ (parseMethodDescriptor yX8_isSheet.desc).map (fun d => d.parameters.length) = some 2 := by decide +kernel
abbrev rm_X8_isSheet : Room := { frames := 1, cells := 0, slots := 0, locals := 21 }
def f_X8_isSheet (a0 : Int32) (a1 : Int32) : Option (Int32) :=
  (f_X8_isBelow a0 (4 : Int32)).bind (fun u1 =>
  (if u1 = 0 then some ((0 : Int32))
  else (f_X8_isBelow a1 (3 : Int32)).bind (fun u2 =>
    (if u2 = 0 then some ((0 : Int32))
    else some ((1 : Int32))))))
set_option maxHeartbeats 4000000 in
set_option maxRecDepth 100000 in
theorem c_X8_isSheet (l : Launch) (G : Gx) (M : Mem) (L : MemL) (a0 : Int32) (a1 : Int32) {z : Int32} (h : f_X8_isSheet a0 a1 = some z) : Met l yX8_isSheet (.code yX8_isSheet cX8_isSheet 2 (Option.some Jvm.ClassFile.FieldType.boolean) :: UW) rm_X8_isSheet (va_Pc [.int a0, .int a1] (PreG G false M L)) (Qi G z M L) 0 0 (gA G) := by
  refine r_in (by decide) (fun p e s m args below meth c S hr d ha ls hl => ?_) (Nat.le_of_ble_eq_true rfl)
  have S : Sx G false p s m args meth c cX8_isSheet 2 RX8 := S
  have hl : lv_has ls 2 [(0, .int a0), (1, .int a1)] := hl
  unfold f_X8_isSheet at h
  refine lv_iload_n S.1 S.2.1 dX8_isSheet_0 rfl (lv_at hl 0 rfl) ?_
  refine lv_iconst (v := 4) S.1 S.2.1 dX8_isSheet_1 (by decide) ?_
  obtain ⟨u1, hu1, h⟩ := bd_e h
  refine r_ri d (r_cS (As := [.int a0, .int (4 : Int32)]) (rest := []) S d (c_X8_isBelow l G M L a0 (4 : Int32) hu1) ml_RX8_51 sm_yX8_isBelow in_RX8 co_yX8_isBelow hyS_X8_isBelow ⟨rfl, rfl⟩ ⟨by decide, by decide⟩ rfl hl rfl (Nat.le_of_ble_eq_true rfl) dX8_isSheet_2 ⟨Nat.zero_le _, Nat.zero_le _⟩) (fun H locs d => ?_)
  refine lv_if_eq (tgt := 20) S.1 S.2.1 dX8_isSheet_5 (by decide) (fun cc => ?_) (fun cc => ?_)
  · replace h := it_p cc h
    refine lv_iconst (v := 0) S.1 S.2.1 dX8_isSheet_20 (by decide) ?_
    obtain rfl := Option.some.inj h
    exact r_iret S d hr rfl rfl dX8_isSheet_21
  · replace h := it_n cc h
    refine lv_iload_n S.1 S.2.1 dX8_isSheet_8 rfl (lv_at hl 1 rfl) ?_
    refine lv_iconst (v := 3) S.1 S.2.1 dX8_isSheet_9 (by decide) ?_
    obtain ⟨u2, hu2, h⟩ := bd_e h
    refine r_ri d (r_cS (As := [.int a1, .int (3 : Int32)]) (rest := []) S d (c_X8_isBelow l G M L a1 (3 : Int32) hu2) ml_RX8_51 sm_yX8_isBelow in_RX8 co_yX8_isBelow hyS_X8_isBelow ⟨rfl, rfl⟩ ⟨by decide, by decide⟩ rfl hl rfl (Nat.le_of_ble_eq_true rfl) dX8_isSheet_10 ⟨Nat.zero_le _, Nat.zero_le _⟩) (fun H locs d => ?_)
    refine lv_if_eq (tgt := 20) S.1 S.2.1 dX8_isSheet_13 (by decide) (fun cc => ?_) (fun cc => ?_)
    · replace h := it_p cc h
      refine lv_iconst (v := 0) S.1 S.2.1 dX8_isSheet_20 (by decide) ?_
      obtain rfl := Option.some.inj h
      exact r_iret S d hr rfl rfl dX8_isSheet_21
    · replace h := it_n cc h
      refine lv_iconst (v := 1) S.1 S.2.1 dX8_isSheet_16 (by decide) ?_
      refine lv_goto (tgt := 21) S.1 S.2.1 dX8_isSheet_17 (by decide) ?_
      obtain rfl := Option.some.inj h
      exact r_iret S d hr rfl rfl dX8_isSheet_21
theorem hyV_X3_refusal : yX3_refusal.cls = RX3 ∧ yX3_refusal.cls ≠ "java/lang/invoke/MethodHandle" ∧ yX3_refusal.cls ≠ "java/lang/invoke/VarHandle" ∧ (parseMethodDescriptor yX3_refusal.desc).map (fun d => d.parameters.length) = some 3 := by decide +kernel
abbrev rm_X3_refusal : Room := { frames := 0, cells := 0, slots := 0, locals := 0 }
def f_X3_refusal (M : Mem) (k0 : Nat) (a1 : Int32) (a2 : Int32) (a3 : Int32) : Option (Int32) :=
  (if (M k0 0) = (-1 : Int32) then some ((-11 : Int32))
  else (if (M k0 0) = a1 then (if a2 < 0 then some ((-13 : Int32))
      else (if a2 ≤ ((M k0 1) - a3) then some ((0 : Int32))
        else some ((-13 : Int32))))
    else some ((-12 : Int32))))
set_option maxHeartbeats 4000000 in
set_option maxRecDepth 100000 in
theorem c_X3_refusal (l : Launch) (G : Gx) (M : Mem) (L : MemL) (k0 : Nat) (a1 : Int32) (a2 : Int32) (a3 : Int32) (hk0 : kd k0 = 7) {z : Int32} (h : f_X3_refusal M k0 a1 a2 a3 = some z) : Met l yX3_refusal (.code yX3_refusal cX3_refusal 4 (Option.some Jvm.ClassFile.FieldType.int) :: UW) rm_X3_refusal (va_Pc [.ref (ad G k0), .int a1, .int a2, .int a3] (PreG G false M L)) (Qi G z M L) 0 0 (gA G) := by
  refine r_in (by decide) (fun p e s m args below meth c S hr d ha ls hl => ?_) (Nat.le_of_ble_eq_true rfl)
  have S : Sx G false p s m args meth c cX3_refusal 4 RX3 := S
  have hl : lv_has ls 4 [(0, .ref (ad G k0)), (1, .int a1), (2, .int a2), (3, .int a3)] := hl
  unfold f_X3_refusal at h
  refine lv_aload_n S.1 S.2.1 dX3_refusal_0 rfl (lv_at hl 0 rfl) ?_
  refine gf_7_0 S d hk0 fl_RX3_9 dX3_refusal_1 ?_
  refine lv_iconst (v := (-1)) S.1 S.2.1 dX3_refusal_4 (by decide) ?_
  refine lv_icmp_ne (tgt := 11) S.1 S.2.1 dX3_refusal_5 (by decide) (fun cc => ?_) (fun cc => ?_)
  · replace h := it_n cc h
    refine lv_aload_n S.1 S.2.1 dX3_refusal_11 rfl (lv_at hl 0 rfl) ?_
    refine gf_7_0 S d hk0 fl_RX3_9 dX3_refusal_12 ?_
    refine lv_iload_n S.1 S.2.1 dX3_refusal_15 rfl (lv_at hl 1 rfl) ?_
    refine lv_icmp_eq (tgt := 22) S.1 S.2.1 dX3_refusal_16 (by decide) (fun cc => ?_) (fun cc => ?_)
    · replace h := it_p cc h
      refine lv_iload_n S.1 S.2.1 dX3_refusal_22 rfl (lv_at hl 2 rfl) ?_
      refine lv_if_lt (tgt := 36) S.1 S.2.1 dX3_refusal_23 (by decide) (fun cc => ?_) (fun cc => ?_)
      · replace h := it_p cc h
        refine lv_bipush (v := (-13)) S.1 S.2.1 dX3_refusal_36 (by decide) ?_
        refine lv_goto (tgt := 42) S.1 S.2.1 dX3_refusal_38 (by decide) ?_
        obtain rfl := Option.some.inj h
        exact r_iret S d hr rfl rfl dX3_refusal_42
      · replace h := it_n cc h
        refine lv_iload_n S.1 S.2.1 dX3_refusal_26 rfl (lv_at hl 2 rfl) ?_
        refine lv_aload_n S.1 S.2.1 dX3_refusal_27 rfl (lv_at hl 0 rfl) ?_
        refine gf_7_1 S d hk0 fl_RX3_15 dX3_refusal_28 ?_
        refine lv_iload_n S.1 S.2.1 dX3_refusal_31 rfl (lv_at hl 3 rfl) ?_
        refine lv_isub S.1 S.2.1 dX3_refusal_32 ?_
        refine lv_icmp_le (tgt := 41) S.1 S.2.1 dX3_refusal_33 (by decide) (fun cc => ?_) (fun cc => ?_)
        · replace h := it_p cc h
          refine lv_iconst (v := 0) S.1 S.2.1 dX3_refusal_41 (by decide) ?_
          obtain rfl := Option.some.inj h
          exact r_iret S d hr rfl rfl dX3_refusal_42
        · replace h := it_n cc h
          refine lv_bipush (v := (-13)) S.1 S.2.1 dX3_refusal_36 (by decide) ?_
          refine lv_goto (tgt := 42) S.1 S.2.1 dX3_refusal_38 (by decide) ?_
          obtain rfl := Option.some.inj h
          exact r_iret S d hr rfl rfl dX3_refusal_42
    · replace h := it_n cc h
      refine lv_bipush (v := (-12)) S.1 S.2.1 dX3_refusal_19 (by decide) ?_
      obtain rfl := Option.some.inj h
      exact r_iret S d hr rfl rfl dX3_refusal_21
  · replace h := it_p cc h
    refine lv_bipush (v := (-11)) S.1 S.2.1 dX3_refusal_8 (by decide) ?_
    obtain rfl := Option.some.inj h
    exact r_iret S d hr rfl rfl dX3_refusal_10
theorem hyV_X3_holdsGrass : yX3_holdsGrass.cls = RX3 ∧ yX3_holdsGrass.cls ≠ "java/lang/invoke/MethodHandle" ∧ yX3_holdsGrass.cls ≠ "java/lang/invoke/VarHandle" ∧ (parseMethodDescriptor yX3_holdsGrass.desc).map (fun d => d.parameters.length) = some 1 := by decide +kernel
abbrev rm_X3_holdsGrass : Room := { frames := 0, cells := 0, slots := 0, locals := 0 }
def lp_X3_holdsGrass_2 (fu : Nat) (M : Mem) (b0 : Nat) (b1 : Int32) (K : Unit → Option (Int32)) : Nat → Int32 → Option (Int32)
  | 0, _ => none
  | n + 1, x2 =>
    (if (b1 + (15 : Int32)) ≤ x2 then (K ())
    else gd (inb x2 24) (
      (if (M (b0 + 1) x2.toNatClampNeg) < 0 then some ((0 : Int32))
      else gd (inb x2 24) (
        (if (M (b0 + 1) x2.toNatClampNeg) ≤ (9 : Int32) then lt (x2 + 1) (fun v3 : Int32 =>
          (lp_X3_holdsGrass_2 fu M b0 b1 K n v3))
        else some ((0 : Int32)))))))
def f_X3_holdsGrass (fu : Nat) (M : Mem) (k0 : Nat) (a1 : Int32) : Option (Int32) :=
  (lp_X3_holdsGrass_2 fu M k0 a1 (fun (_ : Unit) =>
    some ((1 : Int32))) fu a1)
set_option maxHeartbeats 4000000 in
set_option maxRecDepth 100000 in
theorem lc_X3_holdsGrass_2 {p : Program} {l : Launch} {e : Env} {s : State} {m : MethodId} {args : Array Value} {below : List Frame} {meth : Method} {c : Code} {G : Gx} {M : Mem} {L : MemL} {fu : Nat} {b0 : Nat} {b1 : Int32} {z : Int32} (S : Sx G false p s m args meth c cX3_holdsGrass 3 RX3) (hr : meth.sig.returnType = (Option.some Jvm.ClassFile.FieldType.boolean)) (hb0 : kd b0 = 7) (K : Unit → Option (Int32)) (hK : ∀ (_ : Unit) (H : Heap) (locs : List Loc), Dy G s M L H locs → ∀ ls : Array Slot, lv_has ls 3 [] → K () = some z → W p l e rm_X3_holdsGrass s m args below meth c H locs 0 0 (MQ below (Qi G z M L) args s 0 0 (gA G)) (F0 m 38 ls [])) :
    ∀ (n : Nat) (x2 : Int32), lp_X3_holdsGrass_2 fu M b0 b1 K n x2 = some z → ∀ (H : Heap) (locs : List Loc), Dy G s M L H locs → ∀ ls : Array Slot, lv_has ls 3 [(0, .ref (ad G b0)), (1, .int b1), (2, .int x2)] → W p l e rm_X3_holdsGrass s m args below meth c H locs 0 0 (MQ below (Qi G z M L) args s 0 0 (gA G)) (F0 m 2 ls []) := by
  intro n
  induction n with
  | zero =>
    intro x2 h
    have h : (none : Option (Int32)) = some z := h
    cases h
  | succ n ih =>
    intro x2 h H locs d ls hl
    rw [lp_X3_holdsGrass_2] at h
    refine lv_iload_n S.1 S.2.1 dX3_holdsGrass_2 rfl (lv_at hl 2 rfl) ?_
    refine lv_iload_n S.1 S.2.1 dX3_holdsGrass_3 rfl (lv_at hl 1 rfl) ?_
    refine lv_bipush (v := 15) S.1 S.2.1 dX3_holdsGrass_4 (by decide) ?_
    refine lv_iadd S.1 S.2.1 dX3_holdsGrass_6 ?_
    refine lv_icmp_ge (tgt := 38) S.1 S.2.1 dX3_holdsGrass_7 (by decide) (fun cc => ?_) (fun cc => ?_)
    · replace h := it_p cc h
      exact hK () _ _ d _ (lv_sub hl [] rfl) h
    · replace h := it_n cc h
      refine lv_aload_n S.1 S.2.1 dX3_holdsGrass_10 rfl (lv_at hl 0 rfl) ?_
      refine gf_7_2 S d hb0 fl_RX3_18 dX3_holdsGrass_11 ?_
      refine lv_iload_n S.1 S.2.1 dX3_holdsGrass_14 rfl (lv_at hl 2 rfl) ?_
      obtain ⟨g1, h⟩ := gd_e h
      refine r_iald S d (ksdC S (ch_7_2 hb0).1) (wc_10 (ch_7_2 hb0).1) (ch_7_2 hb0).2 g1 dX3_holdsGrass_15 ?_
      refine lv_if_lt (tgt := 30) S.1 S.2.1 dX3_holdsGrass_16 (by decide) (fun cc => ?_) (fun cc => ?_)
      · replace h := it_p cc h
        refine lv_iconst (v := 0) S.1 S.2.1 dX3_holdsGrass_30 (by decide) ?_
        obtain rfl := Option.some.inj h
        exact r_iret S d hr rfl rfl dX3_holdsGrass_31
      · replace h := it_n cc h
        refine lv_aload_n S.1 S.2.1 dX3_holdsGrass_19 rfl (lv_at hl 0 rfl) ?_
        refine gf_7_2 S d hb0 fl_RX3_18 dX3_holdsGrass_20 ?_
        refine lv_iload_n S.1 S.2.1 dX3_holdsGrass_23 rfl (lv_at hl 2 rfl) ?_
        obtain ⟨g2, h⟩ := gd_e h
        refine r_iald S d (ksdC S (ch_7_2 hb0).1) (wc_10 (ch_7_2 hb0).1) (ch_7_2 hb0).2 g2 dX3_holdsGrass_24 ?_
        refine lv_bipush (v := 9) S.1 S.2.1 dX3_holdsGrass_25 (by decide) ?_
        refine lv_icmp_le (tgt := 32) S.1 S.2.1 dX3_holdsGrass_27 (by decide) (fun cc => ?_) (fun cc => ?_)
        · replace h := it_p cc h
          obtain ⟨v3, ev3, h⟩ := lt_e h
          refine lv_iinc (v := v3) (lv' := [(2, .int v3), (0, .ref (ad G b0)), (1, .int b1)]) S.1 S.2.1 dX3_holdsGrass_32 hl (k := 2) rfl (by rw [ev3]; rfl) (by decide) rfl (fun ls hl => ?_)
          refine lv_goto (tgt := 2) S.1 S.2.1 dX3_holdsGrass_35 (by decide) ?_
          exact ih _ h _ _ d _ (lv_sub hl [1, 2, 0] rfl)
        · replace h := it_n cc h
          refine lv_iconst (v := 0) S.1 S.2.1 dX3_holdsGrass_30 (by decide) ?_
          obtain rfl := Option.some.inj h
          exact r_iret S d hr rfl rfl dX3_holdsGrass_31
set_option maxHeartbeats 4000000 in
set_option maxRecDepth 100000 in
theorem c_X3_holdsGrass (l : Launch) (G : Gx) (M : Mem) (L : MemL) (fu : Nat) (k0 : Nat) (a1 : Int32) (hk0 : kd k0 = 7) {z : Int32} (h : f_X3_holdsGrass fu M k0 a1 = some z) : Met l yX3_holdsGrass (.code yX3_holdsGrass cX3_holdsGrass 3 (Option.some Jvm.ClassFile.FieldType.boolean) :: UW) rm_X3_holdsGrass (va_Pc [.ref (ad G k0), .int a1] (PreG G false M L)) (Qi G z M L) 0 0 (gA G) := by
  refine r_in (by decide) (fun p e s m args below meth c S hr d ha ls hl => ?_) (Nat.le_of_ble_eq_true rfl)
  have S : Sx G false p s m args meth c cX3_holdsGrass 3 RX3 := S
  have hl : lv_has ls 3 [(0, .ref (ad G k0)), (1, .int a1)] := hl
  unfold f_X3_holdsGrass at h
  refine lv_iload_n S.1 S.2.1 dX3_holdsGrass_0 rfl (lv_at hl 1 rfl) ?_
  refine lv_istore_n (lv' := [(2, .int a1), (0, .ref (ad G k0)), (1, .int a1)]) S.1 S.2.1 dX3_holdsGrass_1 rfl hl (by decide) rfl (fun ls hl => ?_)
  refine lc_X3_holdsGrass_2 S hr hk0 _ (fun _ H locs d ls hl h => ?_) _ _  h _ _ d _ (lv_sub hl [1, 2, 0] rfl)
  refine lv_iconst (v := 1) S.1 S.2.1 dX3_holdsGrass_38 (by decide) ?_
  obtain rfl := Option.some.inj h
  exact r_iret S d hr rfl rfl dX3_holdsGrass_39
theorem hyV_X4_sowFrom : yX4_sowFrom.cls = RX4 ∧ yX4_sowFrom.cls ≠ "java/lang/invoke/MethodHandle" ∧ yX4_sowFrom.cls ≠ "java/lang/invoke/VarHandle" ∧ (parseMethodDescriptor yX4_sowFrom.desc).map (fun d => d.parameters.length) = some 2 := by decide +kernel
abbrev rm_X4_sowFrom : Room := { frames := 1, cells := 0, slots := 0, locals := 26 }
def f_X4_sowFrom (fu : Nat) (M : Mem) (k0 : Nat) (k1 : Nat) (a2 : Int32) : Option (Int32 × Mem) :=
  gd (decide (¬ a2 < 0 ∧ ¬ (0 : Int32) < 0 ∧ ¬ (15 : Int32) < 0 ∧ a2.toNatClampNeg + (15 : Int32).toNatClampNeg ≤ (ln k1) ∧ (0 : Int32).toNatClampNeg + (15 : Int32).toNatClampNeg ≤ 15)) (
  lt (upR M (k0 + 1) (va_cpy (M k1) (M (k0 + 1)) a2.toNatClampNeg (0 : Int32).toNatClampNeg (15 : Int32).toNatClampNeg)) (fun M1 : Mem =>
  (f_X4_grassOf fu M1 k0 (32767 : Int32)).bind (fun u3 =>
  some (u3, M1))))
set_option maxHeartbeats 4000000 in
set_option maxRecDepth 100000 in
theorem c_X4_sowFrom (l : Launch) (G : Gx) (M : Mem) (L : MemL) (fu : Nat) (k0 : Nat) (k1 : Nat) (a2 : Int32) (hk0 : kd k0 = 2) (hk1 : kd k1 = 10) {z : Int32 × Mem} (h : f_X4_sowFrom fu M k0 k1 a2 = some z) : Met l yX4_sowFrom (.code yX4_sowFrom cX4_sowFrom 3 (Option.some Jvm.ClassFile.FieldType.int) :: UW) rm_X4_sowFrom (va_Pc [.ref (ad G k0), .ref (ad G k1), .int a2] (PreG G false M L)) (Qi G z.1 z.2 L) 0 0 (gA G) := by
  refine r_in (by decide) (fun p e s m args below meth c S hr d ha ls hl => ?_) (Nat.le_of_ble_eq_true rfl)
  have S : Sx G false p s m args meth c cX4_sowFrom 3 RX4 := S
  have hl : lv_has ls 3 [(0, .ref (ad G k0)), (1, .ref (ad G k1)), (2, .int a2)] := hl
  unfold f_X4_sowFrom at h
  refine lv_aload_n S.1 S.2.1 dX4_sowFrom_0 rfl (lv_at hl 1 rfl) ?_
  refine lv_iload_n S.1 S.2.1 dX4_sowFrom_1 rfl (lv_at hl 2 rfl) ?_
  refine lv_aload_n S.1 S.2.1 dX4_sowFrom_2 rfl (lv_at hl 0 rfl) ?_
  refine gf_2_1 S d hk0 fl_RX4_15 dX4_sowFrom_3 ?_
  refine lv_iconst (v := 0) S.1 S.2.1 dX4_sowFrom_6 (by decide) ?_
  refine lv_bipush (v := 15) S.1 S.2.1 dX4_sowFrom_7 (by decide) ?_
  obtain ⟨g2, h⟩ := gd_e h
  obtain ⟨M1, eM1, h⟩ := lt_e h
  refine r_cpy S d hl eM1 (ksdC S hk1) (ksdC S (ch_2_1 hk0).1) (fun _ => wc_10 hk1) (fun _ => wc_10 (ch_2_1 hk0).1) rfl (ch_2_1 hk0).2 g2 ml_RX4_25 ⟨by decide, Nat.le_of_ble_eq_true rfl⟩ dX4_sowFrom_9 (fun H locs d => ?_)
  refine lv_aload_n S.1 S.2.1 dX4_sowFrom_12 rfl (lv_at hl 0 rfl) ?_
  refine lv_sipush (v := 32767) S.1 S.2.1 dX4_sowFrom_13 (by decide) ?_
  obtain ⟨u3, hu3, h⟩ := bd_e h
  refine r_ri d (r_cV (As := [.int (32767 : Int32)]) (rest := []) S d (c_X4_grassOf l G M1 L fu k0 (32767 : Int32) hk0 hu3) (ksdC S hk0) (wc_2 hk0) rfl ml_RX4_45 im_yX4_grassOf se_yX4_grassOf in_RX4 co_yX4_grassOf hyV_X4_grassOf ⟨rfl, rfl⟩ ⟨by decide, by decide⟩ rfl hl rfl (Nat.le_of_ble_eq_true rfl) dX4_sowFrom_16 ⟨Nat.zero_le _, Nat.zero_le _⟩) (fun H locs d => ?_)
  obtain rfl := Option.some.inj h
  exact r_iret S d hr rfl rfl dX4_sowFrom_19
theorem hyV_X8_sow : yX8_sow.cls = RX8 ∧ yX8_sow.cls ≠ "java/lang/invoke/MethodHandle" ∧ yX8_sow.cls ≠ "java/lang/invoke/VarHandle" ∧ (parseMethodDescriptor yX8_sow.desc).map (fun d => d.parameters.length) = some 4 := by decide +kernel
abbrev rm_X8_sow : Room := { frames := 2, cells := 0, slots := 0, locals := 48 }
def f_X8_sow (fu : Nat) (M : Mem) (k0 : Nat) (a1 : Int32) (a2 : Int32) (a3 : Int32) (a4 : Int32) : Option (Int32 × Mem) :=
  (f_X8_isStrip M k0 a1).bind (fun u1 =>
  (if u1 = 0 then some ((-1 : Int32), M)
  else (f_X8_isSheet a2 a3).bind (fun u2 =>
    (if u2 = 0 then some ((-1 : Int32), M)
    else gd (inb a2 4) (
      lt (((k0 + 117) + 1 + 2 * a2.toNatClampNeg)) (fun r4 : Nat =>
      (f_X3_refusal M r4 a3 a4 (15 : Int32)).bind (fun u5 =>
      (if u5 = 0 then (f_X3_holdsGrass fu M r4 a4).bind (fun u6 =>
        (if u6 = 0 then some ((-2 : Int32), M)
        else gd (inb a1 9) (
          (f_X4_sowFrom fu M (((k0 + 1) + 2) + 4 + 2 * a1.toNatClampNeg) (r4 + 1) a4).bind (fun u8 =>
          some (u8.1, u8.2)))))
      else some (u5, M)))))))))
set_option maxHeartbeats 4000000 in
set_option maxRecDepth 100000 in
theorem c_X8_sow (l : Launch) (G : Gx) (M : Mem) (L : MemL) (fu : Nat) (k0 : Nat) (a1 : Int32) (a2 : Int32) (a3 : Int32) (a4 : Int32) (hk0 : kd k0 = 0) {z : Int32 × Mem} (h : f_X8_sow fu M k0 a1 a2 a3 a4 = some z) : Met l yX8_sow (.code yX8_sow cX8_sow 7 (Option.some Jvm.ClassFile.FieldType.int) :: UW) rm_X8_sow (va_Pc [.ref (ad G k0), .int a1, .int a2, .int a3, .int a4] (PreG G false M L)) (Qi G z.1 z.2 L) 0 0 (gA G) := by
  refine r_in (by decide) (fun p e s m args below meth c S hr d ha ls hl => ?_) (Nat.le_of_ble_eq_true rfl)
  have S : Sx G false p s m args meth c cX8_sow 7 RX8 := S
  have hl : lv_has ls 7 [(0, .ref (ad G k0)), (1, .int a1), (2, .int a2), (3, .int a3), (4, .int a4)] := hl
  unfold f_X8_sow at h
  refine lv_aload_n S.1 S.2.1 dX8_sow_0 rfl (lv_at hl 0 rfl) ?_
  refine lv_iload_n S.1 S.2.1 dX8_sow_1 rfl (lv_at hl 1 rfl) ?_
  obtain ⟨u1, hu1, h⟩ := bd_e h
  refine r_ri d (r_cV (As := [.int a1]) (rest := []) S d (c_X8_isStrip l G M L k0 a1 hk0 hu1) (ksdC S hk0) (wc_0 hk0) rfl ml_RX8_70 im_yX8_isStrip se_yX8_isStrip in_RX8 co_yX8_isStrip hyV_X8_isStrip ⟨rfl, rfl⟩ ⟨by decide, by decide⟩ rfl hl rfl (Nat.le_of_ble_eq_true rfl) dX8_sow_2 ⟨Nat.zero_le _, Nat.zero_le _⟩) (fun H locs d => ?_)
  refine lv_if_eq (tgt := 16) S.1 S.2.1 dX8_sow_5 (by decide) (fun cc => ?_) (fun cc => ?_)
  · replace h := it_p cc h
    refine lv_iconst (v := (-1)) S.1 S.2.1 dX8_sow_16 (by decide) ?_
    obtain rfl := Option.some.inj h
    exact r_iret S d hr rfl rfl dX8_sow_17
  · replace h := it_n cc h
    refine lv_iload_n S.1 S.2.1 dX8_sow_8 rfl (lv_at hl 2 rfl) ?_
    refine lv_iload_n S.1 S.2.1 dX8_sow_9 rfl (lv_at hl 3 rfl) ?_
    obtain ⟨u2, hu2, h⟩ := bd_e h
    refine r_ri d (r_cS (As := [.int a2, .int a3]) (rest := []) S d (c_X8_isSheet l G M L a2 a3 hu2) ml_RX8_228 sm_yX8_isSheet in_RX8 co_yX8_isSheet hyS_X8_isSheet ⟨rfl, rfl⟩ ⟨by decide, by decide⟩ rfl hl rfl (Nat.le_of_ble_eq_true rfl) dX8_sow_10 ⟨Nat.zero_le _, Nat.zero_le _⟩) (fun H locs d => ?_)
    refine lv_if_ne (tgt := 18) S.1 S.2.1 dX8_sow_13 (by decide) (fun cc => ?_) (fun cc => ?_)
    · replace h := it_n cc h
      refine lv_aload_n S.1 S.2.1 dX8_sow_18 rfl (lv_at hl 0 rfl) ?_
      refine gf_0_6 S d hk0 fl_RX8_46 dX8_sow_19 ?_
      refine lv_iload_n S.1 S.2.1 dX8_sow_22 rfl (lv_at hl 2 rfl) ?_
      obtain ⟨g3, h⟩ := gd_e h
      refine r_aald S d (ksdC S (ch_0_6 hk0).1) (wc_17 (ch_0_6 hk0).1) rfl rfl g3 rfl dX8_sow_23 ?_
      obtain ⟨r4, er4, h⟩ := lt_e h
      refine r_topr er4 ?_
      have hkr4 : kd r4 = 7 := by rw [er4]; exact (ca_17 (ch_0_6 hk0).1 (inb_lt g3)).1
      refine lv_astore (lv' := [(5, .ref (ad G r4)), (0, .ref (ad G k0)), (1, .int a1), (2, .int a2), (3, .int a3), (4, .int a4)]) S.1 S.2.1 dX8_sow_24 hl (by decide) rfl (fun ls hl => ?_)
      refine lv_aload S.1 S.2.1 dX8_sow_26 (lv_at hl 0 rfl) ?_
      refine lv_iload_n S.1 S.2.1 dX8_sow_28 rfl (lv_at hl 4 rfl) ?_
      refine lv_iload S.1 S.2.1 dX8_sow_29 (lv_at hl 5 rfl) ?_
      refine lv_bipush (v := 15) S.1 S.2.1 dX8_sow_31 (by decide) ?_
      obtain ⟨u5, hu5, h⟩ := bd_e h
      refine r_ri d (r_cV (As := [.int a3, .int a4, .int (15 : Int32)]) (rest := []) S d (c_X3_refusal l G M L r4 a3 a4 (15 : Int32) hkr4 hu5) (ksdC S hkr4) (wc_7 hkr4) rfl ml_RX8_231 im_yX3_refusal se_yX3_refusal in_RX3 co_yX3_refusal hyV_X3_refusal ⟨rfl, rfl⟩ ⟨by decide, by decide⟩ rfl hl rfl (Nat.le_of_ble_eq_true rfl) dX8_sow_33 ⟨Nat.zero_le _, Nat.zero_le _⟩) (fun H locs d => ?_)
      refine lv_istore (lv' := [(6, .int u5), (5, .ref (ad G r4)), (0, .ref (ad G k0)), (1, .int a1), (2, .int a2), (3, .int a3), (4, .int a4)]) S.1 S.2.1 dX8_sow_36 hl (by decide) rfl (fun ls hl => ?_)
      refine lv_iload S.1 S.2.1 dX8_sow_38 (lv_at hl 0 rfl) ?_
      refine lv_if_eq (tgt := 46) S.1 S.2.1 dX8_sow_40 (by decide) (fun cc => ?_) (fun cc => ?_)
      · replace h := it_p cc h
        refine lv_aload S.1 S.2.1 dX8_sow_46 (lv_at hl 1 rfl) ?_
        refine lv_iload S.1 S.2.1 dX8_sow_48 (lv_at hl 6 rfl) ?_
        obtain ⟨u6, hu6, h⟩ := bd_e h
        refine r_ri d (r_cV (As := [.int a4]) (rest := []) S d (c_X3_holdsGrass l G M L fu r4 a4 hkr4 hu6) (ksdC S hkr4) (wc_7 hkr4) rfl ml_RX8_234 im_yX3_holdsGrass se_yX3_holdsGrass in_RX3 co_yX3_holdsGrass hyV_X3_holdsGrass ⟨rfl, rfl⟩ ⟨by decide, by decide⟩ rfl hl rfl (Nat.le_of_ble_eq_true rfl) dX8_sow_50 ⟨Nat.zero_le _, Nat.zero_le _⟩) (fun H locs d => ?_)
        refine lv_if_eq (tgt := 78) S.1 S.2.1 dX8_sow_53 (by decide) (fun cc => ?_) (fun cc => ?_)
        · replace h := it_p cc h
          refine lv_bipush (v := (-2)) S.1 S.2.1 dX8_sow_78 (by decide) ?_
          obtain rfl := Option.some.inj h
          exact r_iret S d hr rfl rfl dX8_sow_80
        · replace h := it_n cc h
          refine lv_aload_n S.1 S.2.1 dX8_sow_56 rfl (lv_at hl 2 rfl) ?_
          refine gf_0_0 S d hk0 fl_RX8_12 dX8_sow_57 ?_
          refine gf_1_1 S d (ch_0_0 hk0).1 fl_RX8_74 dX8_sow_60 ?_
          refine lv_iload_n S.1 S.2.1 dX8_sow_63 rfl (lv_at hl 3 rfl) ?_
          obtain ⟨g7, h⟩ := gd_e h
          refine r_aald S d (ksdC S (ch_1_1 (ch_0_0 hk0).1).1) (wc_13 (ch_1_1 (ch_0_0 hk0).1).1) rfl rfl g7 rfl dX8_sow_64 ?_
          refine lv_aload S.1 S.2.1 dX8_sow_65 (lv_at hl 1 rfl) ?_
          refine gf_7_2 S d hkr4 fl_RX8_237 dX8_sow_67 ?_
          refine lv_iload S.1 S.2.1 dX8_sow_70 (lv_at hl 6 rfl) ?_
          obtain ⟨u8, hu8, h⟩ := bd_e h
          refine r_ri d (r_cV (As := [.ref (ad G (r4 + 1)), .int a4]) (rest := []) S d (c_X4_sowFrom l G M L fu (((k0 + 1) + 2) + 4 + 2 * a1.toNatClampNeg) (r4 + 1) a4 (ca_13 (ch_1_1 (ch_0_0 hk0).1).1 (inb_lt g7)).1 (ch_7_2 hkr4).1 hu8) (ksdC S (ca_13 (ch_1_1 (ch_0_0 hk0).1).1 (inb_lt g7)).1) (wc_2 (ca_13 (ch_1_1 (ch_0_0 hk0).1).1 (inb_lt g7)).1) rfl ml_RX8_240 im_yX4_sowFrom se_yX4_sowFrom in_RX4 co_yX4_sowFrom hyV_X4_sowFrom ⟨rfl, rfl⟩ ⟨by decide, by decide⟩ rfl hl rfl (Nat.le_of_ble_eq_true rfl) dX8_sow_72 ⟨Nat.zero_le _, Nat.zero_le _⟩) (fun H locs d => ?_)
          refine lv_goto (tgt := 80) S.1 S.2.1 dX8_sow_75 (by decide) ?_
          obtain rfl := Option.some.inj h
          exact r_iret S d hr rfl rfl dX8_sow_80
      · replace h := it_n cc h
        refine lv_iload S.1 S.2.1 dX8_sow_43 (lv_at hl 0 rfl) ?_
        obtain rfl := Option.some.inj h
        exact r_iret S d hr rfl rfl dX8_sow_45
    · replace h := it_p cc h
      refine lv_iconst (v := (-1)) S.1 S.2.1 dX8_sow_16 (by decide) ?_
      obtain rfl := Option.some.inj h
      exact r_iret S d hr rfl rfl dX8_sow_17
theorem hyV_X3_begin : yX3_begin.cls = RX3 ∧ yX3_begin.cls ≠ "java/lang/invoke/MethodHandle" ∧ yX3_begin.cls ≠ "java/lang/invoke/VarHandle" ∧ (parseMethodDescriptor yX3_begin.desc).map (fun d => d.parameters.length) = some 2 := by decide +kernel
abbrev rm_X3_begin : Room := { frames := 1, cells := 0, slots := 0, locals := 23 }
def f_X3_begin (fu : Nat) (M : Mem) (k0 : Nat) (a1 : Int32) (a2 : Int32) : Option (Mem) :=
  lt (up M k0 0 a1) (fun M1 : Mem =>
  lt (up M1 k0 1 a2) (fun M2 : Mem =>
  (f_J7_fill_53178 fu M2 (k0 + 1) (0 : Int32)).bind (fun u3 =>
  some (u3))))
set_option maxHeartbeats 4000000 in
set_option maxRecDepth 100000 in
theorem c_X3_begin (l : Launch) (G : Gx) (M : Mem) (L : MemL) (fu : Nat) (k0 : Nat) (a1 : Int32) (a2 : Int32) (hk0 : kd k0 = 7) {z : Mem} (h : f_X3_begin fu M k0 a1 a2 = some z) : Met l yX3_begin (.code yX3_begin cX3_begin 3 (Option.none : Option Jvm.ClassFile.FieldType) :: UW) rm_X3_begin (va_Pc [.ref (ad G k0), .int a1, .int a2] (PreG G false M L)) (Qv G z L) 0 0 (gA G) := by
  refine r_in (by decide) (fun p e s m args below meth c S hr d ha ls hl => ?_) (Nat.le_of_ble_eq_true rfl)
  have S : Sx G false p s m args meth c cX3_begin 3 RX3 := S
  have hl : lv_has ls 3 [(0, .ref (ad G k0)), (1, .int a1), (2, .int a2)] := hl
  unfold f_X3_begin at h
  refine lv_aload_n S.1 S.2.1 dX3_begin_0 rfl (lv_at hl 0 rfl) ?_
  refine lv_iload_n S.1 S.2.1 dX3_begin_1 rfl (lv_at hl 1 rfl) ?_
  obtain ⟨M1, eM1, h⟩ := lt_e h
  refine pf_7_0 S d eM1 hk0 fl_RX3_9 dX3_begin_2 (fun H locs d => ?_)
  refine lv_aload_n S.1 S.2.1 dX3_begin_5 rfl (lv_at hl 0 rfl) ?_
  refine lv_iload_n S.1 S.2.1 dX3_begin_6 rfl (lv_at hl 2 rfl) ?_
  obtain ⟨M2, eM2, h⟩ := lt_e h
  refine pf_7_1 S d eM2 hk0 fl_RX3_15 dX3_begin_7 (fun H locs d => ?_)
  refine lv_aload_n S.1 S.2.1 dX3_begin_10 rfl (lv_at hl 0 rfl) ?_
  refine gf_7_2 S d hk0 fl_RX3_18 dX3_begin_11 ?_
  refine lv_iconst (v := 0) S.1 S.2.1 dX3_begin_14 (by decide) ?_
  obtain ⟨u3, hu3, h⟩ := bd_e h
  refine r_rv d (r_cS (As := [.ref (ad G (k0 + 1)), .int (0 : Int32)]) (rest := []) S d (c_J7_fill_53178 l G M2 L fu (k0 + 1) (0 : Int32) (ch_7_2 hk0).1 hu3) ml_RX3_22 sm_yJ7_fill_53178 in_RJ7 co_yJ7_fill_53178 hyS_J7_fill_53178 ⟨rfl, rfl⟩ ⟨by decide, by decide⟩ rfl hl rfl (Nat.le_of_ble_eq_true rfl) dX3_begin_15 ⟨Nat.zero_le _, Nat.zero_le _⟩) (fun H locs d => ?_)
  obtain rfl := Option.some.inj h
  exact r_vret S d hr dX3_begin_18
theorem hyV_X8_sheet : yX8_sheet.cls = RX8 ∧ yX8_sheet.cls ≠ "java/lang/invoke/MethodHandle" ∧ yX8_sheet.cls ≠ "java/lang/invoke/VarHandle" ∧ (parseMethodDescriptor yX8_sheet.desc).map (fun d => d.parameters.length) = some 3 := by decide +kernel
abbrev rm_X8_sheet : Room := { frames := 2, cells := 0, slots := 0, locals := 45 }
def f_X8_sheet (fu : Nat) (M : Mem) (k0 : Nat) (a1 : Int32) (a2 : Int32) (a3 : Int32) : Option (Int32 × Mem) :=
  (f_X8_isSheet a1 a2).bind (fun u1 =>
  (if u1 = 0 then some ((-1 : Int32), M)
  else (if a3 ≤ (24 : Int32) then (if 0 ≤ a3 then gd (inb a1 4) (
        (f_X3_begin fu M ((k0 + 117) + 1 + 2 * a1.toNatClampNeg) a2 a3).bind (fun u3 =>
        some (a3, u3)))
      else some ((-14 : Int32), M))
    else some ((-1 : Int32), M))))
set_option maxHeartbeats 4000000 in
set_option maxRecDepth 100000 in
theorem c_X8_sheet (l : Launch) (G : Gx) (M : Mem) (L : MemL) (fu : Nat) (k0 : Nat) (a1 : Int32) (a2 : Int32) (a3 : Int32) (hk0 : kd k0 = 0) {z : Int32 × Mem} (h : f_X8_sheet fu M k0 a1 a2 a3 = some z) : Met l yX8_sheet (.code yX8_sheet cX8_sheet 4 (Option.some Jvm.ClassFile.FieldType.int) :: UW) rm_X8_sheet (va_Pc [.ref (ad G k0), .int a1, .int a2, .int a3] (PreG G false M L)) (Qi G z.1 z.2 L) 0 0 (gA G) := by
  refine r_in (by decide) (fun p e s m args below meth c S hr d ha ls hl => ?_) (Nat.le_of_ble_eq_true rfl)
  have S : Sx G false p s m args meth c cX8_sheet 4 RX8 := S
  have hl : lv_has ls 4 [(0, .ref (ad G k0)), (1, .int a1), (2, .int a2), (3, .int a3)] := hl
  unfold f_X8_sheet at h
  refine lv_iload_n S.1 S.2.1 dX8_sheet_0 rfl (lv_at hl 1 rfl) ?_
  refine lv_iload_n S.1 S.2.1 dX8_sheet_1 rfl (lv_at hl 2 rfl) ?_
  obtain ⟨u1, hu1, h⟩ := bd_e h
  refine r_ri d (r_cS (As := [.int a1, .int a2]) (rest := []) S d (c_X8_isSheet l G M L a1 a2 hu1) ml_RX8_228 sm_yX8_isSheet in_RX8 co_yX8_isSheet hyS_X8_isSheet ⟨rfl, rfl⟩ ⟨by decide, by decide⟩ rfl hl rfl (Nat.le_of_ble_eq_true rfl) dX8_sheet_2 ⟨Nat.zero_le _, Nat.zero_le _⟩) (fun H locs d => ?_)
  refine lv_if_eq (tgt := 14) S.1 S.2.1 dX8_sheet_5 (by decide) (fun cc => ?_) (fun cc => ?_)
  · replace h := it_p cc h
    refine lv_iconst (v := (-1)) S.1 S.2.1 dX8_sheet_14 (by decide) ?_
    obtain rfl := Option.some.inj h
    exact r_iret S d hr rfl rfl dX8_sheet_15
  · replace h := it_n cc h
    refine lv_iload_n S.1 S.2.1 dX8_sheet_8 rfl (lv_at hl 3 rfl) ?_
    refine lv_bipush (v := 24) S.1 S.2.1 dX8_sheet_9 (by decide) ?_
    refine lv_icmp_le (tgt := 16) S.1 S.2.1 dX8_sheet_11 (by decide) (fun cc => ?_) (fun cc => ?_)
    · replace h := it_p cc h
      refine lv_iload_n S.1 S.2.1 dX8_sheet_16 rfl (lv_at hl 3 rfl) ?_
      refine lv_if_ge (tgt := 23) S.1 S.2.1 dX8_sheet_17 (by decide) (fun cc => ?_) (fun cc => ?_)
      · replace h := it_p cc h
        refine lv_aload_n S.1 S.2.1 dX8_sheet_23 rfl (lv_at hl 0 rfl) ?_
        refine gf_0_6 S d hk0 fl_RX8_46 dX8_sheet_24 ?_
        refine lv_iload_n S.1 S.2.1 dX8_sheet_27 rfl (lv_at hl 1 rfl) ?_
        obtain ⟨g2, h⟩ := gd_e h
        refine r_aald S d (ksdC S (ch_0_6 hk0).1) (wc_17 (ch_0_6 hk0).1) rfl rfl g2 rfl dX8_sheet_28 ?_
        refine lv_iload_n S.1 S.2.1 dX8_sheet_29 rfl (lv_at hl 2 rfl) ?_
        refine lv_iload_n S.1 S.2.1 dX8_sheet_30 rfl (lv_at hl 3 rfl) ?_
        obtain ⟨u3, hu3, h⟩ := bd_e h
        refine r_rv d (r_cV (As := [.int a2, .int a3]) (rest := []) S d (c_X3_begin l G M L fu ((k0 + 117) + 1 + 2 * a1.toNatClampNeg) a2 a3 (ca_17 (ch_0_6 hk0).1 (inb_lt g2)).1 hu3) (ksdC S (ca_17 (ch_0_6 hk0).1 (inb_lt g2)).1) (wc_7 (ca_17 (ch_0_6 hk0).1 (inb_lt g2)).1) rfl ml_RX8_244 im_yX3_begin se_yX3_begin in_RX3 co_yX3_begin hyV_X3_begin ⟨rfl, rfl⟩ ⟨by decide, by decide⟩ rfl hl rfl (Nat.le_of_ble_eq_true rfl) dX8_sheet_31 ⟨Nat.zero_le _, Nat.zero_le _⟩) (fun H locs d => ?_)
        refine lv_iload_n S.1 S.2.1 dX8_sheet_34 rfl (lv_at hl 3 rfl) ?_
        obtain rfl := Option.some.inj h
        exact r_iret S d hr rfl rfl dX8_sheet_35
      · replace h := it_n cc h
        refine lv_bipush (v := (-14)) S.1 S.2.1 dX8_sheet_20 (by decide) ?_
        obtain rfl := Option.some.inj h
        exact r_iret S d hr rfl rfl dX8_sheet_22
    · replace h := it_n cc h
      refine lv_iconst (v := (-1)) S.1 S.2.1 dX8_sheet_14 (by decide) ?_
      obtain rfl := Option.some.inj h
      exact r_iret S d hr rfl rfl dX8_sheet_15
theorem hyV_X8_drop : yX8_drop.cls = RX8 ∧ yX8_drop.cls ≠ "java/lang/invoke/MethodHandle" ∧ yX8_drop.cls ≠ "java/lang/invoke/VarHandle" ∧ (parseMethodDescriptor yX8_drop.desc).map (fun d => d.parameters.length) = some 1 := by decide +kernel
abbrev rm_X8_drop : Room := { frames := 1, cells := 0, slots := 0, locals := 21 }
def f_X8_drop (M : Mem) (k0 : Nat) (a1 : Int32) : Option (Int32 × Mem) :=
  (f_X8_isBelow a1 (4 : Int32)).bind (fun u1 =>
  (if u1 = 0 then some ((-1 : Int32), M)
  else gd (inb a1 4) (
    lt (((k0 + 117) + 1 + 2 * a1.toNatClampNeg)) (fun r3 : Nat =>
    (if (M r3 0) = (-1 : Int32) then some ((-11 : Int32), M)
    else lt (up M r3 0 (-1 : Int32)) (fun M4 : Mem =>
      some ((M4 r3 1), M4)))))))
set_option maxHeartbeats 4000000 in
set_option maxRecDepth 100000 in
theorem c_X8_drop (l : Launch) (G : Gx) (M : Mem) (L : MemL) (k0 : Nat) (a1 : Int32) (hk0 : kd k0 = 0) {z : Int32 × Mem} (h : f_X8_drop M k0 a1 = some z) : Met l yX8_drop (.code yX8_drop cX8_drop 3 (Option.some Jvm.ClassFile.FieldType.int) :: UW) rm_X8_drop (va_Pc [.ref (ad G k0), .int a1] (PreG G false M L)) (Qi G z.1 z.2 L) 0 0 (gA G) := by
  refine r_in (by decide) (fun p e s m args below meth c S hr d ha ls hl => ?_) (Nat.le_of_ble_eq_true rfl)
  have S : Sx G false p s m args meth c cX8_drop 3 RX8 := S
  have hl : lv_has ls 3 [(0, .ref (ad G k0)), (1, .int a1)] := hl
  unfold f_X8_drop at h
  refine lv_iload_n S.1 S.2.1 dX8_drop_0 rfl (lv_at hl 1 rfl) ?_
  refine lv_iconst (v := 4) S.1 S.2.1 dX8_drop_1 (by decide) ?_
  obtain ⟨u1, hu1, h⟩ := bd_e h
  refine r_ri d (r_cS (As := [.int a1, .int (4 : Int32)]) (rest := []) S d (c_X8_isBelow l G M L a1 (4 : Int32) hu1) ml_RX8_51 sm_yX8_isBelow in_RX8 co_yX8_isBelow hyS_X8_isBelow ⟨rfl, rfl⟩ ⟨by decide, by decide⟩ rfl hl rfl (Nat.le_of_ble_eq_true rfl) dX8_drop_2 ⟨Nat.zero_le _, Nat.zero_le _⟩) (fun H locs d => ?_)
  refine lv_if_ne (tgt := 10) S.1 S.2.1 dX8_drop_5 (by decide) (fun cc => ?_) (fun cc => ?_)
  · replace h := it_n cc h
    refine lv_aload_n S.1 S.2.1 dX8_drop_10 rfl (lv_at hl 0 rfl) ?_
    refine gf_0_6 S d hk0 fl_RX8_46 dX8_drop_11 ?_
    refine lv_iload_n S.1 S.2.1 dX8_drop_14 rfl (lv_at hl 1 rfl) ?_
    obtain ⟨g2, h⟩ := gd_e h
    refine r_aald S d (ksdC S (ch_0_6 hk0).1) (wc_17 (ch_0_6 hk0).1) rfl rfl g2 rfl dX8_drop_15 ?_
    obtain ⟨r3, er3, h⟩ := lt_e h
    refine r_topr er3 ?_
    have hkr3 : kd r3 = 7 := by rw [er3]; exact (ca_17 (ch_0_6 hk0).1 (inb_lt g2)).1
    refine lv_astore_n (lv' := [(2, .ref (ad G r3)), (0, .ref (ad G k0)), (1, .int a1)]) S.1 S.2.1 dX8_drop_16 rfl hl (by decide) rfl (fun ls hl => ?_)
    refine lv_aload_n S.1 S.2.1 dX8_drop_17 rfl (lv_at hl 0 rfl) ?_
    refine gf_7_0 S d hkr3 fl_RX8_248 dX8_drop_18 ?_
    refine lv_iconst (v := (-1)) S.1 S.2.1 dX8_drop_21 (by decide) ?_
    refine lv_icmp_ne (tgt := 28) S.1 S.2.1 dX8_drop_22 (by decide) (fun cc => ?_) (fun cc => ?_)
    · replace h := it_n cc h
      refine lv_aload_n S.1 S.2.1 dX8_drop_28 rfl (lv_at hl 0 rfl) ?_
      refine lv_iconst (v := (-1)) S.1 S.2.1 dX8_drop_29 (by decide) ?_
      obtain ⟨M4, eM4, h⟩ := lt_e h
      refine pf_7_0 S d eM4 hkr3 fl_RX8_248 dX8_drop_30 (fun H locs d => ?_)
      refine lv_aload_n S.1 S.2.1 dX8_drop_33 rfl (lv_at hl 0 rfl) ?_
      refine gf_7_1 S d hkr3 fl_RX8_251 dX8_drop_34 ?_
      obtain rfl := Option.some.inj h
      exact r_iret S d hr rfl rfl dX8_drop_37
    · replace h := it_p cc h
      refine lv_bipush (v := (-11)) S.1 S.2.1 dX8_drop_25 (by decide) ?_
      obtain rfl := Option.some.inj h
      exact r_iret S d hr rfl rfl dX8_drop_27
  · replace h := it_p cc h
    refine lv_iconst (v := (-1)) S.1 S.2.1 dX8_drop_8 (by decide) ?_
    obtain rfl := Option.some.inj h
    exact r_iret S d hr rfl rfl dX8_drop_9
theorem hyV_X3_put : yX3_put.cls = RX3 ∧ yX3_put.cls ≠ "java/lang/invoke/MethodHandle" ∧ yX3_put.cls ≠ "java/lang/invoke/VarHandle" ∧ (parseMethodDescriptor yX3_put.desc).map (fun d => d.parameters.length) = some 2 := by decide +kernel
abbrev rm_X3_put : Room := { frames := 0, cells := 0, slots := 0, locals := 0 }
def f_X3_put (M : Mem) (k0 : Nat) (a1 : Int32) (a2 : Int32) : Option (Mem) :=
  (if (M k0 0) = 0 then gd (inb a1 24) (
    lt (up M (k0 + 1) a1.toNatClampNeg ((a2).toInt8.toInt32)) (fun M2 : Mem =>
    some (M2)))
  else if (M k0 0) = 1 then gd (inb a1 24) (
    lt (up M (k0 + 1) a1.toNatClampNeg ((a2).toInt16.toInt32)) (fun M5 : Mem =>
    some (M5)))
  else gd (inb a1 24) (
    lt (up M (k0 + 1) a1.toNatClampNeg a2) (fun M8 : Mem =>
    some (M8))))
set_option maxHeartbeats 4000000 in
set_option maxRecDepth 100000 in
theorem c_X3_put (l : Launch) (G : Gx) (M : Mem) (L : MemL) (k0 : Nat) (a1 : Int32) (a2 : Int32) (hk0 : kd k0 = 7) {z : Mem} (h : f_X3_put M k0 a1 a2 = some z) : Met l yX3_put (.code yX3_put cX3_put 3 (Option.none : Option Jvm.ClassFile.FieldType) :: UW) rm_X3_put (va_Pc [.ref (ad G k0), .int a1, .int a2] (PreG G false M L)) (Qv G z L) 0 0 (gA G) := by
  refine r_in (by decide) (fun p e s m args below meth c S hr d ha ls hl => ?_) (Nat.le_of_ble_eq_true rfl)
  have S : Sx G false p s m args meth c cX3_put 3 RX3 := S
  have hl : lv_has ls 3 [(0, .ref (ad G k0)), (1, .int a1), (2, .int a2)] := hl
  unfold f_X3_put at h
  refine lv_aload_n S.1 S.2.1 dX3_put_0 rfl (lv_at hl 0 rfl) ?_
  refine gf_7_0 S d hk0 fl_RX3_9 dX3_put_1 ?_
  rcases Decidable.em ((M k0 0) = 0) with cs3 | cs3
  · replace h := it_p cs3 h
    refine lv_lookup (tgt := 32) S.1 S.2.1 dX3_put_4 (by decide) (by rw [cs3] <;> rfl) (by decide) ?_
    refine lv_aload_n S.1 S.2.1 dX3_put_32 rfl (lv_at hl 0 rfl) ?_
    refine gf_7_2 S d hk0 fl_RX3_18 dX3_put_33 ?_
    refine lv_iload_n S.1 S.2.1 dX3_put_36 rfl (lv_at hl 1 rfl) ?_
    refine lv_iload_n S.1 S.2.1 dX3_put_37 rfl (lv_at hl 2 rfl) ?_
    refine lv_i2b S.1 S.2.1 dX3_put_38 rfl ?_
    obtain ⟨g1, h⟩ := gd_e h
    obtain ⟨M2, eM2, h⟩ := lt_e h
    refine r_iast S d eM2 (ksdC S (ch_7_2 hk0).1) (fun _ => wc_10 (ch_7_2 hk0).1) (ch_7_2 hk0).2 g1 dX3_put_39 (fun H locs d => ?_)
    refine lv_goto (tgt := 61) S.1 S.2.1 dX3_put_40 (by decide) ?_
    obtain rfl := Option.some.inj h
    exact r_vret S d hr dX3_put_61
  replace h := it_n cs3 h
  rcases Decidable.em ((M k0 0) = 1) with cs6 | cs6
  · replace h := it_p cs6 h
    refine lv_lookup (tgt := 43) S.1 S.2.1 dX3_put_4 (by decide) (by rw [cs6] <;> rfl) (by decide) ?_
    refine lv_aload_n S.1 S.2.1 dX3_put_43 rfl (lv_at hl 0 rfl) ?_
    refine gf_7_2 S d hk0 fl_RX3_18 dX3_put_44 ?_
    refine lv_iload_n S.1 S.2.1 dX3_put_47 rfl (lv_at hl 1 rfl) ?_
    refine lv_iload_n S.1 S.2.1 dX3_put_48 rfl (lv_at hl 2 rfl) ?_
    refine lv_i2s S.1 S.2.1 dX3_put_49 rfl ?_
    obtain ⟨g4, h⟩ := gd_e h
    obtain ⟨M5, eM5, h⟩ := lt_e h
    refine r_iast S d eM5 (ksdC S (ch_7_2 hk0).1) (fun _ => wc_10 (ch_7_2 hk0).1) (ch_7_2 hk0).2 g4 dX3_put_50 (fun H locs d => ?_)
    refine lv_goto (tgt := 61) S.1 S.2.1 dX3_put_51 (by decide) ?_
    obtain rfl := Option.some.inj h
    exact r_vret S d hr dX3_put_61
  replace h := it_n cs6 h
  refine lv_lookup (off := 50) (tgt := 54) S.1 S.2.1 dX3_put_4 (by decide) (by show Op.lookupswitch.offset [(0, 28), (1, 39)] _ _ = _; rw [lv_osw (a := 0) cs3 rfl, lv_osw (a := 1) cs6 rfl] <;> rfl) (by decide) ?_
  refine lv_aload_n S.1 S.2.1 dX3_put_54 rfl (lv_at hl 0 rfl) ?_
  refine gf_7_2 S d hk0 fl_RX3_18 dX3_put_55 ?_
  refine lv_iload_n S.1 S.2.1 dX3_put_58 rfl (lv_at hl 1 rfl) ?_
  refine lv_iload_n S.1 S.2.1 dX3_put_59 rfl (lv_at hl 2 rfl) ?_
  obtain ⟨g7, h⟩ := gd_e h
  obtain ⟨M8, eM8, h⟩ := lt_e h
  refine r_iast S d eM8 (ksdC S (ch_7_2 hk0).1) (fun _ => wc_10 (ch_7_2 hk0).1) (ch_7_2 hk0).2 g7 dX3_put_60 (fun H locs d => ?_)
  obtain rfl := Option.some.inj h
  exact r_vret S d hr dX3_put_61
theorem hyV_X8_item : yX8_item.cls = RX8 ∧ yX8_item.cls ≠ "java/lang/invoke/MethodHandle" ∧ yX8_item.cls ≠ "java/lang/invoke/VarHandle" ∧ (parseMethodDescriptor yX8_item.desc).map (fun d => d.parameters.length) = some 4 := by decide +kernel
abbrev rm_X8_item : Room := { frames := 2, cells := 0, slots := 0, locals := 42 }
def f_X8_item (M : Mem) (k0 : Nat) (a1 : Int32) (a2 : Int32) (a3 : Int32) (a4 : Int32) : Option (Int32 × Mem) :=
  (f_X8_isSheet a1 a2).bind (fun u1 =>
  (if u1 = 0 then some ((-1 : Int32), M)
  else gd (inb a1 4) (
    (f_X3_refusal M ((k0 + 117) + 1 + 2 * a1.toNatClampNeg) a2 a3 (1 : Int32)).bind (fun u3 =>
    (if u3 = 0 then gd (inb a1 4) (
      (f_X3_put M ((k0 + 117) + 1 + 2 * a1.toNatClampNeg) a3 a4).bind (fun u5 =>
      some ((1 : Int32), u5)))
    else some (u3, M))))))
set_option maxHeartbeats 4000000 in
set_option maxRecDepth 100000 in
theorem c_X8_item (l : Launch) (G : Gx) (M : Mem) (L : MemL) (k0 : Nat) (a1 : Int32) (a2 : Int32) (a3 : Int32) (a4 : Int32) (hk0 : kd k0 = 0) {z : Int32 × Mem} (h : f_X8_item M k0 a1 a2 a3 a4 = some z) : Met l yX8_item (.code yX8_item cX8_item 6 (Option.some Jvm.ClassFile.FieldType.int) :: UW) rm_X8_item (va_Pc [.ref (ad G k0), .int a1, .int a2, .int a3, .int a4] (PreG G false M L)) (Qi G z.1 z.2 L) 0 0 (gA G) := by
  refine r_in (by decide) (fun p e s m args below meth c S hr d ha ls hl => ?_) (Nat.le_of_ble_eq_true rfl)
  have S : Sx G false p s m args meth c cX8_item 6 RX8 := S
  have hl : lv_has ls 6 [(0, .ref (ad G k0)), (1, .int a1), (2, .int a2), (3, .int a3), (4, .int a4)] := hl
  unfold f_X8_item at h
  refine lv_iload_n S.1 S.2.1 dX8_item_0 rfl (lv_at hl 1 rfl) ?_
  refine lv_iload_n S.1 S.2.1 dX8_item_1 rfl (lv_at hl 2 rfl) ?_
  obtain ⟨u1, hu1, h⟩ := bd_e h
  refine r_ri d (r_cS (As := [.int a1, .int a2]) (rest := []) S d (c_X8_isSheet l G M L a1 a2 hu1) ml_RX8_228 sm_yX8_isSheet in_RX8 co_yX8_isSheet hyS_X8_isSheet ⟨rfl, rfl⟩ ⟨by decide, by decide⟩ rfl hl rfl (Nat.le_of_ble_eq_true rfl) dX8_item_2 ⟨Nat.zero_le _, Nat.zero_le _⟩) (fun H locs d => ?_)
  refine lv_if_ne (tgt := 10) S.1 S.2.1 dX8_item_5 (by decide) (fun cc => ?_) (fun cc => ?_)
  · replace h := it_n cc h
    refine lv_aload_n S.1 S.2.1 dX8_item_10 rfl (lv_at hl 0 rfl) ?_
    refine gf_0_6 S d hk0 fl_RX8_46 dX8_item_11 ?_
    refine lv_iload_n S.1 S.2.1 dX8_item_14 rfl (lv_at hl 1 rfl) ?_
    obtain ⟨g2, h⟩ := gd_e h
    refine r_aald S d (ksdC S (ch_0_6 hk0).1) (wc_17 (ch_0_6 hk0).1) rfl rfl g2 rfl dX8_item_15 ?_
    refine lv_iload_n S.1 S.2.1 dX8_item_16 rfl (lv_at hl 2 rfl) ?_
    refine lv_iload_n S.1 S.2.1 dX8_item_17 rfl (lv_at hl 3 rfl) ?_
    refine lv_iconst (v := 1) S.1 S.2.1 dX8_item_18 (by decide) ?_
    obtain ⟨u3, hu3, h⟩ := bd_e h
    refine r_ri d (r_cV (As := [.int a2, .int a3, .int (1 : Int32)]) (rest := []) S d (c_X3_refusal l G M L ((k0 + 117) + 1 + 2 * a1.toNatClampNeg) a2 a3 (1 : Int32) (ca_17 (ch_0_6 hk0).1 (inb_lt g2)).1 hu3) (ksdC S (ca_17 (ch_0_6 hk0).1 (inb_lt g2)).1) (wc_7 (ca_17 (ch_0_6 hk0).1 (inb_lt g2)).1) rfl ml_RX8_231 im_yX3_refusal se_yX3_refusal in_RX3 co_yX3_refusal hyV_X3_refusal ⟨rfl, rfl⟩ ⟨by decide, by decide⟩ rfl hl rfl (Nat.le_of_ble_eq_true rfl) dX8_item_19 ⟨Nat.zero_le _, Nat.zero_le _⟩) (fun H locs d => ?_)
    refine lv_istore (lv' := [(5, .int u3), (0, .ref (ad G k0)), (1, .int a1), (2, .int a2), (3, .int a3), (4, .int a4)]) S.1 S.2.1 dX8_item_22 hl (by decide) rfl (fun ls hl => ?_)
    refine lv_iload S.1 S.2.1 dX8_item_24 (lv_at hl 0 rfl) ?_
    refine lv_if_eq (tgt := 32) S.1 S.2.1 dX8_item_26 (by decide) (fun cc => ?_) (fun cc => ?_)
    · replace h := it_p cc h
      refine lv_aload_n S.1 S.2.1 dX8_item_32 rfl (lv_at hl 1 rfl) ?_
      refine gf_0_6 S d hk0 fl_RX8_46 dX8_item_33 ?_
      refine lv_iload_n S.1 S.2.1 dX8_item_36 rfl (lv_at hl 2 rfl) ?_
      obtain ⟨g4, h⟩ := gd_e h
      refine r_aald S d (ksdC S (ch_0_6 hk0).1) (wc_17 (ch_0_6 hk0).1) rfl rfl g4 rfl dX8_item_37 ?_
      refine lv_iload_n S.1 S.2.1 dX8_item_38 rfl (lv_at hl 4 rfl) ?_
      refine lv_iload S.1 S.2.1 dX8_item_39 (lv_at hl 5 rfl) ?_
      obtain ⟨u5, hu5, h⟩ := bd_e h
      refine r_rv d (r_cV (As := [.int a3, .int a4]) (rest := []) S d (c_X3_put l G M L ((k0 + 117) + 1 + 2 * a1.toNatClampNeg) a3 a4 (ca_17 (ch_0_6 hk0).1 (inb_lt g4)).1 hu5) (ksdC S (ca_17 (ch_0_6 hk0).1 (inb_lt g4)).1) (wc_7 (ca_17 (ch_0_6 hk0).1 (inb_lt g4)).1) rfl ml_RX8_252 im_yX3_put se_yX3_put in_RX3 co_yX3_put hyV_X3_put ⟨rfl, rfl⟩ ⟨by decide, by decide⟩ rfl hl rfl (Nat.le_of_ble_eq_true rfl) dX8_item_41 ⟨Nat.zero_le _, Nat.zero_le _⟩) (fun H locs d => ?_)
      refine lv_iconst (v := 1) S.1 S.2.1 dX8_item_44 (by decide) ?_
      obtain rfl := Option.some.inj h
      exact r_iret S d hr rfl rfl dX8_item_45
    · replace h := it_n cc h
      refine lv_iload S.1 S.2.1 dX8_item_29 (lv_at hl 0 rfl) ?_
      obtain rfl := Option.some.inj h
      exact r_iret S d hr rfl rfl dX8_item_31
  · replace h := it_p cc h
    refine lv_iconst (v := (-1)) S.1 S.2.1 dX8_item_8 (by decide) ?_
    obtain rfl := Option.some.inj h
    exact r_iret S d hr rfl rfl dX8_item_9
theorem hyV_X8_film : yX8_film.cls = RX8 ∧ yX8_film.cls ≠ "java/lang/invoke/MethodHandle" ∧ yX8_film.cls ≠ "java/lang/invoke/VarHandle" ∧ (parseMethodDescriptor yX8_film.desc).map (fun d => d.parameters.length) = some 3 := by decide +kernel
abbrev rm_X8_film : Room := { frames := 4, cells := 0, slots := 0, locals := 86 }
def lp_X8_film_41 (fu : Nat) (b0 : Nat) (b1 : Int32) (b3 : Int32) (K : Mem → Option (Int32 × Mem)) : Nat → Int32 → Mem → Option (Int32 × Mem)
  | 0, _, _ => none
  | n + 1, x5, Mx =>
    (if (Mx (b0 + 1) 2) ≤ x5 then (K Mx)
    else gd (inb b1 4) (
      (f_X0_letterOn fu Mx (b0 + 1) x5).bind (fun u5 =>
      (f_X3_put Mx ((b0 + 117) + 1 + 2 * b1.toNatClampNeg) (b3 + x5) u5).bind (fun u6 =>
      lt (x5 + 1) (fun v7 : Int32 =>
      (lp_X8_film_41 fu b0 b1 b3 K n v7 u6))))))
def f_X8_film (fu : Nat) (M : Mem) (k0 : Nat) (a1 : Int32) (a2 : Int32) (a3 : Int32) : Option (Int32 × Mem) :=
  (f_X8_isSheet a1 a2).bind (fun u1 =>
  (if u1 = 0 then some ((-1 : Int32), M)
  else gd (inb a1 4) (
    (f_X3_refusal M ((k0 + 117) + 1 + 2 * a1.toNatClampNeg) a2 a3 (M (k0 + 1) 2)).bind (fun u3 =>
    (if u3 = 0 then (lp_X8_film_41 fu k0 a1 a3 (fun (M8 : Mem) =>
        some ((M8 (k0 + 1) 2), M8)) fu (0 : Int32) M)
    else some (u3, M))))))
set_option maxHeartbeats 4000000 in
set_option maxRecDepth 100000 in
theorem lc_X8_film_41 {p : Program} {l : Launch} {e : Env} {s : State} {m : MethodId} {args : Array Value} {below : List Frame} {meth : Method} {c : Code} {G : Gx} {L : MemL} {fu : Nat} {b0 : Nat} {b1 : Int32} {b3 : Int32} {z : Int32 × Mem} (S : Sx G false p s m args meth c cX8_film 6 RX8) (hr : meth.sig.returnType = (Option.some Jvm.ClassFile.FieldType.int)) (hb0 : kd b0 = 0) (K : Mem → Option (Int32 × Mem)) (hK : ∀ (My : Mem) (H : Heap) (locs : List Loc), Dy G s My L H locs → ∀ ls : Array Slot, lv_has ls 6 [(0, .ref (ad G b0))] → K My = some z → W p l e rm_X8_film s m args below meth c H locs 0 0 (MQ below (Qi G z.1 z.2 L) args s 0 0 (gA G)) (F0 m 81 ls [])) :
    ∀ (n : Nat) (x5 : Int32) (Mx : Mem), lp_X8_film_41 fu b0 b1 b3 K n x5 Mx = some z → ∀ (H : Heap) (locs : List Loc), Dy G s Mx L H locs → ∀ ls : Array Slot, lv_has ls 6 [(0, .ref (ad G b0)), (1, .int b1), (3, .int b3), (5, .int x5)] → W p l e rm_X8_film s m args below meth c H locs 0 0 (MQ below (Qi G z.1 z.2 L) args s 0 0 (gA G)) (F0 m 41 ls []) := by
  intro n
  induction n with
  | zero =>
    intro x5 Mx h
    have h : (none : Option (Int32 × Mem)) = some z := h
    cases h
  | succ n ih =>
    intro x5 Mx h H locs d ls hl
    rw [lp_X8_film_41] at h
    refine lv_iload S.1 S.2.1 dX8_film_41 (lv_at hl 3 rfl) ?_
    refine lv_aload_n S.1 S.2.1 dX8_film_43 rfl (lv_at hl 0 rfl) ?_
    refine gf_0_0 S d hb0 fl_RX8_12 dX8_film_44 ?_
    refine gf_1_2 S d (ch_0_0 hb0).1 fl_RX8_55 dX8_film_47 ?_
    refine lv_icmp_ge (tgt := 81) S.1 S.2.1 dX8_film_50 (by decide) (fun cc => ?_) (fun cc => ?_)
    · replace h := it_p cc h
      exact hK _ _ _ d _ (lv_sub hl [0] rfl) h
    · replace h := it_n cc h
      refine lv_aload_n S.1 S.2.1 dX8_film_53 rfl (lv_at hl 0 rfl) ?_
      refine gf_0_6 S d hb0 fl_RX8_46 dX8_film_54 ?_
      refine lv_iload_n S.1 S.2.1 dX8_film_57 rfl (lv_at hl 1 rfl) ?_
      obtain ⟨g4, h⟩ := gd_e h
      refine r_aald S d (ksdC S (ch_0_6 hb0).1) (wc_17 (ch_0_6 hb0).1) rfl rfl g4 rfl dX8_film_58 ?_
      refine lv_iload_n S.1 S.2.1 dX8_film_59 rfl (lv_at hl 2 rfl) ?_
      refine lv_iload S.1 S.2.1 dX8_film_60 (lv_at hl 3 rfl) ?_
      refine lv_iadd S.1 S.2.1 dX8_film_62 ?_
      refine lv_aload_n S.1 S.2.1 dX8_film_63 rfl (lv_at hl 0 rfl) ?_
      refine gf_0_0 S d hb0 fl_RX8_12 dX8_film_64 ?_
      refine lv_iload S.1 S.2.1 dX8_film_67 (lv_at hl 3 rfl) ?_
      obtain ⟨u5, hu5, h⟩ := bd_e h
      refine r_ri d (r_cV (As := [.int x5]) (rest := [.int (b3 + x5), .ref (ad G ((b0 + 117) + 1 + 2 * b1.toNatClampNeg))]) S d (c_X0_letterOn l G Mx L fu (b0 + 1) x5 (ch_0_0 hb0).1 hu5) (ksdC S (ch_0_0 hb0).1) (wc_1 (ch_0_0 hb0).1) rfl ml_RX8_90 im_yX0_letterOn se_yX0_letterOn in_RX0 co_yX0_letterOn hyV_X0_letterOn ⟨rfl, rfl⟩ ⟨by decide, by decide⟩ rfl hl rfl (Nat.le_of_ble_eq_true rfl) dX8_film_69 ⟨Nat.zero_le _, Nat.zero_le _⟩) (fun H locs d => ?_)
      obtain ⟨u6, hu6, h⟩ := bd_e h
      refine r_rv d (r_cV (As := [.int (b3 + x5), .int u5]) (rest := []) S d (c_X3_put l G Mx L ((b0 + 117) + 1 + 2 * b1.toNatClampNeg) (b3 + x5) u5 (ca_17 (ch_0_6 hb0).1 (inb_lt g4)).1 hu6) (ksdC S (ca_17 (ch_0_6 hb0).1 (inb_lt g4)).1) (wc_7 (ca_17 (ch_0_6 hb0).1 (inb_lt g4)).1) rfl ml_RX8_252 im_yX3_put se_yX3_put in_RX3 co_yX3_put hyV_X3_put ⟨rfl, rfl⟩ ⟨by decide, by decide⟩ rfl hl rfl (Nat.le_of_ble_eq_true rfl) dX8_film_72 ⟨Nat.zero_le _, Nat.zero_le _⟩) (fun H locs d => ?_)
      obtain ⟨v7, ev7, h⟩ := lt_e h
      refine lv_iinc (v := v7) (lv' := [(5, .int v7), (0, .ref (ad G b0)), (1, .int b1), (3, .int b3)]) S.1 S.2.1 dX8_film_75 hl (k := 3) rfl (by rw [ev7]; rfl) (by decide) rfl (fun ls hl => ?_)
      refine lv_goto (tgt := 41) S.1 S.2.1 dX8_film_78 (by decide) ?_
      exact ih _ _ h _ _ d _ (lv_sub hl [1, 2, 3, 0] rfl)
set_option maxHeartbeats 4000000 in
set_option maxRecDepth 100000 in
theorem c_X8_film (l : Launch) (G : Gx) (M : Mem) (L : MemL) (fu : Nat) (k0 : Nat) (a1 : Int32) (a2 : Int32) (a3 : Int32) (hk0 : kd k0 = 0) {z : Int32 × Mem} (h : f_X8_film fu M k0 a1 a2 a3 = some z) : Met l yX8_film (.code yX8_film cX8_film 6 (Option.some Jvm.ClassFile.FieldType.int) :: UW) rm_X8_film (va_Pc [.ref (ad G k0), .int a1, .int a2, .int a3] (PreG G false M L)) (Qi G z.1 z.2 L) 0 0 (gA G) := by
  refine r_in (by decide) (fun p e s m args below meth c S hr d ha ls hl => ?_) (Nat.le_of_ble_eq_true rfl)
  have S : Sx G false p s m args meth c cX8_film 6 RX8 := S
  have hl : lv_has ls 6 [(0, .ref (ad G k0)), (1, .int a1), (2, .int a2), (3, .int a3)] := hl
  unfold f_X8_film at h
  refine lv_iload_n S.1 S.2.1 dX8_film_0 rfl (lv_at hl 1 rfl) ?_
  refine lv_iload_n S.1 S.2.1 dX8_film_1 rfl (lv_at hl 2 rfl) ?_
  obtain ⟨u1, hu1, h⟩ := bd_e h
  refine r_ri d (r_cS (As := [.int a1, .int a2]) (rest := []) S d (c_X8_isSheet l G M L a1 a2 hu1) ml_RX8_228 sm_yX8_isSheet in_RX8 co_yX8_isSheet hyS_X8_isSheet ⟨rfl, rfl⟩ ⟨by decide, by decide⟩ rfl hl rfl (Nat.le_of_ble_eq_true rfl) dX8_film_2 ⟨Nat.zero_le _, Nat.zero_le _⟩) (fun H locs d => ?_)
  refine lv_if_ne (tgt := 10) S.1 S.2.1 dX8_film_5 (by decide) (fun cc => ?_) (fun cc => ?_)
  · replace h := it_n cc h
    refine lv_aload_n S.1 S.2.1 dX8_film_10 rfl (lv_at hl 0 rfl) ?_
    refine gf_0_6 S d hk0 fl_RX8_46 dX8_film_11 ?_
    refine lv_iload_n S.1 S.2.1 dX8_film_14 rfl (lv_at hl 1 rfl) ?_
    obtain ⟨g2, h⟩ := gd_e h
    refine r_aald S d (ksdC S (ch_0_6 hk0).1) (wc_17 (ch_0_6 hk0).1) rfl rfl g2 rfl dX8_film_15 ?_
    refine lv_iload_n S.1 S.2.1 dX8_film_16 rfl (lv_at hl 2 rfl) ?_
    refine lv_iload_n S.1 S.2.1 dX8_film_17 rfl (lv_at hl 3 rfl) ?_
    refine lv_aload_n S.1 S.2.1 dX8_film_18 rfl (lv_at hl 0 rfl) ?_
    refine gf_0_0 S d hk0 fl_RX8_12 dX8_film_19 ?_
    refine gf_1_2 S d (ch_0_0 hk0).1 fl_RX8_55 dX8_film_22 ?_
    obtain ⟨u3, hu3, h⟩ := bd_e h
    refine r_ri d (r_cV (As := [.int a2, .int a3, .int (M (k0 + 1) 2)]) (rest := []) S d (c_X3_refusal l G M L ((k0 + 117) + 1 + 2 * a1.toNatClampNeg) a2 a3 (M (k0 + 1) 2) (ca_17 (ch_0_6 hk0).1 (inb_lt g2)).1 hu3) (ksdC S (ca_17 (ch_0_6 hk0).1 (inb_lt g2)).1) (wc_7 (ca_17 (ch_0_6 hk0).1 (inb_lt g2)).1) rfl ml_RX8_231 im_yX3_refusal se_yX3_refusal in_RX3 co_yX3_refusal hyV_X3_refusal ⟨rfl, rfl⟩ ⟨by decide, by decide⟩ rfl hl rfl (Nat.le_of_ble_eq_true rfl) dX8_film_25 ⟨Nat.zero_le _, Nat.zero_le _⟩) (fun H locs d => ?_)
    refine lv_istore (lv' := [(4, .int u3), (0, .ref (ad G k0)), (1, .int a1), (2, .int a2), (3, .int a3)]) S.1 S.2.1 dX8_film_28 hl (by decide) rfl (fun ls hl => ?_)
    refine lv_iload S.1 S.2.1 dX8_film_30 (lv_at hl 0 rfl) ?_
    refine lv_if_eq (tgt := 38) S.1 S.2.1 dX8_film_32 (by decide) (fun cc => ?_) (fun cc => ?_)
    · replace h := it_p cc h
      refine lv_iconst (v := 0) S.1 S.2.1 dX8_film_38 (by decide) ?_
      refine lv_istore (lv' := [(5, .int (0 : Int32)), (4, .int u3), (0, .ref (ad G k0)), (1, .int a1), (2, .int a2), (3, .int a3)]) S.1 S.2.1 dX8_film_39 hl (by decide) rfl (fun ls hl => ?_)
      refine lc_X8_film_41 S hr hk0 _ (fun M8 H locs d ls hl h => ?_) _ _ _  h _ _ d _ (lv_sub hl [2, 3, 5, 0] rfl)
      refine lv_aload_n S.1 S.2.1 dX8_film_81 rfl (lv_at hl 0 rfl) ?_
      refine gf_0_0 S d hk0 fl_RX8_12 dX8_film_82 ?_
      refine gf_1_2 S d (ch_0_0 hk0).1 fl_RX8_55 dX8_film_85 ?_
      obtain rfl := Option.some.inj h
      exact r_iret S d hr rfl rfl dX8_film_88
    · replace h := it_n cc h
      refine lv_iload S.1 S.2.1 dX8_film_35 (lv_at hl 0 rfl) ?_
      obtain rfl := Option.some.inj h
      exact r_iret S d hr rfl rfl dX8_film_37
  · replace h := it_p cc h
    refine lv_iconst (v := (-1)) S.1 S.2.1 dX8_film_8 (by decide) ?_
    obtain rfl := Option.some.inj h
    exact r_iret S d hr rfl rfl dX8_film_9
theorem hyS_X9_in : yX9_in.cls ≠ "java/lang/invoke/MethodHandle" ∧ yX9_in.cls ≠ "java/lang/invoke/VarHandle" ∧ (parseMethodDescriptor yX9_in.desc).map (fun d => d.parameters.length) = some 3 := by decide +kernel
abbrev rm_X9_in : Room := { frames := 0, cells := 0, slots := 0, locals := 0 }
def f_X9_in (a0 : Int64) (a2 : Int64) (a4 : Int64) : Option (Int32) :=
  (if (lg_cmp a0 a2) < 0 then some ((0 : Int32))
  else (if 0 < (lg_cmp a0 a4) then some ((0 : Int32))
    else some ((1 : Int32))))
set_option maxHeartbeats 4000000 in
set_option maxRecDepth 100000 in
theorem c_X9_in (l : Launch) (G : Gx) (M : Mem) (L : MemL) (a0 : Int64) (a2 : Int64) (a4 : Int64) {z : Int32} (h : f_X9_in a0 a2 a4 = some z) : Met l yX9_in (.code yX9_in cX9_in 6 (Option.some Jvm.ClassFile.FieldType.boolean) :: UW) rm_X9_in (va_Pc [.long a0, .long a2, .long a4] (PreG G true M L)) (Qi G z M L) 0 0 (gA G) := by
  refine r_in (by decide) (fun p e s m args below meth c S hr d ha ls hl => ?_) (Nat.le_of_ble_eq_true rfl)
  have S : Sx G true p s m args meth c cX9_in 6 RX9 := S
  have hl : lv_has ls 6 [(0, .long a0), (2, .long a2), (4, .long a4)] := hl
  unfold f_X9_in at h
  refine lv_lload_n S.1 S.2.1 dX9_in_0 rfl (lv_at hl 0 rfl) ?_
  refine lv_lload_n S.1 S.2.1 dX9_in_1 rfl (lv_at hl 1 rfl) ?_
  refine W.lcmp S.1 S.2.1 dX9_in_2 ?_
  refine lv_if_lt (tgt := 17) S.1 S.2.1 dX9_in_3 (by decide) (fun cc => ?_) (fun cc => ?_)
  · replace h := it_p cc h
    refine lv_iconst (v := 0) S.1 S.2.1 dX9_in_17 (by decide) ?_
    obtain rfl := Option.some.inj h
    exact r_iret S d hr rfl rfl dX9_in_18
  · replace h := it_n cc h
    refine lv_lload_n S.1 S.2.1 dX9_in_6 rfl (lv_at hl 0 rfl) ?_
    refine lv_lload S.1 S.2.1 dX9_in_7 (lv_at hl 2 rfl) ?_
    refine W.lcmp S.1 S.2.1 dX9_in_9 ?_
    refine lv_if_gt (tgt := 17) S.1 S.2.1 dX9_in_10 (by decide) (fun cc => ?_) (fun cc => ?_)
    · replace h := it_p cc h
      refine lv_iconst (v := 0) S.1 S.2.1 dX9_in_17 (by decide) ?_
      obtain rfl := Option.some.inj h
      exact r_iret S d hr rfl rfl dX9_in_18
    · replace h := it_n cc h
      refine lv_iconst (v := 1) S.1 S.2.1 dX9_in_13 (by decide) ?_
      refine lv_goto (tgt := 18) S.1 S.2.1 dX9_in_14 (by decide) ?_
      obtain rfl := Option.some.inj h
      exact r_iret S d hr rfl rfl dX9_in_18
theorem hyS_X9_has : yX9_has.cls ≠ "java/lang/invoke/MethodHandle" ∧ yX9_has.cls ≠ "java/lang/invoke/VarHandle" ∧ (parseMethodDescriptor yX9_has.desc).map (fun d => d.parameters.length) = some 2 := by decide +kernel
abbrev rm_X9_has : Room := { frames := 0, cells := 0, slots := 0, locals := 0 }
def f_X9_has (a0 : Int32) (a1 : Int32) : Option (Int32) :=
  (if ((a0 >>> (a1 &&& 31)) &&& (1 : Int32)) = (1 : Int32) then some ((1 : Int32))
  else some ((0 : Int32)))
set_option maxHeartbeats 4000000 in
set_option maxRecDepth 100000 in
theorem c_X9_has (l : Launch) (G : Gx) (M : Mem) (L : MemL) (a0 : Int32) (a1 : Int32) {z : Int32} (h : f_X9_has a0 a1 = some z) : Met l yX9_has (.code yX9_has cX9_has 2 (Option.some Jvm.ClassFile.FieldType.boolean) :: UW) rm_X9_has (va_Pc [.int a0, .int a1] (PreG G true M L)) (Qi G z M L) 0 0 (gA G) := by
  refine r_in (by decide) (fun p e s m args below meth c S hr d ha ls hl => ?_) (Nat.le_of_ble_eq_true rfl)
  have S : Sx G true p s m args meth c cX9_has 2 RX9 := S
  have hl : lv_has ls 2 [(0, .int a0), (1, .int a1)] := hl
  unfold f_X9_has at h
  refine lv_iload_n S.1 S.2.1 dX9_has_0 rfl (lv_at hl 0 rfl) ?_
  refine lv_iload_n S.1 S.2.1 dX9_has_1 rfl (lv_at hl 1 rfl) ?_
  refine lv_ishr S.1 S.2.1 dX9_has_2 ?_
  refine lv_iconst (v := 1) S.1 S.2.1 dX9_has_3 (by decide) ?_
  refine lv_iand S.1 S.2.1 dX9_has_4 ?_
  refine lv_iconst (v := 1) S.1 S.2.1 dX9_has_5 (by decide) ?_
  refine lv_icmp_ne (tgt := 13) S.1 S.2.1 dX9_has_6 (by decide) (fun cc => ?_) (fun cc => ?_)
  · replace h := it_n cc h
    refine lv_iconst (v := 0) S.1 S.2.1 dX9_has_13 (by decide) ?_
    obtain rfl := Option.some.inj h
    exact r_iret S d hr rfl rfl dX9_has_14
  · replace h := it_p cc h
    refine lv_iconst (v := 1) S.1 S.2.1 dX9_has_9 (by decide) ?_
    refine lv_goto (tgt := 14) S.1 S.2.1 dX9_has_10 (by decide) ?_
    obtain rfl := Option.some.inj h
    exact r_iret S d hr rfl rfl dX9_has_14
theorem hyS_X9_ones : yX9_ones.cls ≠ "java/lang/invoke/MethodHandle" ∧ yX9_ones.cls ≠ "java/lang/invoke/VarHandle" ∧ (parseMethodDescriptor yX9_ones.desc).map (fun d => d.parameters.length) = some 1 := by decide +kernel
abbrev rm_X9_ones : Room := { frames := 0, cells := 0, slots := 0, locals := 0 }
def lp_X9_ones_4 (fu : Nat) (K : Int32 → Option (Int32)) : Nat → Int32 → Int32 → Option (Int32)
  | 0, _, _ => none
  | n + 1, x1, x2 =>
    (if x2 = 0 then (K x1)
    else lt (x1 + 1) (fun v1 : Int32 =>
      lt ((x2 &&& (x2 - (1 : Int32)))) (fun v2 : Int32 =>
      (lp_X9_ones_4 fu K n v1 v2))))
def f_X9_ones (fu : Nat) (a0 : Int32) : Option (Int32) :=
  (lp_X9_ones_4 fu (fun (v3 : Int32) =>
    some (v3)) fu (0 : Int32) a0)
set_option maxHeartbeats 4000000 in
set_option maxRecDepth 100000 in
theorem lc_X9_ones_4 {p : Program} {l : Launch} {e : Env} {s : State} {m : MethodId} {args : Array Value} {below : List Frame} {meth : Method} {c : Code} {G : Gx} {M : Mem} {L : MemL} {fu : Nat} {z : Int32} (S : Sx G true p s m args meth c cX9_ones 3 RX9) (hr : meth.sig.returnType = (Option.some Jvm.ClassFile.FieldType.int))  (K : Int32 → Option (Int32)) (hK : ∀ (y1 : Int32) (H : Heap) (locs : List Loc), Dy G s M L H locs → ∀ ls : Array Slot, lv_has ls 3 [(1, .int y1)] → K y1 = some z → W p l e rm_X9_ones s m args below meth c H locs 0 0 (MQ below (Qi G z M L) args s 0 0 (gA G)) (F0 m 20 ls [])) :
    ∀ (n : Nat) (x1 : Int32) (x2 : Int32), lp_X9_ones_4 fu K n x1 x2 = some z → ∀ (H : Heap) (locs : List Loc), Dy G s M L H locs → ∀ ls : Array Slot, lv_has ls 3 [(1, .int x1), (2, .int x2)] → W p l e rm_X9_ones s m args below meth c H locs 0 0 (MQ below (Qi G z M L) args s 0 0 (gA G)) (F0 m 4 ls []) := by
  intro n
  induction n with
  | zero =>
    intro x1 x2 h
    have h : (none : Option (Int32)) = some z := h
    cases h
  | succ n ih =>
    intro x1 x2 h H locs d ls hl
    rw [lp_X9_ones_4] at h
    refine lv_iload_n S.1 S.2.1 dX9_ones_4 rfl (lv_at hl 1 rfl) ?_
    refine lv_if_eq (tgt := 20) S.1 S.2.1 dX9_ones_5 (by decide) (fun cc => ?_) (fun cc => ?_)
    · replace h := it_p cc h
      exact hK _ _ _ d _ (lv_sub hl [0] rfl) h
    · replace h := it_n cc h
      obtain ⟨v1, ev1, h⟩ := lt_e h
      refine lv_iinc (v := v1) (lv' := [(1, .int v1), (2, .int x2)]) S.1 S.2.1 dX9_ones_8 hl (k := 0) rfl (by rw [ev1]; rfl) (by decide) rfl (fun ls hl => ?_)
      refine lv_iload_n S.1 S.2.1 dX9_ones_11 rfl (lv_at hl 1 rfl) ?_
      refine lv_iload_n S.1 S.2.1 dX9_ones_12 rfl (lv_at hl 1 rfl) ?_
      refine lv_iconst (v := 1) S.1 S.2.1 dX9_ones_13 (by decide) ?_
      refine lv_isub S.1 S.2.1 dX9_ones_14 ?_
      refine lv_iand S.1 S.2.1 dX9_ones_15 ?_
      obtain ⟨v2, ev2, h⟩ := lt_e h
      refine r_top ev2 ?_
      refine lv_istore_n (lv' := [(2, .int v2), (1, .int v1)]) S.1 S.2.1 dX9_ones_16 rfl hl (by decide) rfl (fun ls hl => ?_)
      refine lv_goto (tgt := 4) S.1 S.2.1 dX9_ones_17 (by decide) ?_
      exact ih _ _ h _ _ d _ (lv_sub hl [1, 0] rfl)
set_option maxHeartbeats 4000000 in
set_option maxRecDepth 100000 in
theorem c_X9_ones (l : Launch) (G : Gx) (M : Mem) (L : MemL) (fu : Nat) (a0 : Int32) {z : Int32} (h : f_X9_ones fu a0 = some z) : Met l yX9_ones (.code yX9_ones cX9_ones 3 (Option.some Jvm.ClassFile.FieldType.int) :: UW) rm_X9_ones (va_Pc [.int a0] (PreG G true M L)) (Qi G z M L) 0 0 (gA G) := by
  refine r_in (by decide) (fun p e s m args below meth c S hr d ha ls hl => ?_) (Nat.le_of_ble_eq_true rfl)
  have S : Sx G true p s m args meth c cX9_ones 3 RX9 := S
  have hl : lv_has ls 3 [(0, .int a0)] := hl
  unfold f_X9_ones at h
  refine lv_iconst (v := 0) S.1 S.2.1 dX9_ones_0 (by decide) ?_
  refine lv_istore_n (lv' := [(1, .int (0 : Int32)), (0, .int a0)]) S.1 S.2.1 dX9_ones_1 rfl hl (by decide) rfl (fun ls hl => ?_)
  refine lv_iload_n S.1 S.2.1 dX9_ones_2 rfl (lv_at hl 1 rfl) ?_
  refine lv_istore_n (lv' := [(2, .int a0), (1, .int (0 : Int32)), (0, .int a0)]) S.1 S.2.1 dX9_ones_3 rfl hl (by decide) rfl (fun ls hl => ?_)
  refine lc_X9_ones_4 S hr  _ (fun v3 H locs d ls hl h => ?_) _ _ _  h _ _ d _ (lv_sub hl [1, 0] rfl)
  refine lv_iload_n S.1 S.2.1 dX9_ones_20 rfl (lv_at hl 0 rfl) ?_
  obtain rfl := Option.some.inj h
  exact r_iret S d hr rfl rfl dX9_ones_21
theorem hyV_X9_isStrip : yX9_isStrip.cls = RX9 ∧ yX9_isStrip.cls ≠ "java/lang/invoke/MethodHandle" ∧ yX9_isStrip.cls ≠ "java/lang/invoke/VarHandle" ∧ (parseMethodDescriptor yX9_isStrip.desc).map (fun d => d.parameters.length) = some 1 := by decide +kernel
abbrev rm_X9_isStrip : Room := { frames := 1, cells := 0, slots := 0, locals := 25 }
def f_X9_isStrip (M : Mem) (k0 : Nat) (a1 : Int32) : Option (Int32) :=
  (f_X9_in ((a1).toInt64) (0 : Int64) ((((M k0 7) - (1 : Int32))).toInt64)).bind (fun u1 =>
  gd (isZ u1) (
  some (u1)))
set_option maxHeartbeats 4000000 in
set_option maxRecDepth 100000 in
theorem c_X9_isStrip (l : Launch) (G : Gx) (M : Mem) (L : MemL) (k0 : Nat) (a1 : Int32) (hk0 : kd k0 = 20) {z : Int32} (h : f_X9_isStrip M k0 a1 = some z) : Met l yX9_isStrip (.code yX9_isStrip cX9_isStrip 2 (Option.some Jvm.ClassFile.FieldType.boolean) :: UW) rm_X9_isStrip (va_Pc [.ref (ad G k0), .int a1] (PreG G true M L)) (Qi G z M L) 0 0 (gA G) := by
  refine r_in (by decide) (fun p e s m args below meth c S hr d ha ls hl => ?_) (Nat.le_of_ble_eq_true rfl)
  have S : Sx G true p s m args meth c cX9_isStrip 2 RX9 := S
  have hl : lv_has ls 2 [(0, .ref (ad G k0)), (1, .int a1)] := hl
  unfold f_X9_isStrip at h
  refine lv_iload_n S.1 S.2.1 dX9_isStrip_0 rfl (lv_at hl 1 rfl) ?_
  refine lv_i2l S.1 S.2.1 dX9_isStrip_1 rfl ?_
  refine lv_lconst (v := 0) S.1 S.2.1 dX9_isStrip_2 (by decide) ?_
  refine lv_aload_n S.1 S.2.1 dX9_isStrip_3 rfl (lv_at hl 0 rfl) ?_
  refine gf_20_7 S d hk0 fl_RX9_71 dX9_isStrip_4 ?_
  refine lv_iconst (v := 1) S.1 S.2.1 dX9_isStrip_7 (by decide) ?_
  refine lv_isub S.1 S.2.1 dX9_isStrip_8 ?_
  refine lv_i2l S.1 S.2.1 dX9_isStrip_9 rfl ?_
  obtain ⟨u1, hu1, h⟩ := bd_e h
  refine r_ri d (r_cS (As := [.long ((a1).toInt64), .long (0 : Int64), .long ((((M k0 7) - (1 : Int32))).toInt64)]) (rest := []) S d (c_X9_in l G M L ((a1).toInt64) (0 : Int64) ((((M k0 7) - (1 : Int32))).toInt64) hu1) ml_RX9_75 sm_yX9_in in_RX9 co_yX9_in hyS_X9_in ⟨rfl, rfl⟩ ⟨by decide, by decide⟩ rfl hl rfl (Nat.le_of_ble_eq_true rfl) dX9_isStrip_10 ⟨Nat.zero_le _, Nat.zero_le _⟩) (fun H locs d => ?_)
  obtain ⟨gz, h⟩ := gd_e h
  obtain rfl := Option.some.inj h
  exact r_iret S d hr (isZ_nar gz) rfl dX9_isStrip_13
theorem hyS_X9_isCell : yX9_isCell.cls ≠ "java/lang/invoke/MethodHandle" ∧ yX9_isCell.cls ≠ "java/lang/invoke/VarHandle" ∧ (parseMethodDescriptor yX9_isCell.desc).map (fun d => d.parameters.length) = some 1 := by decide +kernel
abbrev rm_X9_isCell : Room := { frames := 1, cells := 0, slots := 0, locals := 25 }
def f_X9_isCell (a0 : Int32) : Option (Int32) :=
  (f_X9_in ((a0).toInt64) (0 : Int64) (14 : Int64)).bind (fun u1 =>
  gd (isZ u1) (
  some (u1)))
set_option maxHeartbeats 4000000 in
set_option maxRecDepth 100000 in
theorem c_X9_isCell (l : Launch) (G : Gx) (M : Mem) (L : MemL) (a0 : Int32) {z : Int32} (h : f_X9_isCell a0 = some z) : Met l yX9_isCell (.code yX9_isCell cX9_isCell 1 (Option.some Jvm.ClassFile.FieldType.boolean) :: UW) rm_X9_isCell (va_Pc [.int a0] (PreG G true M L)) (Qi G z M L) 0 0 (gA G) := by
  refine r_in (by decide) (fun p e s m args below meth c S hr d ha ls hl => ?_) (Nat.le_of_ble_eq_true rfl)
  have S : Sx G true p s m args meth c cX9_isCell 1 RX9 := S
  have hl : lv_has ls 1 [(0, .int a0)] := hl
  unfold f_X9_isCell at h
  refine lv_iload_n S.1 S.2.1 dX9_isCell_0 rfl (lv_at hl 0 rfl) ?_
  refine lv_i2l S.1 S.2.1 dX9_isCell_1 rfl ?_
  refine lv_lconst (v := 0) S.1 S.2.1 dX9_isCell_2 (by decide) ?_
  refine lv_ldc2 (v := 14) S.1 S.2.1 S.2.2.2.1 (S.uw cn_RX9_79) dX9_isCell_3 ?_
  obtain ⟨u1, hu1, h⟩ := bd_e h
  refine r_ri d (r_cS (As := [.long ((a0).toInt64), .long (0 : Int64), .long (14 : Int64)]) (rest := []) S d (c_X9_in l G M L ((a0).toInt64) (0 : Int64) (14 : Int64) hu1) ml_RX9_75 sm_yX9_in in_RX9 co_yX9_in hyS_X9_in ⟨rfl, rfl⟩ ⟨by decide, by decide⟩ rfl hl rfl (Nat.le_of_ble_eq_true rfl) dX9_isCell_6 ⟨Nat.zero_le _, Nat.zero_le _⟩) (fun H locs d => ?_)
  obtain ⟨gz, h⟩ := gd_e h
  obtain rfl := Option.some.inj h
  exact r_iret S d hr (isZ_nar gz) rfl dX9_isCell_9
theorem hyS_X9_isLetter : yX9_isLetter.cls ≠ "java/lang/invoke/MethodHandle" ∧ yX9_isLetter.cls ≠ "java/lang/invoke/VarHandle" ∧ (parseMethodDescriptor yX9_isLetter.desc).map (fun d => d.parameters.length) = some 1 := by decide +kernel
abbrev rm_X9_isLetter : Room := { frames := 1, cells := 0, slots := 0, locals := 25 }
def f_X9_isLetter (a0 : Int32) : Option (Int32) :=
  (f_X9_in ((a0).toInt64) (0 : Int64) (25 : Int64)).bind (fun u1 =>
  gd (isZ u1) (
  some (u1)))
set_option maxHeartbeats 4000000 in
set_option maxRecDepth 100000 in
theorem c_X9_isLetter (l : Launch) (G : Gx) (M : Mem) (L : MemL) (a0 : Int32) {z : Int32} (h : f_X9_isLetter a0 = some z) : Met l yX9_isLetter (.code yX9_isLetter cX9_isLetter 1 (Option.some Jvm.ClassFile.FieldType.boolean) :: UW) rm_X9_isLetter (va_Pc [.int a0] (PreG G true M L)) (Qi G z M L) 0 0 (gA G) := by
  refine r_in (by decide) (fun p e s m args below meth c S hr d ha ls hl => ?_) (Nat.le_of_ble_eq_true rfl)
  have S : Sx G true p s m args meth c cX9_isLetter 1 RX9 := S
  have hl : lv_has ls 1 [(0, .int a0)] := hl
  unfold f_X9_isLetter at h
  refine lv_iload_n S.1 S.2.1 dX9_isLetter_0 rfl (lv_at hl 0 rfl) ?_
  refine lv_i2l S.1 S.2.1 dX9_isLetter_1 rfl ?_
  refine lv_lconst (v := 0) S.1 S.2.1 dX9_isLetter_2 (by decide) ?_
  refine lv_ldc2 (v := 25) S.1 S.2.1 S.2.2.2.1 (S.uw cn_RX9_81) dX9_isLetter_3 ?_
  obtain ⟨u1, hu1, h⟩ := bd_e h
  refine r_ri d (r_cS (As := [.long ((a0).toInt64), .long (0 : Int64), .long (25 : Int64)]) (rest := []) S d (c_X9_in l G M L ((a0).toInt64) (0 : Int64) (25 : Int64) hu1) ml_RX9_75 sm_yX9_in in_RX9 co_yX9_in hyS_X9_in ⟨rfl, rfl⟩ ⟨by decide, by decide⟩ rfl hl rfl (Nat.le_of_ble_eq_true rfl) dX9_isLetter_6 ⟨Nat.zero_le _, Nat.zero_le _⟩) (fun H locs d => ?_)
  obtain ⟨gz, h⟩ := gd_e h
  obtain rfl := Option.some.inj h
  exact r_iret S d hr (isZ_nar gz) rfl dX9_isLetter_9
theorem hyV_X9_isWord : yX9_isWord.cls = RX9 ∧ yX9_isWord.cls ≠ "java/lang/invoke/MethodHandle" ∧ yX9_isWord.cls ≠ "java/lang/invoke/VarHandle" ∧ (parseMethodDescriptor yX9_isWord.desc).map (fun d => d.parameters.length) = some 1 := by decide +kernel
abbrev rm_X9_isWord : Room := { frames := 1, cells := 0, slots := 0, locals := 25 }
def f_X9_isWord (M : Mem) (k0 : Nat) (a1 : Int32) : Option (Int32) :=
  (f_X9_in ((a1).toInt64) (0 : Int64) ((((M k0 8) - (1 : Int32))).toInt64)).bind (fun u1 =>
  gd (isZ u1) (
  some (u1)))
set_option maxHeartbeats 4000000 in
set_option maxRecDepth 100000 in
theorem c_X9_isWord (l : Launch) (G : Gx) (M : Mem) (L : MemL) (k0 : Nat) (a1 : Int32) (hk0 : kd k0 = 20) {z : Int32} (h : f_X9_isWord M k0 a1 = some z) : Met l yX9_isWord (.code yX9_isWord cX9_isWord 2 (Option.some Jvm.ClassFile.FieldType.boolean) :: UW) rm_X9_isWord (va_Pc [.ref (ad G k0), .int a1] (PreG G true M L)) (Qi G z M L) 0 0 (gA G) := by
  refine r_in (by decide) (fun p e s m args below meth c S hr d ha ls hl => ?_) (Nat.le_of_ble_eq_true rfl)
  have S : Sx G true p s m args meth c cX9_isWord 2 RX9 := S
  have hl : lv_has ls 2 [(0, .ref (ad G k0)), (1, .int a1)] := hl
  unfold f_X9_isWord at h
  refine lv_iload_n S.1 S.2.1 dX9_isWord_0 rfl (lv_at hl 1 rfl) ?_
  refine lv_i2l S.1 S.2.1 dX9_isWord_1 rfl ?_
  refine lv_lconst (v := 0) S.1 S.2.1 dX9_isWord_2 (by decide) ?_
  refine lv_aload_n S.1 S.2.1 dX9_isWord_3 rfl (lv_at hl 0 rfl) ?_
  refine gf_20_8 S d hk0 fl_RX9_83 dX9_isWord_4 ?_
  refine lv_iconst (v := 1) S.1 S.2.1 dX9_isWord_7 (by decide) ?_
  refine lv_isub S.1 S.2.1 dX9_isWord_8 ?_
  refine lv_i2l S.1 S.2.1 dX9_isWord_9 rfl ?_
  obtain ⟨u1, hu1, h⟩ := bd_e h
  refine r_ri d (r_cS (As := [.long ((a1).toInt64), .long (0 : Int64), .long ((((M k0 8) - (1 : Int32))).toInt64)]) (rest := []) S d (c_X9_in l G M L ((a1).toInt64) (0 : Int64) ((((M k0 8) - (1 : Int32))).toInt64) hu1) ml_RX9_75 sm_yX9_in in_RX9 co_yX9_in hyS_X9_in ⟨rfl, rfl⟩ ⟨by decide, by decide⟩ rfl hl rfl (Nat.le_of_ble_eq_true rfl) dX9_isWord_10 ⟨Nat.zero_le _, Nat.zero_le _⟩) (fun H locs d => ?_)
  obtain ⟨gz, h⟩ := gd_e h
  obtain rfl := Option.some.inj h
  exact r_iret S d hr (isZ_nar gz) rfl dX9_isWord_13
theorem hyV_X9_addStrip : yX9_addStrip.cls = RX9 ∧ yX9_addStrip.cls ≠ "java/lang/invoke/MethodHandle" ∧ yX9_addStrip.cls ≠ "java/lang/invoke/VarHandle" ∧ (parseMethodDescriptor yX9_addStrip.desc).map (fun d => d.parameters.length) = some 1 := by decide +kernel
abbrev rm_X9_addStrip : Room := { frames := 0, cells := 0, slots := 0, locals := 0 }
def lp_X9_addStrip_12 (fu : Nat) (b0 : Nat) (K : Mem → Option (Mem)) : Nat → Int32 → Mem → Option (Mem)
  | 0, _, _ => none
  | n + 1, x2, Mx =>
    (if (15 : Int32) ≤ x2 then (K Mx)
    else gd (inb (((15 : Int32) * (Mx b0 7)) + x2) 135) (
      lt (up Mx (b0 + 3) (((15 : Int32) * (Mx b0 7)) + x2).toNatClampNeg (5 : Int32)) (fun M4 : Mem =>
      lt (x2 + 1) (fun v5 : Int32 =>
      (lp_X9_addStrip_12 fu b0 K n v5 M4)))))
def f_X9_addStrip (fu : Nat) (M : Mem) (k0 : Nat) (a1 : Int32) : Option (Mem) :=
  gd (inb (M k0 7) 9) (
  lt (up M (k0 + 2) (M k0 7).toNatClampNeg a1) (fun M2 : Mem =>
  (lp_X9_addStrip_12 fu k0 (fun (M6 : Mem) =>
    lt (up M6 k0 7 ((M6 k0 7) + (1 : Int32))) (fun M7 : Mem =>
    some (M7))) fu (0 : Int32) M2)))
set_option maxHeartbeats 4000000 in
set_option maxRecDepth 100000 in
theorem lc_X9_addStrip_12 {p : Program} {l : Launch} {e : Env} {s : State} {m : MethodId} {args : Array Value} {below : List Frame} {meth : Method} {c : Code} {G : Gx} {L : MemL} {fu : Nat} {b0 : Nat} {z : Mem} (S : Sx G true p s m args meth c cX9_addStrip 3 RX9) (hr : meth.sig.returnType = (Option.none : Option Jvm.ClassFile.FieldType)) (hb0 : kd b0 = 20) (K : Mem → Option (Mem)) (hK : ∀ (My : Mem) (H : Heap) (locs : List Loc), Dy G s My L H locs → ∀ ls : Array Slot, lv_has ls 3 [(0, .ref (ad G b0))] → K My = some z → W p l e rm_X9_addStrip s m args below meth c H locs 0 0 (MQ below (Qv G z L) args s 0 0 (gA G)) (F0 m 39 ls [])) :
    ∀ (n : Nat) (x2 : Int32) (Mx : Mem), lp_X9_addStrip_12 fu b0 K n x2 Mx = some z → ∀ (H : Heap) (locs : List Loc), Dy G s Mx L H locs → ∀ ls : Array Slot, lv_has ls 3 [(0, .ref (ad G b0)), (2, .int x2)] → W p l e rm_X9_addStrip s m args below meth c H locs 0 0 (MQ below (Qv G z L) args s 0 0 (gA G)) (F0 m 12 ls []) := by
  intro n
  induction n with
  | zero =>
    intro x2 Mx h
    have h : (none : Option (Mem)) = some z := h
    cases h
  | succ n ih =>
    intro x2 Mx h H locs d ls hl
    rw [lp_X9_addStrip_12] at h
    refine lv_iload_n S.1 S.2.1 dX9_addStrip_12 rfl (lv_at hl 1 rfl) ?_
    refine lv_bipush (v := 15) S.1 S.2.1 dX9_addStrip_13 (by decide) ?_
    refine lv_icmp_ge (tgt := 39) S.1 S.2.1 dX9_addStrip_15 (by decide) (fun cc => ?_) (fun cc => ?_)
    · replace h := it_p cc h
      exact hK _ _ _ d _ (lv_sub hl [0] rfl) h
    · replace h := it_n cc h
      refine lv_aload_n S.1 S.2.1 dX9_addStrip_18 rfl (lv_at hl 0 rfl) ?_
      refine gf_20_2 S d hb0 fl_RX9_16 dX9_addStrip_19 ?_
      refine lv_bipush (v := 15) S.1 S.2.1 dX9_addStrip_22 (by decide) ?_
      refine lv_aload_n S.1 S.2.1 dX9_addStrip_24 rfl (lv_at hl 0 rfl) ?_
      refine gf_20_7 S d hb0 fl_RX9_71 dX9_addStrip_25 ?_
      refine lv_imul S.1 S.2.1 dX9_addStrip_28 ?_
      refine lv_iload_n S.1 S.2.1 dX9_addStrip_29 rfl (lv_at hl 1 rfl) ?_
      refine lv_iadd S.1 S.2.1 dX9_addStrip_30 ?_
      refine lv_iconst (v := 5) S.1 S.2.1 dX9_addStrip_31 (by decide) ?_
      obtain ⟨g3, h⟩ := gd_e h
      obtain ⟨M4, eM4, h⟩ := lt_e h
      refine r_iast S d eM4 (ksdM S (ch_20_2 hb0).1) (fun _ => wc_21 (ch_20_2 hb0).1) (ch_20_2 hb0).2 g3 dX9_addStrip_32 (fun H locs d => ?_)
      obtain ⟨v5, ev5, h⟩ := lt_e h
      refine lv_iinc (v := v5) (lv' := [(2, .int v5), (0, .ref (ad G b0))]) S.1 S.2.1 dX9_addStrip_33 hl (k := 1) rfl (by rw [ev5]; rfl) (by decide) rfl (fun ls hl => ?_)
      refine lv_goto (tgt := 12) S.1 S.2.1 dX9_addStrip_36 (by decide) ?_
      exact ih _ _ h _ _ d _ (lv_sub hl [1, 0] rfl)
set_option maxHeartbeats 4000000 in
set_option maxRecDepth 100000 in
theorem c_X9_addStrip (l : Launch) (G : Gx) (M : Mem) (L : MemL) (fu : Nat) (k0 : Nat) (a1 : Int32) (hk0 : kd k0 = 20) {z : Mem} (h : f_X9_addStrip fu M k0 a1 = some z) : Met l yX9_addStrip (.code yX9_addStrip cX9_addStrip 3 (Option.none : Option Jvm.ClassFile.FieldType) :: UW) rm_X9_addStrip (va_Pc [.ref (ad G k0), .int a1] (PreG G true M L)) (Qv G z L) 0 0 (gA G) := by
  refine r_in (by decide) (fun p e s m args below meth c S hr d ha ls hl => ?_) (Nat.le_of_ble_eq_true rfl)
  have S : Sx G true p s m args meth c cX9_addStrip 3 RX9 := S
  have hl : lv_has ls 3 [(0, .ref (ad G k0)), (1, .int a1)] := hl
  unfold f_X9_addStrip at h
  refine lv_aload_n S.1 S.2.1 dX9_addStrip_0 rfl (lv_at hl 0 rfl) ?_
  refine gf_20_1 S d hk0 fl_RX9_13 dX9_addStrip_1 ?_
  refine lv_aload_n S.1 S.2.1 dX9_addStrip_4 rfl (lv_at hl 0 rfl) ?_
  refine gf_20_7 S d hk0 fl_RX9_71 dX9_addStrip_5 ?_
  refine lv_iload_n S.1 S.2.1 dX9_addStrip_8 rfl (lv_at hl 1 rfl) ?_
  obtain ⟨g1, h⟩ := gd_e h
  obtain ⟨M2, eM2, h⟩ := lt_e h
  refine r_iast S d eM2 (ksdM S (ch_20_1 hk0).1) (fun _ => wc_21 (ch_20_1 hk0).1) (ch_20_1 hk0).2 g1 dX9_addStrip_9 (fun H locs d => ?_)
  refine lv_iconst (v := 0) S.1 S.2.1 dX9_addStrip_10 (by decide) ?_
  refine lv_istore_n (lv' := [(2, .int (0 : Int32)), (0, .ref (ad G k0)), (1, .int a1)]) S.1 S.2.1 dX9_addStrip_11 rfl hl (by decide) rfl (fun ls hl => ?_)
  refine lc_X9_addStrip_12 S hr hk0 _ (fun M6 H locs d ls hl h => ?_) _ _ _  h _ _ d _ (lv_sub hl [1, 0] rfl)
  refine lv_aload_n S.1 S.2.1 dX9_addStrip_39 rfl (lv_at hl 0 rfl) ?_
  refine lv_dup S.1 S.2.1 dX9_addStrip_40 rfl ?_
  refine gf_20_7 S d hk0 fl_RX9_71 dX9_addStrip_41 ?_
  refine lv_iconst (v := 1) S.1 S.2.1 dX9_addStrip_44 (by decide) ?_
  refine lv_iadd S.1 S.2.1 dX9_addStrip_45 ?_
  obtain ⟨M7, eM7, h⟩ := lt_e h
  refine pf_20_7 S d eM7 hk0 fl_RX9_71 dX9_addStrip_46 (fun H locs d => ?_)
  obtain rfl := Option.some.inj h
  exact r_vret S d hr dX9_addStrip_49
theorem hyV_X9_strip : yX9_strip.cls = RX9 ∧ yX9_strip.cls ≠ "java/lang/invoke/MethodHandle" ∧ yX9_strip.cls ≠ "java/lang/invoke/VarHandle" ∧ (parseMethodDescriptor yX9_strip.desc).map (fun d => d.parameters.length) = some 1 := by decide +kernel
abbrev rm_X9_strip : Room := { frames := 1, cells := 0, slots := 0, locals := 25 }
def f_X9_strip (fu : Nat) (M : Mem) (k0 : Nat) (a1 : Int32) : Option (Int32 × Mem) :=
  (f_X9_in ((a1).toInt64) (0 : Int64) (5 : Int64)).bind (fun u1 =>
  (if u1 = 0 then some ((-1 : Int32), M)
  else (if (M k0 7) = (9 : Int32) then some ((-3 : Int32), M)
    else (f_X9_addStrip fu M k0 a1).bind (fun u2 =>
      some (((u2 k0 7) - (1 : Int32)), u2)))))
set_option maxHeartbeats 4000000 in
set_option maxRecDepth 100000 in
theorem c_X9_strip (l : Launch) (G : Gx) (M : Mem) (L : MemL) (fu : Nat) (k0 : Nat) (a1 : Int32) (hk0 : kd k0 = 20) {z : Int32 × Mem} (h : f_X9_strip fu M k0 a1 = some z) : Met l yX9_strip (.code yX9_strip cX9_strip 2 (Option.some Jvm.ClassFile.FieldType.int) :: UW) rm_X9_strip (va_Pc [.ref (ad G k0), .int a1] (PreG G true M L)) (Qi G z.1 z.2 L) 0 0 (gA G) := by
  refine r_in (by decide) (fun p e s m args below meth c S hr d ha ls hl => ?_) (Nat.le_of_ble_eq_true rfl)
  have S : Sx G true p s m args meth c cX9_strip 2 RX9 := S
  have hl : lv_has ls 2 [(0, .ref (ad G k0)), (1, .int a1)] := hl
  unfold f_X9_strip at h
  refine lv_iload_n S.1 S.2.1 dX9_strip_0 rfl (lv_at hl 1 rfl) ?_
  refine lv_i2l S.1 S.2.1 dX9_strip_1 rfl ?_
  refine lv_lconst (v := 0) S.1 S.2.1 dX9_strip_2 (by decide) ?_
  refine lv_ldc2 (v := 5) S.1 S.2.1 S.2.2.2.1 (S.uw cn_RX9_86) dX9_strip_3 ?_
  obtain ⟨u1, hu1, h⟩ := bd_e h
  refine r_ri d (r_cS (As := [.long ((a1).toInt64), .long (0 : Int64), .long (5 : Int64)]) (rest := []) S d (c_X9_in l G M L ((a1).toInt64) (0 : Int64) (5 : Int64) hu1) ml_RX9_75 sm_yX9_in in_RX9 co_yX9_in hyS_X9_in ⟨rfl, rfl⟩ ⟨by decide, by decide⟩ rfl hl rfl (Nat.le_of_ble_eq_true rfl) dX9_strip_6 ⟨Nat.zero_le _, Nat.zero_le _⟩) (fun H locs d => ?_)
  refine lv_if_ne (tgt := 14) S.1 S.2.1 dX9_strip_9 (by decide) (fun cc => ?_) (fun cc => ?_)
  · replace h := it_n cc h
    refine lv_aload_n S.1 S.2.1 dX9_strip_14 rfl (lv_at hl 0 rfl) ?_
    refine gf_20_7 S d hk0 fl_RX9_71 dX9_strip_15 ?_
    refine lv_bipush (v := 9) S.1 S.2.1 dX9_strip_18 (by decide) ?_
    refine lv_icmp_ne (tgt := 26) S.1 S.2.1 dX9_strip_20 (by decide) (fun cc => ?_) (fun cc => ?_)
    · replace h := it_n cc h
      refine lv_aload_n S.1 S.2.1 dX9_strip_26 rfl (lv_at hl 0 rfl) ?_
      refine lv_iload_n S.1 S.2.1 dX9_strip_27 rfl (lv_at hl 1 rfl) ?_
      obtain ⟨u2, hu2, h⟩ := bd_e h
      refine r_rv d (r_cV (As := [.int a1]) (rest := []) S d (c_X9_addStrip l G M L fu k0 a1 hk0 hu2) (ksdM S hk0) (wc_20 hk0) rfl ml_RX9_88 im_yX9_addStrip se_yX9_addStrip in_RX9 co_yX9_addStrip hyV_X9_addStrip ⟨rfl, rfl⟩ ⟨by decide, by decide⟩ rfl hl rfl (Nat.le_of_ble_eq_true rfl) dX9_strip_28 ⟨Nat.zero_le _, Nat.zero_le _⟩) (fun H locs d => ?_)
      refine lv_aload_n S.1 S.2.1 dX9_strip_31 rfl (lv_at hl 0 rfl) ?_
      refine gf_20_7 S d hk0 fl_RX9_71 dX9_strip_32 ?_
      refine lv_iconst (v := 1) S.1 S.2.1 dX9_strip_35 (by decide) ?_
      refine lv_isub S.1 S.2.1 dX9_strip_36 ?_
      obtain rfl := Option.some.inj h
      exact r_iret S d hr rfl rfl dX9_strip_37
    · replace h := it_p cc h
      refine lv_bipush (v := (-3)) S.1 S.2.1 dX9_strip_23 (by decide) ?_
      obtain rfl := Option.some.inj h
      exact r_iret S d hr rfl rfl dX9_strip_25
  · replace h := it_p cc h
    refine lv_iconst (v := (-1)) S.1 S.2.1 dX9_strip_12 (by decide) ?_
    obtain rfl := Option.some.inj h
    exact r_iret S d hr rfl rfl dX9_strip_13
theorem hyV_X9_set : yX9_set.cls = RX9 ∧ yX9_set.cls ≠ "java/lang/invoke/MethodHandle" ∧ yX9_set.cls ≠ "java/lang/invoke/VarHandle" ∧ (parseMethodDescriptor yX9_set.desc).map (fun d => d.parameters.length) = some 2 := by decide +kernel
abbrev rm_X9_set : Room := { frames := 1, cells := 0, slots := 0, locals := 25 }
def f_X9_set (M : Mem) (k0 : Nat) (a1 : Int32) (a2 : Int32) : Option (Int32 × Mem) :=
  (if a1 = 0 then some (5 : Int32)
  else (if a1 = (1 : Int32) then some (8 : Int32)
    else (if a1 = (2 : Int32) then some (7 : Int32)
      else some (9 : Int32)))).bind (fun t1 : Int32 =>
  (f_X9_in ((a1).toInt64) (0 : Int64) (3 : Int64)).bind (fun u3 =>
  (if u3 = 0 then some ((-1 : Int32), M)
  else (f_X9_in ((a2).toInt64) (0 : Int64) ((t1).toInt64)).bind (fun u4 =>
    (if u4 = 0 then some ((-1 : Int32), M)
    else gd (inb a1 4) (
      lt ((M (k0 + 5) a1.toNatClampNeg)) (fun v6 : Int32 =>
      gd (inb a1 4) (
      lt (up M (k0 + 5) a1.toNatClampNeg a2) (fun M8 : Mem =>
      some (v6, M8))))))))))
set_option maxHeartbeats 4000000 in
set_option maxRecDepth 100000 in
theorem c_X9_set (l : Launch) (G : Gx) (M : Mem) (L : MemL) (k0 : Nat) (a1 : Int32) (a2 : Int32) (hk0 : kd k0 = 20) {z : Int32 × Mem} (h : f_X9_set M k0 a1 a2 = some z) : Met l yX9_set (.code yX9_set cX9_set 5 (Option.some Jvm.ClassFile.FieldType.int) :: UW) rm_X9_set (va_Pc [.ref (ad G k0), .int a1, .int a2] (PreG G true M L)) (Qi G z.1 z.2 L) 0 0 (gA G) := by
  refine r_in (by decide) (fun p e s m args below meth c S hr d ha ls hl => ?_) (Nat.le_of_ble_eq_true rfl)
  have S : Sx G true p s m args meth c cX9_set 5 RX9 := S
  have hl : lv_has ls 5 [(0, .ref (ad G k0)), (1, .int a1), (2, .int a2)] := hl
  unfold f_X9_set at h
  refine lv_iload_n S.1 S.2.1 dX9_set_0 rfl (lv_at hl 1 rfl) ?_
  obtain ⟨t1, g2, h⟩ := bd_e h
  have Jt1 : ∀ (H : Heap) (locs : List Loc), Dy G s M L H locs → W p l e rm_X9_set s m args below meth c H locs 0 0 (MQ below (Qi G z.1 z.2 L) args s 0 0 (gA G)) (F0 m 30 ls [.int t1]) := by
    intro H locs d
    refine lv_istore_n (lv' := [(3, .int t1), (0, .ref (ad G k0)), (1, .int a1), (2, .int a2)]) S.1 S.2.1 dX9_set_30 rfl hl (by decide) rfl (fun ls hl => ?_)
    refine lv_iload_n S.1 S.2.1 dX9_set_31 rfl (lv_at hl 2 rfl) ?_
    refine lv_i2l S.1 S.2.1 dX9_set_32 rfl ?_
    refine lv_lconst (v := 0) S.1 S.2.1 dX9_set_33 (by decide) ?_
    refine lv_ldc2 (v := 3) S.1 S.2.1 S.2.2.2.1 (S.uw cn_RX9_92) dX9_set_34 ?_
    obtain ⟨u3, hu3, h⟩ := bd_e h
    refine r_ri d (r_cS (As := [.long ((a1).toInt64), .long (0 : Int64), .long (3 : Int64)]) (rest := []) S d (c_X9_in l G M L ((a1).toInt64) (0 : Int64) (3 : Int64) hu3) ml_RX9_75 sm_yX9_in in_RX9 co_yX9_in hyS_X9_in ⟨rfl, rfl⟩ ⟨by decide, by decide⟩ rfl hl rfl (Nat.le_of_ble_eq_true rfl) dX9_set_37 ⟨Nat.zero_le _, Nat.zero_le _⟩) (fun H locs d => ?_)
    refine lv_if_eq (tgt := 54) S.1 S.2.1 dX9_set_40 (by decide) (fun cc => ?_) (fun cc => ?_)
    · replace h := it_p cc h
      refine lv_iconst (v := (-1)) S.1 S.2.1 dX9_set_54 (by decide) ?_
      obtain rfl := Option.some.inj h
      exact r_iret S d hr rfl rfl dX9_set_55
    · replace h := it_n cc h
      refine lv_iload_n S.1 S.2.1 dX9_set_43 rfl (lv_at hl 3 rfl) ?_
      refine lv_i2l S.1 S.2.1 dX9_set_44 rfl ?_
      refine lv_lconst (v := 0) S.1 S.2.1 dX9_set_45 (by decide) ?_
      refine lv_iload_n S.1 S.2.1 dX9_set_46 rfl (lv_at hl 0 rfl) ?_
      refine lv_i2l S.1 S.2.1 dX9_set_47 rfl ?_
      obtain ⟨u4, hu4, h⟩ := bd_e h
      refine r_ri d (r_cS (As := [.long ((a2).toInt64), .long (0 : Int64), .long ((t1).toInt64)]) (rest := []) S d (c_X9_in l G M L ((a2).toInt64) (0 : Int64) ((t1).toInt64) hu4) ml_RX9_75 sm_yX9_in in_RX9 co_yX9_in hyS_X9_in ⟨rfl, rfl⟩ ⟨by decide, by decide⟩ rfl hl rfl (Nat.le_of_ble_eq_true rfl) dX9_set_48 ⟨Nat.zero_le _, Nat.zero_le _⟩) (fun H locs d => ?_)
      refine lv_if_ne (tgt := 56) S.1 S.2.1 dX9_set_51 (by decide) (fun cc => ?_) (fun cc => ?_)
      · replace h := it_n cc h
        refine lv_aload_n S.1 S.2.1 dX9_set_56 rfl (lv_at hl 1 rfl) ?_
        refine gf_20_4 S d hk0 fl_RX9_22 dX9_set_57 ?_
        refine lv_iload_n S.1 S.2.1 dX9_set_60 rfl (lv_at hl 2 rfl) ?_
        obtain ⟨g5, h⟩ := gd_e h
        refine r_iald S d (ksdM S (ch_20_4 hk0).1) (wc_21 (ch_20_4 hk0).1) (ch_20_4 hk0).2 g5 dX9_set_61 ?_
        obtain ⟨v6, ev6, h⟩ := lt_e h
        refine r_top ev6 ?_
        refine lv_istore (lv' := [(4, .int v6), (3, .int t1), (0, .ref (ad G k0)), (1, .int a1), (2, .int a2)]) S.1 S.2.1 dX9_set_62 hl (by decide) rfl (fun ls hl => ?_)
        refine lv_aload_n S.1 S.2.1 dX9_set_64 rfl (lv_at hl 2 rfl) ?_
        refine gf_20_4 S d hk0 fl_RX9_22 dX9_set_65 ?_
        refine lv_iload_n S.1 S.2.1 dX9_set_68 rfl (lv_at hl 3 rfl) ?_
        refine lv_iload_n S.1 S.2.1 dX9_set_69 rfl (lv_at hl 4 rfl) ?_
        obtain ⟨g7, h⟩ := gd_e h
        obtain ⟨M8, eM8, h⟩ := lt_e h
        refine r_iast S d eM8 (ksdM S (ch_20_4 hk0).1) (fun _ => wc_21 (ch_20_4 hk0).1) (ch_20_4 hk0).2 g7 dX9_set_70 (fun H locs d => ?_)
        refine lv_iload S.1 S.2.1 dX9_set_71 (lv_at hl 0 rfl) ?_
        obtain rfl := Option.some.inj h
        exact r_iret S d hr rfl rfl dX9_set_73
      · replace h := it_p cc h
        refine lv_iconst (v := (-1)) S.1 S.2.1 dX9_set_54 (by decide) ?_
        obtain rfl := Option.some.inj h
        exact r_iret S d hr rfl rfl dX9_set_55
  have h := g2
  refine lv_if_ne (tgt := 8) S.1 S.2.1 dX9_set_1 (by decide) (fun cc => ?_) (fun cc => ?_)
  · replace h := it_n cc h
    refine lv_iload_n S.1 S.2.1 dX9_set_8 rfl (lv_at hl 1 rfl) ?_
    refine lv_iconst (v := 1) S.1 S.2.1 dX9_set_9 (by decide) ?_
    refine lv_icmp_ne (tgt := 18) S.1 S.2.1 dX9_set_10 (by decide) (fun cc => ?_) (fun cc => ?_)
    · replace h := it_n cc h
      refine lv_iload_n S.1 S.2.1 dX9_set_18 rfl (lv_at hl 1 rfl) ?_
      refine lv_iconst (v := 2) S.1 S.2.1 dX9_set_19 (by decide) ?_
      refine lv_icmp_ne (tgt := 28) S.1 S.2.1 dX9_set_20 (by decide) (fun cc => ?_) (fun cc => ?_)
      · replace h := it_n cc h
        refine lv_bipush (v := 9) S.1 S.2.1 dX9_set_28 (by decide) ?_
        obtain ej := Option.some.inj h
        refine r_top ej.symm ?_
        exact Jt1 _ _ d
      · replace h := it_p cc h
        refine lv_bipush (v := 7) S.1 S.2.1 dX9_set_23 (by decide) ?_
        refine lv_goto (tgt := 30) S.1 S.2.1 dX9_set_25 (by decide) ?_
        obtain ej := Option.some.inj h
        refine r_top ej.symm ?_
        exact Jt1 _ _ d
    · replace h := it_p cc h
      refine lv_bipush (v := 8) S.1 S.2.1 dX9_set_13 (by decide) ?_
      refine lv_goto (tgt := 30) S.1 S.2.1 dX9_set_15 (by decide) ?_
      obtain ej := Option.some.inj h
      refine r_top ej.symm ?_
      exact Jt1 _ _ d
  · replace h := it_p cc h
    refine lv_iconst (v := 5) S.1 S.2.1 dX9_set_4 (by decide) ?_
    refine lv_goto (tgt := 30) S.1 S.2.1 dX9_set_5 (by decide) ?_
    obtain ej := Option.some.inj h
    refine r_top ej.symm ?_
    exact Jt1 _ _ d
theorem hyV_X9_grass : yX9_grass.cls = RX9 ∧ yX9_grass.cls ≠ "java/lang/invoke/MethodHandle" ∧ yX9_grass.cls ≠ "java/lang/invoke/VarHandle" ∧ (parseMethodDescriptor yX9_grass.desc).map (fun d => d.parameters.length) = some 2 := by decide +kernel
abbrev rm_X9_grass : Room := { frames := 2, cells := 0, slots := 0, locals := 46 }
def f_X9_grass (M : Mem) (k0 : Nat) (a1 : Int32) (a2 : Int32) : Option (Int32) :=
  (f_X9_isStrip M k0 a1).bind (fun u1 =>
  (if u1 = 0 then some ((-1 : Int32))
  else (f_X9_isCell a2).bind (fun u2 =>
    (if u2 = 0 then some ((-1 : Int32))
    else gd (inb (((15 : Int32) * a1) + a2) 135) (
      some ((M (k0 + 3) (((15 : Int32) * a1) + a2).toNatClampNeg)))))))
set_option maxHeartbeats 4000000 in
set_option maxRecDepth 100000 in
theorem c_X9_grass (l : Launch) (G : Gx) (M : Mem) (L : MemL) (k0 : Nat) (a1 : Int32) (a2 : Int32) (hk0 : kd k0 = 20) {z : Int32} (h : f_X9_grass M k0 a1 a2 = some z) : Met l yX9_grass (.code yX9_grass cX9_grass 3 (Option.some Jvm.ClassFile.FieldType.int) :: UW) rm_X9_grass (va_Pc [.ref (ad G k0), .int a1, .int a2] (PreG G true M L)) (Qi G z M L) 0 0 (gA G) := by
  refine r_in (by decide) (fun p e s m args below meth c S hr d ha ls hl => ?_) (Nat.le_of_ble_eq_true rfl)
  have S : Sx G true p s m args meth c cX9_grass 3 RX9 := S
  have hl : lv_has ls 3 [(0, .ref (ad G k0)), (1, .int a1), (2, .int a2)] := hl
  unfold f_X9_grass at h
  refine lv_aload_n S.1 S.2.1 dX9_grass_0 rfl (lv_at hl 0 rfl) ?_
  refine lv_iload_n S.1 S.2.1 dX9_grass_1 rfl (lv_at hl 1 rfl) ?_
  obtain ⟨u1, hu1, h⟩ := bd_e h
  refine r_ri d (r_cV (As := [.int a1]) (rest := []) S d (c_X9_isStrip l G M L k0 a1 hk0 hu1) (ksdM S hk0) (wc_20 hk0) rfl ml_RX9_94 im_yX9_isStrip se_yX9_isStrip in_RX9 co_yX9_isStrip hyV_X9_isStrip ⟨rfl, rfl⟩ ⟨by decide, by decide⟩ rfl hl rfl (Nat.le_of_ble_eq_true rfl) dX9_grass_2 ⟨Nat.zero_le _, Nat.zero_le _⟩) (fun H locs d => ?_)
  refine lv_if_eq (tgt := 29) S.1 S.2.1 dX9_grass_5 (by decide) (fun cc => ?_) (fun cc => ?_)
  · replace h := it_p cc h
    refine lv_iconst (v := (-1)) S.1 S.2.1 dX9_grass_29 (by decide) ?_
    obtain rfl := Option.some.inj h
    exact r_iret S d hr rfl rfl dX9_grass_30
  · replace h := it_n cc h
    refine lv_iload_n S.1 S.2.1 dX9_grass_8 rfl (lv_at hl 2 rfl) ?_
    obtain ⟨u2, hu2, h⟩ := bd_e h
    refine r_ri d (r_cS (As := [.int a2]) (rest := []) S d (c_X9_isCell l G M L a2 hu2) ml_RX9_98 sm_yX9_isCell in_RX9 co_yX9_isCell hyS_X9_isCell ⟨rfl, rfl⟩ ⟨by decide, by decide⟩ rfl hl rfl (Nat.le_of_ble_eq_true rfl) dX9_grass_9 ⟨Nat.zero_le _, Nat.zero_le _⟩) (fun H locs d => ?_)
    refine lv_if_eq (tgt := 29) S.1 S.2.1 dX9_grass_12 (by decide) (fun cc => ?_) (fun cc => ?_)
    · replace h := it_p cc h
      refine lv_iconst (v := (-1)) S.1 S.2.1 dX9_grass_29 (by decide) ?_
      obtain rfl := Option.some.inj h
      exact r_iret S d hr rfl rfl dX9_grass_30
    · replace h := it_n cc h
      refine lv_aload_n S.1 S.2.1 dX9_grass_15 rfl (lv_at hl 0 rfl) ?_
      refine gf_20_2 S d hk0 fl_RX9_16 dX9_grass_16 ?_
      refine lv_bipush (v := 15) S.1 S.2.1 dX9_grass_19 (by decide) ?_
      refine lv_iload_n S.1 S.2.1 dX9_grass_21 rfl (lv_at hl 1 rfl) ?_
      refine lv_imul S.1 S.2.1 dX9_grass_22 ?_
      refine lv_iload_n S.1 S.2.1 dX9_grass_23 rfl (lv_at hl 2 rfl) ?_
      refine lv_iadd S.1 S.2.1 dX9_grass_24 ?_
      obtain ⟨g3, h⟩ := gd_e h
      refine r_iald S d (ksdM S (ch_20_2 hk0).1) (wc_21 (ch_20_2 hk0).1) (ch_20_2 hk0).2 g3 dX9_grass_25 ?_
      refine lv_goto (tgt := 30) S.1 S.2.1 dX9_grass_26 (by decide) ?_
      obtain rfl := Option.some.inj h
      exact r_iret S d hr rfl rfl dX9_grass_30
theorem hyV_X9_letter : yX9_letter.cls = RX9 ∧ yX9_letter.cls ≠ "java/lang/invoke/MethodHandle" ∧ yX9_letter.cls ≠ "java/lang/invoke/VarHandle" ∧ (parseMethodDescriptor yX9_letter.desc).map (fun d => d.parameters.length) = some 1 := by decide +kernel
abbrev rm_X9_letter : Room := { frames := 2, cells := 0, slots := 0, locals := 45 }
def f_X9_letter (M : Mem) (k0 : Nat) (a1 : Int32) : Option (Int32) :=
  (f_X9_isLetter a1).bind (fun u1 =>
  (if u1 = 0 then some ((-1 : Int32))
  else gd (inb a1 26) (
    some ((M (k0 + 1) a1.toNatClampNeg)))))
set_option maxHeartbeats 4000000 in
set_option maxRecDepth 100000 in
theorem c_X9_letter (l : Launch) (G : Gx) (M : Mem) (L : MemL) (k0 : Nat) (a1 : Int32) (hk0 : kd k0 = 20) {z : Int32} (h : f_X9_letter M k0 a1 = some z) : Met l yX9_letter (.code yX9_letter cX9_letter 2 (Option.some Jvm.ClassFile.FieldType.int) :: UW) rm_X9_letter (va_Pc [.ref (ad G k0), .int a1] (PreG G true M L)) (Qi G z M L) 0 0 (gA G) := by
  refine r_in (by decide) (fun p e s m args below meth c S hr d ha ls hl => ?_) (Nat.le_of_ble_eq_true rfl)
  have S : Sx G true p s m args meth c cX9_letter 2 RX9 := S
  have hl : lv_has ls 2 [(0, .ref (ad G k0)), (1, .int a1)] := hl
  unfold f_X9_letter at h
  refine lv_iload_n S.1 S.2.1 dX9_letter_0 rfl (lv_at hl 1 rfl) ?_
  obtain ⟨u1, hu1, h⟩ := bd_e h
  refine r_ri d (r_cS (As := [.int a1]) (rest := []) S d (c_X9_isLetter l G M L a1 hu1) ml_RX9_101 sm_yX9_isLetter in_RX9 co_yX9_isLetter hyS_X9_isLetter ⟨rfl, rfl⟩ ⟨by decide, by decide⟩ rfl hl rfl (Nat.le_of_ble_eq_true rfl) dX9_letter_1 ⟨Nat.zero_le _, Nat.zero_le _⟩) (fun H locs d => ?_)
  refine lv_if_eq (tgt := 16) S.1 S.2.1 dX9_letter_4 (by decide) (fun cc => ?_) (fun cc => ?_)
  · replace h := it_p cc h
    refine lv_iconst (v := (-1)) S.1 S.2.1 dX9_letter_16 (by decide) ?_
    obtain rfl := Option.some.inj h
    exact r_iret S d hr rfl rfl dX9_letter_17
  · replace h := it_n cc h
    refine lv_aload_n S.1 S.2.1 dX9_letter_7 rfl (lv_at hl 0 rfl) ?_
    refine gf_20_0 S d hk0 fl_RX9_7 dX9_letter_8 ?_
    refine lv_iload_n S.1 S.2.1 dX9_letter_11 rfl (lv_at hl 1 rfl) ?_
    obtain ⟨g2, h⟩ := gd_e h
    refine r_iald S d (ksdM S (ch_20_0 hk0).1) (wc_21 (ch_20_0 hk0).1) (ch_20_0 hk0).2 g2 dX9_letter_12 ?_
    refine lv_goto (tgt := 17) S.1 S.2.1 dX9_letter_13 (by decide) ?_
    obtain rfl := Option.some.inj h
    exact r_iret S d hr rfl rfl dX9_letter_17
theorem hyV_X9_seenOf : yX9_seenOf.cls = RX9 ∧ yX9_seenOf.cls ≠ "java/lang/invoke/MethodHandle" ∧ yX9_seenOf.cls ≠ "java/lang/invoke/VarHandle" ∧ (parseMethodDescriptor yX9_seenOf.desc).map (fun d => d.parameters.length) = some 1 := by decide +kernel
abbrev rm_X9_seenOf : Room := { frames := 0, cells := 0, slots := 0, locals := 0 }
def lp_X9_seenOf_4 (fu : Nat) (M : Mem) (b0 : Nat) (b1 : Int32) (K : Int32 → Option (Int32)) : Nat → Int32 → Int32 → Option (Int32)
  | 0, _, _ => none
  | n + 1, x2, x3 =>
    (if (15 : Int32) ≤ x3 then (K x2)
    else gd (inb (((15 : Int32) * b1) + x3) 135) (
      gd (inb (1 : Int32) 4) (
      (if (M (b0 + 5) (1 : Int32).toNatClampNeg) < (M (b0 + 3) (((15 : Int32) * b1) + x3).toNatClampNeg) then some (0 : Int32)
      else some ((1 : Int32) <<< (x3 &&& 31))).bind (fun t3 : Int32 =>
      lt ((x2 ||| t3)) (fun v5 : Int32 =>
      lt (x3 + 1) (fun v6 : Int32 =>
      (lp_X9_seenOf_4 fu M b0 b1 K n v5 v6)))))))
def f_X9_seenOf (fu : Nat) (M : Mem) (k0 : Nat) (a1 : Int32) : Option (Int32) :=
  (lp_X9_seenOf_4 fu M k0 a1 (fun (v7 : Int32) =>
    some (v7)) fu (0 : Int32) (0 : Int32))
set_option maxHeartbeats 4000000 in
set_option maxRecDepth 100000 in
theorem lc_X9_seenOf_4 {p : Program} {l : Launch} {e : Env} {s : State} {m : MethodId} {args : Array Value} {below : List Frame} {meth : Method} {c : Code} {G : Gx} {M : Mem} {L : MemL} {fu : Nat} {b0 : Nat} {b1 : Int32} {z : Int32} (S : Sx G true p s m args meth c cX9_seenOf 4 RX9) (hr : meth.sig.returnType = (Option.some Jvm.ClassFile.FieldType.int)) (hb0 : kd b0 = 20) (K : Int32 → Option (Int32)) (hK : ∀ (y2 : Int32) (H : Heap) (locs : List Loc), Dy G s M L H locs → ∀ ls : Array Slot, lv_has ls 4 [(2, .int y2)] → K y2 = some z → W p l e rm_X9_seenOf s m args below meth c H locs 0 0 (MQ below (Qi G z M L) args s 0 0 (gA G)) (F0 m 46 ls [])) :
    ∀ (n : Nat) (x2 : Int32) (x3 : Int32), lp_X9_seenOf_4 fu M b0 b1 K n x2 x3 = some z → ∀ (H : Heap) (locs : List Loc), Dy G s M L H locs → ∀ ls : Array Slot, lv_has ls 4 [(0, .ref (ad G b0)), (1, .int b1), (2, .int x2), (3, .int x3)] → W p l e rm_X9_seenOf s m args below meth c H locs 0 0 (MQ below (Qi G z M L) args s 0 0 (gA G)) (F0 m 4 ls []) := by
  intro n
  induction n with
  | zero =>
    intro x2 x3 h
    have h : (none : Option (Int32)) = some z := h
    cases h
  | succ n ih =>
    intro x2 x3 h H locs d ls hl
    rw [lp_X9_seenOf_4] at h
    refine lv_iload_n S.1 S.2.1 dX9_seenOf_4 rfl (lv_at hl 3 rfl) ?_
    refine lv_bipush (v := 15) S.1 S.2.1 dX9_seenOf_5 (by decide) ?_
    refine lv_icmp_ge (tgt := 46) S.1 S.2.1 dX9_seenOf_7 (by decide) (fun cc => ?_) (fun cc => ?_)
    · replace h := it_p cc h
      exact hK _ _ _ d _ (lv_sub hl [2] rfl) h
    · replace h := it_n cc h
      refine lv_iload_n S.1 S.2.1 dX9_seenOf_10 rfl (lv_at hl 2 rfl) ?_
      refine lv_aload_n S.1 S.2.1 dX9_seenOf_11 rfl (lv_at hl 0 rfl) ?_
      refine gf_20_2 S d hb0 fl_RX9_16 dX9_seenOf_12 ?_
      refine lv_bipush (v := 15) S.1 S.2.1 dX9_seenOf_15 (by decide) ?_
      refine lv_iload_n S.1 S.2.1 dX9_seenOf_17 rfl (lv_at hl 1 rfl) ?_
      refine lv_imul S.1 S.2.1 dX9_seenOf_18 ?_
      refine lv_iload_n S.1 S.2.1 dX9_seenOf_19 rfl (lv_at hl 3 rfl) ?_
      refine lv_iadd S.1 S.2.1 dX9_seenOf_20 ?_
      obtain ⟨g1, h⟩ := gd_e h
      refine r_iald S d (ksdM S (ch_20_2 hb0).1) (wc_21 (ch_20_2 hb0).1) (ch_20_2 hb0).2 g1 dX9_seenOf_21 ?_
      refine lv_aload_n S.1 S.2.1 dX9_seenOf_22 rfl (lv_at hl 0 rfl) ?_
      refine gf_20_4 S d hb0 fl_RX9_22 dX9_seenOf_23 ?_
      refine lv_iconst (v := 1) S.1 S.2.1 dX9_seenOf_26 (by decide) ?_
      obtain ⟨g2, h⟩ := gd_e h
      refine r_iald S d (ksdM S (ch_20_4 hb0).1) (wc_21 (ch_20_4 hb0).1) (ch_20_4 hb0).2 g2 dX9_seenOf_27 ?_
      obtain ⟨t3, g4, h⟩ := bd_e h
      have Jt3 : ∀ (H : Heap) (locs : List Loc), Dy G s M L H locs → W p l e rm_X9_seenOf s m args below meth c H locs 0 0 (MQ below (Qi G z M L) args s 0 0 (gA G)) (F0 m 38 ls [.int t3, .int x2]) := by
        intro H locs d
        refine lv_ior S.1 S.2.1 dX9_seenOf_38 ?_
        obtain ⟨v5, ev5, h⟩ := lt_e h
        refine r_top ev5 ?_
        refine lv_istore_n (lv' := [(2, .int v5), (0, .ref (ad G b0)), (1, .int b1), (3, .int x3)]) S.1 S.2.1 dX9_seenOf_39 rfl hl (by decide) rfl (fun ls hl => ?_)
        obtain ⟨v6, ev6, h⟩ := lt_e h
        refine lv_iinc (v := v6) (lv' := [(3, .int v6), (2, .int v5), (0, .ref (ad G b0)), (1, .int b1)]) S.1 S.2.1 dX9_seenOf_40 hl (k := 3) rfl (by rw [ev6]; rfl) (by decide) rfl (fun ls hl => ?_)
        refine lv_goto (tgt := 4) S.1 S.2.1 dX9_seenOf_43 (by decide) ?_
        exact ih _ _ h _ _ d _ (lv_sub hl [2, 3, 1, 0] rfl)
      have h := g4
      refine lv_icmp_gt (tgt := 37) S.1 S.2.1 dX9_seenOf_28 (by decide) (fun cc => ?_) (fun cc => ?_)
      · replace h := it_p cc h
        refine lv_iconst (v := 0) S.1 S.2.1 dX9_seenOf_37 (by decide) ?_
        obtain ej := Option.some.inj h
        refine r_top ej.symm ?_
        exact Jt3 _ _ d
      · replace h := it_n cc h
        refine lv_iconst (v := 1) S.1 S.2.1 dX9_seenOf_31 (by decide) ?_
        refine lv_iload_n S.1 S.2.1 dX9_seenOf_32 rfl (lv_at hl 3 rfl) ?_
        refine lv_ishl S.1 S.2.1 dX9_seenOf_33 ?_
        refine lv_goto (tgt := 38) S.1 S.2.1 dX9_seenOf_34 (by decide) ?_
        obtain ej := Option.some.inj h
        refine r_top ej.symm ?_
        exact Jt3 _ _ d
set_option maxHeartbeats 4000000 in
set_option maxRecDepth 100000 in
theorem c_X9_seenOf (l : Launch) (G : Gx) (M : Mem) (L : MemL) (fu : Nat) (k0 : Nat) (a1 : Int32) (hk0 : kd k0 = 20) {z : Int32} (h : f_X9_seenOf fu M k0 a1 = some z) : Met l yX9_seenOf (.code yX9_seenOf cX9_seenOf 4 (Option.some Jvm.ClassFile.FieldType.int) :: UW) rm_X9_seenOf (va_Pc [.ref (ad G k0), .int a1] (PreG G true M L)) (Qi G z M L) 0 0 (gA G) := by
  refine r_in (by decide) (fun p e s m args below meth c S hr d ha ls hl => ?_) (Nat.le_of_ble_eq_true rfl)
  have S : Sx G true p s m args meth c cX9_seenOf 4 RX9 := S
  have hl : lv_has ls 4 [(0, .ref (ad G k0)), (1, .int a1)] := hl
  unfold f_X9_seenOf at h
  refine lv_iconst (v := 0) S.1 S.2.1 dX9_seenOf_0 (by decide) ?_
  refine lv_istore_n (lv' := [(2, .int (0 : Int32)), (0, .ref (ad G k0)), (1, .int a1)]) S.1 S.2.1 dX9_seenOf_1 rfl hl (by decide) rfl (fun ls hl => ?_)
  refine lv_iconst (v := 0) S.1 S.2.1 dX9_seenOf_2 (by decide) ?_
  refine lv_istore_n (lv' := [(3, .int (0 : Int32)), (2, .int (0 : Int32)), (0, .ref (ad G k0)), (1, .int a1)]) S.1 S.2.1 dX9_seenOf_3 rfl hl (by decide) rfl (fun ls hl => ?_)
  refine lc_X9_seenOf_4 S hr hk0 _ (fun v7 H locs d ls hl h => ?_) _ _ _  h _ _ d _ (lv_sub hl [2, 3, 1, 0] rfl)
  refine lv_iload_n S.1 S.2.1 dX9_seenOf_46 rfl (lv_at hl 0 rfl) ?_
  obtain rfl := Option.some.inj h
  exact r_iret S d hr rfl rfl dX9_seenOf_47
theorem hyV_X9_seen : yX9_seen.cls = RX9 ∧ yX9_seen.cls ≠ "java/lang/invoke/MethodHandle" ∧ yX9_seen.cls ≠ "java/lang/invoke/VarHandle" ∧ (parseMethodDescriptor yX9_seen.desc).map (fun d => d.parameters.length) = some 1 := by decide +kernel
abbrev rm_X9_seen : Room := { frames := 2, cells := 0, slots := 0, locals := 46 }
def f_X9_seen (fu : Nat) (M : Mem) (k0 : Nat) (a1 : Int32) : Option (Int32) :=
  (f_X9_isStrip M k0 a1).bind (fun u1 =>
  (if u1 = 0 then some ((-1 : Int32))
  else (f_X9_seenOf fu M k0 a1).bind (fun u2 =>
    some (u2))))
set_option maxHeartbeats 4000000 in
set_option maxRecDepth 100000 in
theorem c_X9_seen (l : Launch) (G : Gx) (M : Mem) (L : MemL) (fu : Nat) (k0 : Nat) (a1 : Int32) (hk0 : kd k0 = 20) {z : Int32} (h : f_X9_seen fu M k0 a1 = some z) : Met l yX9_seen (.code yX9_seen cX9_seen 2 (Option.some Jvm.ClassFile.FieldType.int) :: UW) rm_X9_seen (va_Pc [.ref (ad G k0), .int a1] (PreG G true M L)) (Qi G z M L) 0 0 (gA G) := by
  refine r_in (by decide) (fun p e s m args below meth c S hr d ha ls hl => ?_) (Nat.le_of_ble_eq_true rfl)
  have S : Sx G true p s m args meth c cX9_seen 2 RX9 := S
  have hl : lv_has ls 2 [(0, .ref (ad G k0)), (1, .int a1)] := hl
  unfold f_X9_seen at h
  refine lv_aload_n S.1 S.2.1 dX9_seen_0 rfl (lv_at hl 0 rfl) ?_
  refine lv_iload_n S.1 S.2.1 dX9_seen_1 rfl (lv_at hl 1 rfl) ?_
  obtain ⟨u1, hu1, h⟩ := bd_e h
  refine r_ri d (r_cV (As := [.int a1]) (rest := []) S d (c_X9_isStrip l G M L k0 a1 hk0 hu1) (ksdM S hk0) (wc_20 hk0) rfl ml_RX9_94 im_yX9_isStrip se_yX9_isStrip in_RX9 co_yX9_isStrip hyV_X9_isStrip ⟨rfl, rfl⟩ ⟨by decide, by decide⟩ rfl hl rfl (Nat.le_of_ble_eq_true rfl) dX9_seen_2 ⟨Nat.zero_le _, Nat.zero_le _⟩) (fun H locs d => ?_)
  refine lv_if_eq (tgt := 16) S.1 S.2.1 dX9_seen_5 (by decide) (fun cc => ?_) (fun cc => ?_)
  · replace h := it_p cc h
    refine lv_iconst (v := (-1)) S.1 S.2.1 dX9_seen_16 (by decide) ?_
    obtain rfl := Option.some.inj h
    exact r_iret S d hr rfl rfl dX9_seen_17
  · replace h := it_n cc h
    refine lv_aload_n S.1 S.2.1 dX9_seen_8 rfl (lv_at hl 0 rfl) ?_
    refine lv_iload_n S.1 S.2.1 dX9_seen_9 rfl (lv_at hl 1 rfl) ?_
    obtain ⟨u2, hu2, h⟩ := bd_e h
    refine r_ri d (r_cV (As := [.int a1]) (rest := []) S d (c_X9_seenOf l G M L fu k0 a1 hk0 hu2) (ksdM S hk0) (wc_20 hk0) rfl ml_RX9_104 im_yX9_seenOf se_yX9_seenOf in_RX9 co_yX9_seenOf hyV_X9_seenOf ⟨rfl, rfl⟩ ⟨by decide, by decide⟩ rfl hl rfl (Nat.le_of_ble_eq_true rfl) dX9_seen_10 ⟨Nat.zero_le _, Nat.zero_le _⟩) (fun H locs d => ?_)
    refine lv_goto (tgt := 17) S.1 S.2.1 dX9_seen_13 (by decide) ?_
    obtain rfl := Option.some.inj h
    exact r_iret S d hr rfl rfl dX9_seen_17
theorem hyV_X9_nearestForm : yX9_nearestForm.cls = RX9 ∧ yX9_nearestForm.cls ≠ "java/lang/invoke/MethodHandle" ∧ yX9_nearestForm.cls ≠ "java/lang/invoke/VarHandle" ∧ (parseMethodDescriptor yX9_nearestForm.desc).map (fun d => d.parameters.length) = some 1 := by decide +kernel
abbrev rm_X9_nearestForm : Room := { frames := 1, cells := 0, slots := 0, locals := 22 }
def lp_X9_nearestForm_4 (fu : Nat) (M : Mem) (b0 : Nat) (b1 : Int32) (K : Int32 → Option (Int32)) : Nat → Int32 → Int32 → Option (Int32)
  | 0, _, _ => none
  | n + 1, x2, x3 =>
    (if (26 : Int32) ≤ x3 then (K x2)
    else gd (inb x3 26) (
      (f_X9_ones fu (b1 ^^^ (M (b0 + 1) x3.toNatClampNeg))).bind (fun u2 =>
      gd (inb x2 26) (
      (f_X9_ones fu (b1 ^^^ (M (b0 + 1) x2.toNatClampNeg))).bind (fun u4 =>
      (if u4 ≤ u2 then some x2
      else some x3).bind (fun t5 : Int32 =>
      lt (x3 + 1) (fun v7 : Int32 =>
      (lp_X9_nearestForm_4 fu M b0 b1 K n t5 v7))))))))
def f_X9_nearestForm (fu : Nat) (M : Mem) (k0 : Nat) (a1 : Int32) : Option (Int32) :=
  (lp_X9_nearestForm_4 fu M k0 a1 (fun (v8 : Int32) =>
    some (v8)) fu (0 : Int32) (1 : Int32))
set_option maxHeartbeats 4000000 in
set_option maxRecDepth 100000 in
theorem lc_X9_nearestForm_4 {p : Program} {l : Launch} {e : Env} {s : State} {m : MethodId} {args : Array Value} {below : List Frame} {meth : Method} {c : Code} {G : Gx} {M : Mem} {L : MemL} {fu : Nat} {b0 : Nat} {b1 : Int32} {z : Int32} (S : Sx G true p s m args meth c cX9_nearestForm 4 RX9) (hr : meth.sig.returnType = (Option.some Jvm.ClassFile.FieldType.int)) (hb0 : kd b0 = 20) (K : Int32 → Option (Int32)) (hK : ∀ (y2 : Int32) (H : Heap) (locs : List Loc), Dy G s M L H locs → ∀ ls : Array Slot, lv_has ls 4 [(2, .int y2)] → K y2 = some z → W p l e rm_X9_nearestForm s m args below meth c H locs 0 0 (MQ below (Qi G z M L) args s 0 0 (gA G)) (F0 m 47 ls [])) :
    ∀ (n : Nat) (x2 : Int32) (x3 : Int32), lp_X9_nearestForm_4 fu M b0 b1 K n x2 x3 = some z → ∀ (H : Heap) (locs : List Loc), Dy G s M L H locs → ∀ ls : Array Slot, lv_has ls 4 [(0, .ref (ad G b0)), (1, .int b1), (2, .int x2), (3, .int x3)] → W p l e rm_X9_nearestForm s m args below meth c H locs 0 0 (MQ below (Qi G z M L) args s 0 0 (gA G)) (F0 m 4 ls []) := by
  intro n
  induction n with
  | zero =>
    intro x2 x3 h
    have h : (none : Option (Int32)) = some z := h
    cases h
  | succ n ih =>
    intro x2 x3 h H locs d ls hl
    rw [lp_X9_nearestForm_4] at h
    refine lv_iload_n S.1 S.2.1 dX9_nearestForm_4 rfl (lv_at hl 3 rfl) ?_
    refine lv_bipush (v := 26) S.1 S.2.1 dX9_nearestForm_5 (by decide) ?_
    refine lv_icmp_ge (tgt := 47) S.1 S.2.1 dX9_nearestForm_7 (by decide) (fun cc => ?_) (fun cc => ?_)
    · replace h := it_p cc h
      exact hK _ _ _ d _ (lv_sub hl [2] rfl) h
    · replace h := it_n cc h
      refine lv_iload_n S.1 S.2.1 dX9_nearestForm_10 rfl (lv_at hl 1 rfl) ?_
      refine lv_aload_n S.1 S.2.1 dX9_nearestForm_11 rfl (lv_at hl 0 rfl) ?_
      refine gf_20_0 S d hb0 fl_RX9_7 dX9_nearestForm_12 ?_
      refine lv_iload_n S.1 S.2.1 dX9_nearestForm_15 rfl (lv_at hl 3 rfl) ?_
      obtain ⟨g1, h⟩ := gd_e h
      refine r_iald S d (ksdM S (ch_20_0 hb0).1) (wc_21 (ch_20_0 hb0).1) (ch_20_0 hb0).2 g1 dX9_nearestForm_16 ?_
      refine lv_ixor S.1 S.2.1 dX9_nearestForm_17 ?_
      obtain ⟨u2, hu2, h⟩ := bd_e h
      refine r_ri d (r_cS (As := [.int (b1 ^^^ (M (b0 + 1) x3.toNatClampNeg))]) (rest := []) S d (c_X9_ones l G M L fu (b1 ^^^ (M (b0 + 1) x3.toNatClampNeg)) hu2) ml_RX9_108 sm_yX9_ones in_RX9 co_yX9_ones hyS_X9_ones ⟨rfl, rfl⟩ ⟨by decide, by decide⟩ rfl hl rfl (Nat.le_of_ble_eq_true rfl) dX9_nearestForm_18 ⟨Nat.zero_le _, Nat.zero_le _⟩) (fun H locs d => ?_)
      refine lv_iload_n S.1 S.2.1 dX9_nearestForm_21 rfl (lv_at hl 1 rfl) ?_
      refine lv_aload_n S.1 S.2.1 dX9_nearestForm_22 rfl (lv_at hl 0 rfl) ?_
      refine gf_20_0 S d hb0 fl_RX9_7 dX9_nearestForm_23 ?_
      refine lv_iload_n S.1 S.2.1 dX9_nearestForm_26 rfl (lv_at hl 2 rfl) ?_
      obtain ⟨g3, h⟩ := gd_e h
      refine r_iald S d (ksdM S (ch_20_0 hb0).1) (wc_21 (ch_20_0 hb0).1) (ch_20_0 hb0).2 g3 dX9_nearestForm_27 ?_
      refine lv_ixor S.1 S.2.1 dX9_nearestForm_28 ?_
      obtain ⟨u4, hu4, h⟩ := bd_e h
      refine r_ri d (r_cS (As := [.int (b1 ^^^ (M (b0 + 1) x2.toNatClampNeg))]) (rest := [.int u2]) S d (c_X9_ones l G M L fu (b1 ^^^ (M (b0 + 1) x2.toNatClampNeg)) hu4) ml_RX9_108 sm_yX9_ones in_RX9 co_yX9_ones hyS_X9_ones ⟨rfl, rfl⟩ ⟨by decide, by decide⟩ rfl hl rfl (Nat.le_of_ble_eq_true rfl) dX9_nearestForm_29 ⟨Nat.zero_le _, Nat.zero_le _⟩) (fun H locs d => ?_)
      obtain ⟨t5, g6, h⟩ := bd_e h
      have Jt5 : ∀ (H : Heap) (locs : List Loc), Dy G s M L H locs → W p l e rm_X9_nearestForm s m args below meth c H locs 0 0 (MQ below (Qi G z M L) args s 0 0 (gA G)) (F0 m 40 ls [.int t5]) := by
        intro H locs d
        refine lv_istore_n (lv' := [(2, .int t5), (0, .ref (ad G b0)), (1, .int b1), (3, .int x3)]) S.1 S.2.1 dX9_nearestForm_40 rfl hl (by decide) rfl (fun ls hl => ?_)
        obtain ⟨v7, ev7, h⟩ := lt_e h
        refine lv_iinc (v := v7) (lv' := [(3, .int v7), (2, .int t5), (0, .ref (ad G b0)), (1, .int b1)]) S.1 S.2.1 dX9_nearestForm_41 hl (k := 3) rfl (by rw [ev7]; rfl) (by decide) rfl (fun ls hl => ?_)
        refine lv_goto (tgt := 4) S.1 S.2.1 dX9_nearestForm_44 (by decide) ?_
        exact ih _ _ h _ _ d _ (lv_sub hl [2, 3, 1, 0] rfl)
      have h := g6
      refine lv_icmp_ge (tgt := 39) S.1 S.2.1 dX9_nearestForm_32 (by decide) (fun cc => ?_) (fun cc => ?_)
      · replace h := it_p cc h
        refine lv_iload_n S.1 S.2.1 dX9_nearestForm_39 rfl (lv_at hl 2 rfl) ?_
        obtain ej := Option.some.inj h
        refine r_top ej.symm ?_
        exact Jt5 _ _ d
      · replace h := it_n cc h
        refine lv_iload_n S.1 S.2.1 dX9_nearestForm_35 rfl (lv_at hl 3 rfl) ?_
        refine lv_goto (tgt := 40) S.1 S.2.1 dX9_nearestForm_36 (by decide) ?_
        obtain ej := Option.some.inj h
        refine r_top ej.symm ?_
        exact Jt5 _ _ d
set_option maxHeartbeats 4000000 in
set_option maxRecDepth 100000 in
theorem c_X9_nearestForm (l : Launch) (G : Gx) (M : Mem) (L : MemL) (fu : Nat) (k0 : Nat) (a1 : Int32) (hk0 : kd k0 = 20) {z : Int32} (h : f_X9_nearestForm fu M k0 a1 = some z) : Met l yX9_nearestForm (.code yX9_nearestForm cX9_nearestForm 4 (Option.some Jvm.ClassFile.FieldType.int) :: UW) rm_X9_nearestForm (va_Pc [.ref (ad G k0), .int a1] (PreG G true M L)) (Qi G z M L) 0 0 (gA G) := by
  refine r_in (by decide) (fun p e s m args below meth c S hr d ha ls hl => ?_) (Nat.le_of_ble_eq_true rfl)
  have S : Sx G true p s m args meth c cX9_nearestForm 4 RX9 := S
  have hl : lv_has ls 4 [(0, .ref (ad G k0)), (1, .int a1)] := hl
  unfold f_X9_nearestForm at h
  refine lv_iconst (v := 0) S.1 S.2.1 dX9_nearestForm_0 (by decide) ?_
  refine lv_istore_n (lv' := [(2, .int (0 : Int32)), (0, .ref (ad G k0)), (1, .int a1)]) S.1 S.2.1 dX9_nearestForm_1 rfl hl (by decide) rfl (fun ls hl => ?_)
  refine lv_iconst (v := 1) S.1 S.2.1 dX9_nearestForm_2 (by decide) ?_
  refine lv_istore_n (lv' := [(3, .int (1 : Int32)), (2, .int (0 : Int32)), (0, .ref (ad G k0)), (1, .int a1)]) S.1 S.2.1 dX9_nearestForm_3 rfl hl (by decide) rfl (fun ls hl => ?_)
  refine lc_X9_nearestForm_4 S hr hk0 _ (fun v8 H locs d ls hl h => ?_) _ _ _  h _ _ d _ (lv_sub hl [2, 3, 1, 0] rfl)
  refine lv_iload_n S.1 S.2.1 dX9_nearestForm_47 rfl (lv_at hl 0 rfl) ?_
  obtain rfl := Option.some.inj h
  exact r_iret S d hr rfl rfl dX9_nearestForm_48
theorem hyV_X9_readsAs : yX9_readsAs.cls = RX9 ∧ yX9_readsAs.cls ≠ "java/lang/invoke/MethodHandle" ∧ yX9_readsAs.cls ≠ "java/lang/invoke/VarHandle" ∧ (parseMethodDescriptor yX9_readsAs.desc).map (fun d => d.parameters.length) = some 1 := by decide +kernel
abbrev rm_X9_readsAs : Room := { frames := 2, cells := 0, slots := 0, locals := 45 }
def f_X9_readsAs (fu : Nat) (M : Mem) (k0 : Nat) (a1 : Int32) : Option (Int32) :=
  (f_X9_nearestForm fu M k0 a1).bind (fun u1 =>
  gd (inb u1 26) (
  (f_X9_ones fu (a1 ^^^ (M (k0 + 1) u1.toNatClampNeg))).bind (fun u3 =>
  gd (inb (2 : Int32) 4) (
  (if u3 ≤ (M (k0 + 5) (2 : Int32).toNatClampNeg) then some (u1)
  else some ((-4 : Int32)))))))
set_option maxHeartbeats 4000000 in
set_option maxRecDepth 100000 in
theorem c_X9_readsAs (l : Launch) (G : Gx) (M : Mem) (L : MemL) (fu : Nat) (k0 : Nat) (a1 : Int32) (hk0 : kd k0 = 20) {z : Int32} (h : f_X9_readsAs fu M k0 a1 = some z) : Met l yX9_readsAs (.code yX9_readsAs cX9_readsAs 3 (Option.some Jvm.ClassFile.FieldType.int) :: UW) rm_X9_readsAs (va_Pc [.ref (ad G k0), .int a1] (PreG G true M L)) (Qi G z M L) 0 0 (gA G) := by
  refine r_in (by decide) (fun p e s m args below meth c S hr d ha ls hl => ?_) (Nat.le_of_ble_eq_true rfl)
  have S : Sx G true p s m args meth c cX9_readsAs 3 RX9 := S
  have hl : lv_has ls 3 [(0, .ref (ad G k0)), (1, .int a1)] := hl
  unfold f_X9_readsAs at h
  refine lv_aload_n S.1 S.2.1 dX9_readsAs_0 rfl (lv_at hl 0 rfl) ?_
  refine lv_iload_n S.1 S.2.1 dX9_readsAs_1 rfl (lv_at hl 1 rfl) ?_
  obtain ⟨u1, hu1, h⟩ := bd_e h
  refine r_ri d (r_cV (As := [.int a1]) (rest := []) S d (c_X9_nearestForm l G M L fu k0 a1 hk0 hu1) (ksdM S hk0) (wc_20 hk0) rfl ml_RX9_111 im_yX9_nearestForm se_yX9_nearestForm in_RX9 co_yX9_nearestForm hyV_X9_nearestForm ⟨rfl, rfl⟩ ⟨by decide, by decide⟩ rfl hl rfl (Nat.le_of_ble_eq_true rfl) dX9_readsAs_2 ⟨Nat.zero_le _, Nat.zero_le _⟩) (fun H locs d => ?_)
  refine lv_istore_n (lv' := [(2, .int u1), (0, .ref (ad G k0)), (1, .int a1)]) S.1 S.2.1 dX9_readsAs_5 rfl hl (by decide) rfl (fun ls hl => ?_)
  refine lv_iload_n S.1 S.2.1 dX9_readsAs_6 rfl (lv_at hl 2 rfl) ?_
  refine lv_aload_n S.1 S.2.1 dX9_readsAs_7 rfl (lv_at hl 1 rfl) ?_
  refine gf_20_0 S d hk0 fl_RX9_7 dX9_readsAs_8 ?_
  refine lv_iload_n S.1 S.2.1 dX9_readsAs_11 rfl (lv_at hl 0 rfl) ?_
  obtain ⟨g2, h⟩ := gd_e h
  refine r_iald S d (ksdM S (ch_20_0 hk0).1) (wc_21 (ch_20_0 hk0).1) (ch_20_0 hk0).2 g2 dX9_readsAs_12 ?_
  refine lv_ixor S.1 S.2.1 dX9_readsAs_13 ?_
  obtain ⟨u3, hu3, h⟩ := bd_e h
  refine r_ri d (r_cS (As := [.int (a1 ^^^ (M (k0 + 1) u1.toNatClampNeg))]) (rest := []) S d (c_X9_ones l G M L fu (a1 ^^^ (M (k0 + 1) u1.toNatClampNeg)) hu3) ml_RX9_108 sm_yX9_ones in_RX9 co_yX9_ones hyS_X9_ones ⟨rfl, rfl⟩ ⟨by decide, by decide⟩ rfl hl rfl (Nat.le_of_ble_eq_true rfl) dX9_readsAs_14 ⟨Nat.zero_le _, Nat.zero_le _⟩) (fun H locs d => ?_)
  refine lv_aload_n S.1 S.2.1 dX9_readsAs_17 rfl (lv_at hl 1 rfl) ?_
  refine gf_20_4 S d hk0 fl_RX9_22 dX9_readsAs_18 ?_
  refine lv_iconst (v := 2) S.1 S.2.1 dX9_readsAs_21 (by decide) ?_
  obtain ⟨g4, h⟩ := gd_e h
  refine r_iald S d (ksdM S (ch_20_4 hk0).1) (wc_21 (ch_20_4 hk0).1) (ch_20_4 hk0).2 g4 dX9_readsAs_22 ?_
  refine lv_icmp_le (tgt := 31) S.1 S.2.1 dX9_readsAs_23 (by decide) (fun cc => ?_) (fun cc => ?_)
  · replace h := it_p cc h
    refine lv_iload_n S.1 S.2.1 dX9_readsAs_31 rfl (lv_at hl 0 rfl) ?_
    obtain rfl := Option.some.inj h
    exact r_iret S d hr rfl rfl dX9_readsAs_32
  · replace h := it_n cc h
    refine lv_bipush (v := (-4)) S.1 S.2.1 dX9_readsAs_26 (by decide) ?_
    refine lv_goto (tgt := 32) S.1 S.2.1 dX9_readsAs_28 (by decide) ?_
    obtain rfl := Option.some.inj h
    exact r_iret S d hr rfl rfl dX9_readsAs_32
theorem hyV_X9_reads : yX9_reads.cls = RX9 ∧ yX9_reads.cls ≠ "java/lang/invoke/MethodHandle" ∧ yX9_reads.cls ≠ "java/lang/invoke/VarHandle" ∧ (parseMethodDescriptor yX9_reads.desc).map (fun d => d.parameters.length) = some 1 := by decide +kernel
abbrev rm_X9_reads : Room := { frames := 3, cells := 0, slots := 0, locals := 67 }
def f_X9_reads (fu : Nat) (M : Mem) (k0 : Nat) (a1 : Int32) : Option (Int32) :=
  (f_X9_isStrip M k0 a1).bind (fun u1 =>
  (if u1 = 0 then some ((-1 : Int32))
  else (f_X9_seenOf fu M k0 a1).bind (fun u2 =>
    (f_X9_readsAs fu M k0 u2).bind (fun u3 =>
    some (u3)))))
set_option maxHeartbeats 4000000 in
set_option maxRecDepth 100000 in
theorem c_X9_reads (l : Launch) (G : Gx) (M : Mem) (L : MemL) (fu : Nat) (k0 : Nat) (a1 : Int32) (hk0 : kd k0 = 20) {z : Int32} (h : f_X9_reads fu M k0 a1 = some z) : Met l yX9_reads (.code yX9_reads cX9_reads 2 (Option.some Jvm.ClassFile.FieldType.int) :: UW) rm_X9_reads (va_Pc [.ref (ad G k0), .int a1] (PreG G true M L)) (Qi G z M L) 0 0 (gA G) := by
  refine r_in (by decide) (fun p e s m args below meth c S hr d ha ls hl => ?_) (Nat.le_of_ble_eq_true rfl)
  have S : Sx G true p s m args meth c cX9_reads 2 RX9 := S
  have hl : lv_has ls 2 [(0, .ref (ad G k0)), (1, .int a1)] := hl
  unfold f_X9_reads at h
  refine lv_aload_n S.1 S.2.1 dX9_reads_0 rfl (lv_at hl 0 rfl) ?_
  refine lv_iload_n S.1 S.2.1 dX9_reads_1 rfl (lv_at hl 1 rfl) ?_
  obtain ⟨u1, hu1, h⟩ := bd_e h
  refine r_ri d (r_cV (As := [.int a1]) (rest := []) S d (c_X9_isStrip l G M L k0 a1 hk0 hu1) (ksdM S hk0) (wc_20 hk0) rfl ml_RX9_94 im_yX9_isStrip se_yX9_isStrip in_RX9 co_yX9_isStrip hyV_X9_isStrip ⟨rfl, rfl⟩ ⟨by decide, by decide⟩ rfl hl rfl (Nat.le_of_ble_eq_true rfl) dX9_reads_2 ⟨Nat.zero_le _, Nat.zero_le _⟩) (fun H locs d => ?_)
  refine lv_if_eq (tgt := 20) S.1 S.2.1 dX9_reads_5 (by decide) (fun cc => ?_) (fun cc => ?_)
  · replace h := it_p cc h
    refine lv_iconst (v := (-1)) S.1 S.2.1 dX9_reads_20 (by decide) ?_
    obtain rfl := Option.some.inj h
    exact r_iret S d hr rfl rfl dX9_reads_21
  · replace h := it_n cc h
    refine lv_aload_n S.1 S.2.1 dX9_reads_8 rfl (lv_at hl 0 rfl) ?_
    refine lv_aload_n S.1 S.2.1 dX9_reads_9 rfl (lv_at hl 0 rfl) ?_
    refine lv_iload_n S.1 S.2.1 dX9_reads_10 rfl (lv_at hl 1 rfl) ?_
    obtain ⟨u2, hu2, h⟩ := bd_e h
    refine r_ri d (r_cV (As := [.int a1]) (rest := [.ref (ad G k0)]) S d (c_X9_seenOf l G M L fu k0 a1 hk0 hu2) (ksdM S hk0) (wc_20 hk0) rfl ml_RX9_104 im_yX9_seenOf se_yX9_seenOf in_RX9 co_yX9_seenOf hyV_X9_seenOf ⟨rfl, rfl⟩ ⟨by decide, by decide⟩ rfl hl rfl (Nat.le_of_ble_eq_true rfl) dX9_reads_11 ⟨Nat.zero_le _, Nat.zero_le _⟩) (fun H locs d => ?_)
    obtain ⟨u3, hu3, h⟩ := bd_e h
    refine r_ri d (r_cV (As := [.int u2]) (rest := []) S d (c_X9_readsAs l G M L fu k0 u2 hk0 hu3) (ksdM S hk0) (wc_20 hk0) rfl ml_RX9_114 im_yX9_readsAs se_yX9_readsAs in_RX9 co_yX9_readsAs hyV_X9_readsAs ⟨rfl, rfl⟩ ⟨by decide, by decide⟩ rfl hl rfl (Nat.le_of_ble_eq_true rfl) dX9_reads_14 ⟨Nat.zero_le _, Nat.zero_le _⟩) (fun H locs d => ?_)
    refine lv_goto (tgt := 21) S.1 S.2.1 dX9_reads_17 (by decide) ?_
    obtain rfl := Option.some.inj h
    exact r_iret S d hr rfl rfl dX9_reads_21
theorem hyV_X9_off : yX9_off.cls = RX9 ∧ yX9_off.cls ≠ "java/lang/invoke/MethodHandle" ∧ yX9_off.cls ≠ "java/lang/invoke/VarHandle" ∧ (parseMethodDescriptor yX9_off.desc).map (fun d => d.parameters.length) = some 1 := by decide +kernel
abbrev rm_X9_off : Room := { frames := 2, cells := 0, slots := 0, locals := 46 }
def f_X9_off (fu : Nat) (M : Mem) (k0 : Nat) (a1 : Int32) : Option (Int32) :=
  (f_X9_isStrip M k0 a1).bind (fun u1 =>
  (if u1 = 0 then some ((-1 : Int32))
  else (f_X9_seenOf fu M k0 a1).bind (fun u2 =>
    (f_X9_nearestForm fu M k0 u2).bind (fun u3 =>
    gd (inb u3 26) (
    (f_X9_ones fu (u2 ^^^ (M (k0 + 1) u3.toNatClampNeg))).bind (fun u5 =>
    some (u5)))))))
set_option maxHeartbeats 4000000 in
set_option maxRecDepth 100000 in
theorem c_X9_off (l : Launch) (G : Gx) (M : Mem) (L : MemL) (fu : Nat) (k0 : Nat) (a1 : Int32) (hk0 : kd k0 = 20) {z : Int32} (h : f_X9_off fu M k0 a1 = some z) : Met l yX9_off (.code yX9_off cX9_off 3 (Option.some Jvm.ClassFile.FieldType.int) :: UW) rm_X9_off (va_Pc [.ref (ad G k0), .int a1] (PreG G true M L)) (Qi G z M L) 0 0 (gA G) := by
  refine r_in (by decide) (fun p e s m args below meth c S hr d ha ls hl => ?_) (Nat.le_of_ble_eq_true rfl)
  have S : Sx G true p s m args meth c cX9_off 3 RX9 := S
  have hl : lv_has ls 3 [(0, .ref (ad G k0)), (1, .int a1)] := hl
  unfold f_X9_off at h
  refine lv_aload_n S.1 S.2.1 dX9_off_0 rfl (lv_at hl 0 rfl) ?_
  refine lv_iload_n S.1 S.2.1 dX9_off_1 rfl (lv_at hl 1 rfl) ?_
  obtain ⟨u1, hu1, h⟩ := bd_e h
  refine r_ri d (r_cV (As := [.int a1]) (rest := []) S d (c_X9_isStrip l G M L k0 a1 hk0 hu1) (ksdM S hk0) (wc_20 hk0) rfl ml_RX9_94 im_yX9_isStrip se_yX9_isStrip in_RX9 co_yX9_isStrip hyV_X9_isStrip ⟨rfl, rfl⟩ ⟨by decide, by decide⟩ rfl hl rfl (Nat.le_of_ble_eq_true rfl) dX9_off_2 ⟨Nat.zero_le _, Nat.zero_le _⟩) (fun H locs d => ?_)
  refine lv_if_ne (tgt := 10) S.1 S.2.1 dX9_off_5 (by decide) (fun cc => ?_) (fun cc => ?_)
  · replace h := it_n cc h
    refine lv_aload_n S.1 S.2.1 dX9_off_10 rfl (lv_at hl 0 rfl) ?_
    refine lv_iload_n S.1 S.2.1 dX9_off_11 rfl (lv_at hl 1 rfl) ?_
    obtain ⟨u2, hu2, h⟩ := bd_e h
    refine r_ri d (r_cV (As := [.int a1]) (rest := []) S d (c_X9_seenOf l G M L fu k0 a1 hk0 hu2) (ksdM S hk0) (wc_20 hk0) rfl ml_RX9_104 im_yX9_seenOf se_yX9_seenOf in_RX9 co_yX9_seenOf hyV_X9_seenOf ⟨rfl, rfl⟩ ⟨by decide, by decide⟩ rfl hl rfl (Nat.le_of_ble_eq_true rfl) dX9_off_12 ⟨Nat.zero_le _, Nat.zero_le _⟩) (fun H locs d => ?_)
    refine lv_istore_n (lv' := [(2, .int u2), (0, .ref (ad G k0)), (1, .int a1)]) S.1 S.2.1 dX9_off_15 rfl hl (by decide) rfl (fun ls hl => ?_)
    refine lv_iload_n S.1 S.2.1 dX9_off_16 rfl (lv_at hl 0 rfl) ?_
    refine lv_aload_n S.1 S.2.1 dX9_off_17 rfl (lv_at hl 1 rfl) ?_
    refine gf_20_0 S d hk0 fl_RX9_7 dX9_off_18 ?_
    refine lv_aload_n S.1 S.2.1 dX9_off_21 rfl (lv_at hl 1 rfl) ?_
    refine lv_iload_n S.1 S.2.1 dX9_off_22 rfl (lv_at hl 0 rfl) ?_
    obtain ⟨u3, hu3, h⟩ := bd_e h
    refine r_ri d (r_cV (As := [.int u2]) (rest := [.ref (ad G (k0 + 1)), .int u2]) S d (c_X9_nearestForm l G M L fu k0 u2 hk0 hu3) (ksdM S hk0) (wc_20 hk0) rfl ml_RX9_111 im_yX9_nearestForm se_yX9_nearestForm in_RX9 co_yX9_nearestForm hyV_X9_nearestForm ⟨rfl, rfl⟩ ⟨by decide, by decide⟩ rfl hl rfl (Nat.le_of_ble_eq_true rfl) dX9_off_23 ⟨Nat.zero_le _, Nat.zero_le _⟩) (fun H locs d => ?_)
    obtain ⟨g4, h⟩ := gd_e h
    refine r_iald S d (ksdM S (ch_20_0 hk0).1) (wc_21 (ch_20_0 hk0).1) (ch_20_0 hk0).2 g4 dX9_off_26 ?_
    refine lv_ixor S.1 S.2.1 dX9_off_27 ?_
    obtain ⟨u5, hu5, h⟩ := bd_e h
    refine r_ri d (r_cS (As := [.int (u2 ^^^ (M (k0 + 1) u3.toNatClampNeg))]) (rest := []) S d (c_X9_ones l G M L fu (u2 ^^^ (M (k0 + 1) u3.toNatClampNeg)) hu5) ml_RX9_108 sm_yX9_ones in_RX9 co_yX9_ones hyS_X9_ones ⟨rfl, rfl⟩ ⟨by decide, by decide⟩ rfl hl rfl (Nat.le_of_ble_eq_true rfl) dX9_off_28 ⟨Nat.zero_le _, Nat.zero_le _⟩) (fun H locs d => ?_)
    obtain rfl := Option.some.inj h
    exact r_iret S d hr rfl rfl dX9_off_31
  · replace h := it_p cc h
    refine lv_iconst (v := (-1)) S.1 S.2.1 dX9_off_8 (by decide) ?_
    obtain rfl := Option.some.inj h
    exact r_iret S d hr rfl rfl dX9_off_9
theorem hyV_X9_hasGrown : yX9_hasGrown.cls = RX9 ∧ yX9_hasGrown.cls ≠ "java/lang/invoke/MethodHandle" ∧ yX9_hasGrown.cls ≠ "java/lang/invoke/VarHandle" ∧ (parseMethodDescriptor yX9_hasGrown.desc).map (fun d => d.parameters.length) = some 2 := by decide +kernel
abbrev rm_X9_hasGrown : Room := { frames := 1, cells := 0, slots := 0, locals := 21 }
def lp_X9_hasGrown_5 (fu : Nat) (M : Mem) (b0 : Nat) (b1 : Int32) (b2 : Int32) (K : Int32 → Option (Int32)) : Nat → Int32 → Int32 → Option (Int32)
  | 0, _, _ => none
  | n + 1, x3, x4 =>
    (if (15 : Int32) ≤ x4 then (K x3)
    else (if x3 = 0 then some (0 : Int32)
      else (f_X9_has b2 x4).bind (fun u3 =>
        (if u3 = 0 then some (1 : Int32)
        else gd (inb (((15 : Int32) * b1) + x4) 135) (
          (if (M (b0 + 3) (((15 : Int32) * b1) + x4).toNatClampNeg) ≤ (2 : Int32) then some (0 : Int32)
          else some (1 : Int32)))))).bind (fun t1 : Int32 =>
      lt (x4 + 1) (fun v5 : Int32 =>
      (lp_X9_hasGrown_5 fu M b0 b1 b2 K n t1 v5))))
def f_X9_hasGrown (fu : Nat) (M : Mem) (k0 : Nat) (a1 : Int32) (a2 : Int32) : Option (Int32) :=
  (lp_X9_hasGrown_5 fu M k0 a1 a2 (fun (v6 : Int32) =>
    gd (isZ v6) (
    some (v6))) fu (1 : Int32) (0 : Int32))
set_option maxHeartbeats 4000000 in
set_option maxRecDepth 100000 in
theorem lc_X9_hasGrown_5 {p : Program} {l : Launch} {e : Env} {s : State} {m : MethodId} {args : Array Value} {below : List Frame} {meth : Method} {c : Code} {G : Gx} {M : Mem} {L : MemL} {fu : Nat} {b0 : Nat} {b1 : Int32} {b2 : Int32} {z : Int32} (S : Sx G true p s m args meth c cX9_hasGrown 5 RX9) (hr : meth.sig.returnType = (Option.some Jvm.ClassFile.FieldType.boolean)) (hb0 : kd b0 = 20) (K : Int32 → Option (Int32)) (hK : ∀ (y3 : Int32) (H : Heap) (locs : List Loc), Dy G s M L H locs → ∀ ls : Array Slot, lv_has ls 5 [(3, .int y3)] → K y3 = some z → W p l e rm_X9_hasGrown s m args below meth c H locs 0 0 (MQ below (Qi G z M L) args s 0 0 (gA G)) (F0 m 53 ls [])) :
    ∀ (n : Nat) (x3 : Int32) (x4 : Int32), lp_X9_hasGrown_5 fu M b0 b1 b2 K n x3 x4 = some z → ∀ (H : Heap) (locs : List Loc), Dy G s M L H locs → ∀ ls : Array Slot, lv_has ls 5 [(0, .ref (ad G b0)), (1, .int b1), (2, .int b2), (3, .int x3), (4, .int x4)] → W p l e rm_X9_hasGrown s m args below meth c H locs 0 0 (MQ below (Qi G z M L) args s 0 0 (gA G)) (F0 m 5 ls []) := by
  intro n
  induction n with
  | zero =>
    intro x3 x4 h
    have h : (none : Option (Int32)) = some z := h
    cases h
  | succ n ih =>
    intro x3 x4 h H locs d ls hl
    rw [lp_X9_hasGrown_5] at h
    refine lv_iload S.1 S.2.1 dX9_hasGrown_5 (lv_at hl 4 rfl) ?_
    refine lv_bipush (v := 15) S.1 S.2.1 dX9_hasGrown_7 (by decide) ?_
    refine lv_icmp_ge (tgt := 53) S.1 S.2.1 dX9_hasGrown_9 (by decide) (fun cc => ?_) (fun cc => ?_)
    · replace h := it_p cc h
      exact hK _ _ _ d _ (lv_sub hl [3] rfl) h
    · replace h := it_n cc h
      refine lv_iload_n S.1 S.2.1 dX9_hasGrown_12 rfl (lv_at hl 3 rfl) ?_
      obtain ⟨t1, g2, h⟩ := bd_e h
      have Jt1 : ∀ (H : Heap) (locs : List Loc), Dy G s M L H locs → W p l e rm_X9_hasGrown s m args below meth c H locs 0 0 (MQ below (Qi G z M L) args s 0 0 (gA G)) (F0 m 46 ls [.int t1]) := by
        intro H locs d
        refine lv_istore_n (lv' := [(3, .int t1), (0, .ref (ad G b0)), (1, .int b1), (2, .int b2), (4, .int x4)]) S.1 S.2.1 dX9_hasGrown_46 rfl hl (by decide) rfl (fun ls hl => ?_)
        obtain ⟨v5, ev5, h⟩ := lt_e h
        refine lv_iinc (v := v5) (lv' := [(4, .int v5), (3, .int t1), (0, .ref (ad G b0)), (1, .int b1), (2, .int b2)]) S.1 S.2.1 dX9_hasGrown_47 hl (k := 4) rfl (by rw [ev5]; rfl) (by decide) rfl (fun ls hl => ?_)
        refine lv_goto (tgt := 5) S.1 S.2.1 dX9_hasGrown_50 (by decide) ?_
        exact ih _ _ h _ _ d _ (lv_sub hl [2, 3, 4, 1, 0] rfl)
      have h := g2
      refine lv_if_eq (tgt := 45) S.1 S.2.1 dX9_hasGrown_13 (by decide) (fun cc => ?_) (fun cc => ?_)
      · replace h := it_p cc h
        refine lv_iconst (v := 0) S.1 S.2.1 dX9_hasGrown_45 (by decide) ?_
        obtain ej := Option.some.inj h
        refine r_top ej.symm ?_
        exact Jt1 _ _ d
      · replace h := it_n cc h
        refine lv_iload_n S.1 S.2.1 dX9_hasGrown_16 rfl (lv_at hl 2 rfl) ?_
        refine lv_iload S.1 S.2.1 dX9_hasGrown_17 (lv_at hl 4 rfl) ?_
        obtain ⟨u3, hu3, h⟩ := bd_e h
        refine r_ri d (r_cS (As := [.int b2, .int x4]) (rest := []) S d (c_X9_has l G M L b2 x4 hu3) ml_RX9_117 sm_yX9_has in_RX9 co_yX9_has hyS_X9_has ⟨rfl, rfl⟩ ⟨by decide, by decide⟩ rfl hl rfl (Nat.le_of_ble_eq_true rfl) dX9_hasGrown_19 ⟨Nat.zero_le _, Nat.zero_le _⟩) (fun H locs d => ?_)
        refine lv_if_eq (tgt := 41) S.1 S.2.1 dX9_hasGrown_22 (by decide) (fun cc => ?_) (fun cc => ?_)
        · replace h := it_p cc h
          refine lv_iconst (v := 1) S.1 S.2.1 dX9_hasGrown_41 (by decide) ?_
          refine lv_goto (tgt := 46) S.1 S.2.1 dX9_hasGrown_42 (by decide) ?_
          obtain ej := Option.some.inj h
          refine r_top ej.symm ?_
          exact Jt1 _ _ d
        · replace h := it_n cc h
          refine lv_aload_n S.1 S.2.1 dX9_hasGrown_25 rfl (lv_at hl 0 rfl) ?_
          refine gf_20_2 S d hb0 fl_RX9_16 dX9_hasGrown_26 ?_
          refine lv_bipush (v := 15) S.1 S.2.1 dX9_hasGrown_29 (by decide) ?_
          refine lv_iload_n S.1 S.2.1 dX9_hasGrown_31 rfl (lv_at hl 1 rfl) ?_
          refine lv_imul S.1 S.2.1 dX9_hasGrown_32 ?_
          refine lv_iload S.1 S.2.1 dX9_hasGrown_33 (lv_at hl 4 rfl) ?_
          refine lv_iadd S.1 S.2.1 dX9_hasGrown_35 ?_
          obtain ⟨g4, h⟩ := gd_e h
          refine r_iald S d (ksdM S (ch_20_2 hb0).1) (wc_21 (ch_20_2 hb0).1) (ch_20_2 hb0).2 g4 dX9_hasGrown_36 ?_
          refine lv_iconst (v := 2) S.1 S.2.1 dX9_hasGrown_37 (by decide) ?_
          refine lv_icmp_le (tgt := 45) S.1 S.2.1 dX9_hasGrown_38 (by decide) (fun cc => ?_) (fun cc => ?_)
          · replace h := it_p cc h
            refine lv_iconst (v := 0) S.1 S.2.1 dX9_hasGrown_45 (by decide) ?_
            obtain ej := Option.some.inj h
            refine r_top ej.symm ?_
            exact Jt1 _ _ d
          · replace h := it_n cc h
            refine lv_iconst (v := 1) S.1 S.2.1 dX9_hasGrown_41 (by decide) ?_
            refine lv_goto (tgt := 46) S.1 S.2.1 dX9_hasGrown_42 (by decide) ?_
            obtain ej := Option.some.inj h
            refine r_top ej.symm ?_
            exact Jt1 _ _ d
set_option maxHeartbeats 4000000 in
set_option maxRecDepth 100000 in
theorem c_X9_hasGrown (l : Launch) (G : Gx) (M : Mem) (L : MemL) (fu : Nat) (k0 : Nat) (a1 : Int32) (a2 : Int32) (hk0 : kd k0 = 20) {z : Int32} (h : f_X9_hasGrown fu M k0 a1 a2 = some z) : Met l yX9_hasGrown (.code yX9_hasGrown cX9_hasGrown 5 (Option.some Jvm.ClassFile.FieldType.boolean) :: UW) rm_X9_hasGrown (va_Pc [.ref (ad G k0), .int a1, .int a2] (PreG G true M L)) (Qi G z M L) 0 0 (gA G) := by
  refine r_in (by decide) (fun p e s m args below meth c S hr d ha ls hl => ?_) (Nat.le_of_ble_eq_true rfl)
  have S : Sx G true p s m args meth c cX9_hasGrown 5 RX9 := S
  have hl : lv_has ls 5 [(0, .ref (ad G k0)), (1, .int a1), (2, .int a2)] := hl
  unfold f_X9_hasGrown at h
  refine lv_iconst (v := 1) S.1 S.2.1 dX9_hasGrown_0 (by decide) ?_
  refine lv_istore_n (lv' := [(3, .int (1 : Int32)), (0, .ref (ad G k0)), (1, .int a1), (2, .int a2)]) S.1 S.2.1 dX9_hasGrown_1 rfl hl (by decide) rfl (fun ls hl => ?_)
  refine lv_iconst (v := 0) S.1 S.2.1 dX9_hasGrown_2 (by decide) ?_
  refine lv_istore (lv' := [(4, .int (0 : Int32)), (3, .int (1 : Int32)), (0, .ref (ad G k0)), (1, .int a1), (2, .int a2)]) S.1 S.2.1 dX9_hasGrown_3 hl (by decide) rfl (fun ls hl => ?_)
  refine lc_X9_hasGrown_5 S hr hk0 _ (fun v6 H locs d ls hl h => ?_) _ _ _  h _ _ d _ (lv_sub hl [2, 3, 4, 1, 0] rfl)
  refine lv_iload_n S.1 S.2.1 dX9_hasGrown_53 rfl (lv_at hl 0 rfl) ?_
  obtain ⟨gz, h⟩ := gd_e h
  obtain rfl := Option.some.inj h
  exact r_iret S d hr (isZ_nar gz) rfl dX9_hasGrown_54
