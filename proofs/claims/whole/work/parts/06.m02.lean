theorem hyV_X7_share : yX7_share.cls = RX7 ∧ yX7_share.cls ≠ "java/lang/invoke/MethodHandle" ∧ yX7_share.cls ≠ "java/lang/invoke/VarHandle" ∧ (parseMethodDescriptor yX7_share.desc).map (fun d => d.parameters.length) = some 3 := by decide +kernel
abbrev rm_X7_share : Room := { frames := 4, cells := 0, slots := 0, locals := 94 }
def f_X7_share (fu : Nat) (M : Mem) (k0 : Nat) (a1 : Int32) (a2 : Int32) (a3 : Int32) : Option (Int32) :=
  (f_X7_isWord M k0 a1).bind (fun u1 =>
  (if u1 = 0 then some ((-1 : Int32))
  else (f_X7_isStrip M k0 a2).bind (fun u2 =>
    (if u2 = 0 then some ((-1 : Int32))
    else (f_X7_isBelow a3 (6 : Int32)).bind (fun u3 =>
      (if u3 = 0 then some ((-1 : Int32))
      else gd (inb a1 10) (
        lt ((((k0 + 1) + 3) + 21 + 2 * a1.toNatClampNeg)) (fun r5 : Nat =>
        (f_X0_hasRoom M (k0 + 1) r5 a2).bind (fun u6 =>
        (if u6 = 0 then some ((-2 : Int32))
        else (f_X0_lossBy fu M (k0 + 1) r5 a2).bind (fun u7 =>
          lt (((M r5 1) - u7)) (fun v8 : Int32 =>
          (if 0 ≤ v8 then (f_X0_shareOf fu M (k0 + 1) r5 a2 a3 v8).bind (fun u9 =>
            some (u9))
          else some ((-2 : Int32)))))))))))))))
set_option maxHeartbeats 4000000 in
set_option maxRecDepth 100000 in
theorem c_X7_share (l : Launch) (G : Gx) (M : Mem) (L : MemL) (fu : Nat) (k0 : Nat) (a1 : Int32) (a2 : Int32) (a3 : Int32) (hk0 : kd k0 = 0) {z : Int32} (h : f_X7_share fu M k0 a1 a2 a3 = some z) : Met l yX7_share (.code yX7_share cX7_share 6 (Option.some Jvm.ClassFile.FieldType.int) :: UW) rm_X7_share (va_Pc [.ref (ad G k0), .int a1, .int a2, .int a3] (PreG G false M L)) (Qi G z M L) 0 0 (gA G) := by
  refine r_in (by decide) (fun p e s m args below meth c S hr d ha ls hl => ?_) (Nat.le_of_ble_eq_true rfl)
  have S : Sx G false p s m args meth c cX7_share 6 RX7 := S
  have hl : lv_has ls 6 [(0, .ref (ad G k0)), (1, .int a1), (2, .int a2), (3, .int a3)] := hl
  unfold f_X7_share at h
  refine lv_aload_n S.1 S.2.1 dX7_share_0 rfl (lv_at hl 0 rfl) ?_
  refine lv_iload_n S.1 S.2.1 dX7_share_1 rfl (lv_at hl 1 rfl) ?_
  obtain ⟨u1, hu1, h⟩ := bd_e h
  refine r_ri d (r_cV (As := [.int a1]) (rest := []) S d (c_X7_isWord l G M L k0 a1 hk0 hu1) (ksdC S hk0) (wc_0 hk0) rfl ml_RX7_144 im_yX7_isWord se_yX7_isWord in_RX7 co_yX7_isWord hyV_X7_isWord ⟨rfl, rfl⟩ ⟨by decide, by decide⟩ rfl hl rfl (Nat.le_of_ble_eq_true rfl) dX7_share_2 ⟨Nat.zero_le _, Nat.zero_le _⟩) (fun H locs d => ?_)
  refine lv_if_eq (tgt := 25) S.1 S.2.1 dX7_share_5 (by decide) (fun cc => ?_) (fun cc => ?_)
  · replace h := it_p cc h
    refine lv_iconst (v := (-1)) S.1 S.2.1 dX7_share_25 (by decide) ?_
    obtain rfl := Option.some.inj h
    exact r_iret S d hr rfl rfl dX7_share_26
  · replace h := it_n cc h
    refine lv_aload_n S.1 S.2.1 dX7_share_8 rfl (lv_at hl 0 rfl) ?_
    refine lv_iload_n S.1 S.2.1 dX7_share_9 rfl (lv_at hl 2 rfl) ?_
    obtain ⟨u2, hu2, h⟩ := bd_e h
    refine r_ri d (r_cV (As := [.int a2]) (rest := []) S d (c_X7_isStrip l G M L k0 a2 hk0 hu2) (ksdC S hk0) (wc_0 hk0) rfl ml_RX7_70 im_yX7_isStrip se_yX7_isStrip in_RX7 co_yX7_isStrip hyV_X7_isStrip ⟨rfl, rfl⟩ ⟨by decide, by decide⟩ rfl hl rfl (Nat.le_of_ble_eq_true rfl) dX7_share_10 ⟨Nat.zero_le _, Nat.zero_le _⟩) (fun H locs d => ?_)
    refine lv_if_eq (tgt := 25) S.1 S.2.1 dX7_share_13 (by decide) (fun cc => ?_) (fun cc => ?_)
    · replace h := it_p cc h
      refine lv_iconst (v := (-1)) S.1 S.2.1 dX7_share_25 (by decide) ?_
      obtain rfl := Option.some.inj h
      exact r_iret S d hr rfl rfl dX7_share_26
    · replace h := it_n cc h
      refine lv_iload_n S.1 S.2.1 dX7_share_16 rfl (lv_at hl 3 rfl) ?_
      refine lv_bipush (v := 6) S.1 S.2.1 dX7_share_17 (by decide) ?_
      obtain ⟨u3, hu3, h⟩ := bd_e h
      refine r_ri d (r_cS (As := [.int a3, .int (6 : Int32)]) (rest := []) S d (c_X7_isBelow l G M L a3 (6 : Int32) hu3) ml_RX7_51 sm_yX7_isBelow in_RX7 co_yX7_isBelow hyS_X7_isBelow ⟨rfl, rfl⟩ ⟨by decide, by decide⟩ rfl hl rfl (Nat.le_of_ble_eq_true rfl) dX7_share_19 ⟨Nat.zero_le _, Nat.zero_le _⟩) (fun H locs d => ?_)
      refine lv_if_ne (tgt := 27) S.1 S.2.1 dX7_share_22 (by decide) (fun cc => ?_) (fun cc => ?_)
      · replace h := it_n cc h
        refine lv_aload_n S.1 S.2.1 dX7_share_27 rfl (lv_at hl 0 rfl) ?_
        refine gf_0_0 S d hk0 fl_RX7_12 dX7_share_28 ?_
        refine gf_1_3 S d (ch_0_0 hk0).1 fl_RX7_147 dX7_share_31 ?_
        refine lv_iload_n S.1 S.2.1 dX7_share_34 rfl (lv_at hl 1 rfl) ?_
        obtain ⟨g4, h⟩ := gd_e h
        refine r_aald S d (ksdC S (ch_1_3 (ch_0_0 hk0).1).1) (wc_14 (ch_1_3 (ch_0_0 hk0).1).1) rfl rfl g4 (if_pos (inb_lt g4)) dX7_share_35 ?_
        obtain ⟨r5, er5, h⟩ := lt_e h
        refine r_topr er5 ?_
        have hkr5 : kd r5 = 3 := by rw [er5]; exact (ca_14 (ch_1_3 (ch_0_0 hk0).1).1 (inb_lt g4)).1
        refine lv_astore (lv' := [(4, .ref (ad G r5)), (0, .ref (ad G k0)), (1, .int a1), (2, .int a2), (3, .int a3)]) S.1 S.2.1 dX7_share_36 hl (by decide) rfl (fun ls hl => ?_)
        refine lv_aload_n S.1 S.2.1 dX7_share_38 rfl (lv_at hl 1 rfl) ?_
        refine gf_0_0 S d hk0 fl_RX7_12 dX7_share_39 ?_
        refine lv_aload S.1 S.2.1 dX7_share_42 (lv_at hl 0 rfl) ?_
        refine lv_iload_n S.1 S.2.1 dX7_share_44 rfl (lv_at hl 3 rfl) ?_
        obtain ⟨u6, hu6, h⟩ := bd_e h
        refine r_ri d (r_cV (As := [.ref (ad G r5), .int a2]) (rest := []) S d (c_X0_hasRoom l G M L (k0 + 1) r5 a2 (ch_0_0 hk0).1 hkr5 hu6) (ksdC S (ch_0_0 hk0).1) (wc_1 (ch_0_0 hk0).1) rfl ml_RX7_189 im_yX0_hasRoom se_yX0_hasRoom in_RX0 co_yX0_hasRoom hyV_X0_hasRoom ⟨rfl, rfl⟩ ⟨by decide, by decide⟩ rfl hl rfl (Nat.le_of_ble_eq_true rfl) dX7_share_45 ⟨Nat.zero_le _, Nat.zero_le _⟩) (fun H locs d => ?_)
        refine lv_if_ne (tgt := 54) S.1 S.2.1 dX7_share_48 (by decide) (fun cc => ?_) (fun cc => ?_)
        · replace h := it_n cc h
          refine lv_aload S.1 S.2.1 dX7_share_54 (lv_at hl 0 rfl) ?_
          refine gf_3_1 S d hkr5 fl_RX7_150 dX7_share_56 ?_
          refine lv_aload_n S.1 S.2.1 dX7_share_59 rfl (lv_at hl 1 rfl) ?_
          refine gf_0_0 S d hk0 fl_RX7_12 dX7_share_60 ?_
          refine lv_aload S.1 S.2.1 dX7_share_63 (lv_at hl 0 rfl) ?_
          refine lv_iload_n S.1 S.2.1 dX7_share_65 rfl (lv_at hl 3 rfl) ?_
          obtain ⟨u7, hu7, h⟩ := bd_e h
          refine r_ri d (r_cV (As := [.ref (ad G r5), .int a2]) (rest := [.int (M r5 1)]) S d (c_X0_lossBy l G M L fu (k0 + 1) r5 a2 (ch_0_0 hk0).1 hkr5 hu7) (ksdC S (ch_0_0 hk0).1) (wc_1 (ch_0_0 hk0).1) rfl ml_RX7_200 im_yX0_lossBy se_yX0_lossBy in_RX0 co_yX0_lossBy hyV_X0_lossBy ⟨rfl, rfl⟩ ⟨by decide, by decide⟩ rfl hl rfl (Nat.le_of_ble_eq_true rfl) dX7_share_66 ⟨Nat.zero_le _, Nat.zero_le _⟩) (fun H locs d => ?_)
          refine lv_isub S.1 S.2.1 dX7_share_69 ?_
          obtain ⟨v8, ev8, h⟩ := lt_e h
          refine r_top ev8 ?_
          refine lv_istore (lv' := [(5, .int v8), (4, .ref (ad G r5)), (0, .ref (ad G k0)), (1, .int a1), (2, .int a2), (3, .int a3)]) S.1 S.2.1 dX7_share_70 hl (by decide) rfl (fun ls hl => ?_)
          refine lv_iload S.1 S.2.1 dX7_share_72 (lv_at hl 0 rfl) ?_
          refine lv_if_ge (tgt := 82) S.1 S.2.1 dX7_share_74 (by decide) (fun cc => ?_) (fun cc => ?_)
          · replace h := it_p cc h
            refine lv_aload_n S.1 S.2.1 dX7_share_82 rfl (lv_at hl 2 rfl) ?_
            refine gf_0_0 S d hk0 fl_RX7_12 dX7_share_83 ?_
            refine lv_aload S.1 S.2.1 dX7_share_86 (lv_at hl 1 rfl) ?_
            refine lv_iload_n S.1 S.2.1 dX7_share_88 rfl (lv_at hl 4 rfl) ?_
            refine lv_iload_n S.1 S.2.1 dX7_share_89 rfl (lv_at hl 5 rfl) ?_
            refine lv_iload S.1 S.2.1 dX7_share_90 (lv_at hl 0 rfl) ?_
            obtain ⟨u9, hu9, h⟩ := bd_e h
            refine r_ri d (r_cV (As := [.ref (ad G r5), .int a2, .int a3, .int v8]) (rest := []) S d (c_X0_shareOf l G M L fu (k0 + 1) r5 a2 a3 v8 (ch_0_0 hk0).1 hkr5 hu9) (ksdC S (ch_0_0 hk0).1) (wc_1 (ch_0_0 hk0).1) rfl ml_RX7_206 im_yX0_shareOf se_yX0_shareOf in_RX0 co_yX0_shareOf hyV_X0_shareOf ⟨rfl, rfl⟩ ⟨by decide, by decide⟩ rfl hl rfl (Nat.le_of_ble_eq_true rfl) dX7_share_92 ⟨Nat.zero_le _, Nat.zero_le _⟩) (fun H locs d => ?_)
            obtain rfl := Option.some.inj h
            exact r_iret S d hr rfl rfl dX7_share_95
          · replace h := it_n cc h
            refine lv_bipush (v := (-2)) S.1 S.2.1 dX7_share_77 (by decide) ?_
            refine lv_goto (tgt := 95) S.1 S.2.1 dX7_share_79 (by decide) ?_
            obtain rfl := Option.some.inj h
            exact r_iret S d hr rfl rfl dX7_share_95
        · replace h := it_p cc h
          refine lv_bipush (v := (-2)) S.1 S.2.1 dX7_share_51 (by decide) ?_
          obtain rfl := Option.some.inj h
          exact r_iret S d hr rfl rfl dX7_share_53
      · replace h := it_p cc h
        refine lv_iconst (v := (-1)) S.1 S.2.1 dX7_share_25 (by decide) ?_
        obtain rfl := Option.some.inj h
        exact r_iret S d hr rfl rfl dX7_share_26
theorem hyV_X1_weigh : yX1_weigh.cls = RX1 ∧ yX1_weigh.cls ≠ "java/lang/invoke/MethodHandle" ∧ yX1_weigh.cls ≠ "java/lang/invoke/VarHandle" ∧ (parseMethodDescriptor yX1_weigh.desc).map (fun d => d.parameters.length) = some 1 := by decide +kernel
abbrev rm_X1_weigh : Room := { frames := 0, cells := 0, slots := 0, locals := 0 }
def lp_X1_weigh_13 (fu : Nat) (M : Mem) (L : MemL) (b0 : Nat) (b1 : Int32) (b2 : Int32) (K : Int64 → Option (MemL)) : Nat → Int64 → Int32 → Option (MemL)
  | 0, _, _ => none
  | n + 1, x3, x5 =>
    (if (15 : Int32) ≤ x5 then (K x3)
    else (if b2 ≤ x5 then some ((((16 : Int32) - b1)).toInt64)
      else some ((b1).toInt64)).bind (fun t1 : Int64 =>
      lt ((x3 * t1)) (fun v3 : Int64 =>
      lt (x5 + 1) (fun v4 : Int32 =>
      (lp_X1_weigh_13 fu M L b0 b1 b2 K n v3 v4)))))
def lp_X1_weigh_2 (fu : Nat) (M : Mem) (b0 : Nat) (b1 : Int32) (K : MemL → Option (MemL)) : Nat → Int32 → MemL → Option (MemL)
  | 0, _, _ => none
  | n + 1, x2, Lx =>
    (if (16 : Int32) ≤ x2 then (K Lx)
    else (lp_X1_weigh_13 fu M Lx b0 b1 x2 (fun (v5 : Int64) =>
        gd (inb x2 16) (
        lt (upL Lx (b0 + 55) x2.toNatClampNeg v5) (fun L7 : MemL =>
        lt (x2 + 1) (fun v8 : Int32 =>
        (lp_X1_weigh_2 fu M b0 b1 K n v8 L7))))) fu (1 : Int64) (0 : Int32)))
def f_X1_weigh (fu : Nat) (M : Mem) (L : MemL) (k0 : Nat) (a1 : Int32) : Option (MemL) :=
  (lp_X1_weigh_2 fu M k0 a1 (fun (L9 : MemL) =>
    some (L9)) fu (0 : Int32) L)
set_option maxHeartbeats 4000000 in
set_option maxRecDepth 100000 in
theorem lc_X1_weigh_13 {p : Program} {l : Launch} {e : Env} {s : State} {m : MethodId} {args : Array Value} {below : List Frame} {meth : Method} {c : Code} {G : Gx} {M : Mem} {L : MemL} {fu : Nat} {b0 : Nat} {b1 : Int32} {b2 : Int32} {z : MemL} (S : Sx G false p s m args meth c cX1_weigh 6 RX1) (hr : meth.sig.returnType = (Option.none : Option Jvm.ClassFile.FieldType)) (hb0 : kd b0 = 5) (K : Int64 → Option (MemL)) (hK : ∀ (y3 : Int64) (H : Heap) (locs : List Loc), Dy G s M L H locs → ∀ ls : Array Slot, lv_has ls 6 [(0, .ref (ad G b0)), (1, .int b1), (2, .int b2), (3, .long y3)] → K y3 = some z → W p l e rm_X1_weigh s m args below meth c H locs 0 0 (MQ below (Qv G M z) args s 0 0 (gA G)) (F0 m 45 ls [])) :
    ∀ (n : Nat) (x3 : Int64) (x5 : Int32), lp_X1_weigh_13 fu M L b0 b1 b2 K n x3 x5 = some z → ∀ (H : Heap) (locs : List Loc), Dy G s M L H locs → ∀ ls : Array Slot, lv_has ls 6 [(0, .ref (ad G b0)), (1, .int b1), (2, .int b2), (3, .long x3), (5, .int x5)] → W p l e rm_X1_weigh s m args below meth c H locs 0 0 (MQ below (Qv G M z) args s 0 0 (gA G)) (F0 m 13 ls []) := by
  intro n
  induction n with
  | zero =>
    intro x3 x5 h
    have h : (none : Option (MemL)) = some z := h
    cases h
  | succ n ih =>
    intro x3 x5 h H locs d ls hl
    rw [lp_X1_weigh_13] at h
    refine lv_iload S.1 S.2.1 dX1_weigh_13 (lv_at hl 4 rfl) ?_
    refine lv_bipush (v := 15) S.1 S.2.1 dX1_weigh_15 (by decide) ?_
    refine lv_icmp_ge (tgt := 45) S.1 S.2.1 dX1_weigh_17 (by decide) (fun cc => ?_) (fun cc => ?_)
    · replace h := it_p cc h
      exact hK _ _ _ d _ (lv_sub hl [0, 1, 2, 3] rfl) h
    · replace h := it_n cc h
      refine lv_lload_n S.1 S.2.1 dX1_weigh_20 rfl (lv_at hl 3 rfl) ?_
      refine lv_iload S.1 S.2.1 dX1_weigh_21 (lv_at hl 4 rfl) ?_
      refine lv_iload_n S.1 S.2.1 dX1_weigh_23 rfl (lv_at hl 2 rfl) ?_
      obtain ⟨t1, g2, h⟩ := bd_e h
      have Jt1 : ∀ (H : Heap) (locs : List Loc), Dy G s M L H locs → W p l e rm_X1_weigh s m args below meth c H locs 0 0 (MQ below (Qv G M z) args s 0 0 (gA G)) (F0 m 37 ls [.long t1, .long x3]) := by
        intro H locs d
        refine lv_lmul S.1 S.2.1 dX1_weigh_37 ?_
        obtain ⟨v3, ev3, h⟩ := lt_e h
        refine r_topl ev3 ?_
        refine lv_lstore_n (lv' := [(3, .long v3), (0, .ref (ad G b0)), (1, .int b1), (2, .int b2), (5, .int x5)]) S.1 S.2.1 dX1_weigh_38 rfl hl (by decide) rfl (fun ls hl => ?_)
        obtain ⟨v4, ev4, h⟩ := lt_e h
        refine lv_iinc (v := v4) (lv' := [(5, .int v4), (3, .long v3), (0, .ref (ad G b0)), (1, .int b1), (2, .int b2)]) S.1 S.2.1 dX1_weigh_39 hl (k := 4) rfl (by rw [ev4]; rfl) (by decide) rfl (fun ls hl => ?_)
        refine lv_goto (tgt := 13) S.1 S.2.1 dX1_weigh_42 (by decide) ?_
        exact ih _ _ h _ _ d _ (lv_sub hl [2, 3, 4, 1, 0] rfl)
      have h := g2
      refine lv_icmp_ge (tgt := 32) S.1 S.2.1 dX1_weigh_24 (by decide) (fun cc => ?_) (fun cc => ?_)
      · replace h := it_p cc h
        refine lv_bipush (v := 16) S.1 S.2.1 dX1_weigh_32 (by decide) ?_
        refine lv_iload_n S.1 S.2.1 dX1_weigh_34 rfl (lv_at hl 1 rfl) ?_
        refine lv_isub S.1 S.2.1 dX1_weigh_35 ?_
        refine lv_i2l S.1 S.2.1 dX1_weigh_36 rfl ?_
        obtain ej := Option.some.inj h
        refine r_topl ej.symm ?_
        exact Jt1 _ _ d
      · replace h := it_n cc h
        refine lv_iload_n S.1 S.2.1 dX1_weigh_27 rfl (lv_at hl 1 rfl) ?_
        refine lv_i2l S.1 S.2.1 dX1_weigh_28 rfl ?_
        refine lv_goto (tgt := 37) S.1 S.2.1 dX1_weigh_29 (by decide) ?_
        obtain ej := Option.some.inj h
        refine r_topl ej.symm ?_
        exact Jt1 _ _ d
set_option maxHeartbeats 4000000 in
set_option maxRecDepth 100000 in
theorem lc_X1_weigh_2 {p : Program} {l : Launch} {e : Env} {s : State} {m : MethodId} {args : Array Value} {below : List Frame} {meth : Method} {c : Code} {G : Gx} {M : Mem}  {fu : Nat} {b0 : Nat} {b1 : Int32} {z : MemL} (S : Sx G false p s m args meth c cX1_weigh 6 RX1) (hr : meth.sig.returnType = (Option.none : Option Jvm.ClassFile.FieldType)) (hb0 : kd b0 = 5) (K : MemL → Option (MemL)) (hK : ∀ (Ly : MemL) (H : Heap) (locs : List Loc), Dy G s M Ly H locs → ∀ ls : Array Slot, lv_has ls 6 [] → K Ly = some z → W p l e rm_X1_weigh s m args below meth c H locs 0 0 (MQ below (Qv G M z) args s 0 0 (gA G)) (F0 m 58 ls [])) :
    ∀ (n : Nat) (x2 : Int32) (Lx : MemL), lp_X1_weigh_2 fu M b0 b1 K n x2 Lx = some z → ∀ (H : Heap) (locs : List Loc), Dy G s M Lx H locs → ∀ ls : Array Slot, lv_has ls 6 [(0, .ref (ad G b0)), (1, .int b1), (2, .int x2)] → W p l e rm_X1_weigh s m args below meth c H locs 0 0 (MQ below (Qv G M z) args s 0 0 (gA G)) (F0 m 2 ls []) := by
  intro n
  induction n with
  | zero =>
    intro x2 Lx h
    have h : (none : Option (MemL)) = some z := h
    cases h
  | succ n ih =>
    intro x2 Lx h H locs d ls hl
    rw [lp_X1_weigh_2] at h
    refine lv_iload_n S.1 S.2.1 dX1_weigh_2 rfl (lv_at hl 2 rfl) ?_
    refine lv_bipush (v := 16) S.1 S.2.1 dX1_weigh_3 (by decide) ?_
    refine lv_icmp_ge (tgt := 58) S.1 S.2.1 dX1_weigh_5 (by decide) (fun cc => ?_) (fun cc => ?_)
    · replace h := it_p cc h
      exact hK _ _ _ d _ (lv_sub hl [] rfl) h
    · replace h := it_n cc h
      refine lv_lconst (v := 1) S.1 S.2.1 dX1_weigh_8 (by decide) ?_
      refine lv_lstore_n (lv' := [(3, .long (1 : Int64)), (0, .ref (ad G b0)), (1, .int b1), (2, .int x2)]) S.1 S.2.1 dX1_weigh_9 rfl hl (by decide) rfl (fun ls hl => ?_)
      refine lv_iconst (v := 0) S.1 S.2.1 dX1_weigh_10 (by decide) ?_
      refine lv_istore (lv' := [(5, .int (0 : Int32)), (3, .long (1 : Int64)), (0, .ref (ad G b0)), (1, .int b1), (2, .int x2)]) S.1 S.2.1 dX1_weigh_11 hl (by decide) rfl (fun ls hl => ?_)
      refine lc_X1_weigh_13 S hr hb0 _ (fun v5 H locs d ls hl h => ?_) _ _ _  h _ _ d _ (lv_sub hl [2, 3, 4, 1, 0] rfl)
      refine lv_aload_n S.1 S.2.1 dX1_weigh_45 rfl (lv_at hl 0 rfl) ?_
      refine gf_5_2 S d hb0 fl_RX1_21 dX1_weigh_46 ?_
      refine lv_iload_n S.1 S.2.1 dX1_weigh_49 rfl (lv_at hl 2 rfl) ?_
      refine lv_lload_n S.1 S.2.1 dX1_weigh_50 rfl (lv_at hl 3 rfl) ?_
      obtain ⟨g6, h⟩ := gd_e h
      obtain ⟨L7, eL7, h⟩ := lt_e h
      refine r_last S d eL7 (ksdC S (ch_5_2 hb0).1) (fun _ => wc_12 (ch_5_2 hb0).1) (ch_5_2 hb0).2 g6 dX1_weigh_51 (fun H locs d => ?_)
      obtain ⟨v8, ev8, h⟩ := lt_e h
      refine lv_iinc (v := v8) (lv' := [(2, .int v8), (0, .ref (ad G b0)), (1, .int b1), (3, .long v5)]) S.1 S.2.1 dX1_weigh_52 hl (k := 2) rfl (by rw [ev8]; rfl) (by decide) rfl (fun ls hl => ?_)
      refine lv_goto (tgt := 2) S.1 S.2.1 dX1_weigh_55 (by decide) ?_
      exact ih _ _ h _ _ d _ (lv_sub hl [1, 2, 0] rfl)
set_option maxHeartbeats 4000000 in
set_option maxRecDepth 100000 in
theorem c_X1_weigh (l : Launch) (G : Gx) (M : Mem) (L : MemL) (fu : Nat) (k0 : Nat) (a1 : Int32) (hk0 : kd k0 = 5) {z : MemL} (h : f_X1_weigh fu M L k0 a1 = some z) : Met l yX1_weigh (.code yX1_weigh cX1_weigh 6 (Option.none : Option Jvm.ClassFile.FieldType) :: UW) rm_X1_weigh (va_Pc [.ref (ad G k0), .int a1] (PreG G false M L)) (Qv G M z) 0 0 (gA G) := by
  refine r_in (by decide) (fun p e s m args below meth c S hr d ha ls hl => ?_) (Nat.le_of_ble_eq_true rfl)
  have S : Sx G false p s m args meth c cX1_weigh 6 RX1 := S
  have hl : lv_has ls 6 [(0, .ref (ad G k0)), (1, .int a1)] := hl
  unfold f_X1_weigh at h
  refine lv_iconst (v := 0) S.1 S.2.1 dX1_weigh_0 (by decide) ?_
  refine lv_istore_n (lv' := [(2, .int (0 : Int32)), (0, .ref (ad G k0)), (1, .int a1)]) S.1 S.2.1 dX1_weigh_1 rfl hl (by decide) rfl (fun ls hl => ?_)
  refine lc_X1_weigh_2 S hr hk0 _ (fun L9 H locs d ls hl h => ?_) _ _ _  h _ _ d _ (lv_sub hl [1, 2, 0] rfl)
  obtain rfl := Option.some.inj h
  exact r_vret S d hr dX1_weigh_58
theorem hyS_X1_highOff : yX1_highOff.cls ≠ "java/lang/invoke/MethodHandle" ∧ yX1_highOff.cls ≠ "java/lang/invoke/VarHandle" ∧ (parseMethodDescriptor yX1_highOff.desc).map (fun d => d.parameters.length) = some 2 := by decide +kernel
abbrev rm_X1_highOff : Room := { frames := 1, cells := 0, slots := 0, locals := 20 }
def f_X1_highOff (M : Mem) (a0 : Int32) (a1 : Int32) : Option (Int32) :=
  gd (inb a1 26) (
  gd (decide (¬ (64 : Int32) = 0)) (
  (f_J6_bitCount_0f7a4 (a0 ^^^ ((v26 a1.toNatClampNeg) / (64 : Int32)))).bind (fun u4 =>
  some (u4))))
set_option maxHeartbeats 4000000 in
set_option maxRecDepth 100000 in
theorem c_X1_highOff (l : Launch) (G : Gx) (M : Mem) (L : MemL) (a0 : Int32) (a1 : Int32) {z : Int32} (h : f_X1_highOff M a0 a1 = some z) : Met l yX1_highOff (.code yX1_highOff cX1_highOff 2 (Option.some Jvm.ClassFile.FieldType.int) :: UW) rm_X1_highOff (va_Pc [.int a0, .int a1] (PreG G false M L)) (Qi G z M L) 0 0 (gA G) := by
  refine r_in (by decide) (fun p e s m args below meth c S hr d ha ls hl => ?_) (Nat.le_of_ble_eq_true rfl)
  have S : Sx G false p s m args meth c cX1_highOff 2 RX1 := S
  have hl : lv_has ls 2 [(0, .int a0), (1, .int a1)] := hl
  unfold f_X1_highOff at h
  refine lv_iload_n S.1 S.2.1 dX1_highOff_0 rfl (lv_at hl 0 rfl) ?_
  refine r_gst S d S.2.2.2.2.2.2.2.1.1 (Or.inr ⟨_, va_Nw.use rfl (nv_RX1_32 S.2.2.2.2.2.2.2.1.2.2.2)⟩) dX1_highOff_1 (fun t1 ht1 => ?_)
  refine lv_iload_n S.1 S.2.1 dX1_highOff_4 rfl (lv_at hl 1 rfl) ?_
  obtain ⟨g2, h⟩ := gd_e h
  refine r_tald S d ht1 g2 dX1_highOff_5 ?_
  refine lv_bipush (v := 64) S.1 S.2.1 dX1_highOff_6 (by decide) ?_
  obtain ⟨g3, h⟩ := gd_e h
  refine lv_idiv S.1 S.2.1 dX1_highOff_8 (of_decide_eq_true g3) ?_
  refine lv_ixor S.1 S.2.1 dX1_highOff_9 ?_
  obtain ⟨u4, hu4, h⟩ := bd_e h
  refine r_ri d (r_cS (As := [.int (a0 ^^^ ((v26 a1.toNatClampNeg) / (64 : Int32)))]) (rest := []) S d (c_J6_bitCount_0f7a4 l G M L (a0 ^^^ ((v26 a1.toNatClampNeg) / (64 : Int32))) hu4) ml_RX1_36 sm_yJ6_bitCount_0f7a4 in_RJ6 co_yJ6_bitCount_0f7a4 hyS_J6_bitCount_0f7a4 ⟨rfl, rfl⟩ ⟨by decide, by decide⟩ rfl hl rfl (Nat.le_of_ble_eq_true rfl) dX1_highOff_10 ⟨Nat.zero_le _, Nat.zero_le _⟩) (fun H locs d => ?_)
  obtain rfl := Option.some.inj h
  exact r_iret S d hr rfl rfl dX1_highOff_13
theorem hyS_J13_bitCount_95d88 : yJ13_bitCount_95d88.cls ≠ "java/lang/invoke/MethodHandle" ∧ yJ13_bitCount_95d88.cls ≠ "java/lang/invoke/VarHandle" ∧ (parseMethodDescriptor yJ13_bitCount_95d88.desc).map (fun d => d.parameters.length) = some 1 := by decide +kernel
abbrev rm_J13_bitCount_95d88 : Room := { frames := 0, cells := 0, slots := 0, locals := 0 }
def f_J13_bitCount_95d88 (a0 : Int64) : Option (Int32) :=
  lt ((a0 - (((a0).toUInt64 >>> (((1 : Int32)).toInt64.toUInt64 &&& Int64.toUInt64 63)).toInt64 &&& (6148914691236517205 : Int64)))) (fun v1 : Int64 =>
  lt (((v1 &&& (3689348814741910323 : Int64)) + (((v1).toUInt64 >>> (((2 : Int32)).toInt64.toUInt64 &&& Int64.toUInt64 63)).toInt64 &&& (3689348814741910323 : Int64)))) (fun v2 : Int64 =>
  lt (((v2 + ((v2).toUInt64 >>> (((4 : Int32)).toInt64.toUInt64 &&& Int64.toUInt64 63)).toInt64) &&& (1085102592571150095 : Int64))) (fun v3 : Int64 =>
  lt ((v3 + ((v3).toUInt64 >>> (((8 : Int32)).toInt64.toUInt64 &&& Int64.toUInt64 63)).toInt64)) (fun v4 : Int64 =>
  lt ((v4 + ((v4).toUInt64 >>> (((16 : Int32)).toInt64.toUInt64 &&& Int64.toUInt64 63)).toInt64)) (fun v5 : Int64 =>
  lt ((v5 + ((v5).toUInt64 >>> (((32 : Int32)).toInt64.toUInt64 &&& Int64.toUInt64 63)).toInt64)) (fun v6 : Int64 =>
  some (((v6).toInt32 &&& (127 : Int32)))))))))
set_option maxHeartbeats 4000000 in
set_option maxRecDepth 100000 in
theorem c_J13_bitCount_95d88 (l : Launch) (G : Gx) (M : Mem) (L : MemL) (a0 : Int64) {z : Int32} (h : f_J13_bitCount_95d88 a0 = some z) : Met l yJ13_bitCount_95d88 (.code yJ13_bitCount_95d88 cJ13_bitCount_95d88 2 (Option.some Jvm.ClassFile.FieldType.int) :: UW) rm_J13_bitCount_95d88 (va_Pc [.long a0] (PreG G false M L)) (Qi G z M L) 0 0 (gA G) := by
  refine r_in (by decide) (fun p e s m args below meth c S hr d ha ls hl => ?_) (Nat.le_of_ble_eq_true rfl)
  have S : Sx G false p s m args meth c cJ13_bitCount_95d88 2 RJ13 := S
  have hl : lv_has ls 2 [(0, .long a0)] := hl
  unfold f_J13_bitCount_95d88 at h
  refine lv_lload_n S.1 S.2.1 dJ13_bitCount_95d88_0 rfl (lv_at hl 0 rfl) ?_
  refine lv_lload_n S.1 S.2.1 dJ13_bitCount_95d88_1 rfl (lv_at hl 0 rfl) ?_
  refine lv_iconst (v := 1) S.1 S.2.1 dJ13_bitCount_95d88_2 (by decide) ?_
  refine lv_lushr S.1 S.2.1 dJ13_bitCount_95d88_3 rfl ?_
  refine lv_ldc2 (v := 6148914691236517205) S.1 S.2.1 S.2.2.2.1 (S.uw cn_RJ13_314) dJ13_bitCount_95d88_4 ?_
  refine lv_land S.1 S.2.1 dJ13_bitCount_95d88_7 ?_
  refine lv_lsub S.1 S.2.1 dJ13_bitCount_95d88_8 ?_
  obtain ⟨v1, ev1, h⟩ := lt_e h
  refine r_topl ev1 ?_
  refine lv_lstore_n (lv' := [(0, .long v1)]) S.1 S.2.1 dJ13_bitCount_95d88_9 rfl hl (by decide) rfl (fun ls hl => ?_)
  refine lv_lload_n S.1 S.2.1 dJ13_bitCount_95d88_10 rfl (lv_at hl 0 rfl) ?_
  refine lv_ldc2 (v := 3689348814741910323) S.1 S.2.1 S.2.2.2.1 (S.uw cn_RJ13_316) dJ13_bitCount_95d88_11 ?_
  refine lv_land S.1 S.2.1 dJ13_bitCount_95d88_14 ?_
  refine lv_lload_n S.1 S.2.1 dJ13_bitCount_95d88_15 rfl (lv_at hl 0 rfl) ?_
  refine lv_iconst (v := 2) S.1 S.2.1 dJ13_bitCount_95d88_16 (by decide) ?_
  refine lv_lushr S.1 S.2.1 dJ13_bitCount_95d88_17 rfl ?_
  refine lv_ldc2 (v := 3689348814741910323) S.1 S.2.1 S.2.2.2.1 (S.uw cn_RJ13_316) dJ13_bitCount_95d88_18 ?_
  refine lv_land S.1 S.2.1 dJ13_bitCount_95d88_21 ?_
  refine lv_ladd S.1 S.2.1 dJ13_bitCount_95d88_22 ?_
  obtain ⟨v2, ev2, h⟩ := lt_e h
  refine r_topl ev2 ?_
  refine lv_lstore_n (lv' := [(0, .long v2)]) S.1 S.2.1 dJ13_bitCount_95d88_23 rfl hl (by decide) rfl (fun ls hl => ?_)
  refine lv_lload_n S.1 S.2.1 dJ13_bitCount_95d88_24 rfl (lv_at hl 0 rfl) ?_
  refine lv_lload_n S.1 S.2.1 dJ13_bitCount_95d88_25 rfl (lv_at hl 0 rfl) ?_
  refine lv_iconst (v := 4) S.1 S.2.1 dJ13_bitCount_95d88_26 (by decide) ?_
  refine lv_lushr S.1 S.2.1 dJ13_bitCount_95d88_27 rfl ?_
  refine lv_ladd S.1 S.2.1 dJ13_bitCount_95d88_28 ?_
  refine lv_ldc2 (v := 1085102592571150095) S.1 S.2.1 S.2.2.2.1 (S.uw cn_RJ13_318) dJ13_bitCount_95d88_29 ?_
  refine lv_land S.1 S.2.1 dJ13_bitCount_95d88_32 ?_
  obtain ⟨v3, ev3, h⟩ := lt_e h
  refine r_topl ev3 ?_
  refine lv_lstore_n (lv' := [(0, .long v3)]) S.1 S.2.1 dJ13_bitCount_95d88_33 rfl hl (by decide) rfl (fun ls hl => ?_)
  refine lv_lload_n S.1 S.2.1 dJ13_bitCount_95d88_34 rfl (lv_at hl 0 rfl) ?_
  refine lv_lload_n S.1 S.2.1 dJ13_bitCount_95d88_35 rfl (lv_at hl 0 rfl) ?_
  refine lv_bipush (v := 8) S.1 S.2.1 dJ13_bitCount_95d88_36 (by decide) ?_
  refine lv_lushr S.1 S.2.1 dJ13_bitCount_95d88_38 rfl ?_
  refine lv_ladd S.1 S.2.1 dJ13_bitCount_95d88_39 ?_
  obtain ⟨v4, ev4, h⟩ := lt_e h
  refine r_topl ev4 ?_
  refine lv_lstore_n (lv' := [(0, .long v4)]) S.1 S.2.1 dJ13_bitCount_95d88_40 rfl hl (by decide) rfl (fun ls hl => ?_)
  refine lv_lload_n S.1 S.2.1 dJ13_bitCount_95d88_41 rfl (lv_at hl 0 rfl) ?_
  refine lv_lload_n S.1 S.2.1 dJ13_bitCount_95d88_42 rfl (lv_at hl 0 rfl) ?_
  refine lv_bipush (v := 16) S.1 S.2.1 dJ13_bitCount_95d88_43 (by decide) ?_
  refine lv_lushr S.1 S.2.1 dJ13_bitCount_95d88_45 rfl ?_
  refine lv_ladd S.1 S.2.1 dJ13_bitCount_95d88_46 ?_
  obtain ⟨v5, ev5, h⟩ := lt_e h
  refine r_topl ev5 ?_
  refine lv_lstore_n (lv' := [(0, .long v5)]) S.1 S.2.1 dJ13_bitCount_95d88_47 rfl hl (by decide) rfl (fun ls hl => ?_)
  refine lv_lload_n S.1 S.2.1 dJ13_bitCount_95d88_48 rfl (lv_at hl 0 rfl) ?_
  refine lv_lload_n S.1 S.2.1 dJ13_bitCount_95d88_49 rfl (lv_at hl 0 rfl) ?_
  refine lv_bipush (v := 32) S.1 S.2.1 dJ13_bitCount_95d88_50 (by decide) ?_
  refine lv_lushr S.1 S.2.1 dJ13_bitCount_95d88_52 rfl ?_
  refine lv_ladd S.1 S.2.1 dJ13_bitCount_95d88_53 ?_
  obtain ⟨v6, ev6, h⟩ := lt_e h
  refine r_topl ev6 ?_
  refine lv_lstore_n (lv' := [(0, .long v6)]) S.1 S.2.1 dJ13_bitCount_95d88_54 rfl hl (by decide) rfl (fun ls hl => ?_)
  refine lv_lload_n S.1 S.2.1 dJ13_bitCount_95d88_55 rfl (lv_at hl 0 rfl) ?_
  refine lv_l2i S.1 S.2.1 dJ13_bitCount_95d88_56 rfl ?_
  refine lv_bipush (v := 127) S.1 S.2.1 dJ13_bitCount_95d88_57 (by decide) ?_
  refine lv_iand S.1 S.2.1 dJ13_bitCount_95d88_59 ?_
  obtain rfl := Option.some.inj h
  exact r_iret S d hr rfl rfl dJ13_bitCount_95d88_60
theorem hyV_X1_addWays : yX1_addWays.cls = RX1 ∧ yX1_addWays.cls ≠ "java/lang/invoke/MethodHandle" ∧ yX1_addWays.cls ≠ "java/lang/invoke/VarHandle" ∧ (parseMethodDescriptor yX1_addWays.desc).map (fun d => d.parameters.length) = some 4 := by decide +kernel
abbrev rm_X1_addWays : Room := { frames := 1, cells := 0, slots := 0, locals := 21 }
def lp_X1_addWays_3 (fu : Nat) (L : MemL) (b0 : Nat) (b1 : Nat) (b2 : Int64) (b4 : Int32) (b5 : Int32) (K : Mem → Option (Mem)) : Nat → Int32 → Mem → Option (Mem)
  | 0, _, _ => none
  | n + 1, x6, Mx =>
    (if (6 : Int32) < x6 then (K Mx)
    else (if (lg_cmp b2 (0 : Int64)) = 0 then (K Mx)
      else gd (inb (b5 + x6) (ln b1)) (
        gd (inb b4 26) (
        gd (inb x6 7) (
        (f_J13_bitCount_95d88 (b2 &&& (L ((b0 + 1) + 1 + b4.toNatClampNeg) x6.toNatClampNeg))).bind (fun u4 =>
        gd (inb (b5 + x6) (ln b1)) (
        lt (up Mx b1 (b5 + x6).toNatClampNeg ((Mx b1 (b5 + x6).toNatClampNeg) + u4)) (fun M6 : Mem =>
        lt (x6 + 1) (fun v7 : Int32 =>
        (lp_X1_addWays_3 fu L b0 b1 b2 b4 b5 K n v7 M6))))))))))
def f_X1_addWays (fu : Nat) (M : Mem) (L : MemL) (k0 : Nat) (k1 : Nat) (a2 : Int64) (a4 : Int32) (a5 : Int32) : Option (Mem) :=
  (lp_X1_addWays_3 fu L k0 k1 a2 a4 a5 (fun (M8 : Mem) =>
    some (M8)) fu (0 : Int32) M)
set_option maxHeartbeats 4000000 in
set_option maxRecDepth 100000 in
theorem lc_X1_addWays_3 {p : Program} {l : Launch} {e : Env} {s : State} {m : MethodId} {args : Array Value} {below : List Frame} {meth : Method} {c : Code} {G : Gx} {L : MemL} {fu : Nat} {b0 : Nat} {b1 : Nat} {b2 : Int64} {b4 : Int32} {b5 : Int32} {z : Mem} (S : Sx G false p s m args meth c cX1_addWays 7 RX1) (hr : meth.sig.returnType = (Option.none : Option Jvm.ClassFile.FieldType)) (hb0 : kd b0 = 5) (hb1 : kd b1 = 10) (K : Mem → Option (Mem)) (hK : ∀ (My : Mem) (H : Heap) (locs : List Loc), Dy G s My L H locs → ∀ ls : Array Slot, lv_has ls 7 [] → K My = some z → W p l e rm_X1_addWays s m args below meth c H locs 0 0 (MQ below (Qv G z L) args s 0 0 (gA G)) (F0 m 47 ls [])) :
    ∀ (n : Nat) (x6 : Int32) (Mx : Mem), lp_X1_addWays_3 fu L b0 b1 b2 b4 b5 K n x6 Mx = some z → ∀ (H : Heap) (locs : List Loc), Dy G s Mx L H locs → ∀ ls : Array Slot, lv_has ls 7 [(0, .ref (ad G b0)), (1, .ref (ad G b1)), (2, .long b2), (4, .int b4), (5, .int b5), (6, .int x6)] → W p l e rm_X1_addWays s m args below meth c H locs 0 0 (MQ below (Qv G z L) args s 0 0 (gA G)) (F0 m 3 ls []) := by
  intro n
  induction n with
  | zero =>
    intro x6 Mx h
    have h : (none : Option (Mem)) = some z := h
    cases h
  | succ n ih =>
    intro x6 Mx h H locs d ls hl
    rw [lp_X1_addWays_3] at h
    refine lv_iload S.1 S.2.1 dX1_addWays_3 (lv_at hl 5 rfl) ?_
    refine lv_bipush (v := 6) S.1 S.2.1 dX1_addWays_5 (by decide) ?_
    refine lv_icmp_gt (tgt := 47) S.1 S.2.1 dX1_addWays_7 (by decide) (fun cc => ?_) (fun cc => ?_)
    · replace h := it_p cc h
      exact hK _ _ _ d _ (lv_sub hl [] rfl) h
    · replace h := it_n cc h
      refine lv_lload_n S.1 S.2.1 dX1_addWays_10 rfl (lv_at hl 2 rfl) ?_
      refine lv_lconst (v := 0) S.1 S.2.1 dX1_addWays_11 (by decide) ?_
      refine W.lcmp S.1 S.2.1 dX1_addWays_12 ?_
      refine lv_if_eq (tgt := 47) S.1 S.2.1 dX1_addWays_13 (by decide) (fun cc => ?_) (fun cc => ?_)
      · replace h := it_p cc h
        exact hK _ _ _ d _ (lv_sub hl [] rfl) h
      · replace h := it_n cc h
        refine lv_aload_n S.1 S.2.1 dX1_addWays_16 rfl (lv_at hl 1 rfl) ?_
        refine lv_iload S.1 S.2.1 dX1_addWays_17 (lv_at hl 4 rfl) ?_
        refine lv_iload S.1 S.2.1 dX1_addWays_19 (lv_at hl 5 rfl) ?_
        refine lv_iadd S.1 S.2.1 dX1_addWays_21 ?_
        refine lv_dup2_11 S.1 S.2.1 dX1_addWays_22 rfl rfl ?_
        obtain ⟨g1, h⟩ := gd_e h
        refine r_iald S d (ksdC S hb1) (wc_10 hb1) rfl g1 dX1_addWays_23 ?_
        refine lv_lload_n S.1 S.2.1 dX1_addWays_24 rfl (lv_at hl 2 rfl) ?_
        refine lv_aload_n S.1 S.2.1 dX1_addWays_25 rfl (lv_at hl 0 rfl) ?_
        refine gf_5_0 S d hb0 fl_RX1_13 dX1_addWays_26 ?_
        refine lv_iload S.1 S.2.1 dX1_addWays_29 (lv_at hl 3 rfl) ?_
        obtain ⟨g2, h⟩ := gd_e h
        refine r_aald S d (ksdC S (ch_5_0 hb0).1) (wc_18 (ch_5_0 hb0).1) rfl rfl g2 (if_pos (inb_lt g2)) dX1_addWays_31 ?_
        refine lv_iload S.1 S.2.1 dX1_addWays_32 (lv_at hl 5 rfl) ?_
        obtain ⟨g3, h⟩ := gd_e h
        refine r_lald S d (ksdC S (ca_18 (ch_5_0 hb0).1 (inb_lt g2)).1) (wc_12 (ca_18 (ch_5_0 hb0).1 (inb_lt g2)).1) (ca_18 (ch_5_0 hb0).1 (inb_lt g2)).2 g3 dX1_addWays_34 ?_
        refine lv_land S.1 S.2.1 dX1_addWays_35 ?_
        obtain ⟨u4, hu4, h⟩ := bd_e h
        refine r_ri d (r_cS (As := [.long (b2 &&& (L ((b0 + 1) + 1 + b4.toNatClampNeg) x6.toNatClampNeg))]) (rest := [.int (Mx b1 (b5 + x6).toNatClampNeg), .int (b5 + x6), .ref (ad G b1)]) S d (c_J13_bitCount_95d88 l G Mx L (b2 &&& (L ((b0 + 1) + 1 + b4.toNatClampNeg) x6.toNatClampNeg)) hu4) ml_RX1_76 sm_yJ13_bitCount_95d88 in_RJ13 co_yJ13_bitCount_95d88 hyS_J13_bitCount_95d88 ⟨rfl, rfl⟩ ⟨by decide, by decide⟩ rfl hl rfl (Nat.le_of_ble_eq_true rfl) dX1_addWays_36 ⟨Nat.zero_le _, Nat.zero_le _⟩) (fun H locs d => ?_)
        refine lv_iadd S.1 S.2.1 dX1_addWays_39 ?_
        obtain ⟨g5, h⟩ := gd_e h
        obtain ⟨M6, eM6, h⟩ := lt_e h
        refine r_iast S d eM6 (ksdC S hb1) (fun _ => wc_10 hb1) rfl g5 dX1_addWays_40 (fun H locs d => ?_)
        obtain ⟨v7, ev7, h⟩ := lt_e h
        refine lv_iinc (v := v7) (lv' := [(6, .int v7), (0, .ref (ad G b0)), (1, .ref (ad G b1)), (2, .long b2), (4, .int b4), (5, .int b5)]) S.1 S.2.1 dX1_addWays_41 hl (k := 5) rfl (by rw [ev7]; rfl) (by decide) rfl (fun ls hl => ?_)
        refine lv_goto (tgt := 3) S.1 S.2.1 dX1_addWays_44 (by decide) ?_
        exact ih _ _ h _ _ d _ (lv_sub hl [1, 2, 3, 4, 5, 0] rfl)
set_option maxHeartbeats 4000000 in
set_option maxRecDepth 100000 in
theorem c_X1_addWays (l : Launch) (G : Gx) (M : Mem) (L : MemL) (fu : Nat) (k0 : Nat) (k1 : Nat) (a2 : Int64) (a4 : Int32) (a5 : Int32) (hk0 : kd k0 = 5) (hk1 : kd k1 = 10) {z : Mem} (h : f_X1_addWays fu M L k0 k1 a2 a4 a5 = some z) : Met l yX1_addWays (.code yX1_addWays cX1_addWays 7 (Option.none : Option Jvm.ClassFile.FieldType) :: UW) rm_X1_addWays (va_Pc [.ref (ad G k0), .ref (ad G k1), .long a2, .int a4, .int a5] (PreG G false M L)) (Qv G z L) 0 0 (gA G) := by
  refine r_in (by decide) (fun p e s m args below meth c S hr d ha ls hl => ?_) (Nat.le_of_ble_eq_true rfl)
  have S : Sx G false p s m args meth c cX1_addWays 7 RX1 := S
  have hl : lv_has ls 7 [(0, .ref (ad G k0)), (1, .ref (ad G k1)), (2, .long a2), (4, .int a4), (5, .int a5)] := hl
  unfold f_X1_addWays at h
  refine lv_iconst (v := 0) S.1 S.2.1 dX1_addWays_0 (by decide) ?_
  refine lv_istore (lv' := [(6, .int (0 : Int32)), (0, .ref (ad G k0)), (1, .ref (ad G k1)), (2, .long a2), (4, .int a4), (5, .int a5)]) S.1 S.2.1 dX1_addWays_1 hl (by decide) rfl (fun ls hl => ?_)
  refine lc_X1_addWays_3 S hr hk0 hk1 _ (fun M8 H locs d ls hl h => ?_) _ _ _  h _ _ d _ (lv_sub hl [1, 2, 3, 4, 5, 0] rfl)
  obtain rfl := Option.some.inj h
  exact r_vret S d hr dX1_addWays_47
theorem hyV_X1_countWaysOf : yX1_countWaysOf.cls = RX1 ∧ yX1_countWaysOf.cls ≠ "java/lang/invoke/MethodHandle" ∧ yX1_countWaysOf.cls ≠ "java/lang/invoke/VarHandle" ∧ (parseMethodDescriptor yX1_countWaysOf.desc).map (fun d => d.parameters.length) = some 3 := by decide +kernel
abbrev rm_X1_countWaysOf : Room := { frames := 2, cells := 0, slots := 0, locals := 47 }
def lp_X1_countWaysOf_24 (fu : Nat) (L : MemL) (b0 : Nat) (b1 : Int32) (b2 : Int32) (b3 : Int32) (b6 : Int32) (K : Int64 → Mem → Option (Mem)) : Nat → Int64 → Int32 → Mem → Option (Mem)
  | 0, _, _, _ => none
  | n + 1, x4, x7, Mx =>
    (if (26 : Int32) ≤ x7 then (K x4 Mx)
    else (f_X1_highOff Mx b1 x7).bind (fun u1 =>
      lt ((b6 - u1)) (fun v2 : Int32 =>
      (if v2 < 0 then lt (x7 + 1) (fun v12 : Int32 =>
        (lp_X1_countWaysOf_24 fu L b0 b1 b2 b3 b6 K n x4 v12 Mx))
      else (if (6 : Int32) < v2 then lt (x7 + 1) (fun v11 : Int32 =>
          (lp_X1_countWaysOf_24 fu L b0 b1 b2 b3 b6 K n x4 v11 Mx))
        else gd (inb x7 26) (
          gd (inb v2 7) (
          lt ((x4 &&& (L ((b0 + 1) + 1 + x7.toNatClampNeg) v2.toNatClampNeg))) (fun v5 : Int64 =>
          lt ((x4 &&& (v5 ^^^ (-1 : Int64)))) (fun v6 : Int64 =>
          gd (inb x7 26) (
          (f_X1_highOff Mx b1 b2).bind (fun u8 =>
          (f_X1_addWays fu Mx L b0 ((b0 + 28) + 1 + x7.toNatClampNeg) v5 b2 u8).bind (fun u9 =>
          lt (x7 + 1) (fun v10 : Int32 =>
          (lp_X1_countWaysOf_24 fu L b0 b1 b2 b3 b6 K n v6 v10 u9))))))))))))))
def lp_X1_countWaysOf_8 (fu : Nat) (L : MemL) (b0 : Nat) (b1 : Int32) (b2 : Int32) (b3 : Int32) (K : Mem → Option (Mem)) : Nat → Int64 → Int32 → Mem → Option (Mem)
  | 0, _, _, _ => none
  | n + 1, x4, x6, Mx =>
    (if b3 < x6 then (K Mx)
    else (if (lg_cmp x4 (0 : Int64)) = 0 then (K Mx)
      else (lp_X1_countWaysOf_24 fu L b0 b1 b2 b3 x6 (fun (v13 : Int64) (M14 : Mem) =>
          lt (x6 + 1) (fun v15 : Int32 =>
          (lp_X1_countWaysOf_8 fu L b0 b1 b2 b3 K n v13 v15 M14))) fu x4 (0 : Int32) Mx)))
def f_X1_countWaysOf (fu : Nat) (M : Mem) (L : MemL) (k0 : Nat) (a1 : Int32) (a2 : Int32) (a3 : Int32) : Option (Mem) :=
  (lp_X1_countWaysOf_8 fu L k0 a1 a2 a3 (fun (M16 : Mem) =>
    some (M16)) fu (-1 : Int64) (0 : Int32) M)
set_option maxHeartbeats 4000000 in
set_option maxRecDepth 100000 in
theorem lc_X1_countWaysOf_24 {p : Program} {l : Launch} {e : Env} {s : State} {m : MethodId} {args : Array Value} {below : List Frame} {meth : Method} {c : Code} {G : Gx} {L : MemL} {fu : Nat} {b0 : Nat} {b1 : Int32} {b2 : Int32} {b3 : Int32} {b6 : Int32} {z : Mem} (S : Sx G false p s m args meth c cX1_countWaysOf 11 RX1) (hr : meth.sig.returnType = (Option.none : Option Jvm.ClassFile.FieldType)) (hb0 : kd b0 = 5) (K : Int64 → Mem → Option (Mem)) (hK : ∀ (y4 : Int64) (My : Mem) (H : Heap) (locs : List Loc), Dy G s My L H locs → ∀ ls : Array Slot, lv_has ls 11 [(0, .ref (ad G b0)), (1, .int b1), (2, .int b2), (3, .int b3), (4, .long y4), (6, .int b6)] → K y4 My = some z → W p l e rm_X1_countWaysOf s m args below meth c H locs 0 0 (MQ below (Qv G z L) args s 0 0 (gA G)) (F0 m 105 ls [])) :
    ∀ (n : Nat) (x4 : Int64) (x7 : Int32) (Mx : Mem), lp_X1_countWaysOf_24 fu L b0 b1 b2 b3 b6 K n x4 x7 Mx = some z → ∀ (H : Heap) (locs : List Loc), Dy G s Mx L H locs → ∀ ls : Array Slot, lv_has ls 11 [(0, .ref (ad G b0)), (1, .int b1), (2, .int b2), (3, .int b3), (4, .long x4), (6, .int b6), (7, .int x7)] → W p l e rm_X1_countWaysOf s m args below meth c H locs 0 0 (MQ below (Qv G z L) args s 0 0 (gA G)) (F0 m 24 ls []) := by
  intro n
  induction n with
  | zero =>
    intro x4 x7 Mx h
    have h : (none : Option (Mem)) = some z := h
    cases h
  | succ n ih =>
    intro x4 x7 Mx h H locs d ls hl
    rw [lp_X1_countWaysOf_24] at h
    refine lv_iload S.1 S.2.1 dX1_countWaysOf_24 (lv_at hl 6 rfl) ?_
    refine lv_bipush (v := 26) S.1 S.2.1 dX1_countWaysOf_26 (by decide) ?_
    refine lv_icmp_ge (tgt := 105) S.1 S.2.1 dX1_countWaysOf_28 (by decide) (fun cc => ?_) (fun cc => ?_)
    · replace h := it_p cc h
      exact hK _ _ _ _ d _ (lv_sub hl [0, 1, 2, 3, 4, 5] rfl) h
    · replace h := it_n cc h
      refine lv_iload S.1 S.2.1 dX1_countWaysOf_31 (lv_at hl 5 rfl) ?_
      refine lv_iload_n S.1 S.2.1 dX1_countWaysOf_33 rfl (lv_at hl 1 rfl) ?_
      refine lv_iload S.1 S.2.1 dX1_countWaysOf_34 (lv_at hl 6 rfl) ?_
      obtain ⟨u1, hu1, h⟩ := bd_e h
      refine r_ri d (r_cS (As := [.int b1, .int x7]) (rest := [.int b6]) S d (c_X1_highOff l G Mx L b1 x7 hu1) ml_RX1_68 sm_yX1_highOff in_RX1 co_yX1_highOff hyS_X1_highOff ⟨rfl, rfl⟩ ⟨by decide, by decide⟩ rfl hl rfl (Nat.le_of_ble_eq_true rfl) dX1_countWaysOf_36 ⟨Nat.zero_le _, Nat.zero_le _⟩) (fun H locs d => ?_)
      refine lv_isub S.1 S.2.1 dX1_countWaysOf_39 ?_
      obtain ⟨v2, ev2, h⟩ := lt_e h
      refine r_top ev2 ?_
      refine lv_istore (lv' := [(8, .int v2), (0, .ref (ad G b0)), (1, .int b1), (2, .int b2), (3, .int b3), (4, .long x4), (6, .int b6), (7, .int x7)]) S.1 S.2.1 dX1_countWaysOf_40 hl (by decide) rfl (fun ls hl => ?_)
      refine lv_iload S.1 S.2.1 dX1_countWaysOf_42 (lv_at hl 0 rfl) ?_
      refine lv_if_lt (tgt := 99) S.1 S.2.1 dX1_countWaysOf_44 (by decide) (fun cc => ?_) (fun cc => ?_)
      · replace h := it_p cc h
        obtain ⟨v12, ev12, h⟩ := lt_e h
        refine lv_iinc (v := v12) (lv' := [(7, .int v12), (8, .int v2), (0, .ref (ad G b0)), (1, .int b1), (2, .int b2), (3, .int b3), (4, .long x4), (6, .int b6)]) S.1 S.2.1 dX1_countWaysOf_99 hl (k := 7) rfl (by rw [ev12]; rfl) (by decide) rfl (fun ls hl => ?_)
        refine lv_goto (tgt := 24) S.1 S.2.1 dX1_countWaysOf_102 (by decide) ?_
        exact ih _ _ _ h _ _ d _ (lv_sub hl [2, 3, 4, 5, 6, 7, 0] rfl)
      · replace h := it_n cc h
        refine lv_iload S.1 S.2.1 dX1_countWaysOf_47 (lv_at hl 0 rfl) ?_
        refine lv_bipush (v := 6) S.1 S.2.1 dX1_countWaysOf_49 (by decide) ?_
        refine lv_icmp_gt (tgt := 99) S.1 S.2.1 dX1_countWaysOf_51 (by decide) (fun cc => ?_) (fun cc => ?_)
        · replace h := it_p cc h
          obtain ⟨v11, ev11, h⟩ := lt_e h
          refine lv_iinc (v := v11) (lv' := [(7, .int v11), (8, .int v2), (0, .ref (ad G b0)), (1, .int b1), (2, .int b2), (3, .int b3), (4, .long x4), (6, .int b6)]) S.1 S.2.1 dX1_countWaysOf_99 hl (k := 7) rfl (by rw [ev11]; rfl) (by decide) rfl (fun ls hl => ?_)
          refine lv_goto (tgt := 24) S.1 S.2.1 dX1_countWaysOf_102 (by decide) ?_
          exact ih _ _ _ h _ _ d _ (lv_sub hl [2, 3, 4, 5, 6, 7, 0] rfl)
        · replace h := it_n cc h
          refine lv_lload S.1 S.2.1 dX1_countWaysOf_54 (lv_at hl 5 rfl) ?_
          refine lv_aload_n S.1 S.2.1 dX1_countWaysOf_56 rfl (lv_at hl 1 rfl) ?_
          refine gf_5_0 S d hb0 fl_RX1_13 dX1_countWaysOf_57 ?_
          refine lv_iload S.1 S.2.1 dX1_countWaysOf_60 (lv_at hl 7 rfl) ?_
          obtain ⟨g3, h⟩ := gd_e h
          refine r_aald S d (ksdC S (ch_5_0 hb0).1) (wc_18 (ch_5_0 hb0).1) rfl rfl g3 (if_pos (inb_lt g3)) dX1_countWaysOf_62 ?_
          refine lv_iload S.1 S.2.1 dX1_countWaysOf_63 (lv_at hl 0 rfl) ?_
          obtain ⟨g4, h⟩ := gd_e h
          refine r_lald S d (ksdC S (ca_18 (ch_5_0 hb0).1 (inb_lt g3)).1) (wc_12 (ca_18 (ch_5_0 hb0).1 (inb_lt g3)).1) (ca_18 (ch_5_0 hb0).1 (inb_lt g3)).2 g4 dX1_countWaysOf_65 ?_
          refine lv_land S.1 S.2.1 dX1_countWaysOf_66 ?_
          obtain ⟨v5, ev5, h⟩ := lt_e h
          refine r_topl ev5 ?_
          refine lv_lstore (lv' := [(9, .long v5), (8, .int v2), (0, .ref (ad G b0)), (1, .int b1), (2, .int b2), (3, .int b3), (4, .long x4), (6, .int b6), (7, .int x7)]) S.1 S.2.1 dX1_countWaysOf_67 hl (by decide) rfl (fun ls hl => ?_)
          refine lv_lload S.1 S.2.1 dX1_countWaysOf_69 (lv_at hl 6 rfl) ?_
          refine lv_lload S.1 S.2.1 dX1_countWaysOf_71 (lv_at hl 0 rfl) ?_
          refine lv_ldc2 (v := (-1)) S.1 S.2.1 S.2.2.2.1 (S.uw cn_RX1_66) dX1_countWaysOf_73 ?_
          refine lv_lxor S.1 S.2.1 dX1_countWaysOf_76 ?_
          refine lv_land S.1 S.2.1 dX1_countWaysOf_77 ?_
          obtain ⟨v6, ev6, h⟩ := lt_e h
          refine r_topl ev6 ?_
          refine lv_lstore (lv' := [(4, .long v6), (9, .long v5), (8, .int v2), (0, .ref (ad G b0)), (1, .int b1), (2, .int b2), (3, .int b3), (6, .int b6), (7, .int x7)]) S.1 S.2.1 dX1_countWaysOf_78 hl (by decide) rfl (fun ls hl => ?_)
          refine lv_aload_n S.1 S.2.1 dX1_countWaysOf_80 rfl (lv_at hl 3 rfl) ?_
          refine lv_aload_n S.1 S.2.1 dX1_countWaysOf_81 rfl (lv_at hl 3 rfl) ?_
          refine gf_5_1 S d hb0 fl_RX1_18 dX1_countWaysOf_82 ?_
          refine lv_iload S.1 S.2.1 dX1_countWaysOf_85 (lv_at hl 8 rfl) ?_
          obtain ⟨g7, h⟩ := gd_e h
          refine r_aald S d (ksdC S (ch_5_1 hb0).1) (wc_19 (ch_5_1 hb0).1) rfl rfl g7 (if_pos (inb_lt g7)) dX1_countWaysOf_87 ?_
          refine lv_lload S.1 S.2.1 dX1_countWaysOf_88 (lv_at hl 1 rfl) ?_
          refine lv_iload_n S.1 S.2.1 dX1_countWaysOf_90 rfl (lv_at hl 5 rfl) ?_
          refine lv_iload_n S.1 S.2.1 dX1_countWaysOf_91 rfl (lv_at hl 4 rfl) ?_
          refine lv_iload_n S.1 S.2.1 dX1_countWaysOf_92 rfl (lv_at hl 5 rfl) ?_
          obtain ⟨u8, hu8, h⟩ := bd_e h
          refine r_ri d (r_cS (As := [.int b1, .int b2]) (rest := [.int b2, .long v5, .ref (ad G ((b0 + 28) + 1 + x7.toNatClampNeg)), .ref (ad G b0)]) S d (c_X1_highOff l G Mx L b1 b2 hu8) ml_RX1_68 sm_yX1_highOff in_RX1 co_yX1_highOff hyS_X1_highOff ⟨rfl, rfl⟩ ⟨by decide, by decide⟩ rfl hl rfl (Nat.le_of_ble_eq_true rfl) dX1_countWaysOf_93 ⟨Nat.zero_le _, Nat.zero_le _⟩) (fun H locs d => ?_)
          obtain ⟨u9, hu9, h⟩ := bd_e h
          refine r_rv d (r_cV (As := [.ref (ad G ((b0 + 28) + 1 + x7.toNatClampNeg)), .long v5, .int b2, .int u8]) (rest := []) S d (c_X1_addWays l G Mx L fu b0 ((b0 + 28) + 1 + x7.toNatClampNeg) v5 b2 u8 hb0 (ca_19 (ch_5_1 hb0).1 (inb_lt g7)).1 hu9) (ksdC S hb0) (wc_5 hb0) rfl ml_RX1_72 im_yX1_addWays se_yX1_addWays in_RX1 co_yX1_addWays hyV_X1_addWays ⟨rfl, rfl⟩ ⟨by decide, by decide⟩ rfl hl rfl (Nat.le_of_ble_eq_true rfl) dX1_countWaysOf_96 ⟨Nat.zero_le _, Nat.zero_le _⟩) (fun H locs d => ?_)
          obtain ⟨v10, ev10, h⟩ := lt_e h
          refine lv_iinc (v := v10) (lv' := [(7, .int v10), (4, .long v6), (9, .long v5), (8, .int v2), (0, .ref (ad G b0)), (1, .int b1), (2, .int b2), (3, .int b3), (6, .int b6)]) S.1 S.2.1 dX1_countWaysOf_99 hl (k := 8) rfl (by rw [ev10]; rfl) (by decide) rfl (fun ls hl => ?_)
          refine lv_goto (tgt := 24) S.1 S.2.1 dX1_countWaysOf_102 (by decide) ?_
          exact ih _ _ _ h _ _ d _ (lv_sub hl [4, 5, 6, 7, 1, 8, 0] rfl)
set_option maxHeartbeats 4000000 in
set_option maxRecDepth 100000 in
theorem lc_X1_countWaysOf_8 {p : Program} {l : Launch} {e : Env} {s : State} {m : MethodId} {args : Array Value} {below : List Frame} {meth : Method} {c : Code} {G : Gx} {L : MemL} {fu : Nat} {b0 : Nat} {b1 : Int32} {b2 : Int32} {b3 : Int32} {z : Mem} (S : Sx G false p s m args meth c cX1_countWaysOf 11 RX1) (hr : meth.sig.returnType = (Option.none : Option Jvm.ClassFile.FieldType)) (hb0 : kd b0 = 5) (K : Mem → Option (Mem)) (hK : ∀ (My : Mem) (H : Heap) (locs : List Loc), Dy G s My L H locs → ∀ ls : Array Slot, lv_has ls 11 [] → K My = some z → W p l e rm_X1_countWaysOf s m args below meth c H locs 0 0 (MQ below (Qv G z L) args s 0 0 (gA G)) (F0 m 111 ls [])) :
    ∀ (n : Nat) (x4 : Int64) (x6 : Int32) (Mx : Mem), lp_X1_countWaysOf_8 fu L b0 b1 b2 b3 K n x4 x6 Mx = some z → ∀ (H : Heap) (locs : List Loc), Dy G s Mx L H locs → ∀ ls : Array Slot, lv_has ls 11 [(0, .ref (ad G b0)), (1, .int b1), (2, .int b2), (3, .int b3), (4, .long x4), (6, .int x6)] → W p l e rm_X1_countWaysOf s m args below meth c H locs 0 0 (MQ below (Qv G z L) args s 0 0 (gA G)) (F0 m 8 ls []) := by
  intro n
  induction n with
  | zero =>
    intro x4 x6 Mx h
    have h : (none : Option (Mem)) = some z := h
    cases h
  | succ n ih =>
    intro x4 x6 Mx h H locs d ls hl
    rw [lp_X1_countWaysOf_8] at h
    refine lv_iload S.1 S.2.1 dX1_countWaysOf_8 (lv_at hl 5 rfl) ?_
    refine lv_iload_n S.1 S.2.1 dX1_countWaysOf_10 rfl (lv_at hl 3 rfl) ?_
    refine lv_icmp_gt (tgt := 111) S.1 S.2.1 dX1_countWaysOf_11 (by decide) (fun cc => ?_) (fun cc => ?_)
    · replace h := it_p cc h
      exact hK _ _ _ d _ (lv_sub hl [] rfl) h
    · replace h := it_n cc h
      refine lv_lload S.1 S.2.1 dX1_countWaysOf_14 (lv_at hl 4 rfl) ?_
      refine lv_lconst (v := 0) S.1 S.2.1 dX1_countWaysOf_16 (by decide) ?_
      refine W.lcmp S.1 S.2.1 dX1_countWaysOf_17 ?_
      refine lv_if_eq (tgt := 111) S.1 S.2.1 dX1_countWaysOf_18 (by decide) (fun cc => ?_) (fun cc => ?_)
      · replace h := it_p cc h
        exact hK _ _ _ d _ (lv_sub hl [] rfl) h
      · replace h := it_n cc h
        refine lv_iconst (v := 0) S.1 S.2.1 dX1_countWaysOf_21 (by decide) ?_
        refine lv_istore (lv' := [(7, .int (0 : Int32)), (0, .ref (ad G b0)), (1, .int b1), (2, .int b2), (3, .int b3), (4, .long x4), (6, .int x6)]) S.1 S.2.1 dX1_countWaysOf_22 hl (by decide) rfl (fun ls hl => ?_)
        refine lc_X1_countWaysOf_24 S hr hb0 _ (fun v13 M14 H locs d ls hl h => ?_) _ _ _ _  h _ _ d _ (lv_sub hl [1, 2, 3, 4, 5, 6, 0] rfl)
        obtain ⟨v15, ev15, h⟩ := lt_e h
        refine lv_iinc (v := v15) (lv' := [(6, .int v15), (0, .ref (ad G b0)), (1, .int b1), (2, .int b2), (3, .int b3), (4, .long v13)]) S.1 S.2.1 dX1_countWaysOf_105 hl (k := 5) rfl (by rw [ev15]; rfl) (by decide) rfl (fun ls hl => ?_)
        refine lv_goto (tgt := 8) S.1 S.2.1 dX1_countWaysOf_108 (by decide) ?_
        exact ih _ _ _ h _ _ d _ (lv_sub hl [1, 2, 3, 4, 5, 0] rfl)
set_option maxHeartbeats 4000000 in
set_option maxRecDepth 100000 in
theorem c_X1_countWaysOf (l : Launch) (G : Gx) (M : Mem) (L : MemL) (fu : Nat) (k0 : Nat) (a1 : Int32) (a2 : Int32) (a3 : Int32) (hk0 : kd k0 = 5) {z : Mem} (h : f_X1_countWaysOf fu M L k0 a1 a2 a3 = some z) : Met l yX1_countWaysOf (.code yX1_countWaysOf cX1_countWaysOf 11 (Option.none : Option Jvm.ClassFile.FieldType) :: UW) rm_X1_countWaysOf (va_Pc [.ref (ad G k0), .int a1, .int a2, .int a3] (PreG G false M L)) (Qv G z L) 0 0 (gA G) := by
  refine r_in (by decide) (fun p e s m args below meth c S hr d ha ls hl => ?_) (Nat.le_of_ble_eq_true rfl)
  have S : Sx G false p s m args meth c cX1_countWaysOf 11 RX1 := S
  have hl : lv_has ls 11 [(0, .ref (ad G k0)), (1, .int a1), (2, .int a2), (3, .int a3)] := hl
  unfold f_X1_countWaysOf at h
  refine lv_ldc2 (v := (-1)) S.1 S.2.1 S.2.2.2.1 (S.uw cn_RX1_66) dX1_countWaysOf_0 ?_
  refine lv_lstore (lv' := [(4, .long (-1 : Int64)), (0, .ref (ad G k0)), (1, .int a1), (2, .int a2), (3, .int a3)]) S.1 S.2.1 dX1_countWaysOf_3 hl (by decide) rfl (fun ls hl => ?_)
  refine lv_iconst (v := 0) S.1 S.2.1 dX1_countWaysOf_5 (by decide) ?_
  refine lv_istore (lv' := [(6, .int (0 : Int32)), (4, .long (-1 : Int64)), (0, .ref (ad G k0)), (1, .int a1), (2, .int a2), (3, .int a3)]) S.1 S.2.1 dX1_countWaysOf_6 hl (by decide) rfl (fun ls hl => ?_)
  refine lc_X1_countWaysOf_8 S hr hk0 _ (fun M16 H locs d ls hl h => ?_) _ _ _ _  h _ _ d _ (lv_sub hl [2, 3, 4, 5, 1, 0] rfl)
  obtain rfl := Option.some.inj h
  exact r_vret S d hr dX1_countWaysOf_111
theorem hyV_X1_countWays : yX1_countWays.cls = RX1 ∧ yX1_countWays.cls ≠ "java/lang/invoke/MethodHandle" ∧ yX1_countWays.cls ≠ "java/lang/invoke/VarHandle" ∧ (parseMethodDescriptor yX1_countWays.desc).map (fun d => d.parameters.length) = some 2 := by decide +kernel
abbrev rm_X1_countWays : Room := { frames := 3, cells := 0, slots := 0, locals := 77 }
def lp_X1_countWays_29 (fu : Nat) (L : MemL) (b0 : Nat) (b1 : Int32) (b2 : Int32) (K : Mem → Option (Mem)) : Nat → Int32 → Mem → Option (Mem)
  | 0, _, _ => none
  | n + 1, x3, Mx =>
    (if (26 : Int32) ≤ x3 then (K Mx)
    else gd (inb x3 26) (
      (f_J7_fill_53178 fu Mx ((b0 + 28) + 1 + x3.toNatClampNeg) (0 : Int32)).bind (fun u4 =>
      lt (x3 + 1) (fun v5 : Int32 =>
      (lp_X1_countWays_29 fu L b0 b1 b2 K n v5 u4)))))
def lp_X1_countWays_53 (fu : Nat) (L : MemL) (b0 : Nat) (b1 : Int32) (b2 : Int32) (K : Mem → Option (Mem)) : Nat → Int32 → Mem → Option (Mem)
  | 0, _, _ => none
  | n + 1, x3, Mx =>
    (if (512 : Int32) ≤ x3 then (K Mx)
    else (f_X1_countWaysOf fu Mx L b0 x3 b1 b2).bind (fun u7 =>
      lt (x3 + 1) (fun v8 : Int32 =>
      (lp_X1_countWays_53 fu L b0 b1 b2 K n v8 u7))))
def f_X1_countWays (fu : Nat) (M : Mem) (L : MemL) (k0 : Nat) (a1 : Int32) (a2 : Int32) : Option (Mem) :=
  (if a1 = (M k0 3) then (if a2 = (M k0 4) then some (M)
    else lt (up M k0 3 a1) (fun M1 : Mem =>
      lt (up M1 k0 4 a2) (fun M2 : Mem =>
      (lp_X1_countWays_29 fu L k0 a1 a2 (fun (M6 : Mem) =>
        (lp_X1_countWays_53 fu L k0 a1 a2 (fun (M9 : Mem) =>
          some (M9)) fu (0 : Int32) M6)) fu (0 : Int32) M2))))
  else lt (up M k0 3 a1) (fun M10 : Mem =>
    lt (up M10 k0 4 a2) (fun M11 : Mem =>
    (lp_X1_countWays_29 fu L k0 a1 a2 (fun (M12 : Mem) =>
      (lp_X1_countWays_53 fu L k0 a1 a2 (fun (M13 : Mem) =>
        some (M13)) fu (0 : Int32) M12)) fu (0 : Int32) M11))))
set_option maxHeartbeats 4000000 in
set_option maxRecDepth 100000 in
theorem lc_X1_countWays_29 {p : Program} {l : Launch} {e : Env} {s : State} {m : MethodId} {args : Array Value} {below : List Frame} {meth : Method} {c : Code} {G : Gx} {L : MemL} {fu : Nat} {b0 : Nat} {b1 : Int32} {b2 : Int32} {z : Mem} (S : Sx G false p s m args meth c cX1_countWays 4 RX1) (hr : meth.sig.returnType = (Option.none : Option Jvm.ClassFile.FieldType)) (hb0 : kd b0 = 5) (K : Mem → Option (Mem)) (hK : ∀ (My : Mem) (H : Heap) (locs : List Loc), Dy G s My L H locs → ∀ ls : Array Slot, lv_has ls 4 [(0, .ref (ad G b0)), (1, .int b1), (2, .int b2)] → K My = some z → W p l e rm_X1_countWays s m args below meth c H locs 0 0 (MQ below (Qv G z L) args s 0 0 (gA G)) (F0 m 51 ls [])) :
    ∀ (n : Nat) (x3 : Int32) (Mx : Mem), lp_X1_countWays_29 fu L b0 b1 b2 K n x3 Mx = some z → ∀ (H : Heap) (locs : List Loc), Dy G s Mx L H locs → ∀ ls : Array Slot, lv_has ls 4 [(0, .ref (ad G b0)), (1, .int b1), (2, .int b2), (3, .int x3)] → W p l e rm_X1_countWays s m args below meth c H locs 0 0 (MQ below (Qv G z L) args s 0 0 (gA G)) (F0 m 29 ls []) := by
  intro n
  induction n with
  | zero =>
    intro x3 Mx h
    have h : (none : Option (Mem)) = some z := h
    cases h
  | succ n ih =>
    intro x3 Mx h H locs d ls hl
    rw [lp_X1_countWays_29] at h
    refine lv_iload_n S.1 S.2.1 dX1_countWays_29 rfl (lv_at hl 3 rfl) ?_
    refine lv_bipush (v := 26) S.1 S.2.1 dX1_countWays_30 (by decide) ?_
    refine lv_icmp_ge (tgt := 51) S.1 S.2.1 dX1_countWays_32 (by decide) (fun cc => ?_) (fun cc => ?_)
    · replace h := it_p cc h
      exact hK _ _ _ d _ (lv_sub hl [0, 1, 2] rfl) h
    · replace h := it_n cc h
      refine lv_aload_n S.1 S.2.1 dX1_countWays_35 rfl (lv_at hl 0 rfl) ?_
      refine gf_5_1 S d hb0 fl_RX1_18 dX1_countWays_36 ?_
      refine lv_iload_n S.1 S.2.1 dX1_countWays_39 rfl (lv_at hl 3 rfl) ?_
      obtain ⟨g3, h⟩ := gd_e h
      refine r_aald S d (ksdC S (ch_5_1 hb0).1) (wc_19 (ch_5_1 hb0).1) rfl rfl g3 (if_pos (inb_lt g3)) dX1_countWays_40 ?_
      refine lv_iconst (v := 0) S.1 S.2.1 dX1_countWays_41 (by decide) ?_
      obtain ⟨u4, hu4, h⟩ := bd_e h
      refine r_rv d (r_cS (As := [.ref (ad G ((b0 + 28) + 1 + x3.toNatClampNeg)), .int (0 : Int32)]) (rest := []) S d (c_J7_fill_53178 l G Mx L fu ((b0 + 28) + 1 + x3.toNatClampNeg) (0 : Int32) (ca_19 (ch_5_1 hb0).1 (inb_lt g3)).1 hu4) ml_RX1_56 sm_yJ7_fill_53178 in_RJ7 co_yJ7_fill_53178 hyS_J7_fill_53178 ⟨rfl, rfl⟩ ⟨by decide, by decide⟩ rfl hl rfl (Nat.le_of_ble_eq_true rfl) dX1_countWays_42 ⟨Nat.zero_le _, Nat.zero_le _⟩) (fun H locs d => ?_)
      obtain ⟨v5, ev5, h⟩ := lt_e h
      refine lv_iinc (v := v5) (lv' := [(3, .int v5), (0, .ref (ad G b0)), (1, .int b1), (2, .int b2)]) S.1 S.2.1 dX1_countWays_45 hl (k := 3) rfl (by rw [ev5]; rfl) (by decide) rfl (fun ls hl => ?_)
      refine lv_goto (tgt := 29) S.1 S.2.1 dX1_countWays_48 (by decide) ?_
      exact ih _ _ h _ _ d _ (lv_sub hl [1, 2, 3, 0] rfl)
set_option maxHeartbeats 4000000 in
set_option maxRecDepth 100000 in
theorem lc_X1_countWays_53 {p : Program} {l : Launch} {e : Env} {s : State} {m : MethodId} {args : Array Value} {below : List Frame} {meth : Method} {c : Code} {G : Gx} {L : MemL} {fu : Nat} {b0 : Nat} {b1 : Int32} {b2 : Int32} {z : Mem} (S : Sx G false p s m args meth c cX1_countWays 4 RX1) (hr : meth.sig.returnType = (Option.none : Option Jvm.ClassFile.FieldType)) (hb0 : kd b0 = 5) (K : Mem → Option (Mem)) (hK : ∀ (My : Mem) (H : Heap) (locs : List Loc), Dy G s My L H locs → ∀ ls : Array Slot, lv_has ls 4 [] → K My = some z → W p l e rm_X1_countWays s m args below meth c H locs 0 0 (MQ below (Qv G z L) args s 0 0 (gA G)) (F0 m 73 ls [])) :
    ∀ (n : Nat) (x3 : Int32) (Mx : Mem), lp_X1_countWays_53 fu L b0 b1 b2 K n x3 Mx = some z → ∀ (H : Heap) (locs : List Loc), Dy G s Mx L H locs → ∀ ls : Array Slot, lv_has ls 4 [(0, .ref (ad G b0)), (1, .int b1), (2, .int b2), (3, .int x3)] → W p l e rm_X1_countWays s m args below meth c H locs 0 0 (MQ below (Qv G z L) args s 0 0 (gA G)) (F0 m 53 ls []) := by
  intro n
  induction n with
  | zero =>
    intro x3 Mx h
    have h : (none : Option (Mem)) = some z := h
    cases h
  | succ n ih =>
    intro x3 Mx h H locs d ls hl
    rw [lp_X1_countWays_53] at h
    refine lv_iload_n S.1 S.2.1 dX1_countWays_53 rfl (lv_at hl 3 rfl) ?_
    refine lv_sipush (v := 512) S.1 S.2.1 dX1_countWays_54 (by decide) ?_
    refine lv_icmp_ge (tgt := 73) S.1 S.2.1 dX1_countWays_57 (by decide) (fun cc => ?_) (fun cc => ?_)
    · replace h := it_p cc h
      exact hK _ _ _ d _ (lv_sub hl [] rfl) h
    · replace h := it_n cc h
      refine lv_aload_n S.1 S.2.1 dX1_countWays_60 rfl (lv_at hl 0 rfl) ?_
      refine lv_iload_n S.1 S.2.1 dX1_countWays_61 rfl (lv_at hl 3 rfl) ?_
      refine lv_iload_n S.1 S.2.1 dX1_countWays_62 rfl (lv_at hl 1 rfl) ?_
      refine lv_iload_n S.1 S.2.1 dX1_countWays_63 rfl (lv_at hl 2 rfl) ?_
      obtain ⟨u7, hu7, h⟩ := bd_e h
      refine r_rv d (r_cV (As := [.int x3, .int b1, .int b2]) (rest := []) S d (c_X1_countWaysOf l G Mx L fu b0 x3 b1 b2 hb0 hu7) (ksdC S hb0) (wc_5 hb0) rfl ml_RX1_62 im_yX1_countWaysOf se_yX1_countWaysOf in_RX1 co_yX1_countWaysOf hyV_X1_countWaysOf ⟨rfl, rfl⟩ ⟨by decide, by decide⟩ rfl hl rfl (Nat.le_of_ble_eq_true rfl) dX1_countWays_64 ⟨Nat.zero_le _, Nat.zero_le _⟩) (fun H locs d => ?_)
      obtain ⟨v8, ev8, h⟩ := lt_e h
      refine lv_iinc (v := v8) (lv' := [(3, .int v8), (0, .ref (ad G b0)), (1, .int b1), (2, .int b2)]) S.1 S.2.1 dX1_countWays_67 hl (k := 3) rfl (by rw [ev8]; rfl) (by decide) rfl (fun ls hl => ?_)
      refine lv_goto (tgt := 53) S.1 S.2.1 dX1_countWays_70 (by decide) ?_
      exact ih _ _ h _ _ d _ (lv_sub hl [1, 2, 3, 0] rfl)
set_option maxHeartbeats 4000000 in
set_option maxRecDepth 100000 in
theorem c_X1_countWays (l : Launch) (G : Gx) (M : Mem) (L : MemL) (fu : Nat) (k0 : Nat) (a1 : Int32) (a2 : Int32) (hk0 : kd k0 = 5) {z : Mem} (h : f_X1_countWays fu M L k0 a1 a2 = some z) : Met l yX1_countWays (.code yX1_countWays cX1_countWays 4 (Option.none : Option Jvm.ClassFile.FieldType) :: UW) rm_X1_countWays (va_Pc [.ref (ad G k0), .int a1, .int a2] (PreG G false M L)) (Qv G z L) 0 0 (gA G) := by
  refine r_in (by decide) (fun p e s m args below meth c S hr d ha ls hl => ?_) (Nat.le_of_ble_eq_true rfl)
  have S : Sx G false p s m args meth c cX1_countWays 4 RX1 := S
  have hl : lv_has ls 4 [(0, .ref (ad G k0)), (1, .int a1), (2, .int a2)] := hl
  unfold f_X1_countWays at h
  refine lv_iload_n S.1 S.2.1 dX1_countWays_0 rfl (lv_at hl 1 rfl) ?_
  refine lv_aload_n S.1 S.2.1 dX1_countWays_1 rfl (lv_at hl 0 rfl) ?_
  refine gf_5_3 S d hk0 fl_RX1_25 dX1_countWays_2 ?_
  refine lv_icmp_ne (tgt := 17) S.1 S.2.1 dX1_countWays_5 (by decide) (fun cc => ?_) (fun cc => ?_)
  · replace h := it_n cc h
    refine lv_aload_n S.1 S.2.1 dX1_countWays_17 rfl (lv_at hl 0 rfl) ?_
    refine lv_iload_n S.1 S.2.1 dX1_countWays_18 rfl (lv_at hl 1 rfl) ?_
    obtain ⟨M10, eM10, h⟩ := lt_e h
    refine pf_5_3 S d eM10 hk0 fl_RX1_25 dX1_countWays_19 (fun H locs d => ?_)
    refine lv_aload_n S.1 S.2.1 dX1_countWays_22 rfl (lv_at hl 0 rfl) ?_
    refine lv_iload_n S.1 S.2.1 dX1_countWays_23 rfl (lv_at hl 2 rfl) ?_
    obtain ⟨M11, eM11, h⟩ := lt_e h
    refine pf_5_4 S d eM11 hk0 fl_RX1_29 dX1_countWays_24 (fun H locs d => ?_)
    refine lv_iconst (v := 0) S.1 S.2.1 dX1_countWays_27 (by decide) ?_
    refine lv_istore_n (lv' := [(3, .int (0 : Int32)), (0, .ref (ad G k0)), (1, .int a1), (2, .int a2)]) S.1 S.2.1 dX1_countWays_28 rfl hl (by decide) rfl (fun ls hl => ?_)
    refine lc_X1_countWays_29 S hr hk0 _ (fun M12 H locs d ls hl h => ?_) _ _ _  h _ _ d _ (lv_sub hl [1, 2, 3, 0] rfl)
    refine lv_iconst (v := 0) S.1 S.2.1 dX1_countWays_51 (by decide) ?_
    refine lv_istore_n (lv' := [(3, .int (0 : Int32)), (0, .ref (ad G k0)), (1, .int a1), (2, .int a2)]) S.1 S.2.1 dX1_countWays_52 rfl hl (by decide) rfl (fun ls hl => ?_)
    refine lc_X1_countWays_53 S hr hk0 _ (fun M13 H locs d ls hl h => ?_) _ _ _  h _ _ d _ (lv_sub hl [1, 2, 3, 0] rfl)
    obtain rfl := Option.some.inj h
    exact r_vret S d hr dX1_countWays_73
  · replace h := it_p cc h
    refine lv_iload_n S.1 S.2.1 dX1_countWays_8 rfl (lv_at hl 2 rfl) ?_
    refine lv_aload_n S.1 S.2.1 dX1_countWays_9 rfl (lv_at hl 0 rfl) ?_
    refine gf_5_4 S d hk0 fl_RX1_29 dX1_countWays_10 ?_
    refine lv_icmp_ne (tgt := 17) S.1 S.2.1 dX1_countWays_13 (by decide) (fun cc => ?_) (fun cc => ?_)
    · replace h := it_n cc h
      refine lv_aload_n S.1 S.2.1 dX1_countWays_17 rfl (lv_at hl 0 rfl) ?_
      refine lv_iload_n S.1 S.2.1 dX1_countWays_18 rfl (lv_at hl 1 rfl) ?_
      obtain ⟨M1, eM1, h⟩ := lt_e h
      refine pf_5_3 S d eM1 hk0 fl_RX1_25 dX1_countWays_19 (fun H locs d => ?_)
      refine lv_aload_n S.1 S.2.1 dX1_countWays_22 rfl (lv_at hl 0 rfl) ?_
      refine lv_iload_n S.1 S.2.1 dX1_countWays_23 rfl (lv_at hl 2 rfl) ?_
      obtain ⟨M2, eM2, h⟩ := lt_e h
      refine pf_5_4 S d eM2 hk0 fl_RX1_29 dX1_countWays_24 (fun H locs d => ?_)
      refine lv_iconst (v := 0) S.1 S.2.1 dX1_countWays_27 (by decide) ?_
      refine lv_istore_n (lv' := [(3, .int (0 : Int32)), (0, .ref (ad G k0)), (1, .int a1), (2, .int a2)]) S.1 S.2.1 dX1_countWays_28 rfl hl (by decide) rfl (fun ls hl => ?_)
      refine lc_X1_countWays_29 S hr hk0 _ (fun M6 H locs d ls hl h => ?_) _ _ _  h _ _ d _ (lv_sub hl [1, 2, 3, 0] rfl)
      refine lv_iconst (v := 0) S.1 S.2.1 dX1_countWays_51 (by decide) ?_
      refine lv_istore_n (lv' := [(3, .int (0 : Int32)), (0, .ref (ad G k0)), (1, .int a1), (2, .int a2)]) S.1 S.2.1 dX1_countWays_52 rfl hl (by decide) rfl (fun ls hl => ?_)
      refine lc_X1_countWays_53 S hr hk0 _ (fun M9 H locs d ls hl h => ?_) _ _ _  h _ _ d _ (lv_sub hl [1, 2, 3, 0] rfl)
      obtain rfl := Option.some.inj h
      exact r_vret S d hr dX1_countWays_73
    · replace h := it_p cc h
      obtain rfl := Option.some.inj h
      exact r_vret S d hr dX1_countWays_16
theorem hyV_X1_oddsToRead : yX1_oddsToRead.cls = RX1 ∧ yX1_oddsToRead.cls ≠ "java/lang/invoke/MethodHandle" ∧ yX1_oddsToRead.cls ≠ "java/lang/invoke/VarHandle" ∧ (parseMethodDescriptor yX1_oddsToRead.desc).map (fun d => d.parameters.length) = some 1 := by decide +kernel
abbrev rm_X1_oddsToRead : Room := { frames := 0, cells := 0, slots := 0, locals := 0 }
def lp_X1_oddsToRead_5 (fu : Nat) (M : Mem) (L : MemL) (b0 : Nat) (b1 : Int32) (K : Int64 → Option (Int64)) : Nat → Int64 → Int32 → Option (Int64)
  | 0, _, _ => none
  | n + 1, x2, x4 =>
    (if (16 : Int32) ≤ x4 then (K x2)
    else gd (inb b1 26) (
      gd (inb x4 16) (
      gd (inb x4 16) (
      lt ((x2 + (((M ((b0 + 28) + 1 + b1.toNatClampNeg) x4.toNatClampNeg)).toInt64 * (L (b0 + 55) x4.toNatClampNeg)))) (fun v4 : Int64 =>
      lt (x4 + 1) (fun v5 : Int32 =>
      (lp_X1_oddsToRead_5 fu M L b0 b1 K n v4 v5)))))))
def f_X1_oddsToRead (fu : Nat) (M : Mem) (L : MemL) (k0 : Nat) (a1 : Int32) : Option (Int64) :=
  (lp_X1_oddsToRead_5 fu M L k0 a1 (fun (v6 : Int64) =>
    some (v6)) fu (0 : Int64) (0 : Int32))
set_option maxHeartbeats 4000000 in
set_option maxRecDepth 100000 in
theorem lc_X1_oddsToRead_5 {p : Program} {l : Launch} {e : Env} {s : State} {m : MethodId} {args : Array Value} {below : List Frame} {meth : Method} {c : Code} {G : Gx} {M : Mem} {L : MemL} {fu : Nat} {b0 : Nat} {b1 : Int32} {z : Int64} (S : Sx G false p s m args meth c cX1_oddsToRead 5 RX1) (hr : meth.sig.returnType = (Option.some Jvm.ClassFile.FieldType.long)) (hb0 : kd b0 = 5) (K : Int64 → Option (Int64)) (hK : ∀ (y2 : Int64) (H : Heap) (locs : List Loc), Dy G s M L H locs → ∀ ls : Array Slot, lv_has ls 5 [(2, .long y2)] → K y2 = some z → W p l e rm_X1_oddsToRead s m args below meth c H locs 0 0 (MQ below (Ql G z M L) args s 0 0 (gA G)) (F0 m 39 ls [])) :
    ∀ (n : Nat) (x2 : Int64) (x4 : Int32), lp_X1_oddsToRead_5 fu M L b0 b1 K n x2 x4 = some z → ∀ (H : Heap) (locs : List Loc), Dy G s M L H locs → ∀ ls : Array Slot, lv_has ls 5 [(0, .ref (ad G b0)), (1, .int b1), (2, .long x2), (4, .int x4)] → W p l e rm_X1_oddsToRead s m args below meth c H locs 0 0 (MQ below (Ql G z M L) args s 0 0 (gA G)) (F0 m 5 ls []) := by
  intro n
  induction n with
  | zero =>
    intro x2 x4 h
    have h : (none : Option (Int64)) = some z := h
    cases h
  | succ n ih =>
    intro x2 x4 h H locs d ls hl
    rw [lp_X1_oddsToRead_5] at h
    refine lv_iload S.1 S.2.1 dX1_oddsToRead_5 (lv_at hl 3 rfl) ?_
    refine lv_bipush (v := 16) S.1 S.2.1 dX1_oddsToRead_7 (by decide) ?_
    refine lv_icmp_ge (tgt := 39) S.1 S.2.1 dX1_oddsToRead_9 (by decide) (fun cc => ?_) (fun cc => ?_)
    · replace h := it_p cc h
      exact hK _ _ _ d _ (lv_sub hl [2] rfl) h
    · replace h := it_n cc h
      refine lv_lload_n S.1 S.2.1 dX1_oddsToRead_12 rfl (lv_at hl 2 rfl) ?_
      refine lv_aload_n S.1 S.2.1 dX1_oddsToRead_13 rfl (lv_at hl 0 rfl) ?_
      refine gf_5_1 S d hb0 fl_RX1_18 dX1_oddsToRead_14 ?_
      refine lv_iload_n S.1 S.2.1 dX1_oddsToRead_17 rfl (lv_at hl 1 rfl) ?_
      obtain ⟨g1, h⟩ := gd_e h
      refine r_aald S d (ksdC S (ch_5_1 hb0).1) (wc_19 (ch_5_1 hb0).1) rfl rfl g1 (if_pos (inb_lt g1)) dX1_oddsToRead_18 ?_
      refine lv_iload S.1 S.2.1 dX1_oddsToRead_19 (lv_at hl 3 rfl) ?_
      obtain ⟨g2, h⟩ := gd_e h
      refine r_iald S d (ksdC S (ca_19 (ch_5_1 hb0).1 (inb_lt g1)).1) (wc_10 (ca_19 (ch_5_1 hb0).1 (inb_lt g1)).1) (ca_19 (ch_5_1 hb0).1 (inb_lt g1)).2 g2 dX1_oddsToRead_21 ?_
      refine lv_i2l S.1 S.2.1 dX1_oddsToRead_22 rfl ?_
      refine lv_aload_n S.1 S.2.1 dX1_oddsToRead_23 rfl (lv_at hl 0 rfl) ?_
      refine gf_5_2 S d hb0 fl_RX1_21 dX1_oddsToRead_24 ?_
      refine lv_iload S.1 S.2.1 dX1_oddsToRead_27 (lv_at hl 3 rfl) ?_
      obtain ⟨g3, h⟩ := gd_e h
      refine r_lald S d (ksdC S (ch_5_2 hb0).1) (wc_12 (ch_5_2 hb0).1) (ch_5_2 hb0).2 g3 dX1_oddsToRead_29 ?_
      refine lv_lmul S.1 S.2.1 dX1_oddsToRead_30 ?_
      refine lv_ladd S.1 S.2.1 dX1_oddsToRead_31 ?_
      obtain ⟨v4, ev4, h⟩ := lt_e h
      refine r_topl ev4 ?_
      refine lv_lstore_n (lv' := [(2, .long v4), (0, .ref (ad G b0)), (1, .int b1), (4, .int x4)]) S.1 S.2.1 dX1_oddsToRead_32 rfl hl (by decide) rfl (fun ls hl => ?_)
      obtain ⟨v5, ev5, h⟩ := lt_e h
      refine lv_iinc (v := v5) (lv' := [(4, .int v5), (2, .long v4), (0, .ref (ad G b0)), (1, .int b1)]) S.1 S.2.1 dX1_oddsToRead_33 hl (k := 3) rfl (by rw [ev5]; rfl) (by decide) rfl (fun ls hl => ?_)
      refine lv_goto (tgt := 5) S.1 S.2.1 dX1_oddsToRead_36 (by decide) ?_
      exact ih _ _ h _ _ d _ (lv_sub hl [2, 3, 1, 0] rfl)
set_option maxHeartbeats 4000000 in
set_option maxRecDepth 100000 in
theorem c_X1_oddsToRead (l : Launch) (G : Gx) (M : Mem) (L : MemL) (fu : Nat) (k0 : Nat) (a1 : Int32) (hk0 : kd k0 = 5) {z : Int64} (h : f_X1_oddsToRead fu M L k0 a1 = some z) : Met l yX1_oddsToRead (.code yX1_oddsToRead cX1_oddsToRead 5 (Option.some Jvm.ClassFile.FieldType.long) :: UW) rm_X1_oddsToRead (va_Pc [.ref (ad G k0), .int a1] (PreG G false M L)) (Ql G z M L) 0 0 (gA G) := by
  refine r_in (by decide) (fun p e s m args below meth c S hr d ha ls hl => ?_) (Nat.le_of_ble_eq_true rfl)
  have S : Sx G false p s m args meth c cX1_oddsToRead 5 RX1 := S
  have hl : lv_has ls 5 [(0, .ref (ad G k0)), (1, .int a1)] := hl
  unfold f_X1_oddsToRead at h
  refine lv_lconst (v := 0) S.1 S.2.1 dX1_oddsToRead_0 (by decide) ?_
  refine lv_lstore_n (lv' := [(2, .long (0 : Int64)), (0, .ref (ad G k0)), (1, .int a1)]) S.1 S.2.1 dX1_oddsToRead_1 rfl hl (by decide) rfl (fun ls hl => ?_)
  refine lv_iconst (v := 0) S.1 S.2.1 dX1_oddsToRead_2 (by decide) ?_
  refine lv_istore (lv' := [(4, .int (0 : Int32)), (2, .long (0 : Int64)), (0, .ref (ad G k0)), (1, .int a1)]) S.1 S.2.1 dX1_oddsToRead_3 hl (by decide) rfl (fun ls hl => ?_)
  refine lc_X1_oddsToRead_5 S hr hk0 _ (fun v6 H locs d ls hl h => ?_) _ _ _  h _ _ d _ (lv_sub hl [2, 3, 1, 0] rfl)
  refine lv_lload_n S.1 S.2.1 dX1_oddsToRead_39 rfl (lv_at hl 0 rfl) ?_
  obtain rfl := Option.some.inj h
  exact r_lret S d hr rfl dX1_oddsToRead_40
theorem hyV_X1_surenessOf : yX1_surenessOf.cls = RX1 ∧ yX1_surenessOf.cls ≠ "java/lang/invoke/MethodHandle" ∧ yX1_surenessOf.cls ≠ "java/lang/invoke/VarHandle" ∧ (parseMethodDescriptor yX1_surenessOf.desc).map (fun d => d.parameters.length) = some 3 := by decide +kernel
abbrev rm_X1_surenessOf : Room := { frames := 4, cells := 0, slots := 0, locals := 100 }
def f_X1_surenessOf (fu : Nat) (M : Mem) (L : MemL) (k0 : Nat) (a1 : Int32) (a2 : Int32) (a3 : Int32) : Option (Int32 × Mem × MemL) :=
  (f_X1_weigh fu M L k0 a2).bind (fun u1 =>
  (f_X1_countWays fu M u1 k0 a1 a3).bind (fun u2 =>
  (f_X1_oddsToRead fu u2 u1 k0 a1).bind (fun u3 =>
  lt (((1000 : Int64) * (u3 >>> (((30 : Int32)).toInt64 &&& 63)))) (fun v4 : Int64 =>
  lt (((1000 : Int64) * (u3 &&& (((1 : Int64) <<< (((30 : Int32)).toInt64 &&& 63)) - (1 : Int64))))) (fun v5 : Int64 =>
  some ((((v4 + (v5 >>> (((30 : Int32)).toInt64 &&& 63))) >>> (((30 : Int32)).toInt64 &&& 63))).toInt32, u2, u1))))))
set_option maxHeartbeats 4000000 in
set_option maxRecDepth 100000 in
theorem c_X1_surenessOf (l : Launch) (G : Gx) (M : Mem) (L : MemL) (fu : Nat) (k0 : Nat) (a1 : Int32) (a2 : Int32) (a3 : Int32) (hk0 : kd k0 = 5) {z : Int32 × Mem × MemL} (h : f_X1_surenessOf fu M L k0 a1 a2 a3 = some z) : Met l yX1_surenessOf (.code yX1_surenessOf cX1_surenessOf 11 (Option.some Jvm.ClassFile.FieldType.int) :: UW) rm_X1_surenessOf (va_Pc [.ref (ad G k0), .int a1, .int a2, .int a3] (PreG G false M L)) (Qi G z.1 z.2.1 z.2.2) 0 0 (gA G) := by
  refine r_in (by decide) (fun p e s m args below meth c S hr d ha ls hl => ?_) (Nat.le_of_ble_eq_true rfl)
  have S : Sx G false p s m args meth c cX1_surenessOf 11 RX1 := S
  have hl : lv_has ls 11 [(0, .ref (ad G k0)), (1, .int a1), (2, .int a2), (3, .int a3)] := hl
  unfold f_X1_surenessOf at h
  refine lv_aload_n S.1 S.2.1 dX1_surenessOf_0 rfl (lv_at hl 0 rfl) ?_
  refine lv_iload_n S.1 S.2.1 dX1_surenessOf_1 rfl (lv_at hl 2 rfl) ?_
  obtain ⟨u1, hu1, h⟩ := bd_e h
  refine r_rv d (r_cV (As := [.int a2]) (rest := []) S d (c_X1_weigh l G M L fu k0 a2 hk0 hu1) (ksdC S hk0) (wc_5 hk0) rfl ml_RX1_42 im_yX1_weigh se_yX1_weigh in_RX1 co_yX1_weigh hyV_X1_weigh ⟨rfl, rfl⟩ ⟨by decide, by decide⟩ rfl hl rfl (Nat.le_of_ble_eq_true rfl) dX1_surenessOf_2 ⟨Nat.zero_le _, Nat.zero_le _⟩) (fun H locs d => ?_)
  refine lv_aload_n S.1 S.2.1 dX1_surenessOf_5 rfl (lv_at hl 0 rfl) ?_
  refine lv_iload_n S.1 S.2.1 dX1_surenessOf_6 rfl (lv_at hl 1 rfl) ?_
  refine lv_iload_n S.1 S.2.1 dX1_surenessOf_7 rfl (lv_at hl 3 rfl) ?_
  obtain ⟨u2, hu2, h⟩ := bd_e h
  refine r_rv d (r_cV (As := [.int a1, .int a3]) (rest := []) S d (c_X1_countWays l G M u1 fu k0 a1 a3 hk0 hu2) (ksdC S hk0) (wc_5 hk0) rfl ml_RX1_46 im_yX1_countWays se_yX1_countWays in_RX1 co_yX1_countWays hyV_X1_countWays ⟨rfl, rfl⟩ ⟨by decide, by decide⟩ rfl hl rfl (Nat.le_of_ble_eq_true rfl) dX1_surenessOf_8 ⟨Nat.zero_le _, Nat.zero_le _⟩) (fun H locs d => ?_)
  refine lv_aload_n S.1 S.2.1 dX1_surenessOf_11 rfl (lv_at hl 0 rfl) ?_
  refine lv_iload_n S.1 S.2.1 dX1_surenessOf_12 rfl (lv_at hl 1 rfl) ?_
  obtain ⟨u3, hu3, h⟩ := bd_e h
  refine r_rl d (r_cV (As := [.int a1]) (rest := []) S d (c_X1_oddsToRead l G u2 u1 fu k0 a1 hk0 hu3) (ksdC S hk0) (wc_5 hk0) rfl ml_RX1_50 im_yX1_oddsToRead se_yX1_oddsToRead in_RX1 co_yX1_oddsToRead hyV_X1_oddsToRead ⟨rfl, rfl⟩ ⟨by decide, by decide⟩ rfl hl rfl (Nat.le_of_ble_eq_true rfl) dX1_surenessOf_13 ⟨Nat.zero_le _, Nat.zero_le _⟩) (fun H locs d => ?_)
  refine lv_lstore (lv' := [(4, .long u3), (0, .ref (ad G k0)), (1, .int a1), (2, .int a2), (3, .int a3)]) S.1 S.2.1 dX1_surenessOf_16 hl (by decide) rfl (fun ls hl => ?_)
  refine lv_bipush (v := 30) S.1 S.2.1 dX1_surenessOf_18 (by decide) ?_
  refine lv_istore (lv' := [(6, .int (30 : Int32)), (4, .long u3), (0, .ref (ad G k0)), (1, .int a1), (2, .int a2), (3, .int a3)]) S.1 S.2.1 dX1_surenessOf_20 hl (by decide) rfl (fun ls hl => ?_)
  refine lv_ldc2 (v := 1000) S.1 S.2.1 S.2.2.2.1 (S.uw cn_RX1_54) dX1_surenessOf_22 ?_
  refine lv_lload S.1 S.2.1 dX1_surenessOf_25 (lv_at hl 1 rfl) ?_
  refine lv_iload S.1 S.2.1 dX1_surenessOf_27 (lv_at hl 0 rfl) ?_
  refine lv_lshr S.1 S.2.1 dX1_surenessOf_29 rfl ?_
  refine lv_lmul S.1 S.2.1 dX1_surenessOf_30 ?_
  obtain ⟨v4, ev4, h⟩ := lt_e h
  refine r_topl ev4 ?_
  refine lv_lstore (lv' := [(7, .long v4), (6, .int (30 : Int32)), (4, .long u3), (0, .ref (ad G k0)), (1, .int a1), (2, .int a2), (3, .int a3)]) S.1 S.2.1 dX1_surenessOf_31 hl (by decide) rfl (fun ls hl => ?_)
  refine lv_ldc2 (v := 1000) S.1 S.2.1 S.2.2.2.1 (S.uw cn_RX1_54) dX1_surenessOf_33 ?_
  refine lv_lload S.1 S.2.1 dX1_surenessOf_36 (lv_at hl 2 rfl) ?_
  refine lv_lconst (v := 1) S.1 S.2.1 dX1_surenessOf_38 (by decide) ?_
  refine lv_iload S.1 S.2.1 dX1_surenessOf_39 (lv_at hl 1 rfl) ?_
  refine lv_lshl S.1 S.2.1 dX1_surenessOf_41 rfl ?_
  refine lv_lconst (v := 1) S.1 S.2.1 dX1_surenessOf_42 (by decide) ?_
  refine lv_lsub S.1 S.2.1 dX1_surenessOf_43 ?_
  refine lv_land S.1 S.2.1 dX1_surenessOf_44 ?_
  refine lv_lmul S.1 S.2.1 dX1_surenessOf_45 ?_
  obtain ⟨v5, ev5, h⟩ := lt_e h
  refine r_topl ev5 ?_
  refine lv_lstore (lv' := [(9, .long v5), (7, .long v4), (6, .int (30 : Int32)), (4, .long u3), (0, .ref (ad G k0)), (1, .int a1), (2, .int a2), (3, .int a3)]) S.1 S.2.1 dX1_surenessOf_46 hl (by decide) rfl (fun ls hl => ?_)
  refine lv_lload S.1 S.2.1 dX1_surenessOf_48 (lv_at hl 1 rfl) ?_
  refine lv_lload S.1 S.2.1 dX1_surenessOf_50 (lv_at hl 0 rfl) ?_
  refine lv_iload S.1 S.2.1 dX1_surenessOf_52 (lv_at hl 2 rfl) ?_
  refine lv_lshr S.1 S.2.1 dX1_surenessOf_54 rfl ?_
  refine lv_ladd S.1 S.2.1 dX1_surenessOf_55 ?_
  refine lv_iload S.1 S.2.1 dX1_surenessOf_56 (lv_at hl 2 rfl) ?_
  refine lv_lshr S.1 S.2.1 dX1_surenessOf_58 rfl ?_
  refine lv_l2i S.1 S.2.1 dX1_surenessOf_59 rfl ?_
  obtain rfl := Option.some.inj h
  exact r_iret S d hr rfl rfl dX1_surenessOf_60
theorem hyV_X7_sure : yX7_sure.cls = RX7 ∧ yX7_sure.cls ≠ "java/lang/invoke/MethodHandle" ∧ yX7_sure.cls ≠ "java/lang/invoke/VarHandle" ∧ (parseMethodDescriptor yX7_sure.desc).map (fun d => d.parameters.length) = some 2 := by decide +kernel
abbrev rm_X7_sure : Room := { frames := 5, cells := 0, slots := 0, locals := 130 }
def f_X7_sure (fu : Nat) (M : Mem) (L : MemL) (k0 : Nat) (a1 : Int32) (a2 : Int32) : Option (Int32 × Mem × MemL) :=
  (f_X7_isBelow a1 (26 : Int32)).bind (fun u1 =>
  (if u1 = 0 then some ((-1 : Int32), M, L)
  else (if a2 < 0 then some ((-1 : Int32), M, L)
    else (if a2 ≤ (8 : Int32) then gd (inb (2 : Int32) 4) (
        (f_X1_surenessOf fu M L (k0 + 102) a1 a2 (M ((k0 + 1) + 1) (2 : Int32).toNatClampNeg)).bind (fun u3 =>
        some (u3.1, u3.2.1, u3.2.2)))
      else some ((-1 : Int32), M, L)))))
set_option maxHeartbeats 4000000 in
set_option maxRecDepth 100000 in
theorem c_X7_sure (l : Launch) (G : Gx) (M : Mem) (L : MemL) (fu : Nat) (k0 : Nat) (a1 : Int32) (a2 : Int32) (hk0 : kd k0 = 0) {z : Int32 × Mem × MemL} (h : f_X7_sure fu M L k0 a1 a2 = some z) : Met l yX7_sure (.code yX7_sure cX7_sure 3 (Option.some Jvm.ClassFile.FieldType.int) :: UW) rm_X7_sure (va_Pc [.ref (ad G k0), .int a1, .int a2] (PreG G false M L)) (Qi G z.1 z.2.1 z.2.2) 0 0 (gA G) := by
  refine r_in (by decide) (fun p e s m args below meth c S hr d ha ls hl => ?_) (Nat.le_of_ble_eq_true rfl)
  have S : Sx G false p s m args meth c cX7_sure 3 RX7 := S
  have hl : lv_has ls 3 [(0, .ref (ad G k0)), (1, .int a1), (2, .int a2)] := hl
  unfold f_X7_sure at h
  refine lv_iload_n S.1 S.2.1 dX7_sure_0 rfl (lv_at hl 1 rfl) ?_
  refine lv_bipush (v := 26) S.1 S.2.1 dX7_sure_1 (by decide) ?_
  obtain ⟨u1, hu1, h⟩ := bd_e h
  refine r_ri d (r_cS (As := [.int a1, .int (26 : Int32)]) (rest := []) S d (c_X7_isBelow l G M L a1 (26 : Int32) hu1) ml_RX7_51 sm_yX7_isBelow in_RX7 co_yX7_isBelow hyS_X7_isBelow ⟨rfl, rfl⟩ ⟨by decide, by decide⟩ rfl hl rfl (Nat.le_of_ble_eq_true rfl) dX7_sure_3 ⟨Nat.zero_le _, Nat.zero_le _⟩) (fun H locs d => ?_)
  refine lv_if_eq (tgt := 19) S.1 S.2.1 dX7_sure_6 (by decide) (fun cc => ?_) (fun cc => ?_)
  · replace h := it_p cc h
    refine lv_iconst (v := (-1)) S.1 S.2.1 dX7_sure_19 (by decide) ?_
    obtain rfl := Option.some.inj h
    exact r_iret S d hr rfl rfl dX7_sure_20
  · replace h := it_n cc h
    refine lv_iload_n S.1 S.2.1 dX7_sure_9 rfl (lv_at hl 2 rfl) ?_
    refine lv_if_lt (tgt := 19) S.1 S.2.1 dX7_sure_10 (by decide) (fun cc => ?_) (fun cc => ?_)
    · replace h := it_p cc h
      refine lv_iconst (v := (-1)) S.1 S.2.1 dX7_sure_19 (by decide) ?_
      obtain rfl := Option.some.inj h
      exact r_iret S d hr rfl rfl dX7_sure_20
    · replace h := it_n cc h
      refine lv_iload_n S.1 S.2.1 dX7_sure_13 rfl (lv_at hl 2 rfl) ?_
      refine lv_bipush (v := 8) S.1 S.2.1 dX7_sure_14 (by decide) ?_
      refine lv_icmp_le (tgt := 21) S.1 S.2.1 dX7_sure_16 (by decide) (fun cc => ?_) (fun cc => ?_)
      · replace h := it_p cc h
        refine lv_aload_n S.1 S.2.1 dX7_sure_21 rfl (lv_at hl 0 rfl) ?_
        refine gf_0_4 S d hk0 fl_RX7_33 dX7_sure_22 ?_
        refine lv_iload_n S.1 S.2.1 dX7_sure_25 rfl (lv_at hl 1 rfl) ?_
        refine lv_iload_n S.1 S.2.1 dX7_sure_26 rfl (lv_at hl 2 rfl) ?_
        refine lv_aload_n S.1 S.2.1 dX7_sure_27 rfl (lv_at hl 0 rfl) ?_
        refine gf_0_0 S d hk0 fl_RX7_12 dX7_sure_28 ?_
        refine gf_1_0 S d (ch_0_0 hk0).1 fl_RX7_67 dX7_sure_31 ?_
        refine lv_iconst (v := 2) S.1 S.2.1 dX7_sure_34 (by decide) ?_
        obtain ⟨g2, h⟩ := gd_e h
        refine r_iald S d (ksdC S (ch_1_0 (ch_0_0 hk0).1).1) (wc_10 (ch_1_0 (ch_0_0 hk0).1).1) (ch_1_0 (ch_0_0 hk0).1).2 g2 dX7_sure_35 ?_
        obtain ⟨u3, hu3, h⟩ := bd_e h
        refine r_ri d (r_cV (As := [.int a1, .int a2, .int (M ((k0 + 1) + 1) (2 : Int32).toNatClampNeg)]) (rest := []) S d (c_X1_surenessOf l G M L fu (k0 + 102) a1 a2 (M ((k0 + 1) + 1) (2 : Int32).toNatClampNeg) (ch_0_4 hk0).1 hu3) (ksdC S (ch_0_4 hk0).1) (wc_5 (ch_0_4 hk0).1) rfl ml_RX7_210 im_yX1_surenessOf se_yX1_surenessOf in_RX1 co_yX1_surenessOf hyV_X1_surenessOf ⟨rfl, rfl⟩ ⟨by decide, by decide⟩ rfl hl rfl (Nat.le_of_ble_eq_true rfl) dX7_sure_36 ⟨Nat.zero_le _, Nat.zero_le _⟩) (fun H locs d => ?_)
        obtain rfl := Option.some.inj h
        exact r_iret S d hr rfl rfl dX7_sure_39
      · replace h := it_n cc h
        refine lv_iconst (v := (-1)) S.1 S.2.1 dX7_sure_19 (by decide) ?_
        obtain rfl := Option.some.inj h
        exact r_iret S d hr rfl rfl dX7_sure_20
theorem hyV_X1_mistakeFor : yX1_mistakeFor.cls = RX1 ∧ yX1_mistakeFor.cls ≠ "java/lang/invoke/MethodHandle" ∧ yX1_mistakeFor.cls ≠ "java/lang/invoke/VarHandle" ∧ (parseMethodDescriptor yX1_mistakeFor.desc).map (fun d => d.parameters.length) = some 3 := by decide +kernel
abbrev rm_X1_mistakeFor : Room := { frames := 4, cells := 0, slots := 0, locals := 100 }
def lp_X1_mistakeFor_21 (fu : Nat) (M : Mem) (L : MemL) (b0 : Nat) (b1 : Int32) (K : Int32 → Option (Int32 × Mem × MemL)) : Nat → Int32 → Int64 → Int32 → Option (Int32 × Mem × MemL)
  | 0, _, _, _ => none
  | n + 1, x4, x5, x7 =>
    (if (26 : Int32) ≤ x7 then (K x4)
    else (if x7 = b1 then some (0 : Int64)
      else (f_X1_oddsToRead fu M L b0 x7).bind (fun u5 =>
        some u5)).bind (fun t3 : Int64 =>
      (if (lg_cmp t3 x5) ≤ 0 then lt (x7 + 1) (fun v7 : Int32 =>
        (lp_X1_mistakeFor_21 fu M L b0 b1 K n x4 x5 v7))
      else lt (x7 + 1) (fun v6 : Int32 =>
        (lp_X1_mistakeFor_21 fu M L b0 b1 K n x7 t3 v6)))))
def f_X1_mistakeFor (fu : Nat) (M : Mem) (L : MemL) (k0 : Nat) (a1 : Int32) (a2 : Int32) (a3 : Int32) : Option (Int32 × Mem × MemL) :=
  (f_X1_weigh fu M L k0 a2).bind (fun u1 =>
  (f_X1_countWays fu M u1 k0 a1 a3).bind (fun u2 =>
  (lp_X1_mistakeFor_21 fu u2 u1 k0 a1 (fun (v8 : Int32) =>
    some (v8, u2, u1)) fu (-4 : Int32) (0 : Int64) (0 : Int32))))
set_option maxHeartbeats 4000000 in
set_option maxRecDepth 100000 in
theorem lc_X1_mistakeFor_21 {p : Program} {l : Launch} {e : Env} {s : State} {m : MethodId} {args : Array Value} {below : List Frame} {meth : Method} {c : Code} {G : Gx} {M : Mem} {L : MemL} {fu : Nat} {b0 : Nat} {b1 : Int32} {z : Int32 × Mem × MemL} (S : Sx G false p s m args meth c cX1_mistakeFor 10 RX1) (hr : meth.sig.returnType = (Option.some Jvm.ClassFile.FieldType.int)) (hb0 : kd b0 = 5) (K : Int32 → Option (Int32 × Mem × MemL)) (hK : ∀ (y4 : Int32) (H : Heap) (locs : List Loc), Dy G s M L H locs → ∀ ls : Array Slot, lv_has ls 10 [(4, .int y4)] → K y4 = some z → W p l e rm_X1_mistakeFor s m args below meth c H locs 0 0 (MQ below (Qi G z.1 z.2.1 z.2.2) args s 0 0 (gA G)) (F0 m 68 ls [])) :
    ∀ (n : Nat) (x4 : Int32) (x5 : Int64) (x7 : Int32), lp_X1_mistakeFor_21 fu M L b0 b1 K n x4 x5 x7 = some z → ∀ (H : Heap) (locs : List Loc), Dy G s M L H locs → ∀ ls : Array Slot, lv_has ls 10 [(0, .ref (ad G b0)), (1, .int b1), (4, .int x4), (5, .long x5), (7, .int x7)] → W p l e rm_X1_mistakeFor s m args below meth c H locs 0 0 (MQ below (Qi G z.1 z.2.1 z.2.2) args s 0 0 (gA G)) (F0 m 21 ls []) := by
  intro n
  induction n with
  | zero =>
    intro x4 x5 x7 h
    have h : (none : Option (Int32 × Mem × MemL)) = some z := h
    cases h
  | succ n ih =>
    intro x4 x5 x7 h H locs d ls hl
    rw [lp_X1_mistakeFor_21] at h
    refine lv_iload S.1 S.2.1 dX1_mistakeFor_21 (lv_at hl 4 rfl) ?_
    refine lv_bipush (v := 26) S.1 S.2.1 dX1_mistakeFor_23 (by decide) ?_
    refine lv_icmp_ge (tgt := 68) S.1 S.2.1 dX1_mistakeFor_25 (by decide) (fun cc => ?_) (fun cc => ?_)
    · replace h := it_p cc h
      exact hK _ _ _ d _ (lv_sub hl [2] rfl) h
    · replace h := it_n cc h
      refine lv_iload S.1 S.2.1 dX1_mistakeFor_28 (lv_at hl 4 rfl) ?_
      refine lv_iload_n S.1 S.2.1 dX1_mistakeFor_30 rfl (lv_at hl 1 rfl) ?_
      obtain ⟨t3, g4, h⟩ := bd_e h
      have Jt3 : ∀ (H : Heap) (locs : List Loc), Dy G s M L H locs → W p l e rm_X1_mistakeFor s m args below meth c H locs 0 0 (MQ below (Qi G z.1 z.2.1 z.2.2) args s 0 0 (gA G)) (F0 m 44 ls [.long t3]) := by
        intro H locs d
        refine lv_lstore (lv' := [(8, .long t3), (0, .ref (ad G b0)), (1, .int b1), (4, .int x4), (5, .long x5), (7, .int x7)]) S.1 S.2.1 dX1_mistakeFor_44 hl (by decide) rfl (fun ls hl => ?_)
        refine lv_lload S.1 S.2.1 dX1_mistakeFor_46 (lv_at hl 0 rfl) ?_
        refine lv_lload S.1 S.2.1 dX1_mistakeFor_48 (lv_at hl 4 rfl) ?_
        refine W.lcmp S.1 S.2.1 dX1_mistakeFor_50 ?_
        refine lv_if_le (tgt := 62) S.1 S.2.1 dX1_mistakeFor_51 (by decide) (fun cc => ?_) (fun cc => ?_)
        · replace h := it_p cc h
          obtain ⟨v7, ev7, h⟩ := lt_e h
          refine lv_iinc (v := v7) (lv' := [(7, .int v7), (8, .long t3), (0, .ref (ad G b0)), (1, .int b1), (4, .int x4), (5, .long x5)]) S.1 S.2.1 dX1_mistakeFor_62 hl (k := 5) rfl (by rw [ev7]; rfl) (by decide) rfl (fun ls hl => ?_)
          refine lv_goto (tgt := 21) S.1 S.2.1 dX1_mistakeFor_65 (by decide) ?_
          exact ih _ _ _ h _ _ d _ (lv_sub hl [2, 3, 4, 5, 0] rfl)
        · replace h := it_n cc h
          refine lv_iload S.1 S.2.1 dX1_mistakeFor_54 (lv_at hl 5 rfl) ?_
          refine lv_istore (lv' := [(4, .int x7), (8, .long t3), (0, .ref (ad G b0)), (1, .int b1), (5, .long x5), (7, .int x7)]) S.1 S.2.1 dX1_mistakeFor_56 hl (by decide) rfl (fun ls hl => ?_)
          refine lv_lload S.1 S.2.1 dX1_mistakeFor_58 (lv_at hl 1 rfl) ?_
          refine lv_lstore (lv' := [(5, .long t3), (4, .int x7), (8, .long t3), (0, .ref (ad G b0)), (1, .int b1), (7, .int x7)]) S.1 S.2.1 dX1_mistakeFor_60 hl (by decide) rfl (fun ls hl => ?_)
          obtain ⟨v6, ev6, h⟩ := lt_e h
          refine lv_iinc (v := v6) (lv' := [(7, .int v6), (5, .long t3), (4, .int x7), (8, .long t3), (0, .ref (ad G b0)), (1, .int b1)]) S.1 S.2.1 dX1_mistakeFor_62 hl (k := 5) rfl (by rw [ev6]; rfl) (by decide) rfl (fun ls hl => ?_)
          refine lv_goto (tgt := 21) S.1 S.2.1 dX1_mistakeFor_65 (by decide) ?_
          exact ih _ _ _ h _ _ d _ (lv_sub hl [4, 5, 2, 1, 0] rfl)
      have h := g4
      refine lv_icmp_ne (tgt := 38) S.1 S.2.1 dX1_mistakeFor_31 (by decide) (fun cc => ?_) (fun cc => ?_)
      · replace h := it_n cc h
        refine lv_aload_n S.1 S.2.1 dX1_mistakeFor_38 rfl (lv_at hl 0 rfl) ?_
        refine lv_iload S.1 S.2.1 dX1_mistakeFor_39 (lv_at hl 4 rfl) ?_
        obtain ⟨u5, hu5, h⟩ := bd_e h
        refine r_rl d (r_cV (As := [.int x7]) (rest := []) S d (c_X1_oddsToRead l G M L fu b0 x7 hb0 hu5) (ksdC S hb0) (wc_5 hb0) rfl ml_RX1_50 im_yX1_oddsToRead se_yX1_oddsToRead in_RX1 co_yX1_oddsToRead hyV_X1_oddsToRead ⟨rfl, rfl⟩ ⟨by decide, by decide⟩ rfl hl rfl (Nat.le_of_ble_eq_true rfl) dX1_mistakeFor_41 ⟨Nat.zero_le _, Nat.zero_le _⟩) (fun H locs d => ?_)
        obtain ej := Option.some.inj h
        refine r_topl ej.symm ?_
        exact Jt3 _ _ d
      · replace h := it_p cc h
        refine lv_lconst (v := 0) S.1 S.2.1 dX1_mistakeFor_34 (by decide) ?_
        refine lv_goto (tgt := 44) S.1 S.2.1 dX1_mistakeFor_35 (by decide) ?_
        obtain ej := Option.some.inj h
        refine r_topl ej.symm ?_
        exact Jt3 _ _ d
set_option maxHeartbeats 4000000 in
set_option maxRecDepth 100000 in
theorem c_X1_mistakeFor (l : Launch) (G : Gx) (M : Mem) (L : MemL) (fu : Nat) (k0 : Nat) (a1 : Int32) (a2 : Int32) (a3 : Int32) (hk0 : kd k0 = 5) {z : Int32 × Mem × MemL} (h : f_X1_mistakeFor fu M L k0 a1 a2 a3 = some z) : Met l yX1_mistakeFor (.code yX1_mistakeFor cX1_mistakeFor 10 (Option.some Jvm.ClassFile.FieldType.int) :: UW) rm_X1_mistakeFor (va_Pc [.ref (ad G k0), .int a1, .int a2, .int a3] (PreG G false M L)) (Qi G z.1 z.2.1 z.2.2) 0 0 (gA G) := by
  refine r_in (by decide) (fun p e s m args below meth c S hr d ha ls hl => ?_) (Nat.le_of_ble_eq_true rfl)
  have S : Sx G false p s m args meth c cX1_mistakeFor 10 RX1 := S
  have hl : lv_has ls 10 [(0, .ref (ad G k0)), (1, .int a1), (2, .int a2), (3, .int a3)] := hl
  unfold f_X1_mistakeFor at h
  refine lv_aload_n S.1 S.2.1 dX1_mistakeFor_0 rfl (lv_at hl 0 rfl) ?_
  refine lv_iload_n S.1 S.2.1 dX1_mistakeFor_1 rfl (lv_at hl 2 rfl) ?_
  obtain ⟨u1, hu1, h⟩ := bd_e h
  refine r_rv d (r_cV (As := [.int a2]) (rest := []) S d (c_X1_weigh l G M L fu k0 a2 hk0 hu1) (ksdC S hk0) (wc_5 hk0) rfl ml_RX1_42 im_yX1_weigh se_yX1_weigh in_RX1 co_yX1_weigh hyV_X1_weigh ⟨rfl, rfl⟩ ⟨by decide, by decide⟩ rfl hl rfl (Nat.le_of_ble_eq_true rfl) dX1_mistakeFor_2 ⟨Nat.zero_le _, Nat.zero_le _⟩) (fun H locs d => ?_)
  refine lv_aload_n S.1 S.2.1 dX1_mistakeFor_5 rfl (lv_at hl 0 rfl) ?_
  refine lv_iload_n S.1 S.2.1 dX1_mistakeFor_6 rfl (lv_at hl 1 rfl) ?_
  refine lv_iload_n S.1 S.2.1 dX1_mistakeFor_7 rfl (lv_at hl 3 rfl) ?_
  obtain ⟨u2, hu2, h⟩ := bd_e h
  refine r_rv d (r_cV (As := [.int a1, .int a3]) (rest := []) S d (c_X1_countWays l G M u1 fu k0 a1 a3 hk0 hu2) (ksdC S hk0) (wc_5 hk0) rfl ml_RX1_46 im_yX1_countWays se_yX1_countWays in_RX1 co_yX1_countWays hyV_X1_countWays ⟨rfl, rfl⟩ ⟨by decide, by decide⟩ rfl hl rfl (Nat.le_of_ble_eq_true rfl) dX1_mistakeFor_8 ⟨Nat.zero_le _, Nat.zero_le _⟩) (fun H locs d => ?_)
  refine lv_bipush (v := (-4)) S.1 S.2.1 dX1_mistakeFor_11 (by decide) ?_
  refine lv_istore (lv' := [(4, .int (-4 : Int32)), (0, .ref (ad G k0)), (1, .int a1), (2, .int a2), (3, .int a3)]) S.1 S.2.1 dX1_mistakeFor_13 hl (by decide) rfl (fun ls hl => ?_)
  refine lv_lconst (v := 0) S.1 S.2.1 dX1_mistakeFor_15 (by decide) ?_
  refine lv_lstore (lv' := [(5, .long (0 : Int64)), (4, .int (-4 : Int32)), (0, .ref (ad G k0)), (1, .int a1), (2, .int a2), (3, .int a3)]) S.1 S.2.1 dX1_mistakeFor_16 hl (by decide) rfl (fun ls hl => ?_)
  refine lv_iconst (v := 0) S.1 S.2.1 dX1_mistakeFor_18 (by decide) ?_
  refine lv_istore (lv' := [(7, .int (0 : Int32)), (5, .long (0 : Int64)), (4, .int (-4 : Int32)), (0, .ref (ad G k0)), (1, .int a1), (2, .int a2), (3, .int a3)]) S.1 S.2.1 dX1_mistakeFor_19 hl (by decide) rfl (fun ls hl => ?_)
  refine lc_X1_mistakeFor_21 S hr hk0 _ (fun v8 H locs d ls hl h => ?_) _ _ _ _  h _ _ d _ (lv_sub hl [3, 4, 2, 1, 0] rfl)
  refine lv_iload S.1 S.2.1 dX1_mistakeFor_68 (lv_at hl 0 rfl) ?_
  obtain rfl := Option.some.inj h
  exact r_iret S d hr rfl rfl dX1_mistakeFor_70
theorem hyV_X7_taken : yX7_taken.cls = RX7 ∧ yX7_taken.cls ≠ "java/lang/invoke/MethodHandle" ∧ yX7_taken.cls ≠ "java/lang/invoke/VarHandle" ∧ (parseMethodDescriptor yX7_taken.desc).map (fun d => d.parameters.length) = some 2 := by decide +kernel
abbrev rm_X7_taken : Room := { frames := 5, cells := 0, slots := 0, locals := 129 }
def f_X7_taken (fu : Nat) (M : Mem) (L : MemL) (k0 : Nat) (a1 : Int32) (a2 : Int32) : Option (Int32 × Mem × MemL) :=
  (f_X7_isBelow a1 (26 : Int32)).bind (fun u1 =>
  (if u1 = 0 then some ((-1 : Int32), M, L)
  else (if a2 < 0 then some ((-1 : Int32), M, L)
    else (if a2 ≤ (8 : Int32) then gd (inb (2 : Int32) 4) (
        (f_X1_mistakeFor fu M L (k0 + 102) a1 a2 (M ((k0 + 1) + 1) (2 : Int32).toNatClampNeg)).bind (fun u3 =>
        some (u3.1, u3.2.1, u3.2.2)))
      else some ((-1 : Int32), M, L)))))
set_option maxHeartbeats 4000000 in
set_option maxRecDepth 100000 in
theorem c_X7_taken (l : Launch) (G : Gx) (M : Mem) (L : MemL) (fu : Nat) (k0 : Nat) (a1 : Int32) (a2 : Int32) (hk0 : kd k0 = 0) {z : Int32 × Mem × MemL} (h : f_X7_taken fu M L k0 a1 a2 = some z) : Met l yX7_taken (.code yX7_taken cX7_taken 3 (Option.some Jvm.ClassFile.FieldType.int) :: UW) rm_X7_taken (va_Pc [.ref (ad G k0), .int a1, .int a2] (PreG G false M L)) (Qi G z.1 z.2.1 z.2.2) 0 0 (gA G) := by
  refine r_in (by decide) (fun p e s m args below meth c S hr d ha ls hl => ?_) (Nat.le_of_ble_eq_true rfl)
  have S : Sx G false p s m args meth c cX7_taken 3 RX7 := S
  have hl : lv_has ls 3 [(0, .ref (ad G k0)), (1, .int a1), (2, .int a2)] := hl
  unfold f_X7_taken at h
  refine lv_iload_n S.1 S.2.1 dX7_taken_0 rfl (lv_at hl 1 rfl) ?_
  refine lv_bipush (v := 26) S.1 S.2.1 dX7_taken_1 (by decide) ?_
  obtain ⟨u1, hu1, h⟩ := bd_e h
  refine r_ri d (r_cS (As := [.int a1, .int (26 : Int32)]) (rest := []) S d (c_X7_isBelow l G M L a1 (26 : Int32) hu1) ml_RX7_51 sm_yX7_isBelow in_RX7 co_yX7_isBelow hyS_X7_isBelow ⟨rfl, rfl⟩ ⟨by decide, by decide⟩ rfl hl rfl (Nat.le_of_ble_eq_true rfl) dX7_taken_3 ⟨Nat.zero_le _, Nat.zero_le _⟩) (fun H locs d => ?_)
  refine lv_if_eq (tgt := 19) S.1 S.2.1 dX7_taken_6 (by decide) (fun cc => ?_) (fun cc => ?_)
  · replace h := it_p cc h
    refine lv_iconst (v := (-1)) S.1 S.2.1 dX7_taken_19 (by decide) ?_
    obtain rfl := Option.some.inj h
    exact r_iret S d hr rfl rfl dX7_taken_20
  · replace h := it_n cc h
    refine lv_iload_n S.1 S.2.1 dX7_taken_9 rfl (lv_at hl 2 rfl) ?_
    refine lv_if_lt (tgt := 19) S.1 S.2.1 dX7_taken_10 (by decide) (fun cc => ?_) (fun cc => ?_)
    · replace h := it_p cc h
      refine lv_iconst (v := (-1)) S.1 S.2.1 dX7_taken_19 (by decide) ?_
      obtain rfl := Option.some.inj h
      exact r_iret S d hr rfl rfl dX7_taken_20
    · replace h := it_n cc h
      refine lv_iload_n S.1 S.2.1 dX7_taken_13 rfl (lv_at hl 2 rfl) ?_
      refine lv_bipush (v := 8) S.1 S.2.1 dX7_taken_14 (by decide) ?_
      refine lv_icmp_le (tgt := 21) S.1 S.2.1 dX7_taken_16 (by decide) (fun cc => ?_) (fun cc => ?_)
      · replace h := it_p cc h
        refine lv_aload_n S.1 S.2.1 dX7_taken_21 rfl (lv_at hl 0 rfl) ?_
        refine gf_0_4 S d hk0 fl_RX7_33 dX7_taken_22 ?_
        refine lv_iload_n S.1 S.2.1 dX7_taken_25 rfl (lv_at hl 1 rfl) ?_
        refine lv_iload_n S.1 S.2.1 dX7_taken_26 rfl (lv_at hl 2 rfl) ?_
        refine lv_aload_n S.1 S.2.1 dX7_taken_27 rfl (lv_at hl 0 rfl) ?_
        refine gf_0_0 S d hk0 fl_RX7_12 dX7_taken_28 ?_
        refine gf_1_0 S d (ch_0_0 hk0).1 fl_RX7_67 dX7_taken_31 ?_
        refine lv_iconst (v := 2) S.1 S.2.1 dX7_taken_34 (by decide) ?_
        obtain ⟨g2, h⟩ := gd_e h
        refine r_iald S d (ksdC S (ch_1_0 (ch_0_0 hk0).1).1) (wc_10 (ch_1_0 (ch_0_0 hk0).1).1) (ch_1_0 (ch_0_0 hk0).1).2 g2 dX7_taken_35 ?_
        obtain ⟨u3, hu3, h⟩ := bd_e h
        refine r_ri d (r_cV (As := [.int a1, .int a2, .int (M ((k0 + 1) + 1) (2 : Int32).toNatClampNeg)]) (rest := []) S d (c_X1_mistakeFor l G M L fu (k0 + 102) a1 a2 (M ((k0 + 1) + 1) (2 : Int32).toNatClampNeg) (ch_0_4 hk0).1 hu3) (ksdC S (ch_0_4 hk0).1) (wc_5 (ch_0_4 hk0).1) rfl ml_RX7_214 im_yX1_mistakeFor se_yX1_mistakeFor in_RX1 co_yX1_mistakeFor hyV_X1_mistakeFor ⟨rfl, rfl⟩ ⟨by decide, by decide⟩ rfl hl rfl (Nat.le_of_ble_eq_true rfl) dX7_taken_36 ⟨Nat.zero_le _, Nat.zero_le _⟩) (fun H locs d => ?_)
        obtain rfl := Option.some.inj h
        exact r_iret S d hr rfl rfl dX7_taken_39
      · replace h := it_n cc h
        refine lv_iconst (v := (-1)) S.1 S.2.1 dX7_taken_19 (by decide) ?_
        obtain rfl := Option.some.inj h
        exact r_iret S d hr rfl rfl dX7_taken_20
theorem hyV_X7_fades : yX7_fades.cls = RX7 ∧ yX7_fades.cls ≠ "java/lang/invoke/MethodHandle" ∧ yX7_fades.cls ≠ "java/lang/invoke/VarHandle" ∧ (parseMethodDescriptor yX7_fades.desc).map (fun d => d.parameters.length) = some 2 := by decide +kernel
abbrev rm_X7_fades : Room := { frames := 4, cells := 0, slots := 0, locals := 90 }
def lp_X7_fades_47 (fu : Nat) (M : Mem) (b0 : Nat) (b2 : Int32) (b3 : Nat) (K : Unit → Option (Int32)) : Nat → Int32 → Option (Int32)
  | 0, _ => none
  | n + 1, x4 =>
    (if (30 : Int32) < x4 then (K ())
    else (f_X0_isWritten fu M (b0 + 1) b3 b2 x4).bind (fun u6 =>
      (if u6 = 0 then some (x4)
      else lt (x4 + 1) (fun v7 : Int32 =>
        (lp_X7_fades_47 fu M b0 b2 b3 K n v7)))))
def f_X7_fades (fu : Nat) (M : Mem) (k0 : Nat) (a1 : Int32) (a2 : Int32) : Option (Int32) :=
  (f_X7_isWord M k0 a1).bind (fun u1 =>
  (if u1 = 0 then some ((-1 : Int32))
  else (f_X7_isStrip M k0 a2).bind (fun u2 =>
    (if u2 = 0 then some ((-1 : Int32))
    else gd (inb a1 10) (
      lt ((((k0 + 1) + 3) + 21 + 2 * a1.toNatClampNeg)) (fun r4 : Nat =>
      (f_X0_isWritten fu M (k0 + 1) r4 a2 (0 : Int32)).bind (fun u5 =>
      (if u5 = 0 then some ((-2 : Int32))
      else (lp_X7_fades_47 fu M k0 a2 r4 (fun (_ : Unit) =>
          some ((-4 : Int32))) fu (1 : Int32))))))))))
set_option maxHeartbeats 4000000 in
set_option maxRecDepth 100000 in
theorem lc_X7_fades_47 {p : Program} {l : Launch} {e : Env} {s : State} {m : MethodId} {args : Array Value} {below : List Frame} {meth : Method} {c : Code} {G : Gx} {M : Mem} {L : MemL} {fu : Nat} {b0 : Nat} {b2 : Int32} {b3 : Nat} {z : Int32} (S : Sx G false p s m args meth c cX7_fades 5 RX7) (hr : meth.sig.returnType = (Option.some Jvm.ClassFile.FieldType.int)) (hb0 : kd b0 = 0) (hb3 : kd b3 = 3) (K : Unit → Option (Int32)) (hK : ∀ (_ : Unit) (H : Heap) (locs : List Loc), Dy G s M L H locs → ∀ ls : Array Slot, lv_has ls 5 [] → K () = some z → W p l e rm_X7_fades s m args below meth c H locs 0 0 (MQ below (Qi G z M L) args s 0 0 (gA G)) (F0 m 77 ls [])) :
    ∀ (n : Nat) (x4 : Int32), lp_X7_fades_47 fu M b0 b2 b3 K n x4 = some z → ∀ (H : Heap) (locs : List Loc), Dy G s M L H locs → ∀ ls : Array Slot, lv_has ls 5 [(0, .ref (ad G b0)), (2, .int b2), (3, .ref (ad G b3)), (4, .int x4)] → W p l e rm_X7_fades s m args below meth c H locs 0 0 (MQ below (Qi G z M L) args s 0 0 (gA G)) (F0 m 47 ls []) := by
  intro n
  induction n with
  | zero =>
    intro x4 h
    have h : (none : Option (Int32)) = some z := h
    cases h
  | succ n ih =>
    intro x4 h H locs d ls hl
    rw [lp_X7_fades_47] at h
    refine lv_iload S.1 S.2.1 dX7_fades_47 (lv_at hl 3 rfl) ?_
    refine lv_bipush (v := 30) S.1 S.2.1 dX7_fades_49 (by decide) ?_
    refine lv_icmp_gt (tgt := 77) S.1 S.2.1 dX7_fades_51 (by decide) (fun cc => ?_) (fun cc => ?_)
    · replace h := it_p cc h
      exact hK () _ _ d _ (lv_sub hl [] rfl) h
    · replace h := it_n cc h
      refine lv_aload_n S.1 S.2.1 dX7_fades_54 rfl (lv_at hl 0 rfl) ?_
      refine gf_0_0 S d hb0 fl_RX7_12 dX7_fades_55 ?_
      refine lv_aload_n S.1 S.2.1 dX7_fades_58 rfl (lv_at hl 2 rfl) ?_
      refine lv_iload_n S.1 S.2.1 dX7_fades_59 rfl (lv_at hl 1 rfl) ?_
      refine lv_iload S.1 S.2.1 dX7_fades_60 (lv_at hl 3 rfl) ?_
      obtain ⟨u6, hu6, h⟩ := bd_e h
      refine r_ri d (r_cV (As := [.ref (ad G b3), .int b2, .int x4]) (rest := []) S d (c_X0_isWritten l G M L fu (b0 + 1) b3 b2 x4 (ch_0_0 hb0).1 hb3 hu6) (ksdC S (ch_0_0 hb0).1) (wc_1 (ch_0_0 hb0).1) rfl ml_RX7_172 im_yX0_isWritten se_yX0_isWritten in_RX0 co_yX0_isWritten hyV_X0_isWritten ⟨rfl, rfl⟩ ⟨by decide, by decide⟩ rfl hl rfl (Nat.le_of_ble_eq_true rfl) dX7_fades_62 ⟨Nat.zero_le _, Nat.zero_le _⟩) (fun H locs d => ?_)
      refine lv_if_ne (tgt := 71) S.1 S.2.1 dX7_fades_65 (by decide) (fun cc => ?_) (fun cc => ?_)
      · replace h := it_n cc h
        obtain ⟨v7, ev7, h⟩ := lt_e h
        refine lv_iinc (v := v7) (lv' := [(4, .int v7), (0, .ref (ad G b0)), (2, .int b2), (3, .ref (ad G b3))]) S.1 S.2.1 dX7_fades_71 hl (k := 3) rfl (by rw [ev7]; rfl) (by decide) rfl (fun ls hl => ?_)
        refine lv_goto (tgt := 47) S.1 S.2.1 dX7_fades_74 (by decide) ?_
        exact ih _ h _ _ d _ (lv_sub hl [1, 2, 3, 0] rfl)
      · replace h := it_p cc h
        refine lv_iload S.1 S.2.1 dX7_fades_68 (lv_at hl 3 rfl) ?_
        obtain rfl := Option.some.inj h
        exact r_iret S d hr rfl rfl dX7_fades_70
set_option maxHeartbeats 4000000 in
set_option maxRecDepth 100000 in
theorem c_X7_fades (l : Launch) (G : Gx) (M : Mem) (L : MemL) (fu : Nat) (k0 : Nat) (a1 : Int32) (a2 : Int32) (hk0 : kd k0 = 0) {z : Int32} (h : f_X7_fades fu M k0 a1 a2 = some z) : Met l yX7_fades (.code yX7_fades cX7_fades 5 (Option.some Jvm.ClassFile.FieldType.int) :: UW) rm_X7_fades (va_Pc [.ref (ad G k0), .int a1, .int a2] (PreG G false M L)) (Qi G z M L) 0 0 (gA G) := by
  refine r_in (by decide) (fun p e s m args below meth c S hr d ha ls hl => ?_) (Nat.le_of_ble_eq_true rfl)
  have S : Sx G false p s m args meth c cX7_fades 5 RX7 := S
  have hl : lv_has ls 5 [(0, .ref (ad G k0)), (1, .int a1), (2, .int a2)] := hl
  unfold f_X7_fades at h
  refine lv_aload_n S.1 S.2.1 dX7_fades_0 rfl (lv_at hl 0 rfl) ?_
  refine lv_iload_n S.1 S.2.1 dX7_fades_1 rfl (lv_at hl 1 rfl) ?_
  obtain ⟨u1, hu1, h⟩ := bd_e h
  refine r_ri d (r_cV (As := [.int a1]) (rest := []) S d (c_X7_isWord l G M L k0 a1 hk0 hu1) (ksdC S hk0) (wc_0 hk0) rfl ml_RX7_144 im_yX7_isWord se_yX7_isWord in_RX7 co_yX7_isWord hyV_X7_isWord ⟨rfl, rfl⟩ ⟨by decide, by decide⟩ rfl hl rfl (Nat.le_of_ble_eq_true rfl) dX7_fades_2 ⟨Nat.zero_le _, Nat.zero_le _⟩) (fun H locs d => ?_)
  refine lv_if_eq (tgt := 16) S.1 S.2.1 dX7_fades_5 (by decide) (fun cc => ?_) (fun cc => ?_)
  · replace h := it_p cc h
    refine lv_iconst (v := (-1)) S.1 S.2.1 dX7_fades_16 (by decide) ?_
    obtain rfl := Option.some.inj h
    exact r_iret S d hr rfl rfl dX7_fades_17
  · replace h := it_n cc h
    refine lv_aload_n S.1 S.2.1 dX7_fades_8 rfl (lv_at hl 0 rfl) ?_
    refine lv_iload_n S.1 S.2.1 dX7_fades_9 rfl (lv_at hl 2 rfl) ?_
    obtain ⟨u2, hu2, h⟩ := bd_e h
    refine r_ri d (r_cV (As := [.int a2]) (rest := []) S d (c_X7_isStrip l G M L k0 a2 hk0 hu2) (ksdC S hk0) (wc_0 hk0) rfl ml_RX7_70 im_yX7_isStrip se_yX7_isStrip in_RX7 co_yX7_isStrip hyV_X7_isStrip ⟨rfl, rfl⟩ ⟨by decide, by decide⟩ rfl hl rfl (Nat.le_of_ble_eq_true rfl) dX7_fades_10 ⟨Nat.zero_le _, Nat.zero_le _⟩) (fun H locs d => ?_)
    refine lv_if_ne (tgt := 18) S.1 S.2.1 dX7_fades_13 (by decide) (fun cc => ?_) (fun cc => ?_)
    · replace h := it_n cc h
      refine lv_aload_n S.1 S.2.1 dX7_fades_18 rfl (lv_at hl 0 rfl) ?_
      refine gf_0_0 S d hk0 fl_RX7_12 dX7_fades_19 ?_
      refine gf_1_3 S d (ch_0_0 hk0).1 fl_RX7_147 dX7_fades_22 ?_
      refine lv_iload_n S.1 S.2.1 dX7_fades_25 rfl (lv_at hl 1 rfl) ?_
      obtain ⟨g3, h⟩ := gd_e h
      refine r_aald S d (ksdC S (ch_1_3 (ch_0_0 hk0).1).1) (wc_14 (ch_1_3 (ch_0_0 hk0).1).1) rfl rfl g3 (if_pos (inb_lt g3)) dX7_fades_26 ?_
      obtain ⟨r4, er4, h⟩ := lt_e h
      refine r_topr er4 ?_
      have hkr4 : kd r4 = 3 := by rw [er4]; exact (ca_14 (ch_1_3 (ch_0_0 hk0).1).1 (inb_lt g3)).1
      refine lv_astore_n (lv' := [(3, .ref (ad G r4)), (0, .ref (ad G k0)), (1, .int a1), (2, .int a2)]) S.1 S.2.1 dX7_fades_27 rfl hl (by decide) rfl (fun ls hl => ?_)
      refine lv_aload_n S.1 S.2.1 dX7_fades_28 rfl (lv_at hl 1 rfl) ?_
      refine gf_0_0 S d hk0 fl_RX7_12 dX7_fades_29 ?_
      refine lv_aload_n S.1 S.2.1 dX7_fades_32 rfl (lv_at hl 0 rfl) ?_
      refine lv_iload_n S.1 S.2.1 dX7_fades_33 rfl (lv_at hl 3 rfl) ?_
      refine lv_iconst (v := 0) S.1 S.2.1 dX7_fades_34 (by decide) ?_
      obtain ⟨u5, hu5, h⟩ := bd_e h
      refine r_ri d (r_cV (As := [.ref (ad G r4), .int a2, .int (0 : Int32)]) (rest := []) S d (c_X0_isWritten l G M L fu (k0 + 1) r4 a2 (0 : Int32) (ch_0_0 hk0).1 hkr4 hu5) (ksdC S (ch_0_0 hk0).1) (wc_1 (ch_0_0 hk0).1) rfl ml_RX7_172 im_yX0_isWritten se_yX0_isWritten in_RX0 co_yX0_isWritten hyV_X0_isWritten ⟨rfl, rfl⟩ ⟨by decide, by decide⟩ rfl hl rfl (Nat.le_of_ble_eq_true rfl) dX7_fades_35 ⟨Nat.zero_le _, Nat.zero_le _⟩) (fun H locs d => ?_)
      refine lv_if_ne (tgt := 44) S.1 S.2.1 dX7_fades_38 (by decide) (fun cc => ?_) (fun cc => ?_)
      · replace h := it_n cc h
        refine lv_iconst (v := 1) S.1 S.2.1 dX7_fades_44 (by decide) ?_
        refine lv_istore (lv' := [(4, .int (1 : Int32)), (3, .ref (ad G r4)), (0, .ref (ad G k0)), (1, .int a1), (2, .int a2)]) S.1 S.2.1 dX7_fades_45 hl (by decide) rfl (fun ls hl => ?_)
        refine lc_X7_fades_47 S hr hk0 hkr4 _ (fun _ H locs d ls hl h => ?_) _ _  h _ _ d _ (lv_sub hl [2, 4, 1, 0] rfl)
        refine lv_bipush (v := (-4)) S.1 S.2.1 dX7_fades_77 (by decide) ?_
        obtain rfl := Option.some.inj h
        exact r_iret S d hr rfl rfl dX7_fades_79
      · replace h := it_p cc h
        refine lv_bipush (v := (-2)) S.1 S.2.1 dX7_fades_41 (by decide) ?_
        obtain rfl := Option.some.inj h
        exact r_iret S d hr rfl rfl dX7_fades_43
    · replace h := it_p cc h
      refine lv_iconst (v := (-1)) S.1 S.2.1 dX7_fades_16 (by decide) ?_
      obtain rfl := Option.some.inj h
      exact r_iret S d hr rfl rfl dX7_fades_17
theorem hyV_X6_isLike : yX6_isLike.cls = RX6 ∧ yX6_isLike.cls ≠ "java/lang/invoke/MethodHandle" ∧ yX6_isLike.cls ≠ "java/lang/invoke/VarHandle" ∧ (parseMethodDescriptor yX6_isLike.desc).map (fun d => d.parameters.length) = some 1 := by decide +kernel
abbrev rm_X6_isLike : Room := { frames := 0, cells := 0, slots := 0, locals := 0 }
def lp_X6_isLike_15 (fu : Nat) (M : Mem) (b0 : Nat) (b1 : Nat) (K : Unit → Option (Int32)) : Nat → Int32 → Option (Int32)
  | 0, _ => none
  | n + 1, x2 =>
    (if (M b0 0) ≤ x2 then (K ())
    else gd (inb x2 6) (
      gd (inb x2 6) (
      (if (M (b0 + 1) x2.toNatClampNeg) = (M (b1 + 1) x2.toNatClampNeg) then lt (x2 + 1) (fun v3 : Int32 =>
        (lp_X6_isLike_15 fu M b0 b1 K n v3))
      else some ((0 : Int32))))))
def f_X6_isLike (fu : Nat) (M : Mem) (k0 : Nat) (k1 : Nat) : Option (Int32) :=
  (if (M k0 0) = (M k1 0) then (lp_X6_isLike_15 fu M k0 k1 (fun (_ : Unit) =>
      some ((1 : Int32))) fu (0 : Int32))
  else some ((0 : Int32)))
set_option maxHeartbeats 4000000 in
set_option maxRecDepth 100000 in
theorem lc_X6_isLike_15 {p : Program} {l : Launch} {e : Env} {s : State} {m : MethodId} {args : Array Value} {below : List Frame} {meth : Method} {c : Code} {G : Gx} {M : Mem} {L : MemL} {fu : Nat} {b0 : Nat} {b1 : Nat} {z : Int32} (S : Sx G false p s m args meth c cX6_isLike 3 RX6) (hr : meth.sig.returnType = (Option.some Jvm.ClassFile.FieldType.boolean)) (hb0 : kd b0 = 3) (hb1 : kd b1 = 3) (K : Unit → Option (Int32)) (hK : ∀ (_ : Unit) (H : Heap) (locs : List Loc), Dy G s M L H locs → ∀ ls : Array Slot, lv_has ls 3 [] → K () = some z → W p l e rm_X6_isLike s m args below meth c H locs 0 0 (MQ below (Qi G z M L) args s 0 0 (gA G)) (F0 m 46 ls [])) :
    ∀ (n : Nat) (x2 : Int32), lp_X6_isLike_15 fu M b0 b1 K n x2 = some z → ∀ (H : Heap) (locs : List Loc), Dy G s M L H locs → ∀ ls : Array Slot, lv_has ls 3 [(0, .ref (ad G b0)), (1, .ref (ad G b1)), (2, .int x2)] → W p l e rm_X6_isLike s m args below meth c H locs 0 0 (MQ below (Qi G z M L) args s 0 0 (gA G)) (F0 m 15 ls []) := by
  intro n
  induction n with
  | zero =>
    intro x2 h
    have h : (none : Option (Int32)) = some z := h
    cases h
  | succ n ih =>
    intro x2 h H locs d ls hl
    rw [lp_X6_isLike_15] at h
    refine lv_iload_n S.1 S.2.1 dX6_isLike_15 rfl (lv_at hl 2 rfl) ?_
    refine lv_aload_n S.1 S.2.1 dX6_isLike_16 rfl (lv_at hl 0 rfl) ?_
    refine gf_3_0 S d hb0 fl_RX6_9 dX6_isLike_17 ?_
    refine lv_icmp_ge (tgt := 46) S.1 S.2.1 dX6_isLike_20 (by decide) (fun cc => ?_) (fun cc => ?_)
    · replace h := it_p cc h
      exact hK () _ _ d _ (lv_sub hl [] rfl) h
    · replace h := it_n cc h
      refine lv_aload_n S.1 S.2.1 dX6_isLike_23 rfl (lv_at hl 0 rfl) ?_
      refine gf_3_2 S d hb0 fl_RX6_18 dX6_isLike_24 ?_
      refine lv_iload_n S.1 S.2.1 dX6_isLike_27 rfl (lv_at hl 2 rfl) ?_
      obtain ⟨g1, h⟩ := gd_e h
      refine r_iald S d (ksdC S (ch_3_2 hb0).1) (wc_10 (ch_3_2 hb0).1) (ch_3_2 hb0).2 g1 dX6_isLike_28 ?_
      refine lv_aload_n S.1 S.2.1 dX6_isLike_29 rfl (lv_at hl 1 rfl) ?_
      refine gf_3_2 S d hb1 fl_RX6_18 dX6_isLike_30 ?_
      refine lv_iload_n S.1 S.2.1 dX6_isLike_33 rfl (lv_at hl 2 rfl) ?_
      obtain ⟨g2, h⟩ := gd_e h
      refine r_iald S d (ksdC S (ch_3_2 hb1).1) (wc_10 (ch_3_2 hb1).1) (ch_3_2 hb1).2 g2 dX6_isLike_34 ?_
      refine lv_icmp_eq (tgt := 40) S.1 S.2.1 dX6_isLike_35 (by decide) (fun cc => ?_) (fun cc => ?_)
      · replace h := it_p cc h
        obtain ⟨v3, ev3, h⟩ := lt_e h
        refine lv_iinc (v := v3) (lv' := [(2, .int v3), (0, .ref (ad G b0)), (1, .ref (ad G b1))]) S.1 S.2.1 dX6_isLike_40 hl (k := 2) rfl (by rw [ev3]; rfl) (by decide) rfl (fun ls hl => ?_)
        refine lv_goto (tgt := 15) S.1 S.2.1 dX6_isLike_43 (by decide) ?_
        exact ih _ h _ _ d _ (lv_sub hl [1, 2, 0] rfl)
      · replace h := it_n cc h
        refine lv_iconst (v := 0) S.1 S.2.1 dX6_isLike_38 (by decide) ?_
        obtain rfl := Option.some.inj h
        exact r_iret S d hr rfl rfl dX6_isLike_39
set_option maxHeartbeats 4000000 in
set_option maxRecDepth 100000 in
theorem c_X6_isLike (l : Launch) (G : Gx) (M : Mem) (L : MemL) (fu : Nat) (k0 : Nat) (k1 : Nat) (hk0 : kd k0 = 3) (hk1 : kd k1 = 3) {z : Int32} (h : f_X6_isLike fu M k0 k1 = some z) : Met l yX6_isLike (.code yX6_isLike cX6_isLike 3 (Option.some Jvm.ClassFile.FieldType.boolean) :: UW) rm_X6_isLike (va_Pc [.ref (ad G k0), .ref (ad G k1)] (PreG G false M L)) (Qi G z M L) 0 0 (gA G) := by
  refine r_in (by decide) (fun p e s m args below meth c S hr d ha ls hl => ?_) (Nat.le_of_ble_eq_true rfl)
  have S : Sx G false p s m args meth c cX6_isLike 3 RX6 := S
  have hl : lv_has ls 3 [(0, .ref (ad G k0)), (1, .ref (ad G k1))] := hl
  unfold f_X6_isLike at h
  refine lv_aload_n S.1 S.2.1 dX6_isLike_0 rfl (lv_at hl 0 rfl) ?_
  refine gf_3_0 S d hk0 fl_RX6_9 dX6_isLike_1 ?_
  refine lv_aload_n S.1 S.2.1 dX6_isLike_4 rfl (lv_at hl 1 rfl) ?_
  refine gf_3_0 S d hk1 fl_RX6_9 dX6_isLike_5 ?_
  refine lv_icmp_eq (tgt := 13) S.1 S.2.1 dX6_isLike_8 (by decide) (fun cc => ?_) (fun cc => ?_)
  · replace h := it_p cc h
    refine lv_iconst (v := 0) S.1 S.2.1 dX6_isLike_13 (by decide) ?_
    refine lv_istore_n (lv' := [(2, .int (0 : Int32)), (0, .ref (ad G k0)), (1, .ref (ad G k1))]) S.1 S.2.1 dX6_isLike_14 rfl hl (by decide) rfl (fun ls hl => ?_)
    refine lc_X6_isLike_15 S hr hk0 hk1 _ (fun _ H locs d ls hl h => ?_) _ _  h _ _ d _ (lv_sub hl [1, 2, 0] rfl)
    refine lv_iconst (v := 1) S.1 S.2.1 dX6_isLike_46 (by decide) ?_
    obtain rfl := Option.some.inj h
    exact r_iret S d hr rfl rfl dX6_isLike_47
  · replace h := it_n cc h
    refine lv_iconst (v := 0) S.1 S.2.1 dX6_isLike_11 (by decide) ?_
    obtain rfl := Option.some.inj h
    exact r_iret S d hr rfl rfl dX6_isLike_12
theorem hyV_X6_placeBehind : yX6_placeBehind.cls = RX6 ∧ yX6_placeBehind.cls ≠ "java/lang/invoke/MethodHandle" ∧ yX6_placeBehind.cls ≠ "java/lang/invoke/VarHandle" ∧ (parseMethodDescriptor yX6_placeBehind.desc).map (fun d => d.parameters.length) = some 2 := by decide +kernel
abbrev rm_X6_placeBehind : Room := { frames := 0, cells := 0, slots := 0, locals := 0 }
def lp_X6_placeBehind_2 (fu : Nat) (M : Mem) (b0 : Nat) (b1 : Int32) (K : Unit → Option (Int32)) : Nat → Int32 → Option (Int32)
  | 0, _ => none
  | n + 1, x3 =>
    (if (M b0 0) ≤ x3 then (K ())
    else gd (inb x3 6) (
      (if (M (b0 + 1) x3.toNatClampNeg) = b1 then some ((x3 + (1 : Int32)))
      else lt (x3 + 1) (fun v2 : Int32 =>
        (lp_X6_placeBehind_2 fu M b0 b1 K n v2)))))
def f_X6_placeBehind (fu : Nat) (M : Mem) (k0 : Nat) (a1 : Int32) (a2 : Int32) : Option (Int32) :=
  (lp_X6_placeBehind_2 fu M k0 a1 (fun (_ : Unit) =>
    some ((-4 : Int32))) fu a2)
set_option maxHeartbeats 4000000 in
set_option maxRecDepth 100000 in
theorem lc_X6_placeBehind_2 {p : Program} {l : Launch} {e : Env} {s : State} {m : MethodId} {args : Array Value} {below : List Frame} {meth : Method} {c : Code} {G : Gx} {M : Mem} {L : MemL} {fu : Nat} {b0 : Nat} {b1 : Int32} {z : Int32} (S : Sx G false p s m args meth c cX6_placeBehind 4 RX6) (hr : meth.sig.returnType = (Option.some Jvm.ClassFile.FieldType.int)) (hb0 : kd b0 = 3) (K : Unit → Option (Int32)) (hK : ∀ (_ : Unit) (H : Heap) (locs : List Loc), Dy G s M L H locs → ∀ ls : Array Slot, lv_has ls 4 [] → K () = some z → W p l e rm_X6_placeBehind s m args below meth c H locs 0 0 (MQ below (Qi G z M L) args s 0 0 (gA G)) (F0 m 30 ls [])) :
    ∀ (n : Nat) (x3 : Int32), lp_X6_placeBehind_2 fu M b0 b1 K n x3 = some z → ∀ (H : Heap) (locs : List Loc), Dy G s M L H locs → ∀ ls : Array Slot, lv_has ls 4 [(0, .ref (ad G b0)), (1, .int b1), (3, .int x3)] → W p l e rm_X6_placeBehind s m args below meth c H locs 0 0 (MQ below (Qi G z M L) args s 0 0 (gA G)) (F0 m 2 ls []) := by
  intro n
  induction n with
  | zero =>
    intro x3 h
    have h : (none : Option (Int32)) = some z := h
    cases h
  | succ n ih =>
    intro x3 h H locs d ls hl
    rw [lp_X6_placeBehind_2] at h
    refine lv_iload_n S.1 S.2.1 dX6_placeBehind_2 rfl (lv_at hl 2 rfl) ?_
    refine lv_aload_n S.1 S.2.1 dX6_placeBehind_3 rfl (lv_at hl 0 rfl) ?_
    refine gf_3_0 S d hb0 fl_RX6_9 dX6_placeBehind_4 ?_
    refine lv_icmp_ge (tgt := 30) S.1 S.2.1 dX6_placeBehind_7 (by decide) (fun cc => ?_) (fun cc => ?_)
    · replace h := it_p cc h
      exact hK () _ _ d _ (lv_sub hl [] rfl) h
    · replace h := it_n cc h
      refine lv_aload_n S.1 S.2.1 dX6_placeBehind_10 rfl (lv_at hl 0 rfl) ?_
      refine gf_3_2 S d hb0 fl_RX6_18 dX6_placeBehind_11 ?_
      refine lv_iload_n S.1 S.2.1 dX6_placeBehind_14 rfl (lv_at hl 2 rfl) ?_
      obtain ⟨g1, h⟩ := gd_e h
      refine r_iald S d (ksdC S (ch_3_2 hb0).1) (wc_10 (ch_3_2 hb0).1) (ch_3_2 hb0).2 g1 dX6_placeBehind_15 ?_
      refine lv_iload_n S.1 S.2.1 dX6_placeBehind_16 rfl (lv_at hl 1 rfl) ?_
      refine lv_icmp_ne (tgt := 24) S.1 S.2.1 dX6_placeBehind_17 (by decide) (fun cc => ?_) (fun cc => ?_)
      · replace h := it_n cc h
        obtain ⟨v2, ev2, h⟩ := lt_e h
        refine lv_iinc (v := v2) (lv' := [(3, .int v2), (0, .ref (ad G b0)), (1, .int b1)]) S.1 S.2.1 dX6_placeBehind_24 hl (k := 2) rfl (by rw [ev2]; rfl) (by decide) rfl (fun ls hl => ?_)
        refine lv_goto (tgt := 2) S.1 S.2.1 dX6_placeBehind_27 (by decide) ?_
        exact ih _ h _ _ d _ (lv_sub hl [1, 2, 0] rfl)
      · replace h := it_p cc h
        refine lv_iload_n S.1 S.2.1 dX6_placeBehind_20 rfl (lv_at hl 2 rfl) ?_
        refine lv_iconst (v := 1) S.1 S.2.1 dX6_placeBehind_21 (by decide) ?_
        refine lv_iadd S.1 S.2.1 dX6_placeBehind_22 ?_
        obtain rfl := Option.some.inj h
        exact r_iret S d hr rfl rfl dX6_placeBehind_23
set_option maxHeartbeats 4000000 in
set_option maxRecDepth 100000 in
theorem c_X6_placeBehind (l : Launch) (G : Gx) (M : Mem) (L : MemL) (fu : Nat) (k0 : Nat) (a1 : Int32) (a2 : Int32) (hk0 : kd k0 = 3) {z : Int32} (h : f_X6_placeBehind fu M k0 a1 a2 = some z) : Met l yX6_placeBehind (.code yX6_placeBehind cX6_placeBehind 4 (Option.some Jvm.ClassFile.FieldType.int) :: UW) rm_X6_placeBehind (va_Pc [.ref (ad G k0), .int a1, .int a2] (PreG G false M L)) (Qi G z M L) 0 0 (gA G) := by
  refine r_in (by decide) (fun p e s m args below meth c S hr d ha ls hl => ?_) (Nat.le_of_ble_eq_true rfl)
  have S : Sx G false p s m args meth c cX6_placeBehind 4 RX6 := S
  have hl : lv_has ls 4 [(0, .ref (ad G k0)), (1, .int a1), (2, .int a2)] := hl
  unfold f_X6_placeBehind at h
  refine lv_iload_n S.1 S.2.1 dX6_placeBehind_0 rfl (lv_at hl 2 rfl) ?_
  refine lv_istore_n (lv' := [(3, .int a2), (0, .ref (ad G k0)), (1, .int a1), (2, .int a2)]) S.1 S.2.1 dX6_placeBehind_1 rfl hl (by decide) rfl (fun ls hl => ?_)
  refine lc_X6_placeBehind_2 S hr hk0 _ (fun _ H locs d ls hl h => ?_) _ _  h _ _ d _ (lv_sub hl [1, 2, 0] rfl)
  refine lv_bipush (v := (-4)) S.1 S.2.1 dX6_placeBehind_30 (by decide) ?_
  obtain rfl := Option.some.inj h
  exact r_iret S d hr rfl rfl dX6_placeBehind_32
theorem hyV_X6_hasFormIn : yX6_hasFormIn.cls = RX6 ∧ yX6_hasFormIn.cls ≠ "java/lang/invoke/MethodHandle" ∧ yX6_hasFormIn.cls ≠ "java/lang/invoke/VarHandle" ∧ (parseMethodDescriptor yX6_hasFormIn.desc).map (fun d => d.parameters.length) = some 2 := by decide +kernel
abbrev rm_X6_hasFormIn : Room := { frames := 1, cells := 0, slots := 0, locals := 23 }
def lp_X6_hasFormIn_5 (fu : Nat) (M : Mem) (b0 : Nat) (b1 : Int32) (b2 : Nat) (K : Unit → Option (Int32)) : Nat → Int32 → Int32 → Option (Int32)
  | 0, _, _ => none
  | n + 1, x3, x4 =>
    (if (M b0 0) ≤ x4 then (K ())
    else (if ((b1 >>> (x4 &&& 31)) &&& (1 : Int32)) = (1 : Int32) then gd (inb x4 6) (
        (f_X6_placeBehind fu M b2 (M (b0 + 1) x4.toNatClampNeg) x3).bind (fun u2 =>
        (if 0 ≤ u2 then lt (x4 + 1) (fun v3 : Int32 =>
          (lp_X6_hasFormIn_5 fu M b0 b1 b2 K n u2 v3))
        else some ((0 : Int32)))))
      else lt (x4 + 1) (fun v4 : Int32 =>
        (lp_X6_hasFormIn_5 fu M b0 b1 b2 K n x3 v4))))
def f_X6_hasFormIn (fu : Nat) (M : Mem) (k0 : Nat) (a1 : Int32) (k2 : Nat) : Option (Int32) :=
  (lp_X6_hasFormIn_5 fu M k0 a1 k2 (fun (_ : Unit) =>
    some ((1 : Int32))) fu (0 : Int32) (0 : Int32))
set_option maxHeartbeats 4000000 in
set_option maxRecDepth 100000 in
theorem lc_X6_hasFormIn_5 {p : Program} {l : Launch} {e : Env} {s : State} {m : MethodId} {args : Array Value} {below : List Frame} {meth : Method} {c : Code} {G : Gx} {M : Mem} {L : MemL} {fu : Nat} {b0 : Nat} {b1 : Int32} {b2 : Nat} {z : Int32} (S : Sx G false p s m args meth c cX6_hasFormIn 5 RX6) (hr : meth.sig.returnType = (Option.some Jvm.ClassFile.FieldType.boolean)) (hb0 : kd b0 = 3) (hb2 : kd b2 = 3) (K : Unit → Option (Int32)) (hK : ∀ (_ : Unit) (H : Heap) (locs : List Loc), Dy G s M L H locs → ∀ ls : Array Slot, lv_has ls 5 [] → K () = some z → W p l e rm_X6_hasFormIn s m args below meth c H locs 0 0 (MQ below (Qi G z M L) args s 0 0 (gA G)) (F0 m 49 ls [])) :
    ∀ (n : Nat) (x3 : Int32) (x4 : Int32), lp_X6_hasFormIn_5 fu M b0 b1 b2 K n x3 x4 = some z → ∀ (H : Heap) (locs : List Loc), Dy G s M L H locs → ∀ ls : Array Slot, lv_has ls 5 [(0, .ref (ad G b0)), (1, .int b1), (2, .ref (ad G b2)), (3, .int x3), (4, .int x4)] → W p l e rm_X6_hasFormIn s m args below meth c H locs 0 0 (MQ below (Qi G z M L) args s 0 0 (gA G)) (F0 m 5 ls []) := by
  intro n
  induction n with
  | zero =>
    intro x3 x4 h
    have h : (none : Option (Int32)) = some z := h
    cases h
  | succ n ih =>
    intro x3 x4 h H locs d ls hl
    rw [lp_X6_hasFormIn_5] at h
    refine lv_iload S.1 S.2.1 dX6_hasFormIn_5 (lv_at hl 4 rfl) ?_
    refine lv_aload_n S.1 S.2.1 dX6_hasFormIn_7 rfl (lv_at hl 0 rfl) ?_
    refine gf_3_0 S d hb0 fl_RX6_9 dX6_hasFormIn_8 ?_
    refine lv_icmp_ge (tgt := 49) S.1 S.2.1 dX6_hasFormIn_11 (by decide) (fun cc => ?_) (fun cc => ?_)
    · replace h := it_p cc h
      exact hK () _ _ d _ (lv_sub hl [] rfl) h
    · replace h := it_n cc h
      refine lv_iload_n S.1 S.2.1 dX6_hasFormIn_14 rfl (lv_at hl 1 rfl) ?_
      refine lv_iload S.1 S.2.1 dX6_hasFormIn_15 (lv_at hl 4 rfl) ?_
      refine lv_ishr S.1 S.2.1 dX6_hasFormIn_17 ?_
      refine lv_iconst (v := 1) S.1 S.2.1 dX6_hasFormIn_18 (by decide) ?_
      refine lv_iand S.1 S.2.1 dX6_hasFormIn_19 ?_
      refine lv_iconst (v := 1) S.1 S.2.1 dX6_hasFormIn_20 (by decide) ?_
      refine lv_icmp_ne (tgt := 43) S.1 S.2.1 dX6_hasFormIn_21 (by decide) (fun cc => ?_) (fun cc => ?_)
      · replace h := it_n cc h
        obtain ⟨v4, ev4, h⟩ := lt_e h
        refine lv_iinc (v := v4) (lv' := [(4, .int v4), (0, .ref (ad G b0)), (1, .int b1), (2, .ref (ad G b2)), (3, .int x3)]) S.1 S.2.1 dX6_hasFormIn_43 hl (k := 4) rfl (by rw [ev4]; rfl) (by decide) rfl (fun ls hl => ?_)
        refine lv_goto (tgt := 5) S.1 S.2.1 dX6_hasFormIn_46 (by decide) ?_
        exact ih _ _ h _ _ d _ (lv_sub hl [1, 2, 3, 4, 0] rfl)
      · replace h := it_p cc h
        refine lv_aload_n S.1 S.2.1 dX6_hasFormIn_24 rfl (lv_at hl 2 rfl) ?_
        refine lv_aload_n S.1 S.2.1 dX6_hasFormIn_25 rfl (lv_at hl 0 rfl) ?_
        refine gf_3_2 S d hb0 fl_RX6_18 dX6_hasFormIn_26 ?_
        refine lv_iload S.1 S.2.1 dX6_hasFormIn_29 (lv_at hl 4 rfl) ?_
        obtain ⟨g1, h⟩ := gd_e h
        refine r_iald S d (ksdC S (ch_3_2 hb0).1) (wc_10 (ch_3_2 hb0).1) (ch_3_2 hb0).2 g1 dX6_hasFormIn_31 ?_
        refine lv_iload_n S.1 S.2.1 dX6_hasFormIn_32 rfl (lv_at hl 3 rfl) ?_
        obtain ⟨u2, hu2, h⟩ := bd_e h
        refine r_ri d (r_cV (As := [.int (M (b0 + 1) x4.toNatClampNeg), .int x3]) (rest := []) S d (c_X6_placeBehind l G M L fu b2 (M (b0 + 1) x4.toNatClampNeg) x3 hb2 hu2) (ksdC S hb2) (wc_3 hb2) rfl ml_RX6_28 im_yX6_placeBehind se_yX6_placeBehind in_RX6 co_yX6_placeBehind hyV_X6_placeBehind ⟨rfl, rfl⟩ ⟨by decide, by decide⟩ rfl hl rfl (Nat.le_of_ble_eq_true rfl) dX6_hasFormIn_33 ⟨Nat.zero_le _, Nat.zero_le _⟩) (fun H locs d => ?_)
        refine lv_istore_n (lv' := [(3, .int u2), (0, .ref (ad G b0)), (1, .int b1), (2, .ref (ad G b2)), (4, .int x4)]) S.1 S.2.1 dX6_hasFormIn_36 rfl hl (by decide) rfl (fun ls hl => ?_)
        refine lv_iload_n S.1 S.2.1 dX6_hasFormIn_37 rfl (lv_at hl 0 rfl) ?_
        refine lv_if_ge (tgt := 43) S.1 S.2.1 dX6_hasFormIn_38 (by decide) (fun cc => ?_) (fun cc => ?_)
        · replace h := it_p cc h
          obtain ⟨v3, ev3, h⟩ := lt_e h
          refine lv_iinc (v := v3) (lv' := [(4, .int v3), (3, .int u2), (0, .ref (ad G b0)), (1, .int b1), (2, .ref (ad G b2))]) S.1 S.2.1 dX6_hasFormIn_43 hl (k := 4) rfl (by rw [ev3]; rfl) (by decide) rfl (fun ls hl => ?_)
          refine lv_goto (tgt := 5) S.1 S.2.1 dX6_hasFormIn_46 (by decide) ?_
          exact ih _ _ h _ _ d _ (lv_sub hl [2, 3, 4, 1, 0] rfl)
        · replace h := it_n cc h
          refine lv_iconst (v := 0) S.1 S.2.1 dX6_hasFormIn_41 (by decide) ?_
          obtain rfl := Option.some.inj h
          exact r_iret S d hr rfl rfl dX6_hasFormIn_42
set_option maxHeartbeats 4000000 in
set_option maxRecDepth 100000 in
theorem c_X6_hasFormIn (l : Launch) (G : Gx) (M : Mem) (L : MemL) (fu : Nat) (k0 : Nat) (a1 : Int32) (k2 : Nat) (hk0 : kd k0 = 3) (hk2 : kd k2 = 3) {z : Int32} (h : f_X6_hasFormIn fu M k0 a1 k2 = some z) : Met l yX6_hasFormIn (.code yX6_hasFormIn cX6_hasFormIn 5 (Option.some Jvm.ClassFile.FieldType.boolean) :: UW) rm_X6_hasFormIn (va_Pc [.ref (ad G k0), .int a1, .ref (ad G k2)] (PreG G false M L)) (Qi G z M L) 0 0 (gA G) := by
  refine r_in (by decide) (fun p e s m args below meth c S hr d ha ls hl => ?_) (Nat.le_of_ble_eq_true rfl)
  have S : Sx G false p s m args meth c cX6_hasFormIn 5 RX6 := S
  have hl : lv_has ls 5 [(0, .ref (ad G k0)), (1, .int a1), (2, .ref (ad G k2))] := hl
  unfold f_X6_hasFormIn at h
  refine lv_iconst (v := 0) S.1 S.2.1 dX6_hasFormIn_0 (by decide) ?_
  refine lv_istore_n (lv' := [(3, .int (0 : Int32)), (0, .ref (ad G k0)), (1, .int a1), (2, .ref (ad G k2))]) S.1 S.2.1 dX6_hasFormIn_1 rfl hl (by decide) rfl (fun ls hl => ?_)
  refine lv_iconst (v := 0) S.1 S.2.1 dX6_hasFormIn_2 (by decide) ?_
  refine lv_istore (lv' := [(4, .int (0 : Int32)), (3, .int (0 : Int32)), (0, .ref (ad G k0)), (1, .int a1), (2, .ref (ad G k2))]) S.1 S.2.1 dX6_hasFormIn_3 hl (by decide) rfl (fun ls hl => ?_)
  refine lc_X6_hasFormIn_5 S hr hk0 hk2 _ (fun _ H locs d ls hl h => ?_) _ _ _  h _ _ d _ (lv_sub hl [2, 3, 4, 1, 0] rfl)
  refine lv_iconst (v := 1) S.1 S.2.1 dX6_hasFormIn_49 (by decide) ?_
  obtain rfl := Option.some.inj h
  exact r_iret S d hr rfl rfl dX6_hasFormIn_50
theorem hyV_X0_isOwnForm : yX0_isOwnForm.cls = RX0 ∧ yX0_isOwnForm.cls ≠ "java/lang/invoke/MethodHandle" ∧ yX0_isOwnForm.cls ≠ "java/lang/invoke/VarHandle" ∧ (parseMethodDescriptor yX0_isOwnForm.desc).map (fun d => d.parameters.length) = some 2 := by decide +kernel
abbrev rm_X0_isOwnForm : Room := { frames := 2, cells := 0, slots := 0, locals := 47 }
def lp_X0_isOwnForm_2 (fu : Nat) (M : Mem) (b0 : Nat) (b1 : Nat) (b2 : Int32) (K : Unit → Option (Int32)) : Nat → Int32 → Option (Int32)
  | 0, _ => none
  | n + 1, x3 =>
    (if (M b0 4) ≤ x3 then (K ())
    else gd (inb x3 10) (
      (f_X6_isLike fu M b1 ((b0 + 3) + 21 + 2 * x3.toNatClampNeg)).bind (fun u2 =>
      (if u2 = 0 then gd (inb x3 10) (
        (f_X6_hasFormIn fu M b1 b2 ((b0 + 3) + 21 + 2 * x3.toNatClampNeg)).bind (fun u4 =>
        (if u4 = 0 then lt (x3 + 1) (fun v5 : Int32 =>
          (lp_X0_isOwnForm_2 fu M b0 b1 b2 K n v5))
        else some ((0 : Int32)))))
      else lt (x3 + 1) (fun v6 : Int32 =>
        (lp_X0_isOwnForm_2 fu M b0 b1 b2 K n v6))))))
def f_X0_isOwnForm (fu : Nat) (M : Mem) (k0 : Nat) (k1 : Nat) (a2 : Int32) : Option (Int32) :=
  (lp_X0_isOwnForm_2 fu M k0 k1 a2 (fun (_ : Unit) =>
    some ((1 : Int32))) fu (0 : Int32))
set_option maxHeartbeats 4000000 in
set_option maxRecDepth 100000 in
theorem lc_X0_isOwnForm_2 {p : Program} {l : Launch} {e : Env} {s : State} {m : MethodId} {args : Array Value} {below : List Frame} {meth : Method} {c : Code} {G : Gx} {M : Mem} {L : MemL} {fu : Nat} {b0 : Nat} {b1 : Nat} {b2 : Int32} {z : Int32} (S : Sx G false p s m args meth c cX0_isOwnForm 4 RX0) (hr : meth.sig.returnType = (Option.some Jvm.ClassFile.FieldType.boolean)) (hb0 : kd b0 = 1) (hb1 : kd b1 = 3) (K : Unit → Option (Int32)) (hK : ∀ (_ : Unit) (H : Heap) (locs : List Loc), Dy G s M L H locs → ∀ ls : Array Slot, lv_has ls 4 [] → K () = some z → W p l e rm_X0_isOwnForm s m args below meth c H locs 0 0 (MQ below (Qi G z M L) args s 0 0 (gA G)) (F0 m 45 ls [])) :
    ∀ (n : Nat) (x3 : Int32), lp_X0_isOwnForm_2 fu M b0 b1 b2 K n x3 = some z → ∀ (H : Heap) (locs : List Loc), Dy G s M L H locs → ∀ ls : Array Slot, lv_has ls 4 [(0, .ref (ad G b0)), (1, .ref (ad G b1)), (2, .int b2), (3, .int x3)] → W p l e rm_X0_isOwnForm s m args below meth c H locs 0 0 (MQ below (Qi G z M L) args s 0 0 (gA G)) (F0 m 2 ls []) := by
  intro n
  induction n with
  | zero =>
    intro x3 h
    have h : (none : Option (Int32)) = some z := h
    cases h
  | succ n ih =>
    intro x3 h H locs d ls hl
    rw [lp_X0_isOwnForm_2] at h
    refine lv_iload_n S.1 S.2.1 dX0_isOwnForm_2 rfl (lv_at hl 3 rfl) ?_
    refine lv_aload_n S.1 S.2.1 dX0_isOwnForm_3 rfl (lv_at hl 0 rfl) ?_
    refine gf_1_4 S d hb0 fl_RX0_34 dX0_isOwnForm_4 ?_
    refine lv_icmp_ge (tgt := 45) S.1 S.2.1 dX0_isOwnForm_7 (by decide) (fun cc => ?_) (fun cc => ?_)
    · replace h := it_p cc h
      exact hK () _ _ d _ (lv_sub hl [] rfl) h
    · replace h := it_n cc h
      refine lv_aload_n S.1 S.2.1 dX0_isOwnForm_10 rfl (lv_at hl 1 rfl) ?_
      refine lv_aload_n S.1 S.2.1 dX0_isOwnForm_11 rfl (lv_at hl 0 rfl) ?_
      refine gf_1_3 S d hb0 fl_RX0_30 dX0_isOwnForm_12 ?_
      refine lv_iload_n S.1 S.2.1 dX0_isOwnForm_15 rfl (lv_at hl 3 rfl) ?_
      obtain ⟨g1, h⟩ := gd_e h
      refine r_aald S d (ksdC S (ch_1_3 hb0).1) (wc_14 (ch_1_3 hb0).1) rfl rfl g1 (if_pos (inb_lt g1)) dX0_isOwnForm_16 ?_
      obtain ⟨u2, hu2, h⟩ := bd_e h
      refine r_ri d (r_cV (As := [.ref (ad G ((b0 + 3) + 21 + 2 * x3.toNatClampNeg))]) (rest := []) S d (c_X6_isLike l G M L fu b1 ((b0 + 3) + 21 + 2 * x3.toNatClampNeg) hb1 (ca_14 (ch_1_3 hb0).1 (inb_lt g1)).1 hu2) (ksdC S hb1) (wc_3 hb1) rfl ml_RX0_127 im_yX6_isLike se_yX6_isLike in_RX6 co_yX6_isLike hyV_X6_isLike ⟨rfl, rfl⟩ ⟨by decide, by decide⟩ rfl hl rfl (Nat.le_of_ble_eq_true rfl) dX0_isOwnForm_17 ⟨Nat.zero_le _, Nat.zero_le _⟩) (fun H locs d => ?_)
      refine lv_if_ne (tgt := 39) S.1 S.2.1 dX0_isOwnForm_20 (by decide) (fun cc => ?_) (fun cc => ?_)
      · replace h := it_n cc h
        obtain ⟨v6, ev6, h⟩ := lt_e h
        refine lv_iinc (v := v6) (lv' := [(3, .int v6), (0, .ref (ad G b0)), (1, .ref (ad G b1)), (2, .int b2)]) S.1 S.2.1 dX0_isOwnForm_39 hl (k := 3) rfl (by rw [ev6]; rfl) (by decide) rfl (fun ls hl => ?_)
        refine lv_goto (tgt := 2) S.1 S.2.1 dX0_isOwnForm_42 (by decide) ?_
        exact ih _ h _ _ d _ (lv_sub hl [1, 2, 3, 0] rfl)
      · replace h := it_p cc h
        refine lv_aload_n S.1 S.2.1 dX0_isOwnForm_23 rfl (lv_at hl 1 rfl) ?_
        refine lv_iload_n S.1 S.2.1 dX0_isOwnForm_24 rfl (lv_at hl 2 rfl) ?_
        refine lv_aload_n S.1 S.2.1 dX0_isOwnForm_25 rfl (lv_at hl 0 rfl) ?_
        refine gf_1_3 S d hb0 fl_RX0_30 dX0_isOwnForm_26 ?_
        refine lv_iload_n S.1 S.2.1 dX0_isOwnForm_29 rfl (lv_at hl 3 rfl) ?_
        obtain ⟨g3, h⟩ := gd_e h
        refine r_aald S d (ksdC S (ch_1_3 hb0).1) (wc_14 (ch_1_3 hb0).1) rfl rfl g3 (if_pos (inb_lt g3)) dX0_isOwnForm_30 ?_
        obtain ⟨u4, hu4, h⟩ := bd_e h
        refine r_ri d (r_cV (As := [.int b2, .ref (ad G ((b0 + 3) + 21 + 2 * x3.toNatClampNeg))]) (rest := []) S d (c_X6_hasFormIn l G M L fu b1 b2 ((b0 + 3) + 21 + 2 * x3.toNatClampNeg) hb1 (ca_14 (ch_1_3 hb0).1 (inb_lt g3)).1 hu4) (ksdC S hb1) (wc_3 hb1) rfl ml_RX0_131 im_yX6_hasFormIn se_yX6_hasFormIn in_RX6 co_yX6_hasFormIn hyV_X6_hasFormIn ⟨rfl, rfl⟩ ⟨by decide, by decide⟩ rfl hl rfl (Nat.le_of_ble_eq_true rfl) dX0_isOwnForm_31 ⟨Nat.zero_le _, Nat.zero_le _⟩) (fun H locs d => ?_)
        refine lv_if_eq (tgt := 39) S.1 S.2.1 dX0_isOwnForm_34 (by decide) (fun cc => ?_) (fun cc => ?_)
        · replace h := it_p cc h
          obtain ⟨v5, ev5, h⟩ := lt_e h
          refine lv_iinc (v := v5) (lv' := [(3, .int v5), (0, .ref (ad G b0)), (1, .ref (ad G b1)), (2, .int b2)]) S.1 S.2.1 dX0_isOwnForm_39 hl (k := 3) rfl (by rw [ev5]; rfl) (by decide) rfl (fun ls hl => ?_)
          refine lv_goto (tgt := 2) S.1 S.2.1 dX0_isOwnForm_42 (by decide) ?_
          exact ih _ h _ _ d _ (lv_sub hl [1, 2, 3, 0] rfl)
        · replace h := it_n cc h
          refine lv_iconst (v := 0) S.1 S.2.1 dX0_isOwnForm_37 (by decide) ?_
          obtain rfl := Option.some.inj h
          exact r_iret S d hr rfl rfl dX0_isOwnForm_38
set_option maxHeartbeats 4000000 in
set_option maxRecDepth 100000 in
theorem c_X0_isOwnForm (l : Launch) (G : Gx) (M : Mem) (L : MemL) (fu : Nat) (k0 : Nat) (k1 : Nat) (a2 : Int32) (hk0 : kd k0 = 1) (hk1 : kd k1 = 3) {z : Int32} (h : f_X0_isOwnForm fu M k0 k1 a2 = some z) : Met l yX0_isOwnForm (.code yX0_isOwnForm cX0_isOwnForm 4 (Option.some Jvm.ClassFile.FieldType.boolean) :: UW) rm_X0_isOwnForm (va_Pc [.ref (ad G k0), .ref (ad G k1), .int a2] (PreG G false M L)) (Qi G z M L) 0 0 (gA G) := by
  refine r_in (by decide) (fun p e s m args below meth c S hr d ha ls hl => ?_) (Nat.le_of_ble_eq_true rfl)
  have S : Sx G false p s m args meth c cX0_isOwnForm 4 RX0 := S
  have hl : lv_has ls 4 [(0, .ref (ad G k0)), (1, .ref (ad G k1)), (2, .int a2)] := hl
  unfold f_X0_isOwnForm at h
  refine lv_iconst (v := 0) S.1 S.2.1 dX0_isOwnForm_0 (by decide) ?_
  refine lv_istore_n (lv' := [(3, .int (0 : Int32)), (0, .ref (ad G k0)), (1, .ref (ad G k1)), (2, .int a2)]) S.1 S.2.1 dX0_isOwnForm_1 rfl hl (by decide) rfl (fun ls hl => ?_)
  refine lc_X0_isOwnForm_2 S hr hk0 hk1 _ (fun _ H locs d ls hl h => ?_) _ _  h _ _ d _ (lv_sub hl [1, 2, 3, 0] rfl)
  refine lv_iconst (v := 1) S.1 S.2.1 dX0_isOwnForm_45 (by decide) ?_
  obtain rfl := Option.some.inj h
  exact r_iret S d hr rfl rfl dX0_isOwnForm_46
theorem hyV_X7_brief : yX7_brief.cls = RX7 ∧ yX7_brief.cls ≠ "java/lang/invoke/MethodHandle" ∧ yX7_brief.cls ≠ "java/lang/invoke/VarHandle" ∧ (parseMethodDescriptor yX7_brief.desc).map (fun d => d.parameters.length) = some 1 := by decide +kernel
abbrev rm_X7_brief : Room := { frames := 3, cells := 0, slots := 0, locals := 70 }
def lp_X7_brief_35 (fu : Nat) (M : Mem) (b0 : Nat) (b1 : Int32) (b4 : Int32) (K : Int32 → Option (Int32)) : Nat → Int32 → Int32 → Int32 → Option (Int32)
  | 0, _, _, _ => none
  | n + 1, x2, x3, x5 =>
    (if b4 ≤ x5 then (K x2)
    else (f_J6_bitCount_0f7a4 x5).bind (fun u4 =>
      (if x3 ≤ u4 then lt (x5 + 1) (fun v10 : Int32 =>
        (lp_X7_brief_35 fu M b0 b1 b4 K n x2 x3 v10))
      else gd (inb b1 10) (
        (f_X0_isOwnForm fu M (b0 + 1) (((b0 + 1) + 3) + 21 + 2 * b1.toNatClampNeg) x5).bind (fun u6 =>
        (if u6 = 0 then lt (x5 + 1) (fun v9 : Int32 =>
          (lp_X7_brief_35 fu M b0 b1 b4 K n x2 x3 v9))
        else (f_J6_bitCount_0f7a4 x5).bind (fun u7 =>
          lt (x5 + 1) (fun v8 : Int32 =>
          (lp_X7_brief_35 fu M b0 b1 b4 K n x5 u7 v8)))))))))
def f_X7_brief (fu : Nat) (M : Mem) (k0 : Nat) (a1 : Int32) : Option (Int32) :=
  (f_X7_isWord M k0 a1).bind (fun u1 =>
  (if u1 = 0 then some ((-1 : Int32))
  else gd (inb a1 10) (
    lt (((1 : Int32) <<< ((M (((k0 + 1) + 3) + 21 + 2 * a1.toNatClampNeg) 0) &&& 31))) (fun v3 : Int32 =>
    (lp_X7_brief_35 fu M k0 a1 v3 (fun (v11 : Int32) =>
      some (v11)) fu (-4 : Int32) (7 : Int32) (1 : Int32))))))
set_option maxHeartbeats 4000000 in
set_option maxRecDepth 100000 in
theorem lc_X7_brief_35 {p : Program} {l : Launch} {e : Env} {s : State} {m : MethodId} {args : Array Value} {below : List Frame} {meth : Method} {c : Code} {G : Gx} {M : Mem} {L : MemL} {fu : Nat} {b0 : Nat} {b1 : Int32} {b4 : Int32} {z : Int32} (S : Sx G false p s m args meth c cX7_brief 6 RX7) (hr : meth.sig.returnType = (Option.some Jvm.ClassFile.FieldType.int)) (hb0 : kd b0 = 0) (K : Int32 → Option (Int32)) (hK : ∀ (y2 : Int32) (H : Heap) (locs : List Loc), Dy G s M L H locs → ∀ ls : Array Slot, lv_has ls 6 [(2, .int y2)] → K y2 = some z → W p l e rm_X7_brief s m args below meth c H locs 0 0 (MQ below (Qi G z M L) args s 0 0 (gA G)) (F0 m 87 ls [])) :
    ∀ (n : Nat) (x2 : Int32) (x3 : Int32) (x5 : Int32), lp_X7_brief_35 fu M b0 b1 b4 K n x2 x3 x5 = some z → ∀ (H : Heap) (locs : List Loc), Dy G s M L H locs → ∀ ls : Array Slot, lv_has ls 6 [(0, .ref (ad G b0)), (1, .int b1), (2, .int x2), (3, .int x3), (4, .int b4), (5, .int x5)] → W p l e rm_X7_brief s m args below meth c H locs 0 0 (MQ below (Qi G z M L) args s 0 0 (gA G)) (F0 m 35 ls []) := by
  intro n
  induction n with
  | zero =>
    intro x2 x3 x5 h
    have h : (none : Option (Int32)) = some z := h
    cases h
  | succ n ih =>
    intro x2 x3 x5 h H locs d ls hl
    rw [lp_X7_brief_35] at h
    refine lv_iload S.1 S.2.1 dX7_brief_35 (lv_at hl 5 rfl) ?_
    refine lv_iload S.1 S.2.1 dX7_brief_37 (lv_at hl 4 rfl) ?_
    refine lv_icmp_ge (tgt := 87) S.1 S.2.1 dX7_brief_39 (by decide) (fun cc => ?_) (fun cc => ?_)
    · replace h := it_p cc h
      exact hK _ _ _ d _ (lv_sub hl [2] rfl) h
    · replace h := it_n cc h
      refine lv_iload S.1 S.2.1 dX7_brief_42 (lv_at hl 5 rfl) ?_
      obtain ⟨u4, hu4, h⟩ := bd_e h
      refine r_ri d (r_cS (As := [.int x5]) (rest := []) S d (c_J6_bitCount_0f7a4 l G M L x5 hu4) ml_RX7_217 sm_yJ6_bitCount_0f7a4 in_RJ6 co_yJ6_bitCount_0f7a4 hyS_J6_bitCount_0f7a4 ⟨rfl, rfl⟩ ⟨by decide, by decide⟩ rfl hl rfl (Nat.le_of_ble_eq_true rfl) dX7_brief_44 ⟨Nat.zero_le _, Nat.zero_le _⟩) (fun H locs d => ?_)
      refine lv_iload_n S.1 S.2.1 dX7_brief_47 rfl (lv_at hl 3 rfl) ?_
      refine lv_icmp_ge (tgt := 81) S.1 S.2.1 dX7_brief_48 (by decide) (fun cc => ?_) (fun cc => ?_)
      · replace h := it_p cc h
        obtain ⟨v10, ev10, h⟩ := lt_e h
        refine lv_iinc (v := v10) (lv' := [(5, .int v10), (0, .ref (ad G b0)), (1, .int b1), (2, .int x2), (3, .int x3), (4, .int b4)]) S.1 S.2.1 dX7_brief_81 hl (k := 5) rfl (by rw [ev10]; rfl) (by decide) rfl (fun ls hl => ?_)
        refine lv_goto (tgt := 35) S.1 S.2.1 dX7_brief_84 (by decide) ?_
        exact ih _ _ _ h _ _ d _ (lv_sub hl [1, 2, 3, 4, 5, 0] rfl)
      · replace h := it_n cc h
        refine lv_aload_n S.1 S.2.1 dX7_brief_51 rfl (lv_at hl 0 rfl) ?_
        refine gf_0_0 S d hb0 fl_RX7_12 dX7_brief_52 ?_
        refine lv_aload_n S.1 S.2.1 dX7_brief_55 rfl (lv_at hl 0 rfl) ?_
        refine gf_0_0 S d hb0 fl_RX7_12 dX7_brief_56 ?_
        refine gf_1_3 S d (ch_0_0 hb0).1 fl_RX7_147 dX7_brief_59 ?_
        refine lv_iload_n S.1 S.2.1 dX7_brief_62 rfl (lv_at hl 1 rfl) ?_
        obtain ⟨g5, h⟩ := gd_e h
        refine r_aald S d (ksdC S (ch_1_3 (ch_0_0 hb0).1).1) (wc_14 (ch_1_3 (ch_0_0 hb0).1).1) rfl rfl g5 (if_pos (inb_lt g5)) dX7_brief_63 ?_
        refine lv_iload S.1 S.2.1 dX7_brief_64 (lv_at hl 5 rfl) ?_
        obtain ⟨u6, hu6, h⟩ := bd_e h
        refine r_ri d (r_cV (As := [.ref (ad G (((b0 + 1) + 3) + 21 + 2 * b1.toNatClampNeg)), .int x5]) (rest := []) S d (c_X0_isOwnForm l G M L fu (b0 + 1) (((b0 + 1) + 3) + 21 + 2 * b1.toNatClampNeg) x5 (ch_0_0 hb0).1 (ca_14 (ch_1_3 (ch_0_0 hb0).1).1 (inb_lt g5)).1 hu6) (ksdC S (ch_0_0 hb0).1) (wc_1 (ch_0_0 hb0).1) rfl ml_RX7_222 im_yX0_isOwnForm se_yX0_isOwnForm in_RX0 co_yX0_isOwnForm hyV_X0_isOwnForm ⟨rfl, rfl⟩ ⟨by decide, by decide⟩ rfl hl rfl (Nat.le_of_ble_eq_true rfl) dX7_brief_66 ⟨Nat.zero_le _, Nat.zero_le _⟩) (fun H locs d => ?_)
        refine lv_if_eq (tgt := 81) S.1 S.2.1 dX7_brief_69 (by decide) (fun cc => ?_) (fun cc => ?_)
        · replace h := it_p cc h
          obtain ⟨v9, ev9, h⟩ := lt_e h
          refine lv_iinc (v := v9) (lv' := [(5, .int v9), (0, .ref (ad G b0)), (1, .int b1), (2, .int x2), (3, .int x3), (4, .int b4)]) S.1 S.2.1 dX7_brief_81 hl (k := 5) rfl (by rw [ev9]; rfl) (by decide) rfl (fun ls hl => ?_)
          refine lv_goto (tgt := 35) S.1 S.2.1 dX7_brief_84 (by decide) ?_
          exact ih _ _ _ h _ _ d _ (lv_sub hl [1, 2, 3, 4, 5, 0] rfl)
        · replace h := it_n cc h
          refine lv_iload S.1 S.2.1 dX7_brief_72 (lv_at hl 5 rfl) ?_
          refine lv_istore_n (lv' := [(2, .int x5), (0, .ref (ad G b0)), (1, .int b1), (3, .int x3), (4, .int b4), (5, .int x5)]) S.1 S.2.1 dX7_brief_74 rfl hl (by decide) rfl (fun ls hl => ?_)
          refine lv_iload S.1 S.2.1 dX7_brief_75 (lv_at hl 5 rfl) ?_
          obtain ⟨u7, hu7, h⟩ := bd_e h
          refine r_ri d (r_cS (As := [.int x5]) (rest := []) S d (c_J6_bitCount_0f7a4 l G M L x5 hu7) ml_RX7_217 sm_yJ6_bitCount_0f7a4 in_RJ6 co_yJ6_bitCount_0f7a4 hyS_J6_bitCount_0f7a4 ⟨rfl, rfl⟩ ⟨by decide, by decide⟩ rfl hl rfl (Nat.le_of_ble_eq_true rfl) dX7_brief_77 ⟨Nat.zero_le _, Nat.zero_le _⟩) (fun H locs d => ?_)
          refine lv_istore_n (lv' := [(3, .int u7), (2, .int x5), (0, .ref (ad G b0)), (1, .int b1), (4, .int b4), (5, .int x5)]) S.1 S.2.1 dX7_brief_80 rfl hl (by decide) rfl (fun ls hl => ?_)
          obtain ⟨v8, ev8, h⟩ := lt_e h
          refine lv_iinc (v := v8) (lv' := [(5, .int v8), (3, .int u7), (2, .int x5), (0, .ref (ad G b0)), (1, .int b1), (4, .int b4)]) S.1 S.2.1 dX7_brief_81 hl (k := 5) rfl (by rw [ev8]; rfl) (by decide) rfl (fun ls hl => ?_)
          refine lv_goto (tgt := 35) S.1 S.2.1 dX7_brief_84 (by decide) ?_
          exact ih _ _ _ h _ _ d _ (lv_sub hl [3, 4, 2, 1, 5, 0] rfl)
set_option maxHeartbeats 4000000 in
set_option maxRecDepth 100000 in
theorem c_X7_brief (l : Launch) (G : Gx) (M : Mem) (L : MemL) (fu : Nat) (k0 : Nat) (a1 : Int32) (hk0 : kd k0 = 0) {z : Int32} (h : f_X7_brief fu M k0 a1 = some z) : Met l yX7_brief (.code yX7_brief cX7_brief 6 (Option.some Jvm.ClassFile.FieldType.int) :: UW) rm_X7_brief (va_Pc [.ref (ad G k0), .int a1] (PreG G false M L)) (Qi G z M L) 0 0 (gA G) := by
  refine r_in (by decide) (fun p e s m args below meth c S hr d ha ls hl => ?_) (Nat.le_of_ble_eq_true rfl)
  have S : Sx G false p s m args meth c cX7_brief 6 RX7 := S
  have hl : lv_has ls 6 [(0, .ref (ad G k0)), (1, .int a1)] := hl
  unfold f_X7_brief at h
  refine lv_aload_n S.1 S.2.1 dX7_brief_0 rfl (lv_at hl 0 rfl) ?_
  refine lv_iload_n S.1 S.2.1 dX7_brief_1 rfl (lv_at hl 1 rfl) ?_
  obtain ⟨u1, hu1, h⟩ := bd_e h
  refine r_ri d (r_cV (As := [.int a1]) (rest := []) S d (c_X7_isWord l G M L k0 a1 hk0 hu1) (ksdC S hk0) (wc_0 hk0) rfl ml_RX7_144 im_yX7_isWord se_yX7_isWord in_RX7 co_yX7_isWord hyV_X7_isWord ⟨rfl, rfl⟩ ⟨by decide, by decide⟩ rfl hl rfl (Nat.le_of_ble_eq_true rfl) dX7_brief_2 ⟨Nat.zero_le _, Nat.zero_le _⟩) (fun H locs d => ?_)
  refine lv_if_ne (tgt := 10) S.1 S.2.1 dX7_brief_5 (by decide) (fun cc => ?_) (fun cc => ?_)
  · replace h := it_n cc h
    refine lv_bipush (v := (-4)) S.1 S.2.1 dX7_brief_10 (by decide) ?_
    refine lv_istore_n (lv' := [(2, .int (-4 : Int32)), (0, .ref (ad G k0)), (1, .int a1)]) S.1 S.2.1 dX7_brief_12 rfl hl (by decide) rfl (fun ls hl => ?_)
    refine lv_bipush (v := 7) S.1 S.2.1 dX7_brief_13 (by decide) ?_
    refine lv_istore_n (lv' := [(3, .int (7 : Int32)), (2, .int (-4 : Int32)), (0, .ref (ad G k0)), (1, .int a1)]) S.1 S.2.1 dX7_brief_15 rfl hl (by decide) rfl (fun ls hl => ?_)
    refine lv_iconst (v := 1) S.1 S.2.1 dX7_brief_16 (by decide) ?_
    refine lv_aload_n S.1 S.2.1 dX7_brief_17 rfl (lv_at hl 2 rfl) ?_
    refine gf_0_0 S d hk0 fl_RX7_12 dX7_brief_18 ?_
    refine gf_1_3 S d (ch_0_0 hk0).1 fl_RX7_147 dX7_brief_21 ?_
    refine lv_iload_n S.1 S.2.1 dX7_brief_24 rfl (lv_at hl 3 rfl) ?_
    obtain ⟨g2, h⟩ := gd_e h
    refine r_aald S d (ksdC S (ch_1_3 (ch_0_0 hk0).1).1) (wc_14 (ch_1_3 (ch_0_0 hk0).1).1) rfl rfl g2 (if_pos (inb_lt g2)) dX7_brief_25 ?_
    refine gf_3_0 S d (ca_14 (ch_1_3 (ch_0_0 hk0).1).1 (inb_lt g2)).1 fl_RX7_155 dX7_brief_26 ?_
    refine lv_ishl S.1 S.2.1 dX7_brief_29 ?_
    obtain ⟨v3, ev3, h⟩ := lt_e h
    refine r_top ev3 ?_
    refine lv_istore (lv' := [(4, .int v3), (3, .int (7 : Int32)), (2, .int (-4 : Int32)), (0, .ref (ad G k0)), (1, .int a1)]) S.1 S.2.1 dX7_brief_30 hl (by decide) rfl (fun ls hl => ?_)
    refine lv_iconst (v := 1) S.1 S.2.1 dX7_brief_32 (by decide) ?_
    refine lv_istore (lv' := [(5, .int (1 : Int32)), (4, .int v3), (3, .int (7 : Int32)), (2, .int (-4 : Int32)), (0, .ref (ad G k0)), (1, .int a1)]) S.1 S.2.1 dX7_brief_33 hl (by decide) rfl (fun ls hl => ?_)
    refine lc_X7_brief_35 S hr hk0 _ (fun v11 H locs d ls hl h => ?_) _ _ _ _  h _ _ d _ (lv_sub hl [4, 5, 3, 2, 1, 0] rfl)
    refine lv_iload_n S.1 S.2.1 dX7_brief_87 rfl (lv_at hl 0 rfl) ?_
    obtain rfl := Option.some.inj h
    exact r_iret S d hr rfl rfl dX7_brief_88
  · replace h := it_p cc h
    refine lv_iconst (v := (-1)) S.1 S.2.1 dX7_brief_8 (by decide) ?_
    obtain rfl := Option.some.inj h
    exact r_iret S d hr rfl rfl dX7_brief_9
theorem hyV_X4_copyFrom : yX4_copyFrom.cls = RX4 ∧ yX4_copyFrom.cls ≠ "java/lang/invoke/MethodHandle" ∧ yX4_copyFrom.cls ≠ "java/lang/invoke/VarHandle" ∧ (parseMethodDescriptor yX4_copyFrom.desc).map (fun d => d.parameters.length) = some 1 := by decide +kernel
abbrev rm_X4_copyFrom : Room := { frames := 1, cells := 0, slots := 0, locals := 26 }
def f_X4_copyFrom (M : Mem) (k0 : Nat) (k1 : Nat) : Option (Mem) :=
  lt (up M k0 0 (M k1 0)) (fun M1 : Mem =>
  gd (decide (¬ (0 : Int32) < 0 ∧ ¬ (0 : Int32) < 0 ∧ ¬ (15 : Int32) < 0 ∧ (0 : Int32).toNatClampNeg + (15 : Int32).toNatClampNeg ≤ 15 ∧ (0 : Int32).toNatClampNeg + (15 : Int32).toNatClampNeg ≤ 15)) (
  lt (upR M1 (k0 + 1) (va_cpy (M1 (k1 + 1)) (M1 (k0 + 1)) (0 : Int32).toNatClampNeg (0 : Int32).toNatClampNeg (15 : Int32).toNatClampNeg)) (fun M2 : Mem =>
  some (M2))))
set_option maxHeartbeats 4000000 in
set_option maxRecDepth 100000 in
theorem c_X4_copyFrom (l : Launch) (G : Gx) (M : Mem) (L : MemL) (k0 : Nat) (k1 : Nat) (hk0 : kd k0 = 2) (hk1 : kd k1 = 2) {z : Mem} (h : f_X4_copyFrom M k0 k1 = some z) : Met l yX4_copyFrom (.code yX4_copyFrom cX4_copyFrom 2 (Option.none : Option Jvm.ClassFile.FieldType) :: UW) rm_X4_copyFrom (va_Pc [.ref (ad G k0), .ref (ad G k1)] (PreG G false M L)) (Qv G z L) 0 0 (gA G) := by
  refine r_in (by decide) (fun p e s m args below meth c S hr d ha ls hl => ?_) (Nat.le_of_ble_eq_true rfl)
  have S : Sx G false p s m args meth c cX4_copyFrom 2 RX4 := S
  have hl : lv_has ls 2 [(0, .ref (ad G k0)), (1, .ref (ad G k1))] := hl
  unfold f_X4_copyFrom at h
  refine lv_aload_n S.1 S.2.1 dX4_copyFrom_0 rfl (lv_at hl 0 rfl) ?_
  refine lv_aload_n S.1 S.2.1 dX4_copyFrom_1 rfl (lv_at hl 1 rfl) ?_
  refine gf_2_0 S d hk1 fl_RX4_9 dX4_copyFrom_2 ?_
  obtain ⟨M1, eM1, h⟩ := lt_e h
  refine pf_2_0 S d eM1 hk0 fl_RX4_9 dX4_copyFrom_5 (fun H locs d => ?_)
  refine lv_aload_n S.1 S.2.1 dX4_copyFrom_8 rfl (lv_at hl 1 rfl) ?_
  refine gf_2_1 S d hk1 fl_RX4_15 dX4_copyFrom_9 ?_
  refine lv_iconst (v := 0) S.1 S.2.1 dX4_copyFrom_12 (by decide) ?_
  refine lv_aload_n S.1 S.2.1 dX4_copyFrom_13 rfl (lv_at hl 0 rfl) ?_
  refine gf_2_1 S d hk0 fl_RX4_15 dX4_copyFrom_14 ?_
  refine lv_iconst (v := 0) S.1 S.2.1 dX4_copyFrom_17 (by decide) ?_
  refine lv_bipush (v := 15) S.1 S.2.1 dX4_copyFrom_18 (by decide) ?_
  obtain ⟨g3, h⟩ := gd_e h
  obtain ⟨M2, eM2, h⟩ := lt_e h
  refine r_cpy S d hl eM2 (ksdC S (ch_2_1 hk1).1) (ksdC S (ch_2_1 hk0).1) (fun _ => wc_10 (ch_2_1 hk1).1) (fun _ => wc_10 (ch_2_1 hk0).1) (ch_2_1 hk1).2 (ch_2_1 hk0).2 g3 ml_RX4_25 ⟨by decide, Nat.le_of_ble_eq_true rfl⟩ dX4_copyFrom_20 (fun H locs d => ?_)
  obtain rfl := Option.some.inj h
  exact r_vret S d hr dX4_copyFrom_23
theorem hyV_X0_copyFrom : yX0_copyFrom.cls = RX0 ∧ yX0_copyFrom.cls ≠ "java/lang/invoke/MethodHandle" ∧ yX0_copyFrom.cls ≠ "java/lang/invoke/VarHandle" ∧ (parseMethodDescriptor yX0_copyFrom.desc).map (fun d => d.parameters.length) = some 1 := by decide +kernel
abbrev rm_X0_copyFrom : Room := { frames := 2, cells := 0, slots := 0, locals := 47 }
def lp_X0_copyFrom_57 (fu : Nat) (b0 : Nat) (b1 : Nat) (K : Mem → Option (Mem)) : Nat → Int32 → Mem → Option (Mem)
  | 0, _, _ => none
  | n + 1, x2, Mx =>
    (if (9 : Int32) ≤ x2 then (K Mx)
    else gd (inb x2 9) (
      gd (inb x2 9) (
      (f_X4_copyFrom Mx ((b0 + 2) + 4 + 2 * x2.toNatClampNeg) ((b1 + 2) + 4 + 2 * x2.toNatClampNeg)).bind (fun u11 =>
      lt (x2 + 1) (fun v12 : Int32 =>
      (lp_X0_copyFrom_57 fu b0 b1 K n v12 u11))))))
def lp_X0_copyFrom_94 (fu : Nat) (b0 : Nat) (b1 : Nat) (K : Mem → Option (Mem)) : Nat → Int32 → Mem → Option (Mem)
  | 0, _, _ => none
  | n + 1, x2, Mx =>
    (if (10 : Int32) ≤ x2 then (K Mx)
    else gd (inb x2 10) (
      gd (inb x2 10) (
      (f_X6_copyFrom Mx ((b0 + 3) + 21 + 2 * x2.toNatClampNeg) ((b1 + 3) + 21 + 2 * x2.toNatClampNeg)).bind (fun u17 =>
      lt (x2 + 1) (fun v18 : Int32 =>
      (lp_X0_copyFrom_94 fu b0 b1 K n v18 u17))))))
def f_X0_copyFrom (fu : Nat) (M : Mem) (k0 : Nat) (k1 : Nat) : Option (Mem) :=
  gd (decide (¬ (0 : Int32) < 0 ∧ ¬ (0 : Int32) < 0 ∧ ¬ (4 : Int32) < 0 ∧ (0 : Int32).toNatClampNeg + (4 : Int32).toNatClampNeg ≤ 4 ∧ (0 : Int32).toNatClampNeg + (4 : Int32).toNatClampNeg ≤ 4)) (
  lt (upR M (k0 + 1) (va_cpy (M (k1 + 1)) (M (k0 + 1)) (0 : Int32).toNatClampNeg (0 : Int32).toNatClampNeg (4 : Int32).toNatClampNeg)) (fun M2 : Mem =>
  gd (decide (¬ (0 : Int32) < 0 ∧ ¬ (0 : Int32) < 0 ∧ ¬ (6 : Int32) < 0 ∧ (0 : Int32).toNatClampNeg + (6 : Int32).toNatClampNeg ≤ 6 ∧ (0 : Int32).toNatClampNeg + (6 : Int32).toNatClampNeg ≤ 6)) (
  lt (upR M2 (k0 + 4) (va_cpy (M2 (k1 + 4)) (M2 (k0 + 4)) (0 : Int32).toNatClampNeg (0 : Int32).toNatClampNeg (6 : Int32).toNatClampNeg)) (fun M4 : Mem =>
  gd (decide (¬ (0 : Int32) < 0 ∧ ¬ (0 : Int32) < 0 ∧ ¬ (6 : Int32) < 0 ∧ (0 : Int32).toNatClampNeg + (6 : Int32).toNatClampNeg ≤ 6 ∧ (0 : Int32).toNatClampNeg + (6 : Int32).toNatClampNeg ≤ 6)) (
  lt (upR M4 (k0 + 5) (va_cpy (M4 (k1 + 5)) (M4 (k0 + 5)) (0 : Int32).toNatClampNeg (0 : Int32).toNatClampNeg (6 : Int32).toNatClampNeg)) (fun M6 : Mem =>
  lt (up M6 k0 2 (M6 k1 2)) (fun M8 : Mem =>
  (lp_X0_copyFrom_57 fu k0 k1 (fun (M13 : Mem) =>
    lt (up M13 k0 4 (M13 k1 4)) (fun M14 : Mem =>
    (lp_X0_copyFrom_94 fu k0 k1 (fun (M19 : Mem) =>
      some (M19)) fu (0 : Int32) M14))) fu (0 : Int32) M8))))))))
set_option maxHeartbeats 4000000 in
set_option maxRecDepth 100000 in
theorem lc_X0_copyFrom_57 {p : Program} {l : Launch} {e : Env} {s : State} {m : MethodId} {args : Array Value} {below : List Frame} {meth : Method} {c : Code} {G : Gx} {L : MemL} {fu : Nat} {b0 : Nat} {b1 : Nat} {z : Mem} (S : Sx G false p s m args meth c cX0_copyFrom 3 RX0) (hr : meth.sig.returnType = (Option.none : Option Jvm.ClassFile.FieldType)) (hb0 : kd b0 = 1) (hb1 : kd b1 = 1) (K : Mem → Option (Mem)) (hK : ∀ (My : Mem) (H : Heap) (locs : List Loc), Dy G s My L H locs → ∀ ls : Array Slot, lv_has ls 3 [(0, .ref (ad G b0)), (1, .ref (ad G b1))] → K My = some z → W p l e rm_X0_copyFrom s m args below meth c H locs 0 0 (MQ below (Qv G z L) args s 0 0 (gA G)) (F0 m 84 ls [])) :
    ∀ (n : Nat) (x2 : Int32) (Mx : Mem), lp_X0_copyFrom_57 fu b0 b1 K n x2 Mx = some z → ∀ (H : Heap) (locs : List Loc), Dy G s Mx L H locs → ∀ ls : Array Slot, lv_has ls 3 [(0, .ref (ad G b0)), (1, .ref (ad G b1)), (2, .int x2)] → W p l e rm_X0_copyFrom s m args below meth c H locs 0 0 (MQ below (Qv G z L) args s 0 0 (gA G)) (F0 m 57 ls []) := by
  intro n
  induction n with
  | zero =>
    intro x2 Mx h
    have h : (none : Option (Mem)) = some z := h
    cases h
  | succ n ih =>
    intro x2 Mx h H locs d ls hl
    rw [lp_X0_copyFrom_57] at h
    refine lv_iload_n S.1 S.2.1 dX0_copyFrom_57 rfl (lv_at hl 2 rfl) ?_
    refine lv_bipush (v := 9) S.1 S.2.1 dX0_copyFrom_58 (by decide) ?_
    refine lv_icmp_ge (tgt := 84) S.1 S.2.1 dX0_copyFrom_60 (by decide) (fun cc => ?_) (fun cc => ?_)
    · replace h := it_p cc h
      exact hK _ _ _ d _ (lv_sub hl [0, 1] rfl) h
    · replace h := it_n cc h
      refine lv_aload_n S.1 S.2.1 dX0_copyFrom_63 rfl (lv_at hl 0 rfl) ?_
      refine gf_1_1 S d hb0 fl_RX0_20 dX0_copyFrom_64 ?_
      refine lv_iload_n S.1 S.2.1 dX0_copyFrom_67 rfl (lv_at hl 2 rfl) ?_
      obtain ⟨g9, h⟩ := gd_e h
      refine r_aald S d (ksdC S (ch_1_1 hb0).1) (wc_13 (ch_1_1 hb0).1) rfl rfl g9 (if_pos (inb_lt g9)) dX0_copyFrom_68 ?_
      refine lv_aload_n S.1 S.2.1 dX0_copyFrom_69 rfl (lv_at hl 1 rfl) ?_
      refine gf_1_1 S d hb1 fl_RX0_20 dX0_copyFrom_70 ?_
      refine lv_iload_n S.1 S.2.1 dX0_copyFrom_73 rfl (lv_at hl 2 rfl) ?_
      obtain ⟨g10, h⟩ := gd_e h
      refine r_aald S d (ksdC S (ch_1_1 hb1).1) (wc_13 (ch_1_1 hb1).1) rfl rfl g10 (if_pos (inb_lt g10)) dX0_copyFrom_74 ?_
      obtain ⟨u11, hu11, h⟩ := bd_e h
      refine r_rv d (r_cV (As := [.ref (ad G ((b1 + 2) + 4 + 2 * x2.toNatClampNeg))]) (rest := []) S d (c_X4_copyFrom l G Mx L ((b0 + 2) + 4 + 2 * x2.toNatClampNeg) ((b1 + 2) + 4 + 2 * x2.toNatClampNeg) (ca_13 (ch_1_1 hb0).1 (inb_lt g9)).1 (ca_13 (ch_1_1 hb1).1 (inb_lt g10)).1 hu11) (ksdC S (ca_13 (ch_1_1 hb0).1 (inb_lt g9)).1) (wc_2 (ca_13 (ch_1_1 hb0).1 (inb_lt g9)).1) rfl ml_RX0_51 im_yX4_copyFrom se_yX4_copyFrom in_RX4 co_yX4_copyFrom hyV_X4_copyFrom ⟨rfl, rfl⟩ ⟨by decide, by decide⟩ rfl hl rfl (Nat.le_of_ble_eq_true rfl) dX0_copyFrom_75 ⟨Nat.zero_le _, Nat.zero_le _⟩) (fun H locs d => ?_)
      obtain ⟨v12, ev12, h⟩ := lt_e h
      refine lv_iinc (v := v12) (lv' := [(2, .int v12), (0, .ref (ad G b0)), (1, .ref (ad G b1))]) S.1 S.2.1 dX0_copyFrom_78 hl (k := 2) rfl (by rw [ev12]; rfl) (by decide) rfl (fun ls hl => ?_)
      refine lv_goto (tgt := 57) S.1 S.2.1 dX0_copyFrom_81 (by decide) ?_
      exact ih _ _ h _ _ d _ (lv_sub hl [1, 2, 0] rfl)
set_option maxHeartbeats 4000000 in
set_option maxRecDepth 100000 in
theorem lc_X0_copyFrom_94 {p : Program} {l : Launch} {e : Env} {s : State} {m : MethodId} {args : Array Value} {below : List Frame} {meth : Method} {c : Code} {G : Gx} {L : MemL} {fu : Nat} {b0 : Nat} {b1 : Nat} {z : Mem} (S : Sx G false p s m args meth c cX0_copyFrom 3 RX0) (hr : meth.sig.returnType = (Option.none : Option Jvm.ClassFile.FieldType)) (hb0 : kd b0 = 1) (hb1 : kd b1 = 1) (K : Mem → Option (Mem)) (hK : ∀ (My : Mem) (H : Heap) (locs : List Loc), Dy G s My L H locs → ∀ ls : Array Slot, lv_has ls 3 [] → K My = some z → W p l e rm_X0_copyFrom s m args below meth c H locs 0 0 (MQ below (Qv G z L) args s 0 0 (gA G)) (F0 m 121 ls [])) :
    ∀ (n : Nat) (x2 : Int32) (Mx : Mem), lp_X0_copyFrom_94 fu b0 b1 K n x2 Mx = some z → ∀ (H : Heap) (locs : List Loc), Dy G s Mx L H locs → ∀ ls : Array Slot, lv_has ls 3 [(0, .ref (ad G b0)), (1, .ref (ad G b1)), (2, .int x2)] → W p l e rm_X0_copyFrom s m args below meth c H locs 0 0 (MQ below (Qv G z L) args s 0 0 (gA G)) (F0 m 94 ls []) := by
  intro n
  induction n with
  | zero =>
    intro x2 Mx h
    have h : (none : Option (Mem)) = some z := h
    cases h
  | succ n ih =>
    intro x2 Mx h H locs d ls hl
    rw [lp_X0_copyFrom_94] at h
    refine lv_iload_n S.1 S.2.1 dX0_copyFrom_94 rfl (lv_at hl 2 rfl) ?_
    refine lv_bipush (v := 10) S.1 S.2.1 dX0_copyFrom_95 (by decide) ?_
    refine lv_icmp_ge (tgt := 121) S.1 S.2.1 dX0_copyFrom_97 (by decide) (fun cc => ?_) (fun cc => ?_)
    · replace h := it_p cc h
      exact hK _ _ _ d _ (lv_sub hl [] rfl) h
    · replace h := it_n cc h
      refine lv_aload_n S.1 S.2.1 dX0_copyFrom_100 rfl (lv_at hl 0 rfl) ?_
      refine gf_1_3 S d hb0 fl_RX0_30 dX0_copyFrom_101 ?_
      refine lv_iload_n S.1 S.2.1 dX0_copyFrom_104 rfl (lv_at hl 2 rfl) ?_
      obtain ⟨g15, h⟩ := gd_e h
      refine r_aald S d (ksdC S (ch_1_3 hb0).1) (wc_14 (ch_1_3 hb0).1) rfl rfl g15 (if_pos (inb_lt g15)) dX0_copyFrom_105 ?_
      refine lv_aload_n S.1 S.2.1 dX0_copyFrom_106 rfl (lv_at hl 1 rfl) ?_
      refine gf_1_3 S d hb1 fl_RX0_30 dX0_copyFrom_107 ?_
      refine lv_iload_n S.1 S.2.1 dX0_copyFrom_110 rfl (lv_at hl 2 rfl) ?_
      obtain ⟨g16, h⟩ := gd_e h
      refine r_aald S d (ksdC S (ch_1_3 hb1).1) (wc_14 (ch_1_3 hb1).1) rfl rfl g16 (if_pos (inb_lt g16)) dX0_copyFrom_111 ?_
      obtain ⟨u17, hu17, h⟩ := bd_e h
      refine r_rv d (r_cV (As := [.ref (ad G ((b1 + 3) + 21 + 2 * x2.toNatClampNeg))]) (rest := []) S d (c_X6_copyFrom l G Mx L ((b0 + 3) + 21 + 2 * x2.toNatClampNeg) ((b1 + 3) + 21 + 2 * x2.toNatClampNeg) (ca_14 (ch_1_3 hb0).1 (inb_lt g15)).1 (ca_14 (ch_1_3 hb1).1 (inb_lt g16)).1 hu17) (ksdC S (ca_14 (ch_1_3 hb0).1 (inb_lt g15)).1) (wc_3 (ca_14 (ch_1_3 hb0).1 (inb_lt g15)).1) rfl ml_RX0_55 im_yX6_copyFrom se_yX6_copyFrom in_RX6 co_yX6_copyFrom hyV_X6_copyFrom ⟨rfl, rfl⟩ ⟨by decide, by decide⟩ rfl hl rfl (Nat.le_of_ble_eq_true rfl) dX0_copyFrom_112 ⟨Nat.zero_le _, Nat.zero_le _⟩) (fun H locs d => ?_)
      obtain ⟨v18, ev18, h⟩ := lt_e h
      refine lv_iinc (v := v18) (lv' := [(2, .int v18), (0, .ref (ad G b0)), (1, .ref (ad G b1))]) S.1 S.2.1 dX0_copyFrom_115 hl (k := 2) rfl (by rw [ev18]; rfl) (by decide) rfl (fun ls hl => ?_)
      refine lv_goto (tgt := 94) S.1 S.2.1 dX0_copyFrom_118 (by decide) ?_
      exact ih _ _ h _ _ d _ (lv_sub hl [1, 2, 0] rfl)
set_option maxHeartbeats 4000000 in
set_option maxRecDepth 100000 in
theorem c_X0_copyFrom (l : Launch) (G : Gx) (M : Mem) (L : MemL) (fu : Nat) (k0 : Nat) (k1 : Nat) (hk0 : kd k0 = 1) (hk1 : kd k1 = 1) {z : Mem} (h : f_X0_copyFrom fu M k0 k1 = some z) : Met l yX0_copyFrom (.code yX0_copyFrom cX0_copyFrom 3 (Option.none : Option Jvm.ClassFile.FieldType) :: UW) rm_X0_copyFrom (va_Pc [.ref (ad G k0), .ref (ad G k1)] (PreG G false M L)) (Qv G z L) 0 0 (gA G) := by
  refine r_in (by decide) (fun p e s m args below meth c S hr d ha ls hl => ?_) (Nat.le_of_ble_eq_true rfl)
  have S : Sx G false p s m args meth c cX0_copyFrom 3 RX0 := S
  have hl : lv_has ls 3 [(0, .ref (ad G k0)), (1, .ref (ad G k1))] := hl
  unfold f_X0_copyFrom at h
  refine lv_aload_n S.1 S.2.1 dX0_copyFrom_0 rfl (lv_at hl 1 rfl) ?_
  refine gf_1_0 S d hk1 fl_RX0_13 dX0_copyFrom_1 ?_
  refine lv_iconst (v := 0) S.1 S.2.1 dX0_copyFrom_4 (by decide) ?_
  refine lv_aload_n S.1 S.2.1 dX0_copyFrom_5 rfl (lv_at hl 0 rfl) ?_
  refine gf_1_0 S d hk0 fl_RX0_13 dX0_copyFrom_6 ?_
  refine lv_iconst (v := 0) S.1 S.2.1 dX0_copyFrom_9 (by decide) ?_
  refine r_gst S d S.2.2.2.2.2.2.2.1.2.2.1 (Or.inr ⟨_, va_Nw.use rfl (nv_RX0_9 S.2.2.2.2.2.2.2.1.2.2.2)⟩) dX0_copyFrom_10 (fun t1 ht1 => ?_)
  refine r_tlen S d ht1 (v := 4) rfl dX0_copyFrom_13 ?_
  obtain ⟨g3, h⟩ := gd_e h
  obtain ⟨M2, eM2, h⟩ := lt_e h
  refine r_cpy S d hl eM2 (ksdC S (ch_1_0 hk1).1) (ksdC S (ch_1_0 hk0).1) (fun _ => wc_10 (ch_1_0 hk1).1) (fun _ => wc_10 (ch_1_0 hk0).1) (ch_1_0 hk1).2 (ch_1_0 hk0).2 g3 ml_RX0_43 ⟨by decide, Nat.le_of_ble_eq_true rfl⟩ dX0_copyFrom_14 (fun H locs d => ?_)
  refine lv_aload_n S.1 S.2.1 dX0_copyFrom_17 rfl (lv_at hl 1 rfl) ?_
  refine gf_1_5 S d hk1 fl_RX0_37 dX0_copyFrom_18 ?_
  refine lv_iconst (v := 0) S.1 S.2.1 dX0_copyFrom_21 (by decide) ?_
  refine lv_aload_n S.1 S.2.1 dX0_copyFrom_22 rfl (lv_at hl 0 rfl) ?_
  refine gf_1_5 S d hk0 fl_RX0_37 dX0_copyFrom_23 ?_
  refine lv_iconst (v := 0) S.1 S.2.1 dX0_copyFrom_26 (by decide) ?_
  refine lv_bipush (v := 6) S.1 S.2.1 dX0_copyFrom_27 (by decide) ?_
  obtain ⟨g5, h⟩ := gd_e h
  obtain ⟨M4, eM4, h⟩ := lt_e h
  refine r_cpy S d hl eM4 (ksdC S (ch_1_5 hk1).1) (ksdC S (ch_1_5 hk0).1) (fun _ => wc_10 (ch_1_5 hk1).1) (fun _ => wc_10 (ch_1_5 hk0).1) (ch_1_5 hk1).2 (ch_1_5 hk0).2 g5 ml_RX0_43 ⟨by decide, Nat.le_of_ble_eq_true rfl⟩ dX0_copyFrom_29 (fun H locs d => ?_)
  refine lv_aload_n S.1 S.2.1 dX0_copyFrom_32 rfl (lv_at hl 1 rfl) ?_
  refine gf_1_6 S d hk1 fl_RX0_40 dX0_copyFrom_33 ?_
  refine lv_iconst (v := 0) S.1 S.2.1 dX0_copyFrom_36 (by decide) ?_
  refine lv_aload_n S.1 S.2.1 dX0_copyFrom_37 rfl (lv_at hl 0 rfl) ?_
  refine gf_1_6 S d hk0 fl_RX0_40 dX0_copyFrom_38 ?_
  refine lv_iconst (v := 0) S.1 S.2.1 dX0_copyFrom_41 (by decide) ?_
  refine lv_bipush (v := 6) S.1 S.2.1 dX0_copyFrom_42 (by decide) ?_
  obtain ⟨g7, h⟩ := gd_e h
  obtain ⟨M6, eM6, h⟩ := lt_e h
  refine r_cpy S d hl eM6 (ksdC S (ch_1_6 hk1).1) (ksdC S (ch_1_6 hk0).1) (fun _ => wc_10 (ch_1_6 hk1).1) (fun _ => wc_10 (ch_1_6 hk0).1) (ch_1_6 hk1).2 (ch_1_6 hk0).2 g7 ml_RX0_43 ⟨by decide, Nat.le_of_ble_eq_true rfl⟩ dX0_copyFrom_44 (fun H locs d => ?_)
  refine lv_aload_n S.1 S.2.1 dX0_copyFrom_47 rfl (lv_at hl 0 rfl) ?_
  refine lv_aload_n S.1 S.2.1 dX0_copyFrom_48 rfl (lv_at hl 1 rfl) ?_
  refine gf_1_2 S d hk1 fl_RX0_24 dX0_copyFrom_49 ?_
  obtain ⟨M8, eM8, h⟩ := lt_e h
  refine pf_1_2 S d eM8 hk0 fl_RX0_24 dX0_copyFrom_52 (fun H locs d => ?_)
  refine lv_iconst (v := 0) S.1 S.2.1 dX0_copyFrom_55 (by decide) ?_
  refine lv_istore_n (lv' := [(2, .int (0 : Int32)), (0, .ref (ad G k0)), (1, .ref (ad G k1))]) S.1 S.2.1 dX0_copyFrom_56 rfl hl (by decide) rfl (fun ls hl => ?_)
  refine lc_X0_copyFrom_57 S hr hk0 hk1 _ (fun M13 H locs d ls hl h => ?_) _ _ _  h _ _ d _ (lv_sub hl [1, 2, 0] rfl)
  refine lv_aload_n S.1 S.2.1 dX0_copyFrom_84 rfl (lv_at hl 0 rfl) ?_
  refine lv_aload_n S.1 S.2.1 dX0_copyFrom_85 rfl (lv_at hl 1 rfl) ?_
  refine gf_1_4 S d hk1 fl_RX0_34 dX0_copyFrom_86 ?_
  obtain ⟨M14, eM14, h⟩ := lt_e h
  refine pf_1_4 S d eM14 hk0 fl_RX0_34 dX0_copyFrom_89 (fun H locs d => ?_)
  refine lv_iconst (v := 0) S.1 S.2.1 dX0_copyFrom_92 (by decide) ?_
  refine lv_istore_n (lv' := [(2, .int (0 : Int32)), (0, .ref (ad G k0)), (1, .ref (ad G k1))]) S.1 S.2.1 dX0_copyFrom_93 rfl hl (by decide) rfl (fun ls hl => ?_)
  refine lc_X0_copyFrom_94 S hr hk0 hk1 _ (fun M19 H locs d ls hl h => ?_) _ _ _  h _ _ d _ (lv_sub hl [1, 2, 0] rfl)
  obtain rfl := Option.some.inj h
  exact r_vret S d hr dX0_copyFrom_121
theorem hyV_X7_image : yX7_image.cls = RX7 ∧ yX7_image.cls ≠ "java/lang/invoke/MethodHandle" ∧ yX7_image.cls ≠ "java/lang/invoke/VarHandle" ∧ (parseMethodDescriptor yX7_image.desc).map (fun d => d.parameters.length) = some 0 := by decide +kernel
abbrev rm_X7_image : Room := { frames := 3, cells := 0, slots := 0, locals := 69 }
def f_X7_image (fu : Nat) (M : Mem) (k0 : Nat) : Option (Int32 × Mem) :=
  (f_X0_copyFrom fu M (k0 + 45) (k0 + 1)).bind (fun u1 =>
  lt (up u1 k0 2 (1 : Int32)) (fun M2 : Mem =>
  some ((1 : Int32), M2)))
set_option maxHeartbeats 4000000 in
set_option maxRecDepth 100000 in
theorem c_X7_image (l : Launch) (G : Gx) (M : Mem) (L : MemL) (fu : Nat) (k0 : Nat) (hk0 : kd k0 = 0) {z : Int32 × Mem} (h : f_X7_image fu M k0 = some z) : Met l yX7_image (.code yX7_image cX7_image 1 (Option.some Jvm.ClassFile.FieldType.int) :: UW) rm_X7_image (va_Pc [.ref (ad G k0)] (PreG G false M L)) (Qi G z.1 z.2 L) 0 0 (gA G) := by
  refine r_in (by decide) (fun p e s m args below meth c S hr d ha ls hl => ?_) (Nat.le_of_ble_eq_true rfl)
  have S : Sx G false p s m args meth c cX7_image 1 RX7 := S
  have hl : lv_has ls 1 [(0, .ref (ad G k0))] := hl
  unfold f_X7_image at h
  refine lv_aload_n S.1 S.2.1 dX7_image_0 rfl (lv_at hl 0 rfl) ?_
  refine gf_0_1 S d hk0 fl_RX7_16 dX7_image_1 ?_
  refine lv_aload_n S.1 S.2.1 dX7_image_4 rfl (lv_at hl 0 rfl) ?_
  refine gf_0_0 S d hk0 fl_RX7_12 dX7_image_5 ?_
  obtain ⟨u1, hu1, h⟩ := bd_e h
  refine r_rv d (r_cV (As := [.ref (ad G (k0 + 1))]) (rest := []) S d (c_X0_copyFrom l G M L fu (k0 + 45) (k0 + 1) (ch_0_1 hk0).1 (ch_0_0 hk0).1 hu1) (ksdC S (ch_0_1 hk0).1) (wc_1 (ch_0_1 hk0).1) rfl ml_RX7_225 im_yX0_copyFrom se_yX0_copyFrom in_RX0 co_yX0_copyFrom hyV_X0_copyFrom ⟨rfl, rfl⟩ ⟨by decide, by decide⟩ rfl hl rfl (Nat.le_of_ble_eq_true rfl) dX7_image_8 ⟨Nat.zero_le _, Nat.zero_le _⟩) (fun H locs d => ?_)
  refine lv_aload_n S.1 S.2.1 dX7_image_11 rfl (lv_at hl 0 rfl) ?_
  refine lv_iconst (v := 1) S.1 S.2.1 dX7_image_12 (by decide) ?_
  obtain ⟨M2, eM2, h⟩ := lt_e h
  refine pf_0_2 S d eM2 (by decide) hk0 fl_RX7_19 dX7_image_13 (fun H locs d => ?_)
  refine lv_iconst (v := 1) S.1 S.2.1 dX7_image_16 (by decide) ?_
  obtain rfl := Option.some.inj h
  exact r_iret S d hr rfl rfl dX7_image_17
theorem hyV_X7_restore : yX7_restore.cls = RX7 ∧ yX7_restore.cls ≠ "java/lang/invoke/MethodHandle" ∧ yX7_restore.cls ≠ "java/lang/invoke/VarHandle" ∧ (parseMethodDescriptor yX7_restore.desc).map (fun d => d.parameters.length) = some 0 := by decide +kernel
abbrev rm_X7_restore : Room := { frames := 3, cells := 0, slots := 0, locals := 69 }
def f_X7_restore (fu : Nat) (M : Mem) (k0 : Nat) : Option (Int32 × Mem) :=
  (if (M k0 2) = 0 then some ((-4 : Int32), M)
  else (f_X0_copyFrom fu M (k0 + 1) (k0 + 45)).bind (fun u1 =>
    some ((1 : Int32), u1)))
set_option maxHeartbeats 4000000 in
set_option maxRecDepth 100000 in
theorem c_X7_restore (l : Launch) (G : Gx) (M : Mem) (L : MemL) (fu : Nat) (k0 : Nat) (hk0 : kd k0 = 0) {z : Int32 × Mem} (h : f_X7_restore fu M k0 = some z) : Met l yX7_restore (.code yX7_restore cX7_restore 1 (Option.some Jvm.ClassFile.FieldType.int) :: UW) rm_X7_restore (va_Pc [.ref (ad G k0)] (PreG G false M L)) (Qi G z.1 z.2 L) 0 0 (gA G) := by
  refine r_in (by decide) (fun p e s m args below meth c S hr d ha ls hl => ?_) (Nat.le_of_ble_eq_true rfl)
  have S : Sx G false p s m args meth c cX7_restore 1 RX7 := S
  have hl : lv_has ls 1 [(0, .ref (ad G k0))] := hl
  unfold f_X7_restore at h
  refine lv_aload_n S.1 S.2.1 dX7_restore_0 rfl (lv_at hl 0 rfl) ?_
  refine gf_0_2 S d hk0 fl_RX7_19 dX7_restore_1 ?_
  refine lv_if_ne (tgt := 10) S.1 S.2.1 dX7_restore_4 (by decide) (fun cc => ?_) (fun cc => ?_)
  · replace h := it_n cc h
    refine lv_aload_n S.1 S.2.1 dX7_restore_10 rfl (lv_at hl 0 rfl) ?_
    refine gf_0_0 S d hk0 fl_RX7_12 dX7_restore_11 ?_
    refine lv_aload_n S.1 S.2.1 dX7_restore_14 rfl (lv_at hl 0 rfl) ?_
    refine gf_0_1 S d hk0 fl_RX7_16 dX7_restore_15 ?_
    obtain ⟨u1, hu1, h⟩ := bd_e h
    refine r_rv d (r_cV (As := [.ref (ad G (k0 + 45))]) (rest := []) S d (c_X0_copyFrom l G M L fu (k0 + 1) (k0 + 45) (ch_0_0 hk0).1 (ch_0_1 hk0).1 hu1) (ksdC S (ch_0_0 hk0).1) (wc_1 (ch_0_0 hk0).1) rfl ml_RX7_225 im_yX0_copyFrom se_yX0_copyFrom in_RX0 co_yX0_copyFrom hyV_X0_copyFrom ⟨rfl, rfl⟩ ⟨by decide, by decide⟩ rfl hl rfl (Nat.le_of_ble_eq_true rfl) dX7_restore_18 ⟨Nat.zero_le _, Nat.zero_le _⟩) (fun H locs d => ?_)
    refine lv_iconst (v := 1) S.1 S.2.1 dX7_restore_21 (by decide) ?_
    obtain rfl := Option.some.inj h
    exact r_iret S d hr rfl rfl dX7_restore_22
  · replace h := it_p cc h
    refine lv_bipush (v := (-4)) S.1 S.2.1 dX7_restore_7 (by decide) ?_
    obtain rfl := Option.some.inj h
    exact r_iret S d hr rfl rfl dX7_restore_9
theorem hyS_X7_isSheet : yX7_isSheet.cls ≠ "java/lang/invoke/MethodHandle" ∧ yX7_isSheet.cls ≠ "java/lang/invoke/VarHandle" ∧ (parseMethodDescriptor yX7_isSheet.desc).map (fun d => d.parameters.length) = some 2 := by decide +kernel
abbrev rm_X7_isSheet : Room := { frames := 1, cells := 0, slots := 0, locals := 21 }
def f_X7_isSheet (a0 : Int32) (a1 : Int32) : Option (Int32) :=
  (f_X7_isBelow a0 (4 : Int32)).bind (fun u1 =>
  (if u1 = 0 then some ((0 : Int32))
  else (f_X7_isBelow a1 (3 : Int32)).bind (fun u2 =>
    (if u2 = 0 then some ((0 : Int32))
    else some ((1 : Int32))))))
set_option maxHeartbeats 4000000 in
set_option maxRecDepth 100000 in
theorem c_X7_isSheet (l : Launch) (G : Gx) (M : Mem) (L : MemL) (a0 : Int32) (a1 : Int32) {z : Int32} (h : f_X7_isSheet a0 a1 = some z) : Met l yX7_isSheet (.code yX7_isSheet cX7_isSheet 2 (Option.some Jvm.ClassFile.FieldType.boolean) :: UW) rm_X7_isSheet (va_Pc [.int a0, .int a1] (PreG G false M L)) (Qi G z M L) 0 0 (gA G) := by
  refine r_in (by decide) (fun p e s m args below meth c S hr d ha ls hl => ?_) (Nat.le_of_ble_eq_true rfl)
  have S : Sx G false p s m args meth c cX7_isSheet 2 RX7 := S
  have hl : lv_has ls 2 [(0, .int a0), (1, .int a1)] := hl
  unfold f_X7_isSheet at h
  refine lv_iload_n S.1 S.2.1 dX7_isSheet_0 rfl (lv_at hl 0 rfl) ?_
  refine lv_iconst (v := 4) S.1 S.2.1 dX7_isSheet_1 (by decide) ?_
  obtain ⟨u1, hu1, h⟩ := bd_e h
  refine r_ri d (r_cS (As := [.int a0, .int (4 : Int32)]) (rest := []) S d (c_X7_isBelow l G M L a0 (4 : Int32) hu1) ml_RX7_51 sm_yX7_isBelow in_RX7 co_yX7_isBelow hyS_X7_isBelow ⟨rfl, rfl⟩ ⟨by decide, by decide⟩ rfl hl rfl (Nat.le_of_ble_eq_true rfl) dX7_isSheet_2 ⟨Nat.zero_le _, Nat.zero_le _⟩) (fun H locs d => ?_)
  refine lv_if_eq (tgt := 20) S.1 S.2.1 dX7_isSheet_5 (by decide) (fun cc => ?_) (fun cc => ?_)
  · replace h := it_p cc h
    refine lv_iconst (v := 0) S.1 S.2.1 dX7_isSheet_20 (by decide) ?_
    obtain rfl := Option.some.inj h
    exact r_iret S d hr rfl rfl dX7_isSheet_21
  · replace h := it_n cc h
    refine lv_iload_n S.1 S.2.1 dX7_isSheet_8 rfl (lv_at hl 1 rfl) ?_
    refine lv_iconst (v := 3) S.1 S.2.1 dX7_isSheet_9 (by decide) ?_
    obtain ⟨u2, hu2, h⟩ := bd_e h
    refine r_ri d (r_cS (As := [.int a1, .int (3 : Int32)]) (rest := []) S d (c_X7_isBelow l G M L a1 (3 : Int32) hu2) ml_RX7_51 sm_yX7_isBelow in_RX7 co_yX7_isBelow hyS_X7_isBelow ⟨rfl, rfl⟩ ⟨by decide, by decide⟩ rfl hl rfl (Nat.le_of_ble_eq_true rfl) dX7_isSheet_10 ⟨Nat.zero_le _, Nat.zero_le _⟩) (fun H locs d => ?_)
    refine lv_if_eq (tgt := 20) S.1 S.2.1 dX7_isSheet_13 (by decide) (fun cc => ?_) (fun cc => ?_)
    · replace h := it_p cc h
      refine lv_iconst (v := 0) S.1 S.2.1 dX7_isSheet_20 (by decide) ?_
      obtain rfl := Option.some.inj h
      exact r_iret S d hr rfl rfl dX7_isSheet_21
    · replace h := it_n cc h
      refine lv_iconst (v := 1) S.1 S.2.1 dX7_isSheet_16 (by decide) ?_
      refine lv_goto (tgt := 21) S.1 S.2.1 dX7_isSheet_17 (by decide) ?_
      obtain rfl := Option.some.inj h
      exact r_iret S d hr rfl rfl dX7_isSheet_21
theorem hyV_X3_refusal : yX3_refusal.cls = RX3 ∧ yX3_refusal.cls ≠ "java/lang/invoke/MethodHandle" ∧ yX3_refusal.cls ≠ "java/lang/invoke/VarHandle" ∧ (parseMethodDescriptor yX3_refusal.desc).map (fun d => d.parameters.length) = some 3 := by decide +kernel
abbrev rm_X3_refusal : Room := { frames := 0, cells := 0, slots := 0, locals := 0 }
def f_X3_refusal (M : Mem) (k0 : Nat) (a1 : Int32) (a2 : Int32) (a3 : Int32) : Option (Int32) :=
  (if (M k0 0) = (-1 : Int32) then some ((-11 : Int32))
  else (if (M k0 0) = a1 then (if a2 < 0 then some ((-13 : Int32))
      else (if a2 ≤ ((M k0 1) - a3) then some ((0 : Int32))
        else some ((-13 : Int32))))
    else some ((-12 : Int32))))
set_option maxHeartbeats 4000000 in
set_option maxRecDepth 100000 in
theorem c_X3_refusal (l : Launch) (G : Gx) (M : Mem) (L : MemL) (k0 : Nat) (a1 : Int32) (a2 : Int32) (a3 : Int32) (hk0 : kd k0 = 7) {z : Int32} (h : f_X3_refusal M k0 a1 a2 a3 = some z) : Met l yX3_refusal (.code yX3_refusal cX3_refusal 4 (Option.some Jvm.ClassFile.FieldType.int) :: UW) rm_X3_refusal (va_Pc [.ref (ad G k0), .int a1, .int a2, .int a3] (PreG G false M L)) (Qi G z M L) 0 0 (gA G) := by
  refine r_in (by decide) (fun p e s m args below meth c S hr d ha ls hl => ?_) (Nat.le_of_ble_eq_true rfl)
  have S : Sx G false p s m args meth c cX3_refusal 4 RX3 := S
  have hl : lv_has ls 4 [(0, .ref (ad G k0)), (1, .int a1), (2, .int a2), (3, .int a3)] := hl
  unfold f_X3_refusal at h
  refine lv_aload_n S.1 S.2.1 dX3_refusal_0 rfl (lv_at hl 0 rfl) ?_
  refine gf_7_0 S d hk0 fl_RX3_9 dX3_refusal_1 ?_
  refine lv_iconst (v := (-1)) S.1 S.2.1 dX3_refusal_4 (by decide) ?_
  refine lv_icmp_ne (tgt := 11) S.1 S.2.1 dX3_refusal_5 (by decide) (fun cc => ?_) (fun cc => ?_)
  · replace h := it_n cc h
    refine lv_aload_n S.1 S.2.1 dX3_refusal_11 rfl (lv_at hl 0 rfl) ?_
    refine gf_7_0 S d hk0 fl_RX3_9 dX3_refusal_12 ?_
    refine lv_iload_n S.1 S.2.1 dX3_refusal_15 rfl (lv_at hl 1 rfl) ?_
    refine lv_icmp_eq (tgt := 22) S.1 S.2.1 dX3_refusal_16 (by decide) (fun cc => ?_) (fun cc => ?_)
    · replace h := it_p cc h
      refine lv_iload_n S.1 S.2.1 dX3_refusal_22 rfl (lv_at hl 2 rfl) ?_
      refine lv_if_lt (tgt := 36) S.1 S.2.1 dX3_refusal_23 (by decide) (fun cc => ?_) (fun cc => ?_)
      · replace h := it_p cc h
        refine lv_bipush (v := (-13)) S.1 S.2.1 dX3_refusal_36 (by decide) ?_
        refine lv_goto (tgt := 42) S.1 S.2.1 dX3_refusal_38 (by decide) ?_
        obtain rfl := Option.some.inj h
        exact r_iret S d hr rfl rfl dX3_refusal_42
      · replace h := it_n cc h
        refine lv_iload_n S.1 S.2.1 dX3_refusal_26 rfl (lv_at hl 2 rfl) ?_
        refine lv_aload_n S.1 S.2.1 dX3_refusal_27 rfl (lv_at hl 0 rfl) ?_
        refine gf_7_1 S d hk0 fl_RX3_15 dX3_refusal_28 ?_
        refine lv_iload_n S.1 S.2.1 dX3_refusal_31 rfl (lv_at hl 3 rfl) ?_
        refine lv_isub S.1 S.2.1 dX3_refusal_32 ?_
        refine lv_icmp_le (tgt := 41) S.1 S.2.1 dX3_refusal_33 (by decide) (fun cc => ?_) (fun cc => ?_)
        · replace h := it_p cc h
          refine lv_iconst (v := 0) S.1 S.2.1 dX3_refusal_41 (by decide) ?_
          obtain rfl := Option.some.inj h
          exact r_iret S d hr rfl rfl dX3_refusal_42
        · replace h := it_n cc h
          refine lv_bipush (v := (-13)) S.1 S.2.1 dX3_refusal_36 (by decide) ?_
          refine lv_goto (tgt := 42) S.1 S.2.1 dX3_refusal_38 (by decide) ?_
          obtain rfl := Option.some.inj h
          exact r_iret S d hr rfl rfl dX3_refusal_42
    · replace h := it_n cc h
      refine lv_bipush (v := (-12)) S.1 S.2.1 dX3_refusal_19 (by decide) ?_
      obtain rfl := Option.some.inj h
      exact r_iret S d hr rfl rfl dX3_refusal_21
  · replace h := it_p cc h
    refine lv_bipush (v := (-11)) S.1 S.2.1 dX3_refusal_8 (by decide) ?_
    obtain rfl := Option.some.inj h
    exact r_iret S d hr rfl rfl dX3_refusal_10
theorem hyV_X3_holdsGrass : yX3_holdsGrass.cls = RX3 ∧ yX3_holdsGrass.cls ≠ "java/lang/invoke/MethodHandle" ∧ yX3_holdsGrass.cls ≠ "java/lang/invoke/VarHandle" ∧ (parseMethodDescriptor yX3_holdsGrass.desc).map (fun d => d.parameters.length) = some 1 := by decide +kernel
abbrev rm_X3_holdsGrass : Room := { frames := 0, cells := 0, slots := 0, locals := 0 }
def lp_X3_holdsGrass_2 (fu : Nat) (M : Mem) (b0 : Nat) (b1 : Int32) (K : Unit → Option (Int32)) : Nat → Int32 → Option (Int32)
  | 0, _ => none
  | n + 1, x2 =>
    (if (b1 + (15 : Int32)) ≤ x2 then (K ())
    else gd (inb x2 24) (
      (if (M (b0 + 1) x2.toNatClampNeg) < 0 then some ((0 : Int32))
      else gd (inb x2 24) (
        (if (M (b0 + 1) x2.toNatClampNeg) ≤ (9 : Int32) then lt (x2 + 1) (fun v3 : Int32 =>
          (lp_X3_holdsGrass_2 fu M b0 b1 K n v3))
        else some ((0 : Int32)))))))
def f_X3_holdsGrass (fu : Nat) (M : Mem) (k0 : Nat) (a1 : Int32) : Option (Int32) :=
  (lp_X3_holdsGrass_2 fu M k0 a1 (fun (_ : Unit) =>
    some ((1 : Int32))) fu a1)
set_option maxHeartbeats 4000000 in
set_option maxRecDepth 100000 in
theorem lc_X3_holdsGrass_2 {p : Program} {l : Launch} {e : Env} {s : State} {m : MethodId} {args : Array Value} {below : List Frame} {meth : Method} {c : Code} {G : Gx} {M : Mem} {L : MemL} {fu : Nat} {b0 : Nat} {b1 : Int32} {z : Int32} (S : Sx G false p s m args meth c cX3_holdsGrass 3 RX3) (hr : meth.sig.returnType = (Option.some Jvm.ClassFile.FieldType.boolean)) (hb0 : kd b0 = 7) (K : Unit → Option (Int32)) (hK : ∀ (_ : Unit) (H : Heap) (locs : List Loc), Dy G s M L H locs → ∀ ls : Array Slot, lv_has ls 3 [] → K () = some z → W p l e rm_X3_holdsGrass s m args below meth c H locs 0 0 (MQ below (Qi G z M L) args s 0 0 (gA G)) (F0 m 38 ls [])) :
    ∀ (n : Nat) (x2 : Int32), lp_X3_holdsGrass_2 fu M b0 b1 K n x2 = some z → ∀ (H : Heap) (locs : List Loc), Dy G s M L H locs → ∀ ls : Array Slot, lv_has ls 3 [(0, .ref (ad G b0)), (1, .int b1), (2, .int x2)] → W p l e rm_X3_holdsGrass s m args below meth c H locs 0 0 (MQ below (Qi G z M L) args s 0 0 (gA G)) (F0 m 2 ls []) := by
  intro n
  induction n with
  | zero =>
    intro x2 h
    have h : (none : Option (Int32)) = some z := h
    cases h
  | succ n ih =>
    intro x2 h H locs d ls hl
    rw [lp_X3_holdsGrass_2] at h
    refine lv_iload_n S.1 S.2.1 dX3_holdsGrass_2 rfl (lv_at hl 2 rfl) ?_
    refine lv_iload_n S.1 S.2.1 dX3_holdsGrass_3 rfl (lv_at hl 1 rfl) ?_
    refine lv_bipush (v := 15) S.1 S.2.1 dX3_holdsGrass_4 (by decide) ?_
    refine lv_iadd S.1 S.2.1 dX3_holdsGrass_6 ?_
    refine lv_icmp_ge (tgt := 38) S.1 S.2.1 dX3_holdsGrass_7 (by decide) (fun cc => ?_) (fun cc => ?_)
    · replace h := it_p cc h
      exact hK () _ _ d _ (lv_sub hl [] rfl) h
    · replace h := it_n cc h
      refine lv_aload_n S.1 S.2.1 dX3_holdsGrass_10 rfl (lv_at hl 0 rfl) ?_
      refine gf_7_2 S d hb0 fl_RX3_18 dX3_holdsGrass_11 ?_
      refine lv_iload_n S.1 S.2.1 dX3_holdsGrass_14 rfl (lv_at hl 2 rfl) ?_
      obtain ⟨g1, h⟩ := gd_e h
      refine r_iald S d (ksdC S (ch_7_2 hb0).1) (wc_10 (ch_7_2 hb0).1) (ch_7_2 hb0).2 g1 dX3_holdsGrass_15 ?_
      refine lv_if_lt (tgt := 30) S.1 S.2.1 dX3_holdsGrass_16 (by decide) (fun cc => ?_) (fun cc => ?_)
      · replace h := it_p cc h
        refine lv_iconst (v := 0) S.1 S.2.1 dX3_holdsGrass_30 (by decide) ?_
        obtain rfl := Option.some.inj h
        exact r_iret S d hr rfl rfl dX3_holdsGrass_31
      · replace h := it_n cc h
        refine lv_aload_n S.1 S.2.1 dX3_holdsGrass_19 rfl (lv_at hl 0 rfl) ?_
        refine gf_7_2 S d hb0 fl_RX3_18 dX3_holdsGrass_20 ?_
        refine lv_iload_n S.1 S.2.1 dX3_holdsGrass_23 rfl (lv_at hl 2 rfl) ?_
        obtain ⟨g2, h⟩ := gd_e h
        refine r_iald S d (ksdC S (ch_7_2 hb0).1) (wc_10 (ch_7_2 hb0).1) (ch_7_2 hb0).2 g2 dX3_holdsGrass_24 ?_
        refine lv_bipush (v := 9) S.1 S.2.1 dX3_holdsGrass_25 (by decide) ?_
        refine lv_icmp_le (tgt := 32) S.1 S.2.1 dX3_holdsGrass_27 (by decide) (fun cc => ?_) (fun cc => ?_)
        · replace h := it_p cc h
          obtain ⟨v3, ev3, h⟩ := lt_e h
          refine lv_iinc (v := v3) (lv' := [(2, .int v3), (0, .ref (ad G b0)), (1, .int b1)]) S.1 S.2.1 dX3_holdsGrass_32 hl (k := 2) rfl (by rw [ev3]; rfl) (by decide) rfl (fun ls hl => ?_)
          refine lv_goto (tgt := 2) S.1 S.2.1 dX3_holdsGrass_35 (by decide) ?_
          exact ih _ h _ _ d _ (lv_sub hl [1, 2, 0] rfl)
        · replace h := it_n cc h
          refine lv_iconst (v := 0) S.1 S.2.1 dX3_holdsGrass_30 (by decide) ?_
          obtain rfl := Option.some.inj h
          exact r_iret S d hr rfl rfl dX3_holdsGrass_31
set_option maxHeartbeats 4000000 in
set_option maxRecDepth 100000 in
theorem c_X3_holdsGrass (l : Launch) (G : Gx) (M : Mem) (L : MemL) (fu : Nat) (k0 : Nat) (a1 : Int32) (hk0 : kd k0 = 7) {z : Int32} (h : f_X3_holdsGrass fu M k0 a1 = some z) : Met l yX3_holdsGrass (.code yX3_holdsGrass cX3_holdsGrass 3 (Option.some Jvm.ClassFile.FieldType.boolean) :: UW) rm_X3_holdsGrass (va_Pc [.ref (ad G k0), .int a1] (PreG G false M L)) (Qi G z M L) 0 0 (gA G) := by
  refine r_in (by decide) (fun p e s m args below meth c S hr d ha ls hl => ?_) (Nat.le_of_ble_eq_true rfl)
  have S : Sx G false p s m args meth c cX3_holdsGrass 3 RX3 := S
  have hl : lv_has ls 3 [(0, .ref (ad G k0)), (1, .int a1)] := hl
  unfold f_X3_holdsGrass at h
  refine lv_iload_n S.1 S.2.1 dX3_holdsGrass_0 rfl (lv_at hl 1 rfl) ?_
  refine lv_istore_n (lv' := [(2, .int a1), (0, .ref (ad G k0)), (1, .int a1)]) S.1 S.2.1 dX3_holdsGrass_1 rfl hl (by decide) rfl (fun ls hl => ?_)
  refine lc_X3_holdsGrass_2 S hr hk0 _ (fun _ H locs d ls hl h => ?_) _ _  h _ _ d _ (lv_sub hl [1, 2, 0] rfl)
  refine lv_iconst (v := 1) S.1 S.2.1 dX3_holdsGrass_38 (by decide) ?_
  obtain rfl := Option.some.inj h
  exact r_iret S d hr rfl rfl dX3_holdsGrass_39
theorem hyV_X4_sowFrom : yX4_sowFrom.cls = RX4 ∧ yX4_sowFrom.cls ≠ "java/lang/invoke/MethodHandle" ∧ yX4_sowFrom.cls ≠ "java/lang/invoke/VarHandle" ∧ (parseMethodDescriptor yX4_sowFrom.desc).map (fun d => d.parameters.length) = some 2 := by decide +kernel
abbrev rm_X4_sowFrom : Room := { frames := 1, cells := 0, slots := 0, locals := 26 }
def f_X4_sowFrom (fu : Nat) (M : Mem) (k0 : Nat) (k1 : Nat) (a2 : Int32) : Option (Int32 × Mem) :=
  gd (decide (¬ a2 < 0 ∧ ¬ (0 : Int32) < 0 ∧ ¬ (15 : Int32) < 0 ∧ a2.toNatClampNeg + (15 : Int32).toNatClampNeg ≤ (ln k1) ∧ (0 : Int32).toNatClampNeg + (15 : Int32).toNatClampNeg ≤ 15)) (
  lt (upR M (k0 + 1) (va_cpy (M k1) (M (k0 + 1)) a2.toNatClampNeg (0 : Int32).toNatClampNeg (15 : Int32).toNatClampNeg)) (fun M1 : Mem =>
  (f_X4_grassOf fu M1 k0 (32767 : Int32)).bind (fun u3 =>
  some (u3, M1))))
set_option maxHeartbeats 4000000 in
set_option maxRecDepth 100000 in
theorem c_X4_sowFrom (l : Launch) (G : Gx) (M : Mem) (L : MemL) (fu : Nat) (k0 : Nat) (k1 : Nat) (a2 : Int32) (hk0 : kd k0 = 2) (hk1 : kd k1 = 10) {z : Int32 × Mem} (h : f_X4_sowFrom fu M k0 k1 a2 = some z) : Met l yX4_sowFrom (.code yX4_sowFrom cX4_sowFrom 3 (Option.some Jvm.ClassFile.FieldType.int) :: UW) rm_X4_sowFrom (va_Pc [.ref (ad G k0), .ref (ad G k1), .int a2] (PreG G false M L)) (Qi G z.1 z.2 L) 0 0 (gA G) := by
  refine r_in (by decide) (fun p e s m args below meth c S hr d ha ls hl => ?_) (Nat.le_of_ble_eq_true rfl)
  have S : Sx G false p s m args meth c cX4_sowFrom 3 RX4 := S
  have hl : lv_has ls 3 [(0, .ref (ad G k0)), (1, .ref (ad G k1)), (2, .int a2)] := hl
  unfold f_X4_sowFrom at h
  refine lv_aload_n S.1 S.2.1 dX4_sowFrom_0 rfl (lv_at hl 1 rfl) ?_
  refine lv_iload_n S.1 S.2.1 dX4_sowFrom_1 rfl (lv_at hl 2 rfl) ?_
  refine lv_aload_n S.1 S.2.1 dX4_sowFrom_2 rfl (lv_at hl 0 rfl) ?_
  refine gf_2_1 S d hk0 fl_RX4_15 dX4_sowFrom_3 ?_
  refine lv_iconst (v := 0) S.1 S.2.1 dX4_sowFrom_6 (by decide) ?_
  refine lv_bipush (v := 15) S.1 S.2.1 dX4_sowFrom_7 (by decide) ?_
  obtain ⟨g2, h⟩ := gd_e h
  obtain ⟨M1, eM1, h⟩ := lt_e h
  refine r_cpy S d hl eM1 (ksdC S hk1) (ksdC S (ch_2_1 hk0).1) (fun _ => wc_10 hk1) (fun _ => wc_10 (ch_2_1 hk0).1) rfl (ch_2_1 hk0).2 g2 ml_RX4_25 ⟨by decide, Nat.le_of_ble_eq_true rfl⟩ dX4_sowFrom_9 (fun H locs d => ?_)
  refine lv_aload_n S.1 S.2.1 dX4_sowFrom_12 rfl (lv_at hl 0 rfl) ?_
  refine lv_sipush (v := 32767) S.1 S.2.1 dX4_sowFrom_13 (by decide) ?_
  obtain ⟨u3, hu3, h⟩ := bd_e h
  refine r_ri d (r_cV (As := [.int (32767 : Int32)]) (rest := []) S d (c_X4_grassOf l G M1 L fu k0 (32767 : Int32) hk0 hu3) (ksdC S hk0) (wc_2 hk0) rfl ml_RX4_45 im_yX4_grassOf se_yX4_grassOf in_RX4 co_yX4_grassOf hyV_X4_grassOf ⟨rfl, rfl⟩ ⟨by decide, by decide⟩ rfl hl rfl (Nat.le_of_ble_eq_true rfl) dX4_sowFrom_16 ⟨Nat.zero_le _, Nat.zero_le _⟩) (fun H locs d => ?_)
  obtain rfl := Option.some.inj h
  exact r_iret S d hr rfl rfl dX4_sowFrom_19
theorem hyV_X7_sow : yX7_sow.cls = RX7 ∧ yX7_sow.cls ≠ "java/lang/invoke/MethodHandle" ∧ yX7_sow.cls ≠ "java/lang/invoke/VarHandle" ∧ (parseMethodDescriptor yX7_sow.desc).map (fun d => d.parameters.length) = some 4 := by decide +kernel
abbrev rm_X7_sow : Room := { frames := 2, cells := 0, slots := 0, locals := 48 }
def f_X7_sow (fu : Nat) (M : Mem) (k0 : Nat) (a1 : Int32) (a2 : Int32) (a3 : Int32) (a4 : Int32) : Option (Int32 × Mem) :=
  (f_X7_isStrip M k0 a1).bind (fun u1 =>
  (if u1 = 0 then some ((-1 : Int32), M)
  else (f_X7_isSheet a2 a3).bind (fun u2 =>
    (if u2 = 0 then some ((-1 : Int32), M)
    else gd (inb a2 4) (
      lt (((k0 + 170) + 1 + 2 * a2.toNatClampNeg)) (fun r4 : Nat =>
      (f_X3_refusal M r4 a3 a4 (15 : Int32)).bind (fun u5 =>
      (if u5 = 0 then (f_X3_holdsGrass fu M r4 a4).bind (fun u6 =>
        (if u6 = 0 then some ((-2 : Int32), M)
        else gd (inb a1 9) (
          (f_X4_sowFrom fu M (((k0 + 1) + 2) + 4 + 2 * a1.toNatClampNeg) (r4 + 1) a4).bind (fun u8 =>
          some (u8.1, u8.2)))))
      else some (u5, M)))))))))
set_option maxHeartbeats 4000000 in
set_option maxRecDepth 100000 in
theorem c_X7_sow (l : Launch) (G : Gx) (M : Mem) (L : MemL) (fu : Nat) (k0 : Nat) (a1 : Int32) (a2 : Int32) (a3 : Int32) (a4 : Int32) (hk0 : kd k0 = 0) {z : Int32 × Mem} (h : f_X7_sow fu M k0 a1 a2 a3 a4 = some z) : Met l yX7_sow (.code yX7_sow cX7_sow 7 (Option.some Jvm.ClassFile.FieldType.int) :: UW) rm_X7_sow (va_Pc [.ref (ad G k0), .int a1, .int a2, .int a3, .int a4] (PreG G false M L)) (Qi G z.1 z.2 L) 0 0 (gA G) := by
  refine r_in (by decide) (fun p e s m args below meth c S hr d ha ls hl => ?_) (Nat.le_of_ble_eq_true rfl)
  have S : Sx G false p s m args meth c cX7_sow 7 RX7 := S
  have hl : lv_has ls 7 [(0, .ref (ad G k0)), (1, .int a1), (2, .int a2), (3, .int a3), (4, .int a4)] := hl
  unfold f_X7_sow at h
  refine lv_aload_n S.1 S.2.1 dX7_sow_0 rfl (lv_at hl 0 rfl) ?_
  refine lv_iload_n S.1 S.2.1 dX7_sow_1 rfl (lv_at hl 1 rfl) ?_
  obtain ⟨u1, hu1, h⟩ := bd_e h
  refine r_ri d (r_cV (As := [.int a1]) (rest := []) S d (c_X7_isStrip l G M L k0 a1 hk0 hu1) (ksdC S hk0) (wc_0 hk0) rfl ml_RX7_70 im_yX7_isStrip se_yX7_isStrip in_RX7 co_yX7_isStrip hyV_X7_isStrip ⟨rfl, rfl⟩ ⟨by decide, by decide⟩ rfl hl rfl (Nat.le_of_ble_eq_true rfl) dX7_sow_2 ⟨Nat.zero_le _, Nat.zero_le _⟩) (fun H locs d => ?_)
  refine lv_if_eq (tgt := 16) S.1 S.2.1 dX7_sow_5 (by decide) (fun cc => ?_) (fun cc => ?_)
  · replace h := it_p cc h
    refine lv_iconst (v := (-1)) S.1 S.2.1 dX7_sow_16 (by decide) ?_
    obtain rfl := Option.some.inj h
    exact r_iret S d hr rfl rfl dX7_sow_17
  · replace h := it_n cc h
    refine lv_iload_n S.1 S.2.1 dX7_sow_8 rfl (lv_at hl 2 rfl) ?_
    refine lv_iload_n S.1 S.2.1 dX7_sow_9 rfl (lv_at hl 3 rfl) ?_
    obtain ⟨u2, hu2, h⟩ := bd_e h
    refine r_ri d (r_cS (As := [.int a2, .int a3]) (rest := []) S d (c_X7_isSheet l G M L a2 a3 hu2) ml_RX7_228 sm_yX7_isSheet in_RX7 co_yX7_isSheet hyS_X7_isSheet ⟨rfl, rfl⟩ ⟨by decide, by decide⟩ rfl hl rfl (Nat.le_of_ble_eq_true rfl) dX7_sow_10 ⟨Nat.zero_le _, Nat.zero_le _⟩) (fun H locs d => ?_)
    refine lv_if_ne (tgt := 18) S.1 S.2.1 dX7_sow_13 (by decide) (fun cc => ?_) (fun cc => ?_)
    · replace h := it_n cc h
      refine lv_aload_n S.1 S.2.1 dX7_sow_18 rfl (lv_at hl 0 rfl) ?_
      refine gf_0_6 S d hk0 fl_RX7_46 dX7_sow_19 ?_
      refine lv_iload_n S.1 S.2.1 dX7_sow_22 rfl (lv_at hl 2 rfl) ?_
      obtain ⟨g3, h⟩ := gd_e h
      refine r_aald S d (ksdC S (ch_0_6 hk0).1) (wc_17 (ch_0_6 hk0).1) rfl rfl g3 (if_pos (inb_lt g3)) dX7_sow_23 ?_
      obtain ⟨r4, er4, h⟩ := lt_e h
      refine r_topr er4 ?_
      have hkr4 : kd r4 = 7 := by rw [er4]; exact (ca_17 (ch_0_6 hk0).1 (inb_lt g3)).1
      refine lv_astore (lv' := [(5, .ref (ad G r4)), (0, .ref (ad G k0)), (1, .int a1), (2, .int a2), (3, .int a3), (4, .int a4)]) S.1 S.2.1 dX7_sow_24 hl (by decide) rfl (fun ls hl => ?_)
      refine lv_aload S.1 S.2.1 dX7_sow_26 (lv_at hl 0 rfl) ?_
      refine lv_iload_n S.1 S.2.1 dX7_sow_28 rfl (lv_at hl 4 rfl) ?_
      refine lv_iload S.1 S.2.1 dX7_sow_29 (lv_at hl 5 rfl) ?_
      refine lv_bipush (v := 15) S.1 S.2.1 dX7_sow_31 (by decide) ?_
      obtain ⟨u5, hu5, h⟩ := bd_e h
      refine r_ri d (r_cV (As := [.int a3, .int a4, .int (15 : Int32)]) (rest := []) S d (c_X3_refusal l G M L r4 a3 a4 (15 : Int32) hkr4 hu5) (ksdC S hkr4) (wc_7 hkr4) rfl ml_RX7_231 im_yX3_refusal se_yX3_refusal in_RX3 co_yX3_refusal hyV_X3_refusal ⟨rfl, rfl⟩ ⟨by decide, by decide⟩ rfl hl rfl (Nat.le_of_ble_eq_true rfl) dX7_sow_33 ⟨Nat.zero_le _, Nat.zero_le _⟩) (fun H locs d => ?_)
      refine lv_istore (lv' := [(6, .int u5), (5, .ref (ad G r4)), (0, .ref (ad G k0)), (1, .int a1), (2, .int a2), (3, .int a3), (4, .int a4)]) S.1 S.2.1 dX7_sow_36 hl (by decide) rfl (fun ls hl => ?_)
      refine lv_iload S.1 S.2.1 dX7_sow_38 (lv_at hl 0 rfl) ?_
      refine lv_if_eq (tgt := 46) S.1 S.2.1 dX7_sow_40 (by decide) (fun cc => ?_) (fun cc => ?_)
      · replace h := it_p cc h
        refine lv_aload S.1 S.2.1 dX7_sow_46 (lv_at hl 1 rfl) ?_
        refine lv_iload S.1 S.2.1 dX7_sow_48 (lv_at hl 6 rfl) ?_
        obtain ⟨u6, hu6, h⟩ := bd_e h
        refine r_ri d (r_cV (As := [.int a4]) (rest := []) S d (c_X3_holdsGrass l G M L fu r4 a4 hkr4 hu6) (ksdC S hkr4) (wc_7 hkr4) rfl ml_RX7_234 im_yX3_holdsGrass se_yX3_holdsGrass in_RX3 co_yX3_holdsGrass hyV_X3_holdsGrass ⟨rfl, rfl⟩ ⟨by decide, by decide⟩ rfl hl rfl (Nat.le_of_ble_eq_true rfl) dX7_sow_50 ⟨Nat.zero_le _, Nat.zero_le _⟩) (fun H locs d => ?_)
        refine lv_if_eq (tgt := 78) S.1 S.2.1 dX7_sow_53 (by decide) (fun cc => ?_) (fun cc => ?_)
        · replace h := it_p cc h
          refine lv_bipush (v := (-2)) S.1 S.2.1 dX7_sow_78 (by decide) ?_
          obtain rfl := Option.some.inj h
          exact r_iret S d hr rfl rfl dX7_sow_80
        · replace h := it_n cc h
          refine lv_aload_n S.1 S.2.1 dX7_sow_56 rfl (lv_at hl 2 rfl) ?_
          refine gf_0_0 S d hk0 fl_RX7_12 dX7_sow_57 ?_
          refine gf_1_1 S d (ch_0_0 hk0).1 fl_RX7_74 dX7_sow_60 ?_
          refine lv_iload_n S.1 S.2.1 dX7_sow_63 rfl (lv_at hl 3 rfl) ?_
          obtain ⟨g7, h⟩ := gd_e h
          refine r_aald S d (ksdC S (ch_1_1 (ch_0_0 hk0).1).1) (wc_13 (ch_1_1 (ch_0_0 hk0).1).1) rfl rfl g7 (if_pos (inb_lt g7)) dX7_sow_64 ?_
          refine lv_aload S.1 S.2.1 dX7_sow_65 (lv_at hl 1 rfl) ?_
          refine gf_7_2 S d hkr4 fl_RX7_237 dX7_sow_67 ?_
          refine lv_iload S.1 S.2.1 dX7_sow_70 (lv_at hl 6 rfl) ?_
          obtain ⟨u8, hu8, h⟩ := bd_e h
          refine r_ri d (r_cV (As := [.ref (ad G (r4 + 1)), .int a4]) (rest := []) S d (c_X4_sowFrom l G M L fu (((k0 + 1) + 2) + 4 + 2 * a1.toNatClampNeg) (r4 + 1) a4 (ca_13 (ch_1_1 (ch_0_0 hk0).1).1 (inb_lt g7)).1 (ch_7_2 hkr4).1 hu8) (ksdC S (ca_13 (ch_1_1 (ch_0_0 hk0).1).1 (inb_lt g7)).1) (wc_2 (ca_13 (ch_1_1 (ch_0_0 hk0).1).1 (inb_lt g7)).1) rfl ml_RX7_240 im_yX4_sowFrom se_yX4_sowFrom in_RX4 co_yX4_sowFrom hyV_X4_sowFrom ⟨rfl, rfl⟩ ⟨by decide, by decide⟩ rfl hl rfl (Nat.le_of_ble_eq_true rfl) dX7_sow_72 ⟨Nat.zero_le _, Nat.zero_le _⟩) (fun H locs d => ?_)
          refine lv_goto (tgt := 80) S.1 S.2.1 dX7_sow_75 (by decide) ?_
          obtain rfl := Option.some.inj h
          exact r_iret S d hr rfl rfl dX7_sow_80
      · replace h := it_n cc h
        refine lv_iload S.1 S.2.1 dX7_sow_43 (lv_at hl 0 rfl) ?_
        obtain rfl := Option.some.inj h
        exact r_iret S d hr rfl rfl dX7_sow_45
    · replace h := it_p cc h
      refine lv_iconst (v := (-1)) S.1 S.2.1 dX7_sow_16 (by decide) ?_
      obtain rfl := Option.some.inj h
      exact r_iret S d hr rfl rfl dX7_sow_17
theorem hyV_X3_begin : yX3_begin.cls = RX3 ∧ yX3_begin.cls ≠ "java/lang/invoke/MethodHandle" ∧ yX3_begin.cls ≠ "java/lang/invoke/VarHandle" ∧ (parseMethodDescriptor yX3_begin.desc).map (fun d => d.parameters.length) = some 2 := by decide +kernel
abbrev rm_X3_begin : Room := { frames := 1, cells := 0, slots := 0, locals := 23 }
def f_X3_begin (fu : Nat) (M : Mem) (k0 : Nat) (a1 : Int32) (a2 : Int32) : Option (Mem) :=
  lt (up M k0 0 a1) (fun M1 : Mem =>
  lt (up M1 k0 1 a2) (fun M2 : Mem =>
  (f_J7_fill_53178 fu M2 (k0 + 1) (0 : Int32)).bind (fun u3 =>
  some (u3))))
set_option maxHeartbeats 4000000 in
set_option maxRecDepth 100000 in
theorem c_X3_begin (l : Launch) (G : Gx) (M : Mem) (L : MemL) (fu : Nat) (k0 : Nat) (a1 : Int32) (a2 : Int32) (hk0 : kd k0 = 7) {z : Mem} (h : f_X3_begin fu M k0 a1 a2 = some z) : Met l yX3_begin (.code yX3_begin cX3_begin 3 (Option.none : Option Jvm.ClassFile.FieldType) :: UW) rm_X3_begin (va_Pc [.ref (ad G k0), .int a1, .int a2] (PreG G false M L)) (Qv G z L) 0 0 (gA G) := by
  refine r_in (by decide) (fun p e s m args below meth c S hr d ha ls hl => ?_) (Nat.le_of_ble_eq_true rfl)
  have S : Sx G false p s m args meth c cX3_begin 3 RX3 := S
  have hl : lv_has ls 3 [(0, .ref (ad G k0)), (1, .int a1), (2, .int a2)] := hl
  unfold f_X3_begin at h
  refine lv_aload_n S.1 S.2.1 dX3_begin_0 rfl (lv_at hl 0 rfl) ?_
  refine lv_iload_n S.1 S.2.1 dX3_begin_1 rfl (lv_at hl 1 rfl) ?_
  obtain ⟨M1, eM1, h⟩ := lt_e h
  refine pf_7_0 S d eM1 hk0 fl_RX3_9 dX3_begin_2 (fun H locs d => ?_)
  refine lv_aload_n S.1 S.2.1 dX3_begin_5 rfl (lv_at hl 0 rfl) ?_
  refine lv_iload_n S.1 S.2.1 dX3_begin_6 rfl (lv_at hl 2 rfl) ?_
  obtain ⟨M2, eM2, h⟩ := lt_e h
  refine pf_7_1 S d eM2 hk0 fl_RX3_15 dX3_begin_7 (fun H locs d => ?_)
  refine lv_aload_n S.1 S.2.1 dX3_begin_10 rfl (lv_at hl 0 rfl) ?_
  refine gf_7_2 S d hk0 fl_RX3_18 dX3_begin_11 ?_
  refine lv_iconst (v := 0) S.1 S.2.1 dX3_begin_14 (by decide) ?_
  obtain ⟨u3, hu3, h⟩ := bd_e h
  refine r_rv d (r_cS (As := [.ref (ad G (k0 + 1)), .int (0 : Int32)]) (rest := []) S d (c_J7_fill_53178 l G M2 L fu (k0 + 1) (0 : Int32) (ch_7_2 hk0).1 hu3) ml_RX3_22 sm_yJ7_fill_53178 in_RJ7 co_yJ7_fill_53178 hyS_J7_fill_53178 ⟨rfl, rfl⟩ ⟨by decide, by decide⟩ rfl hl rfl (Nat.le_of_ble_eq_true rfl) dX3_begin_15 ⟨Nat.zero_le _, Nat.zero_le _⟩) (fun H locs d => ?_)
  obtain rfl := Option.some.inj h
  exact r_vret S d hr dX3_begin_18
theorem hyV_X7_sheet : yX7_sheet.cls = RX7 ∧ yX7_sheet.cls ≠ "java/lang/invoke/MethodHandle" ∧ yX7_sheet.cls ≠ "java/lang/invoke/VarHandle" ∧ (parseMethodDescriptor yX7_sheet.desc).map (fun d => d.parameters.length) = some 3 := by decide +kernel
abbrev rm_X7_sheet : Room := { frames := 2, cells := 0, slots := 0, locals := 45 }
def f_X7_sheet (fu : Nat) (M : Mem) (k0 : Nat) (a1 : Int32) (a2 : Int32) (a3 : Int32) : Option (Int32 × Mem) :=
  (f_X7_isSheet a1 a2).bind (fun u1 =>
  (if u1 = 0 then some ((-1 : Int32), M)
  else (if a3 ≤ (24 : Int32) then (if 0 ≤ a3 then gd (inb a1 4) (
        (f_X3_begin fu M ((k0 + 170) + 1 + 2 * a1.toNatClampNeg) a2 a3).bind (fun u3 =>
        some (a3, u3)))
      else some ((-14 : Int32), M))
    else some ((-1 : Int32), M))))
set_option maxHeartbeats 4000000 in
set_option maxRecDepth 100000 in
theorem c_X7_sheet (l : Launch) (G : Gx) (M : Mem) (L : MemL) (fu : Nat) (k0 : Nat) (a1 : Int32) (a2 : Int32) (a3 : Int32) (hk0 : kd k0 = 0) {z : Int32 × Mem} (h : f_X7_sheet fu M k0 a1 a2 a3 = some z) : Met l yX7_sheet (.code yX7_sheet cX7_sheet 4 (Option.some Jvm.ClassFile.FieldType.int) :: UW) rm_X7_sheet (va_Pc [.ref (ad G k0), .int a1, .int a2, .int a3] (PreG G false M L)) (Qi G z.1 z.2 L) 0 0 (gA G) := by
  refine r_in (by decide) (fun p e s m args below meth c S hr d ha ls hl => ?_) (Nat.le_of_ble_eq_true rfl)
  have S : Sx G false p s m args meth c cX7_sheet 4 RX7 := S
  have hl : lv_has ls 4 [(0, .ref (ad G k0)), (1, .int a1), (2, .int a2), (3, .int a3)] := hl
  unfold f_X7_sheet at h
  refine lv_iload_n S.1 S.2.1 dX7_sheet_0 rfl (lv_at hl 1 rfl) ?_
  refine lv_iload_n S.1 S.2.1 dX7_sheet_1 rfl (lv_at hl 2 rfl) ?_
  obtain ⟨u1, hu1, h⟩ := bd_e h
  refine r_ri d (r_cS (As := [.int a1, .int a2]) (rest := []) S d (c_X7_isSheet l G M L a1 a2 hu1) ml_RX7_228 sm_yX7_isSheet in_RX7 co_yX7_isSheet hyS_X7_isSheet ⟨rfl, rfl⟩ ⟨by decide, by decide⟩ rfl hl rfl (Nat.le_of_ble_eq_true rfl) dX7_sheet_2 ⟨Nat.zero_le _, Nat.zero_le _⟩) (fun H locs d => ?_)
  refine lv_if_eq (tgt := 14) S.1 S.2.1 dX7_sheet_5 (by decide) (fun cc => ?_) (fun cc => ?_)
  · replace h := it_p cc h
    refine lv_iconst (v := (-1)) S.1 S.2.1 dX7_sheet_14 (by decide) ?_
    obtain rfl := Option.some.inj h
    exact r_iret S d hr rfl rfl dX7_sheet_15
  · replace h := it_n cc h
    refine lv_iload_n S.1 S.2.1 dX7_sheet_8 rfl (lv_at hl 3 rfl) ?_
    refine lv_bipush (v := 24) S.1 S.2.1 dX7_sheet_9 (by decide) ?_
    refine lv_icmp_le (tgt := 16) S.1 S.2.1 dX7_sheet_11 (by decide) (fun cc => ?_) (fun cc => ?_)
    · replace h := it_p cc h
      refine lv_iload_n S.1 S.2.1 dX7_sheet_16 rfl (lv_at hl 3 rfl) ?_
      refine lv_if_ge (tgt := 23) S.1 S.2.1 dX7_sheet_17 (by decide) (fun cc => ?_) (fun cc => ?_)
      · replace h := it_p cc h
        refine lv_aload_n S.1 S.2.1 dX7_sheet_23 rfl (lv_at hl 0 rfl) ?_
        refine gf_0_6 S d hk0 fl_RX7_46 dX7_sheet_24 ?_
        refine lv_iload_n S.1 S.2.1 dX7_sheet_27 rfl (lv_at hl 1 rfl) ?_
        obtain ⟨g2, h⟩ := gd_e h
        refine r_aald S d (ksdC S (ch_0_6 hk0).1) (wc_17 (ch_0_6 hk0).1) rfl rfl g2 (if_pos (inb_lt g2)) dX7_sheet_28 ?_
        refine lv_iload_n S.1 S.2.1 dX7_sheet_29 rfl (lv_at hl 2 rfl) ?_
        refine lv_iload_n S.1 S.2.1 dX7_sheet_30 rfl (lv_at hl 3 rfl) ?_
        obtain ⟨u3, hu3, h⟩ := bd_e h
        refine r_rv d (r_cV (As := [.int a2, .int a3]) (rest := []) S d (c_X3_begin l G M L fu ((k0 + 170) + 1 + 2 * a1.toNatClampNeg) a2 a3 (ca_17 (ch_0_6 hk0).1 (inb_lt g2)).1 hu3) (ksdC S (ca_17 (ch_0_6 hk0).1 (inb_lt g2)).1) (wc_7 (ca_17 (ch_0_6 hk0).1 (inb_lt g2)).1) rfl ml_RX7_244 im_yX3_begin se_yX3_begin in_RX3 co_yX3_begin hyV_X3_begin ⟨rfl, rfl⟩ ⟨by decide, by decide⟩ rfl hl rfl (Nat.le_of_ble_eq_true rfl) dX7_sheet_31 ⟨Nat.zero_le _, Nat.zero_le _⟩) (fun H locs d => ?_)
        refine lv_iload_n S.1 S.2.1 dX7_sheet_34 rfl (lv_at hl 3 rfl) ?_
        obtain rfl := Option.some.inj h
        exact r_iret S d hr rfl rfl dX7_sheet_35
      · replace h := it_n cc h
        refine lv_bipush (v := (-14)) S.1 S.2.1 dX7_sheet_20 (by decide) ?_
        obtain rfl := Option.some.inj h
        exact r_iret S d hr rfl rfl dX7_sheet_22
    · replace h := it_n cc h
      refine lv_iconst (v := (-1)) S.1 S.2.1 dX7_sheet_14 (by decide) ?_
      obtain rfl := Option.some.inj h
      exact r_iret S d hr rfl rfl dX7_sheet_15
theorem hyV_X7_drop : yX7_drop.cls = RX7 ∧ yX7_drop.cls ≠ "java/lang/invoke/MethodHandle" ∧ yX7_drop.cls ≠ "java/lang/invoke/VarHandle" ∧ (parseMethodDescriptor yX7_drop.desc).map (fun d => d.parameters.length) = some 1 := by decide +kernel
abbrev rm_X7_drop : Room := { frames := 1, cells := 0, slots := 0, locals := 21 }
def f_X7_drop (M : Mem) (k0 : Nat) (a1 : Int32) : Option (Int32 × Mem) :=
  (f_X7_isBelow a1 (4 : Int32)).bind (fun u1 =>
  (if u1 = 0 then some ((-1 : Int32), M)
  else gd (inb a1 4) (
    lt (((k0 + 170) + 1 + 2 * a1.toNatClampNeg)) (fun r3 : Nat =>
    (if (M r3 0) = (-1 : Int32) then some ((-11 : Int32), M)
    else lt (up M r3 0 (-1 : Int32)) (fun M4 : Mem =>
      some ((M4 r3 1), M4)))))))
set_option maxHeartbeats 4000000 in
set_option maxRecDepth 100000 in
theorem c_X7_drop (l : Launch) (G : Gx) (M : Mem) (L : MemL) (k0 : Nat) (a1 : Int32) (hk0 : kd k0 = 0) {z : Int32 × Mem} (h : f_X7_drop M k0 a1 = some z) : Met l yX7_drop (.code yX7_drop cX7_drop 3 (Option.some Jvm.ClassFile.FieldType.int) :: UW) rm_X7_drop (va_Pc [.ref (ad G k0), .int a1] (PreG G false M L)) (Qi G z.1 z.2 L) 0 0 (gA G) := by
  refine r_in (by decide) (fun p e s m args below meth c S hr d ha ls hl => ?_) (Nat.le_of_ble_eq_true rfl)
  have S : Sx G false p s m args meth c cX7_drop 3 RX7 := S
  have hl : lv_has ls 3 [(0, .ref (ad G k0)), (1, .int a1)] := hl
  unfold f_X7_drop at h
  refine lv_iload_n S.1 S.2.1 dX7_drop_0 rfl (lv_at hl 1 rfl) ?_
  refine lv_iconst (v := 4) S.1 S.2.1 dX7_drop_1 (by decide) ?_
  obtain ⟨u1, hu1, h⟩ := bd_e h
  refine r_ri d (r_cS (As := [.int a1, .int (4 : Int32)]) (rest := []) S d (c_X7_isBelow l G M L a1 (4 : Int32) hu1) ml_RX7_51 sm_yX7_isBelow in_RX7 co_yX7_isBelow hyS_X7_isBelow ⟨rfl, rfl⟩ ⟨by decide, by decide⟩ rfl hl rfl (Nat.le_of_ble_eq_true rfl) dX7_drop_2 ⟨Nat.zero_le _, Nat.zero_le _⟩) (fun H locs d => ?_)
  refine lv_if_ne (tgt := 10) S.1 S.2.1 dX7_drop_5 (by decide) (fun cc => ?_) (fun cc => ?_)
  · replace h := it_n cc h
    refine lv_aload_n S.1 S.2.1 dX7_drop_10 rfl (lv_at hl 0 rfl) ?_
    refine gf_0_6 S d hk0 fl_RX7_46 dX7_drop_11 ?_
    refine lv_iload_n S.1 S.2.1 dX7_drop_14 rfl (lv_at hl 1 rfl) ?_
    obtain ⟨g2, h⟩ := gd_e h
    refine r_aald S d (ksdC S (ch_0_6 hk0).1) (wc_17 (ch_0_6 hk0).1) rfl rfl g2 (if_pos (inb_lt g2)) dX7_drop_15 ?_
    obtain ⟨r3, er3, h⟩ := lt_e h
    refine r_topr er3 ?_
    have hkr3 : kd r3 = 7 := by rw [er3]; exact (ca_17 (ch_0_6 hk0).1 (inb_lt g2)).1
    refine lv_astore_n (lv' := [(2, .ref (ad G r3)), (0, .ref (ad G k0)), (1, .int a1)]) S.1 S.2.1 dX7_drop_16 rfl hl (by decide) rfl (fun ls hl => ?_)
    refine lv_aload_n S.1 S.2.1 dX7_drop_17 rfl (lv_at hl 0 rfl) ?_
    refine gf_7_0 S d hkr3 fl_RX7_248 dX7_drop_18 ?_
    refine lv_iconst (v := (-1)) S.1 S.2.1 dX7_drop_21 (by decide) ?_
    refine lv_icmp_ne (tgt := 28) S.1 S.2.1 dX7_drop_22 (by decide) (fun cc => ?_) (fun cc => ?_)
    · replace h := it_n cc h
      refine lv_aload_n S.1 S.2.1 dX7_drop_28 rfl (lv_at hl 0 rfl) ?_
      refine lv_iconst (v := (-1)) S.1 S.2.1 dX7_drop_29 (by decide) ?_
      obtain ⟨M4, eM4, h⟩ := lt_e h
      refine pf_7_0 S d eM4 hkr3 fl_RX7_248 dX7_drop_30 (fun H locs d => ?_)
      refine lv_aload_n S.1 S.2.1 dX7_drop_33 rfl (lv_at hl 0 rfl) ?_
      refine gf_7_1 S d hkr3 fl_RX7_251 dX7_drop_34 ?_
      obtain rfl := Option.some.inj h
      exact r_iret S d hr rfl rfl dX7_drop_37
    · replace h := it_p cc h
      refine lv_bipush (v := (-11)) S.1 S.2.1 dX7_drop_25 (by decide) ?_
      obtain rfl := Option.some.inj h
      exact r_iret S d hr rfl rfl dX7_drop_27
  · replace h := it_p cc h
    refine lv_iconst (v := (-1)) S.1 S.2.1 dX7_drop_8 (by decide) ?_
    obtain rfl := Option.some.inj h
    exact r_iret S d hr rfl rfl dX7_drop_9
theorem hyV_X3_put : yX3_put.cls = RX3 ∧ yX3_put.cls ≠ "java/lang/invoke/MethodHandle" ∧ yX3_put.cls ≠ "java/lang/invoke/VarHandle" ∧ (parseMethodDescriptor yX3_put.desc).map (fun d => d.parameters.length) = some 2 := by decide +kernel
abbrev rm_X3_put : Room := { frames := 0, cells := 0, slots := 0, locals := 0 }
def f_X3_put (M : Mem) (k0 : Nat) (a1 : Int32) (a2 : Int32) : Option (Mem) :=
  (if (M k0 0) = 0 then gd (inb a1 24) (
    lt (up M (k0 + 1) a1.toNatClampNeg ((a2).toInt8.toInt32)) (fun M2 : Mem =>
    some (M2)))
  else if (M k0 0) = 1 then gd (inb a1 24) (
    lt (up M (k0 + 1) a1.toNatClampNeg ((a2).toInt16.toInt32)) (fun M5 : Mem =>
    some (M5)))
  else gd (inb a1 24) (
    lt (up M (k0 + 1) a1.toNatClampNeg a2) (fun M8 : Mem =>
    some (M8))))
set_option maxHeartbeats 4000000 in
set_option maxRecDepth 100000 in
theorem c_X3_put (l : Launch) (G : Gx) (M : Mem) (L : MemL) (k0 : Nat) (a1 : Int32) (a2 : Int32) (hk0 : kd k0 = 7) {z : Mem} (h : f_X3_put M k0 a1 a2 = some z) : Met l yX3_put (.code yX3_put cX3_put 3 (Option.none : Option Jvm.ClassFile.FieldType) :: UW) rm_X3_put (va_Pc [.ref (ad G k0), .int a1, .int a2] (PreG G false M L)) (Qv G z L) 0 0 (gA G) := by
  refine r_in (by decide) (fun p e s m args below meth c S hr d ha ls hl => ?_) (Nat.le_of_ble_eq_true rfl)
  have S : Sx G false p s m args meth c cX3_put 3 RX3 := S
  have hl : lv_has ls 3 [(0, .ref (ad G k0)), (1, .int a1), (2, .int a2)] := hl
  unfold f_X3_put at h
  refine lv_aload_n S.1 S.2.1 dX3_put_0 rfl (lv_at hl 0 rfl) ?_
  refine gf_7_0 S d hk0 fl_RX3_9 dX3_put_1 ?_
  rcases Decidable.em ((M k0 0) = 0) with cs3 | cs3
  · replace h := it_p cs3 h
    refine lv_lookup (tgt := 32) S.1 S.2.1 dX3_put_4 (by decide) (by rw [cs3] <;> rfl) (by decide) ?_
    refine lv_aload_n S.1 S.2.1 dX3_put_32 rfl (lv_at hl 0 rfl) ?_
    refine gf_7_2 S d hk0 fl_RX3_18 dX3_put_33 ?_
    refine lv_iload_n S.1 S.2.1 dX3_put_36 rfl (lv_at hl 1 rfl) ?_
    refine lv_iload_n S.1 S.2.1 dX3_put_37 rfl (lv_at hl 2 rfl) ?_
    refine lv_i2b S.1 S.2.1 dX3_put_38 rfl ?_
    obtain ⟨g1, h⟩ := gd_e h
    obtain ⟨M2, eM2, h⟩ := lt_e h
    refine r_iast S d eM2 (ksdC S (ch_7_2 hk0).1) (fun _ => wc_10 (ch_7_2 hk0).1) (ch_7_2 hk0).2 g1 dX3_put_39 (fun H locs d => ?_)
    refine lv_goto (tgt := 61) S.1 S.2.1 dX3_put_40 (by decide) ?_
    obtain rfl := Option.some.inj h
    exact r_vret S d hr dX3_put_61
  replace h := it_n cs3 h
  rcases Decidable.em ((M k0 0) = 1) with cs6 | cs6
  · replace h := it_p cs6 h
    refine lv_lookup (tgt := 43) S.1 S.2.1 dX3_put_4 (by decide) (by rw [cs6] <;> rfl) (by decide) ?_
    refine lv_aload_n S.1 S.2.1 dX3_put_43 rfl (lv_at hl 0 rfl) ?_
    refine gf_7_2 S d hk0 fl_RX3_18 dX3_put_44 ?_
    refine lv_iload_n S.1 S.2.1 dX3_put_47 rfl (lv_at hl 1 rfl) ?_
    refine lv_iload_n S.1 S.2.1 dX3_put_48 rfl (lv_at hl 2 rfl) ?_
    refine lv_i2s S.1 S.2.1 dX3_put_49 rfl ?_
    obtain ⟨g4, h⟩ := gd_e h
    obtain ⟨M5, eM5, h⟩ := lt_e h
    refine r_iast S d eM5 (ksdC S (ch_7_2 hk0).1) (fun _ => wc_10 (ch_7_2 hk0).1) (ch_7_2 hk0).2 g4 dX3_put_50 (fun H locs d => ?_)
    refine lv_goto (tgt := 61) S.1 S.2.1 dX3_put_51 (by decide) ?_
    obtain rfl := Option.some.inj h
    exact r_vret S d hr dX3_put_61
  replace h := it_n cs6 h
  refine lv_lookup (off := 50) (tgt := 54) S.1 S.2.1 dX3_put_4 (by decide) (by show Op.lookupswitch.offset [(0, 28), (1, 39)] _ _ = _; rw [lv_osw (a := 0) cs3 rfl, lv_osw (a := 1) cs6 rfl] <;> rfl) (by decide) ?_
  refine lv_aload_n S.1 S.2.1 dX3_put_54 rfl (lv_at hl 0 rfl) ?_
  refine gf_7_2 S d hk0 fl_RX3_18 dX3_put_55 ?_
  refine lv_iload_n S.1 S.2.1 dX3_put_58 rfl (lv_at hl 1 rfl) ?_
  refine lv_iload_n S.1 S.2.1 dX3_put_59 rfl (lv_at hl 2 rfl) ?_
  obtain ⟨g7, h⟩ := gd_e h
  obtain ⟨M8, eM8, h⟩ := lt_e h
  refine r_iast S d eM8 (ksdC S (ch_7_2 hk0).1) (fun _ => wc_10 (ch_7_2 hk0).1) (ch_7_2 hk0).2 g7 dX3_put_60 (fun H locs d => ?_)
  obtain rfl := Option.some.inj h
  exact r_vret S d hr dX3_put_61
theorem hyV_X7_item : yX7_item.cls = RX7 ∧ yX7_item.cls ≠ "java/lang/invoke/MethodHandle" ∧ yX7_item.cls ≠ "java/lang/invoke/VarHandle" ∧ (parseMethodDescriptor yX7_item.desc).map (fun d => d.parameters.length) = some 4 := by decide +kernel
abbrev rm_X7_item : Room := { frames := 2, cells := 0, slots := 0, locals := 42 }
def f_X7_item (M : Mem) (k0 : Nat) (a1 : Int32) (a2 : Int32) (a3 : Int32) (a4 : Int32) : Option (Int32 × Mem) :=
  (f_X7_isSheet a1 a2).bind (fun u1 =>
  (if u1 = 0 then some ((-1 : Int32), M)
  else gd (inb a1 4) (
    (f_X3_refusal M ((k0 + 170) + 1 + 2 * a1.toNatClampNeg) a2 a3 (1 : Int32)).bind (fun u3 =>
    (if u3 = 0 then gd (inb a1 4) (
      (f_X3_put M ((k0 + 170) + 1 + 2 * a1.toNatClampNeg) a3 a4).bind (fun u5 =>
      some ((1 : Int32), u5)))
    else some (u3, M))))))
set_option maxHeartbeats 4000000 in
set_option maxRecDepth 100000 in
theorem c_X7_item (l : Launch) (G : Gx) (M : Mem) (L : MemL) (k0 : Nat) (a1 : Int32) (a2 : Int32) (a3 : Int32) (a4 : Int32) (hk0 : kd k0 = 0) {z : Int32 × Mem} (h : f_X7_item M k0 a1 a2 a3 a4 = some z) : Met l yX7_item (.code yX7_item cX7_item 6 (Option.some Jvm.ClassFile.FieldType.int) :: UW) rm_X7_item (va_Pc [.ref (ad G k0), .int a1, .int a2, .int a3, .int a4] (PreG G false M L)) (Qi G z.1 z.2 L) 0 0 (gA G) := by
  refine r_in (by decide) (fun p e s m args below meth c S hr d ha ls hl => ?_) (Nat.le_of_ble_eq_true rfl)
  have S : Sx G false p s m args meth c cX7_item 6 RX7 := S
  have hl : lv_has ls 6 [(0, .ref (ad G k0)), (1, .int a1), (2, .int a2), (3, .int a3), (4, .int a4)] := hl
  unfold f_X7_item at h
  refine lv_iload_n S.1 S.2.1 dX7_item_0 rfl (lv_at hl 1 rfl) ?_
  refine lv_iload_n S.1 S.2.1 dX7_item_1 rfl (lv_at hl 2 rfl) ?_
  obtain ⟨u1, hu1, h⟩ := bd_e h
  refine r_ri d (r_cS (As := [.int a1, .int a2]) (rest := []) S d (c_X7_isSheet l G M L a1 a2 hu1) ml_RX7_228 sm_yX7_isSheet in_RX7 co_yX7_isSheet hyS_X7_isSheet ⟨rfl, rfl⟩ ⟨by decide, by decide⟩ rfl hl rfl (Nat.le_of_ble_eq_true rfl) dX7_item_2 ⟨Nat.zero_le _, Nat.zero_le _⟩) (fun H locs d => ?_)
  refine lv_if_ne (tgt := 10) S.1 S.2.1 dX7_item_5 (by decide) (fun cc => ?_) (fun cc => ?_)
  · replace h := it_n cc h
    refine lv_aload_n S.1 S.2.1 dX7_item_10 rfl (lv_at hl 0 rfl) ?_
    refine gf_0_6 S d hk0 fl_RX7_46 dX7_item_11 ?_
    refine lv_iload_n S.1 S.2.1 dX7_item_14 rfl (lv_at hl 1 rfl) ?_
    obtain ⟨g2, h⟩ := gd_e h
    refine r_aald S d (ksdC S (ch_0_6 hk0).1) (wc_17 (ch_0_6 hk0).1) rfl rfl g2 (if_pos (inb_lt g2)) dX7_item_15 ?_
    refine lv_iload_n S.1 S.2.1 dX7_item_16 rfl (lv_at hl 2 rfl) ?_
    refine lv_iload_n S.1 S.2.1 dX7_item_17 rfl (lv_at hl 3 rfl) ?_
    refine lv_iconst (v := 1) S.1 S.2.1 dX7_item_18 (by decide) ?_
    obtain ⟨u3, hu3, h⟩ := bd_e h
    refine r_ri d (r_cV (As := [.int a2, .int a3, .int (1 : Int32)]) (rest := []) S d (c_X3_refusal l G M L ((k0 + 170) + 1 + 2 * a1.toNatClampNeg) a2 a3 (1 : Int32) (ca_17 (ch_0_6 hk0).1 (inb_lt g2)).1 hu3) (ksdC S (ca_17 (ch_0_6 hk0).1 (inb_lt g2)).1) (wc_7 (ca_17 (ch_0_6 hk0).1 (inb_lt g2)).1) rfl ml_RX7_231 im_yX3_refusal se_yX3_refusal in_RX3 co_yX3_refusal hyV_X3_refusal ⟨rfl, rfl⟩ ⟨by decide, by decide⟩ rfl hl rfl (Nat.le_of_ble_eq_true rfl) dX7_item_19 ⟨Nat.zero_le _, Nat.zero_le _⟩) (fun H locs d => ?_)
    refine lv_istore (lv' := [(5, .int u3), (0, .ref (ad G k0)), (1, .int a1), (2, .int a2), (3, .int a3), (4, .int a4)]) S.1 S.2.1 dX7_item_22 hl (by decide) rfl (fun ls hl => ?_)
    refine lv_iload S.1 S.2.1 dX7_item_24 (lv_at hl 0 rfl) ?_
    refine lv_if_eq (tgt := 32) S.1 S.2.1 dX7_item_26 (by decide) (fun cc => ?_) (fun cc => ?_)
    · replace h := it_p cc h
      refine lv_aload_n S.1 S.2.1 dX7_item_32 rfl (lv_at hl 1 rfl) ?_
      refine gf_0_6 S d hk0 fl_RX7_46 dX7_item_33 ?_
      refine lv_iload_n S.1 S.2.1 dX7_item_36 rfl (lv_at hl 2 rfl) ?_
      obtain ⟨g4, h⟩ := gd_e h
      refine r_aald S d (ksdC S (ch_0_6 hk0).1) (wc_17 (ch_0_6 hk0).1) rfl rfl g4 (if_pos (inb_lt g4)) dX7_item_37 ?_
      refine lv_iload_n S.1 S.2.1 dX7_item_38 rfl (lv_at hl 4 rfl) ?_
      refine lv_iload S.1 S.2.1 dX7_item_39 (lv_at hl 5 rfl) ?_
      obtain ⟨u5, hu5, h⟩ := bd_e h
      refine r_rv d (r_cV (As := [.int a3, .int a4]) (rest := []) S d (c_X3_put l G M L ((k0 + 170) + 1 + 2 * a1.toNatClampNeg) a3 a4 (ca_17 (ch_0_6 hk0).1 (inb_lt g4)).1 hu5) (ksdC S (ca_17 (ch_0_6 hk0).1 (inb_lt g4)).1) (wc_7 (ca_17 (ch_0_6 hk0).1 (inb_lt g4)).1) rfl ml_RX7_252 im_yX3_put se_yX3_put in_RX3 co_yX3_put hyV_X3_put ⟨rfl, rfl⟩ ⟨by decide, by decide⟩ rfl hl rfl (Nat.le_of_ble_eq_true rfl) dX7_item_41 ⟨Nat.zero_le _, Nat.zero_le _⟩) (fun H locs d => ?_)
      refine lv_iconst (v := 1) S.1 S.2.1 dX7_item_44 (by decide) ?_
      obtain rfl := Option.some.inj h
      exact r_iret S d hr rfl rfl dX7_item_45
    · replace h := it_n cc h
      refine lv_iload S.1 S.2.1 dX7_item_29 (lv_at hl 0 rfl) ?_
      obtain rfl := Option.some.inj h
      exact r_iret S d hr rfl rfl dX7_item_31
  · replace h := it_p cc h
    refine lv_iconst (v := (-1)) S.1 S.2.1 dX7_item_8 (by decide) ?_
    obtain rfl := Option.some.inj h
    exact r_iret S d hr rfl rfl dX7_item_9
theorem hyV_X7_film : yX7_film.cls = RX7 ∧ yX7_film.cls ≠ "java/lang/invoke/MethodHandle" ∧ yX7_film.cls ≠ "java/lang/invoke/VarHandle" ∧ (parseMethodDescriptor yX7_film.desc).map (fun d => d.parameters.length) = some 3 := by decide +kernel
abbrev rm_X7_film : Room := { frames := 4, cells := 0, slots := 0, locals := 86 }
def lp_X7_film_41 (fu : Nat) (b0 : Nat) (b1 : Int32) (b3 : Int32) (K : Mem → Option (Int32 × Mem)) : Nat → Int32 → Mem → Option (Int32 × Mem)
  | 0, _, _ => none
  | n + 1, x5, Mx =>
    (if (Mx (b0 + 1) 2) ≤ x5 then (K Mx)
    else gd (inb b1 4) (
      (f_X0_letterOn fu Mx (b0 + 1) x5).bind (fun u5 =>
      (f_X3_put Mx ((b0 + 170) + 1 + 2 * b1.toNatClampNeg) (b3 + x5) u5).bind (fun u6 =>
      lt (x5 + 1) (fun v7 : Int32 =>
      (lp_X7_film_41 fu b0 b1 b3 K n v7 u6))))))
def f_X7_film (fu : Nat) (M : Mem) (k0 : Nat) (a1 : Int32) (a2 : Int32) (a3 : Int32) : Option (Int32 × Mem) :=
  (f_X7_isSheet a1 a2).bind (fun u1 =>
  (if u1 = 0 then some ((-1 : Int32), M)
  else gd (inb a1 4) (
    (f_X3_refusal M ((k0 + 170) + 1 + 2 * a1.toNatClampNeg) a2 a3 (M (k0 + 1) 2)).bind (fun u3 =>
    (if u3 = 0 then (lp_X7_film_41 fu k0 a1 a3 (fun (M8 : Mem) =>
        some ((M8 (k0 + 1) 2), M8)) fu (0 : Int32) M)
    else some (u3, M))))))
set_option maxHeartbeats 4000000 in
set_option maxRecDepth 100000 in
theorem lc_X7_film_41 {p : Program} {l : Launch} {e : Env} {s : State} {m : MethodId} {args : Array Value} {below : List Frame} {meth : Method} {c : Code} {G : Gx} {L : MemL} {fu : Nat} {b0 : Nat} {b1 : Int32} {b3 : Int32} {z : Int32 × Mem} (S : Sx G false p s m args meth c cX7_film 6 RX7) (hr : meth.sig.returnType = (Option.some Jvm.ClassFile.FieldType.int)) (hb0 : kd b0 = 0) (K : Mem → Option (Int32 × Mem)) (hK : ∀ (My : Mem) (H : Heap) (locs : List Loc), Dy G s My L H locs → ∀ ls : Array Slot, lv_has ls 6 [(0, .ref (ad G b0))] → K My = some z → W p l e rm_X7_film s m args below meth c H locs 0 0 (MQ below (Qi G z.1 z.2 L) args s 0 0 (gA G)) (F0 m 81 ls [])) :
    ∀ (n : Nat) (x5 : Int32) (Mx : Mem), lp_X7_film_41 fu b0 b1 b3 K n x5 Mx = some z → ∀ (H : Heap) (locs : List Loc), Dy G s Mx L H locs → ∀ ls : Array Slot, lv_has ls 6 [(0, .ref (ad G b0)), (1, .int b1), (3, .int b3), (5, .int x5)] → W p l e rm_X7_film s m args below meth c H locs 0 0 (MQ below (Qi G z.1 z.2 L) args s 0 0 (gA G)) (F0 m 41 ls []) := by
  intro n
  induction n with
  | zero =>
    intro x5 Mx h
    have h : (none : Option (Int32 × Mem)) = some z := h
    cases h
  | succ n ih =>
    intro x5 Mx h H locs d ls hl
    rw [lp_X7_film_41] at h
    refine lv_iload S.1 S.2.1 dX7_film_41 (lv_at hl 3 rfl) ?_
    refine lv_aload_n S.1 S.2.1 dX7_film_43 rfl (lv_at hl 0 rfl) ?_
    refine gf_0_0 S d hb0 fl_RX7_12 dX7_film_44 ?_
    refine gf_1_2 S d (ch_0_0 hb0).1 fl_RX7_55 dX7_film_47 ?_
    refine lv_icmp_ge (tgt := 81) S.1 S.2.1 dX7_film_50 (by decide) (fun cc => ?_) (fun cc => ?_)
    · replace h := it_p cc h
      exact hK _ _ _ d _ (lv_sub hl [0] rfl) h
    · replace h := it_n cc h
      refine lv_aload_n S.1 S.2.1 dX7_film_53 rfl (lv_at hl 0 rfl) ?_
      refine gf_0_6 S d hb0 fl_RX7_46 dX7_film_54 ?_
      refine lv_iload_n S.1 S.2.1 dX7_film_57 rfl (lv_at hl 1 rfl) ?_
      obtain ⟨g4, h⟩ := gd_e h
      refine r_aald S d (ksdC S (ch_0_6 hb0).1) (wc_17 (ch_0_6 hb0).1) rfl rfl g4 (if_pos (inb_lt g4)) dX7_film_58 ?_
      refine lv_iload_n S.1 S.2.1 dX7_film_59 rfl (lv_at hl 2 rfl) ?_
      refine lv_iload S.1 S.2.1 dX7_film_60 (lv_at hl 3 rfl) ?_
      refine lv_iadd S.1 S.2.1 dX7_film_62 ?_
      refine lv_aload_n S.1 S.2.1 dX7_film_63 rfl (lv_at hl 0 rfl) ?_
      refine gf_0_0 S d hb0 fl_RX7_12 dX7_film_64 ?_
      refine lv_iload S.1 S.2.1 dX7_film_67 (lv_at hl 3 rfl) ?_
      obtain ⟨u5, hu5, h⟩ := bd_e h
      refine r_ri d (r_cV (As := [.int x5]) (rest := [.int (b3 + x5), .ref (ad G ((b0 + 170) + 1 + 2 * b1.toNatClampNeg))]) S d (c_X0_letterOn l G Mx L fu (b0 + 1) x5 (ch_0_0 hb0).1 hu5) (ksdC S (ch_0_0 hb0).1) (wc_1 (ch_0_0 hb0).1) rfl ml_RX7_90 im_yX0_letterOn se_yX0_letterOn in_RX0 co_yX0_letterOn hyV_X0_letterOn ⟨rfl, rfl⟩ ⟨by decide, by decide⟩ rfl hl rfl (Nat.le_of_ble_eq_true rfl) dX7_film_69 ⟨Nat.zero_le _, Nat.zero_le _⟩) (fun H locs d => ?_)
      obtain ⟨u6, hu6, h⟩ := bd_e h
      refine r_rv d (r_cV (As := [.int (b3 + x5), .int u5]) (rest := []) S d (c_X3_put l G Mx L ((b0 + 170) + 1 + 2 * b1.toNatClampNeg) (b3 + x5) u5 (ca_17 (ch_0_6 hb0).1 (inb_lt g4)).1 hu6) (ksdC S (ca_17 (ch_0_6 hb0).1 (inb_lt g4)).1) (wc_7 (ca_17 (ch_0_6 hb0).1 (inb_lt g4)).1) rfl ml_RX7_252 im_yX3_put se_yX3_put in_RX3 co_yX3_put hyV_X3_put ⟨rfl, rfl⟩ ⟨by decide, by decide⟩ rfl hl rfl (Nat.le_of_ble_eq_true rfl) dX7_film_72 ⟨Nat.zero_le _, Nat.zero_le _⟩) (fun H locs d => ?_)
      obtain ⟨v7, ev7, h⟩ := lt_e h
      refine lv_iinc (v := v7) (lv' := [(5, .int v7), (0, .ref (ad G b0)), (1, .int b1), (3, .int b3)]) S.1 S.2.1 dX7_film_75 hl (k := 3) rfl (by rw [ev7]; rfl) (by decide) rfl (fun ls hl => ?_)
      refine lv_goto (tgt := 41) S.1 S.2.1 dX7_film_78 (by decide) ?_
      exact ih _ _ h _ _ d _ (lv_sub hl [1, 2, 3, 0] rfl)
set_option maxHeartbeats 4000000 in
set_option maxRecDepth 100000 in
theorem c_X7_film (l : Launch) (G : Gx) (M : Mem) (L : MemL) (fu : Nat) (k0 : Nat) (a1 : Int32) (a2 : Int32) (a3 : Int32) (hk0 : kd k0 = 0) {z : Int32 × Mem} (h : f_X7_film fu M k0 a1 a2 a3 = some z) : Met l yX7_film (.code yX7_film cX7_film 6 (Option.some Jvm.ClassFile.FieldType.int) :: UW) rm_X7_film (va_Pc [.ref (ad G k0), .int a1, .int a2, .int a3] (PreG G false M L)) (Qi G z.1 z.2 L) 0 0 (gA G) := by
  refine r_in (by decide) (fun p e s m args below meth c S hr d ha ls hl => ?_) (Nat.le_of_ble_eq_true rfl)
  have S : Sx G false p s m args meth c cX7_film 6 RX7 := S
  have hl : lv_has ls 6 [(0, .ref (ad G k0)), (1, .int a1), (2, .int a2), (3, .int a3)] := hl
  unfold f_X7_film at h
  refine lv_iload_n S.1 S.2.1 dX7_film_0 rfl (lv_at hl 1 rfl) ?_
  refine lv_iload_n S.1 S.2.1 dX7_film_1 rfl (lv_at hl 2 rfl) ?_
  obtain ⟨u1, hu1, h⟩ := bd_e h
  refine r_ri d (r_cS (As := [.int a1, .int a2]) (rest := []) S d (c_X7_isSheet l G M L a1 a2 hu1) ml_RX7_228 sm_yX7_isSheet in_RX7 co_yX7_isSheet hyS_X7_isSheet ⟨rfl, rfl⟩ ⟨by decide, by decide⟩ rfl hl rfl (Nat.le_of_ble_eq_true rfl) dX7_film_2 ⟨Nat.zero_le _, Nat.zero_le _⟩) (fun H locs d => ?_)
  refine lv_if_ne (tgt := 10) S.1 S.2.1 dX7_film_5 (by decide) (fun cc => ?_) (fun cc => ?_)
  · replace h := it_n cc h
    refine lv_aload_n S.1 S.2.1 dX7_film_10 rfl (lv_at hl 0 rfl) ?_
    refine gf_0_6 S d hk0 fl_RX7_46 dX7_film_11 ?_
    refine lv_iload_n S.1 S.2.1 dX7_film_14 rfl (lv_at hl 1 rfl) ?_
    obtain ⟨g2, h⟩ := gd_e h
    refine r_aald S d (ksdC S (ch_0_6 hk0).1) (wc_17 (ch_0_6 hk0).1) rfl rfl g2 (if_pos (inb_lt g2)) dX7_film_15 ?_
    refine lv_iload_n S.1 S.2.1 dX7_film_16 rfl (lv_at hl 2 rfl) ?_
    refine lv_iload_n S.1 S.2.1 dX7_film_17 rfl (lv_at hl 3 rfl) ?_
    refine lv_aload_n S.1 S.2.1 dX7_film_18 rfl (lv_at hl 0 rfl) ?_
    refine gf_0_0 S d hk0 fl_RX7_12 dX7_film_19 ?_
    refine gf_1_2 S d (ch_0_0 hk0).1 fl_RX7_55 dX7_film_22 ?_
    obtain ⟨u3, hu3, h⟩ := bd_e h
    refine r_ri d (r_cV (As := [.int a2, .int a3, .int (M (k0 + 1) 2)]) (rest := []) S d (c_X3_refusal l G M L ((k0 + 170) + 1 + 2 * a1.toNatClampNeg) a2 a3 (M (k0 + 1) 2) (ca_17 (ch_0_6 hk0).1 (inb_lt g2)).1 hu3) (ksdC S (ca_17 (ch_0_6 hk0).1 (inb_lt g2)).1) (wc_7 (ca_17 (ch_0_6 hk0).1 (inb_lt g2)).1) rfl ml_RX7_231 im_yX3_refusal se_yX3_refusal in_RX3 co_yX3_refusal hyV_X3_refusal ⟨rfl, rfl⟩ ⟨by decide, by decide⟩ rfl hl rfl (Nat.le_of_ble_eq_true rfl) dX7_film_25 ⟨Nat.zero_le _, Nat.zero_le _⟩) (fun H locs d => ?_)
    refine lv_istore (lv' := [(4, .int u3), (0, .ref (ad G k0)), (1, .int a1), (2, .int a2), (3, .int a3)]) S.1 S.2.1 dX7_film_28 hl (by decide) rfl (fun ls hl => ?_)
    refine lv_iload S.1 S.2.1 dX7_film_30 (lv_at hl 0 rfl) ?_
    refine lv_if_eq (tgt := 38) S.1 S.2.1 dX7_film_32 (by decide) (fun cc => ?_) (fun cc => ?_)
    · replace h := it_p cc h
      refine lv_iconst (v := 0) S.1 S.2.1 dX7_film_38 (by decide) ?_
      refine lv_istore (lv' := [(5, .int (0 : Int32)), (4, .int u3), (0, .ref (ad G k0)), (1, .int a1), (2, .int a2), (3, .int a3)]) S.1 S.2.1 dX7_film_39 hl (by decide) rfl (fun ls hl => ?_)
      refine lc_X7_film_41 S hr hk0 _ (fun M8 H locs d ls hl h => ?_) _ _ _  h _ _ d _ (lv_sub hl [2, 3, 5, 0] rfl)
      refine lv_aload_n S.1 S.2.1 dX7_film_81 rfl (lv_at hl 0 rfl) ?_
      refine gf_0_0 S d hk0 fl_RX7_12 dX7_film_82 ?_
      refine gf_1_2 S d (ch_0_0 hk0).1 fl_RX7_55 dX7_film_85 ?_
      obtain rfl := Option.some.inj h
      exact r_iret S d hr rfl rfl dX7_film_88
    · replace h := it_n cc h
      refine lv_iload S.1 S.2.1 dX7_film_35 (lv_at hl 0 rfl) ?_
      obtain rfl := Option.some.inj h
      exact r_iret S d hr rfl rfl dX7_film_37
  · replace h := it_p cc h
    refine lv_iconst (v := (-1)) S.1 S.2.1 dX7_film_8 (by decide) ?_
    obtain rfl := Option.some.inj h
    exact r_iret S d hr rfl rfl dX7_film_9
