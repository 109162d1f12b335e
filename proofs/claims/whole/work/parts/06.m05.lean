theorem hyS_X8_power : yX8_power.cls ≠ "java/lang/invoke/MethodHandle" ∧ yX8_power.cls ≠ "java/lang/invoke/VarHandle" ∧ (parseMethodDescriptor yX8_power.desc).map (fun d => d.parameters.length) = some 2 := by decide +kernel
abbrev rm_X8_power : Room := { frames := 0, cells := 0, slots := 0, locals := 0 }
def lp_X8_power_5 (fu : Nat) (b0 : Int32) (b1 : Int32) (K : Int64 → Option (Int64)) : Nat → Int64 → Int32 → Option (Int64)
  | 0, _, _ => none
  | n + 1, x2, x4 =>
    (if b1 ≤ x4 then (K x2)
    else lt ((x2 * (b0).toInt64)) (fun v1 : Int64 =>
      lt (x4 + 1) (fun v2 : Int32 =>
      (lp_X8_power_5 fu b0 b1 K n v1 v2))))
def f_X8_power (fu : Nat) (a0 : Int32) (a1 : Int32) : Option (Int64) :=
  (lp_X8_power_5 fu a0 a1 (fun (v3 : Int64) =>
    some (v3)) fu (1 : Int64) (0 : Int32))
set_option maxHeartbeats 4000000 in
set_option maxRecDepth 100000 in
theorem lc_X8_power_5 {p : Program} {l : Launch} {e : Env} {s : State} {m : MethodId} {args : Array Value} {below : List Frame} {meth : Method} {c : Code} {G : Gx} {M : Mem} {L : MemL} {fu : Nat} {b0 : Int32} {b1 : Int32} {z : Int64} (S : Sx G true p s m args meth c cX8_power 5 RX8) (hr : meth.sig.returnType = (Option.some Jvm.ClassFile.FieldType.long))  (K : Int64 → Option (Int64)) (hK : ∀ (y2 : Int64) (H : Heap) (locs : List Loc), Dy G s M L H locs → ∀ ls : Array Slot, lv_has ls 5 [(2, .long y2)] → K y2 = some z → W p l e rm_X8_power s m args below meth c H locs 0 0 (MQ below (Ql G z M L) args s 0 0 (gA G)) (F0 m 22 ls [])) :
    ∀ (n : Nat) (x2 : Int64) (x4 : Int32), lp_X8_power_5 fu b0 b1 K n x2 x4 = some z → ∀ (H : Heap) (locs : List Loc), Dy G s M L H locs → ∀ ls : Array Slot, lv_has ls 5 [(0, .int b0), (1, .int b1), (2, .long x2), (4, .int x4)] → W p l e rm_X8_power s m args below meth c H locs 0 0 (MQ below (Ql G z M L) args s 0 0 (gA G)) (F0 m 5 ls []) := by
  intro n
  induction n with
  | zero =>
    intro x2 x4 h
    have h : (none : Option (Int64)) = some z := h
    cases h
  | succ n ih =>
    intro x2 x4 h H locs d ls hl
    rw [lp_X8_power_5] at h
    refine lv_iload S.1 S.2.1 dX8_power_5 (lv_at hl 3 rfl) ?_
    refine lv_iload_n S.1 S.2.1 dX8_power_7 rfl (lv_at hl 1 rfl) ?_
    refine lv_icmp_ge (tgt := 22) S.1 S.2.1 dX8_power_8 (by decide) (fun cc => ?_) (fun cc => ?_)
    · replace h := it_p cc h
      exact hK _ _ _ d _ (lv_sub hl [2] rfl) h
    · replace h := it_n cc h
      refine lv_lload_n S.1 S.2.1 dX8_power_11 rfl (lv_at hl 2 rfl) ?_
      refine lv_iload_n S.1 S.2.1 dX8_power_12 rfl (lv_at hl 0 rfl) ?_
      refine lv_i2l S.1 S.2.1 dX8_power_13 rfl ?_
      refine lv_lmul S.1 S.2.1 dX8_power_14 ?_
      obtain ⟨v1, ev1, h⟩ := lt_e h
      refine r_topl ev1 ?_
      refine lv_lstore_n (lv' := [(2, .long v1), (0, .int b0), (1, .int b1), (4, .int x4)]) S.1 S.2.1 dX8_power_15 rfl hl (by decide) rfl (fun ls hl => ?_)
      obtain ⟨v2, ev2, h⟩ := lt_e h
      refine lv_iinc (v := v2) (lv' := [(4, .int v2), (2, .long v1), (0, .int b0), (1, .int b1)]) S.1 S.2.1 dX8_power_16 hl (k := 3) rfl (by rw [ev2]; rfl) (by decide) rfl (fun ls hl => ?_)
      refine lv_goto (tgt := 5) S.1 S.2.1 dX8_power_19 (by decide) ?_
      exact ih _ _ h _ _ d _ (lv_sub hl [2, 3, 1, 0] rfl)
set_option maxHeartbeats 4000000 in
set_option maxRecDepth 100000 in
theorem c_X8_power (l : Launch) (G : Gx) (M : Mem) (L : MemL) (fu : Nat) (a0 : Int32) (a1 : Int32) {z : Int64} (h : f_X8_power fu a0 a1 = some z) : Met l yX8_power (.code yX8_power cX8_power 5 (Option.some Jvm.ClassFile.FieldType.long) :: UW) rm_X8_power (va_Pc [.int a0, .int a1] (PreG G true M L)) (Ql G z M L) 0 0 (gA G) := by
  refine r_in (by decide) (fun p e s m args below meth c S hr d ha ls hl => ?_) (Nat.le_of_ble_eq_true rfl)
  have S : Sx G true p s m args meth c cX8_power 5 RX8 := S
  have hl : lv_has ls 5 [(0, .int a0), (1, .int a1)] := hl
  unfold f_X8_power at h
  refine lv_lconst (v := 1) S.1 S.2.1 dX8_power_0 (by decide) ?_
  refine lv_lstore_n (lv' := [(2, .long (1 : Int64)), (0, .int a0), (1, .int a1)]) S.1 S.2.1 dX8_power_1 rfl hl (by decide) rfl (fun ls hl => ?_)
  refine lv_iconst (v := 0) S.1 S.2.1 dX8_power_2 (by decide) ?_
  refine lv_istore (lv' := [(4, .int (0 : Int32)), (2, .long (1 : Int64)), (0, .int a0), (1, .int a1)]) S.1 S.2.1 dX8_power_3 hl (by decide) rfl (fun ls hl => ?_)
  refine lc_X8_power_5 S hr  _ (fun v3 H locs d ls hl h => ?_) _ _ _  h _ _ d _ (lv_sub hl [2, 3, 1, 0] rfl)
  refine lv_lload_n S.1 S.2.1 dX8_power_22 rfl (lv_at hl 0 rfl) ?_
  obtain rfl := Option.some.inj h
  exact r_lret S d hr rfl dX8_power_23
theorem hyV_X8_findOdds : yX8_findOdds.cls = RX8 ∧ yX8_findOdds.cls ≠ "java/lang/invoke/MethodHandle" ∧ yX8_findOdds.cls ≠ "java/lang/invoke/VarHandle" ∧ (parseMethodDescriptor yX8_findOdds.desc).map (fun d => d.parameters.length) = some 2 := by decide +kernel
abbrev rm_X8_findOdds : Room := { frames := 3, cells := 0, slots := 0, locals := 67 }
def lp_X8_findOdds_2 (fu : Nat) (M : Mem) (b0 : Nat) (b1 : Int32) (b2 : Int32) (K : MemL → Option (MemL)) : Nat → Int32 → MemL → Option (MemL)
  | 0, _, _ => none
  | n + 1, x3, Lx =>
    (if (26 : Int32) ≤ x3 then (K Lx)
    else gd (inb x3 26) (
      lt (upL Lx (b0 + 14) x3.toNatClampNeg (0 : Int64)) (fun L2 : MemL =>
      lt (x3 + 1) (fun v3 : Int32 =>
      (lp_X8_findOdds_2 fu M b0 b1 b2 K n v3 L2)))))
def lp_X8_findOdds_23 (fu : Nat) (M : Mem) (b0 : Nat) (b1 : Int32) (b2 : Int32) (K : MemL → Option (MemL)) : Nat → Int32 → MemL → Option (MemL)
  | 0, _, _ => none
  | n + 1, x3, Lx =>
    (if (32768 : Int32) ≤ x3 then (K Lx)
    else (f_X8_ones fu x3).bind (fun u5 =>
      (f_X8_power fu b2 u5).bind (fun u6 =>
      (f_X8_power fu ((16 : Int32) - b2) ((15 : Int32) - u5)).bind (fun u7 =>
      lt ((u6 * u7)) (fun v8 : Int64 =>
      (if (lg_cmp v8 (0 : Int64)) = 0 then some (-4 : Int32)
      else gd (inb b1 26) (
        (f_X8_readsAs fu M b0 ((M (b0 + 1) b1.toNatClampNeg) ^^^ x3)).bind (fun u12 =>
        some u12))).bind (fun t9 : Int32 =>
      (if t9 < 0 then lt (x3 + 1) (fun v17 : Int32 =>
        (lp_X8_findOdds_23 fu M b0 b1 b2 K n v17 Lx))
      else gd (inb t9 26) (
        gd (inb t9 26) (
        lt (upL Lx (b0 + 14) t9.toNatClampNeg ((Lx (b0 + 14) t9.toNatClampNeg) + v8)) (fun L15 : MemL =>
        lt (x3 + 1) (fun v16 : Int32 =>
        (lp_X8_findOdds_23 fu M b0 b1 b2 K n v16 L15))))))))))))
def f_X8_findOdds (fu : Nat) (M : Mem) (L : MemL) (k0 : Nat) (a1 : Int32) (a2 : Int32) : Option (MemL) :=
  (lp_X8_findOdds_2 fu M k0 a1 a2 (fun (L4 : MemL) =>
    (lp_X8_findOdds_23 fu M k0 a1 a2 (fun (L18 : MemL) =>
      some (L18)) fu (0 : Int32) L4)) fu (0 : Int32) L)
set_option maxHeartbeats 4000000 in
set_option maxRecDepth 100000 in
theorem lc_X8_findOdds_2 {p : Program} {l : Launch} {e : Env} {s : State} {m : MethodId} {args : Array Value} {below : List Frame} {meth : Method} {c : Code} {G : Gx} {M : Mem}  {fu : Nat} {b0 : Nat} {b1 : Int32} {b2 : Int32} {z : MemL} (S : Sx G true p s m args meth c cX8_findOdds 8 RX8) (hr : meth.sig.returnType = (Option.none : Option Jvm.ClassFile.FieldType)) (hb0 : kd b0 = 20) (K : MemL → Option (MemL)) (hK : ∀ (Ly : MemL) (H : Heap) (locs : List Loc), Dy G s M Ly H locs → ∀ ls : Array Slot, lv_has ls 8 [(0, .ref (ad G b0)), (1, .int b1), (2, .int b2)] → K Ly = some z → W p l e rm_X8_findOdds s m args below meth c H locs 0 0 (MQ below (Qv G M z) args s 0 0 (gA G)) (F0 m 21 ls [])) :
    ∀ (n : Nat) (x3 : Int32) (Lx : MemL), lp_X8_findOdds_2 fu M b0 b1 b2 K n x3 Lx = some z → ∀ (H : Heap) (locs : List Loc), Dy G s M Lx H locs → ∀ ls : Array Slot, lv_has ls 8 [(0, .ref (ad G b0)), (1, .int b1), (2, .int b2), (3, .int x3)] → W p l e rm_X8_findOdds s m args below meth c H locs 0 0 (MQ below (Qv G M z) args s 0 0 (gA G)) (F0 m 2 ls []) := by
  intro n
  induction n with
  | zero =>
    intro x3 Lx h
    have h : (none : Option (MemL)) = some z := h
    cases h
  | succ n ih =>
    intro x3 Lx h H locs d ls hl
    rw [lp_X8_findOdds_2] at h
    refine lv_iload_n S.1 S.2.1 dX8_findOdds_2 rfl (lv_at hl 3 rfl) ?_
    refine lv_bipush (v := 26) S.1 S.2.1 dX8_findOdds_3 (by decide) ?_
    refine lv_icmp_ge (tgt := 21) S.1 S.2.1 dX8_findOdds_5 (by decide) (fun cc => ?_) (fun cc => ?_)
    · replace h := it_p cc h
      exact hK _ _ _ d _ (lv_sub hl [0, 1, 2] rfl) h
    · replace h := it_n cc h
      refine lv_aload_n S.1 S.2.1 dX8_findOdds_8 rfl (lv_at hl 0 rfl) ?_
      refine gf_20_19 S d hb0 fl_RX8_49 dX8_findOdds_9 ?_
      refine lv_iload_n S.1 S.2.1 dX8_findOdds_12 rfl (lv_at hl 3 rfl) ?_
      refine lv_lconst (v := 0) S.1 S.2.1 dX8_findOdds_13 (by decide) ?_
      obtain ⟨g1, h⟩ := gd_e h
      obtain ⟨L2, eL2, h⟩ := lt_e h
      refine r_last S d eL2 (ksdM S (ch_20_19 hb0).1) (fun _ => wc_22 (ch_20_19 hb0).1) (ch_20_19 hb0).2 g1 dX8_findOdds_14 (fun H locs d => ?_)
      obtain ⟨v3, ev3, h⟩ := lt_e h
      refine lv_iinc (v := v3) (lv' := [(3, .int v3), (0, .ref (ad G b0)), (1, .int b1), (2, .int b2)]) S.1 S.2.1 dX8_findOdds_15 hl (k := 3) rfl (by rw [ev3]; rfl) (by decide) rfl (fun ls hl => ?_)
      refine lv_goto (tgt := 2) S.1 S.2.1 dX8_findOdds_18 (by decide) ?_
      exact ih _ _ h _ _ d _ (lv_sub hl [1, 2, 3, 0] rfl)
set_option maxHeartbeats 4000000 in
set_option maxRecDepth 100000 in
theorem lc_X8_findOdds_23 {p : Program} {l : Launch} {e : Env} {s : State} {m : MethodId} {args : Array Value} {below : List Frame} {meth : Method} {c : Code} {G : Gx} {M : Mem}  {fu : Nat} {b0 : Nat} {b1 : Int32} {b2 : Int32} {z : MemL} (S : Sx G true p s m args meth c cX8_findOdds 8 RX8) (hr : meth.sig.returnType = (Option.none : Option Jvm.ClassFile.FieldType)) (hb0 : kd b0 = 20) (K : MemL → Option (MemL)) (hK : ∀ (Ly : MemL) (H : Heap) (locs : List Loc), Dy G s M Ly H locs → ∀ ls : Array Slot, lv_has ls 8 [] → K Ly = some z → W p l e rm_X8_findOdds s m args below meth c H locs 0 0 (MQ below (Qv G M z) args s 0 0 (gA G)) (F0 m 105 ls [])) :
    ∀ (n : Nat) (x3 : Int32) (Lx : MemL), lp_X8_findOdds_23 fu M b0 b1 b2 K n x3 Lx = some z → ∀ (H : Heap) (locs : List Loc), Dy G s M Lx H locs → ∀ ls : Array Slot, lv_has ls 8 [(0, .ref (ad G b0)), (1, .int b1), (2, .int b2), (3, .int x3)] → W p l e rm_X8_findOdds s m args below meth c H locs 0 0 (MQ below (Qv G M z) args s 0 0 (gA G)) (F0 m 23 ls []) := by
  intro n
  induction n with
  | zero =>
    intro x3 Lx h
    have h : (none : Option (MemL)) = some z := h
    cases h
  | succ n ih =>
    intro x3 Lx h H locs d ls hl
    rw [lp_X8_findOdds_23] at h
    refine lv_iload_n S.1 S.2.1 dX8_findOdds_23 rfl (lv_at hl 3 rfl) ?_
    refine lv_ldc (v := 32768) S.1 S.2.1 S.2.2.2.1 (S.uw ck_RX8_211) dX8_findOdds_24 ?_
    refine lv_icmp_ge (tgt := 105) S.1 S.2.1 dX8_findOdds_26 (by decide) (fun cc => ?_) (fun cc => ?_)
    · replace h := it_p cc h
      exact hK _ _ _ d _ (lv_sub hl [] rfl) h
    · replace h := it_n cc h
      refine lv_iload_n S.1 S.2.1 dX8_findOdds_29 rfl (lv_at hl 3 rfl) ?_
      obtain ⟨u5, hu5, h⟩ := bd_e h
      refine r_ri d (r_cS (As := [.int x3]) (rest := []) S d (c_X8_ones l G M Lx fu x3 hu5) ml_RX8_108 sm_yX8_ones in_RX8 co_yX8_ones hyS_X8_ones ⟨rfl, rfl⟩ ⟨by decide, by decide⟩ rfl hl rfl (Nat.le_of_ble_eq_true rfl) dX8_findOdds_30 ⟨Nat.zero_le _, Nat.zero_le _⟩) (fun H locs d => ?_)
      refine lv_istore (lv' := [(4, .int u5), (0, .ref (ad G b0)), (1, .int b1), (2, .int b2), (3, .int x3)]) S.1 S.2.1 dX8_findOdds_33 hl (by decide) rfl (fun ls hl => ?_)
      refine lv_iload_n S.1 S.2.1 dX8_findOdds_35 rfl (lv_at hl 3 rfl) ?_
      refine lv_iload S.1 S.2.1 dX8_findOdds_36 (lv_at hl 0 rfl) ?_
      obtain ⟨u6, hu6, h⟩ := bd_e h
      refine r_rl d (r_cS (As := [.int b2, .int u5]) (rest := []) S d (c_X8_power l G M Lx fu b2 u5 hu6) ml_RX8_212 sm_yX8_power in_RX8 co_yX8_power hyS_X8_power ⟨rfl, rfl⟩ ⟨by decide, by decide⟩ rfl hl rfl (Nat.le_of_ble_eq_true rfl) dX8_findOdds_38 ⟨Nat.zero_le _, Nat.zero_le _⟩) (fun H locs d => ?_)
      refine lv_bipush (v := 16) S.1 S.2.1 dX8_findOdds_41 (by decide) ?_
      refine lv_iload_n S.1 S.2.1 dX8_findOdds_43 rfl (lv_at hl 3 rfl) ?_
      refine lv_isub S.1 S.2.1 dX8_findOdds_44 ?_
      refine lv_bipush (v := 15) S.1 S.2.1 dX8_findOdds_45 (by decide) ?_
      refine lv_iload S.1 S.2.1 dX8_findOdds_47 (lv_at hl 0 rfl) ?_
      refine lv_isub S.1 S.2.1 dX8_findOdds_49 ?_
      obtain ⟨u7, hu7, h⟩ := bd_e h
      refine r_rl d (r_cS (As := [.int ((16 : Int32) - b2), .int ((15 : Int32) - u5)]) (rest := [.long u6]) S d (c_X8_power l G M Lx fu ((16 : Int32) - b2) ((15 : Int32) - u5) hu7) ml_RX8_212 sm_yX8_power in_RX8 co_yX8_power hyS_X8_power ⟨rfl, rfl⟩ ⟨by decide, by decide⟩ rfl hl rfl (Nat.le_of_ble_eq_true rfl) dX8_findOdds_50 ⟨Nat.zero_le _, Nat.zero_le _⟩) (fun H locs d => ?_)
      refine lv_lmul S.1 S.2.1 dX8_findOdds_53 ?_
      obtain ⟨v8, ev8, h⟩ := lt_e h
      refine r_topl ev8 ?_
      refine lv_lstore (lv' := [(5, .long v8), (4, .int u5), (0, .ref (ad G b0)), (1, .int b1), (2, .int b2), (3, .int x3)]) S.1 S.2.1 dX8_findOdds_54 hl (by decide) rfl (fun ls hl => ?_)
      refine lv_lload S.1 S.2.1 dX8_findOdds_56 (lv_at hl 0 rfl) ?_
      refine lv_lconst (v := 0) S.1 S.2.1 dX8_findOdds_58 (by decide) ?_
      refine W.lcmp S.1 S.2.1 dX8_findOdds_59 ?_
      obtain ⟨t9, g10, h⟩ := bd_e h
      have Jt9 : ∀ (H : Heap) (locs : List Loc), Dy G s M Lx H locs → W p l e rm_X8_findOdds s m args below meth c H locs 0 0 (MQ below (Qv G M z) args s 0 0 (gA G)) (F0 m 80 ls [.int t9]) := by
        intro H locs d
        refine lv_istore (lv' := [(7, .int t9), (5, .long v8), (4, .int u5), (0, .ref (ad G b0)), (1, .int b1), (2, .int b2), (3, .int x3)]) S.1 S.2.1 dX8_findOdds_80 hl (by decide) rfl (fun ls hl => ?_)
        refine lv_iload S.1 S.2.1 dX8_findOdds_82 (lv_at hl 0 rfl) ?_
        refine lv_if_lt (tgt := 99) S.1 S.2.1 dX8_findOdds_84 (by decide) (fun cc => ?_) (fun cc => ?_)
        · replace h := it_p cc h
          obtain ⟨v17, ev17, h⟩ := lt_e h
          refine lv_iinc (v := v17) (lv' := [(3, .int v17), (7, .int t9), (5, .long v8), (4, .int u5), (0, .ref (ad G b0)), (1, .int b1), (2, .int b2)]) S.1 S.2.1 dX8_findOdds_99 hl (k := 6) rfl (by rw [ev17]; rfl) (by decide) rfl (fun ls hl => ?_)
          refine lv_goto (tgt := 23) S.1 S.2.1 dX8_findOdds_102 (by decide) ?_
          exact ih _ _ h _ _ d _ (lv_sub hl [4, 5, 6, 0] rfl)
        · replace h := it_n cc h
          refine lv_aload_n S.1 S.2.1 dX8_findOdds_87 rfl (lv_at hl 3 rfl) ?_
          refine gf_20_19 S d hb0 fl_RX8_49 dX8_findOdds_88 ?_
          refine lv_iload S.1 S.2.1 dX8_findOdds_91 (lv_at hl 0 rfl) ?_
          refine lv_dup2_11 S.1 S.2.1 dX8_findOdds_93 rfl rfl ?_
          obtain ⟨g13, h⟩ := gd_e h
          refine r_lald S d (ksdM S (ch_20_19 hb0).1) (wc_22 (ch_20_19 hb0).1) (ch_20_19 hb0).2 g13 dX8_findOdds_94 ?_
          refine lv_lload S.1 S.2.1 dX8_findOdds_95 (lv_at hl 1 rfl) ?_
          refine lv_ladd S.1 S.2.1 dX8_findOdds_97 ?_
          obtain ⟨g14, h⟩ := gd_e h
          obtain ⟨L15, eL15, h⟩ := lt_e h
          refine r_last S d eL15 (ksdM S (ch_20_19 hb0).1) (fun _ => wc_22 (ch_20_19 hb0).1) (ch_20_19 hb0).2 g14 dX8_findOdds_98 (fun H locs d => ?_)
          obtain ⟨v16, ev16, h⟩ := lt_e h
          refine lv_iinc (v := v16) (lv' := [(3, .int v16), (7, .int t9), (5, .long v8), (4, .int u5), (0, .ref (ad G b0)), (1, .int b1), (2, .int b2)]) S.1 S.2.1 dX8_findOdds_99 hl (k := 6) rfl (by rw [ev16]; rfl) (by decide) rfl (fun ls hl => ?_)
          refine lv_goto (tgt := 23) S.1 S.2.1 dX8_findOdds_102 (by decide) ?_
          exact ih _ _ h _ _ d _ (lv_sub hl [4, 5, 6, 0] rfl)
      have h := g10
      refine lv_if_ne (tgt := 68) S.1 S.2.1 dX8_findOdds_60 (by decide) (fun cc => ?_) (fun cc => ?_)
      · replace h := it_n cc h
        refine lv_aload_n S.1 S.2.1 dX8_findOdds_68 rfl (lv_at hl 2 rfl) ?_
        refine lv_aload_n S.1 S.2.1 dX8_findOdds_69 rfl (lv_at hl 2 rfl) ?_
        refine gf_20_0 S d hb0 fl_RX8_7 dX8_findOdds_70 ?_
        refine lv_iload_n S.1 S.2.1 dX8_findOdds_73 rfl (lv_at hl 3 rfl) ?_
        obtain ⟨g11, h⟩ := gd_e h
        refine r_iald S d (ksdM S (ch_20_0 hb0).1) (wc_21 (ch_20_0 hb0).1) (ch_20_0 hb0).2 g11 dX8_findOdds_74 ?_
        refine lv_iload_n S.1 S.2.1 dX8_findOdds_75 rfl (lv_at hl 5 rfl) ?_
        refine lv_ixor S.1 S.2.1 dX8_findOdds_76 ?_
        obtain ⟨u12, hu12, h⟩ := bd_e h
        refine r_ri d (r_cV (As := [.int ((M (b0 + 1) b1.toNatClampNeg) ^^^ x3)]) (rest := []) S d (c_X8_readsAs l G M Lx fu b0 ((M (b0 + 1) b1.toNatClampNeg) ^^^ x3) hb0 hu12) (ksdM S hb0) (wc_20 hb0) rfl ml_RX8_114 im_yX8_readsAs se_yX8_readsAs in_RX8 co_yX8_readsAs hyV_X8_readsAs ⟨rfl, rfl⟩ ⟨by decide, by decide⟩ rfl hl rfl (Nat.le_of_ble_eq_true rfl) dX8_findOdds_77 ⟨Nat.zero_le _, Nat.zero_le _⟩) (fun H locs d => ?_)
        obtain ej := Option.some.inj h
        refine r_top ej.symm ?_
        exact Jt9 _ _ d
      · replace h := it_p cc h
        refine lv_bipush (v := (-4)) S.1 S.2.1 dX8_findOdds_63 (by decide) ?_
        refine lv_goto (tgt := 80) S.1 S.2.1 dX8_findOdds_65 (by decide) ?_
        obtain ej := Option.some.inj h
        refine r_top ej.symm ?_
        exact Jt9 _ _ d
set_option maxHeartbeats 4000000 in
set_option maxRecDepth 100000 in
theorem c_X8_findOdds (l : Launch) (G : Gx) (M : Mem) (L : MemL) (fu : Nat) (k0 : Nat) (a1 : Int32) (a2 : Int32) (hk0 : kd k0 = 20) {z : MemL} (h : f_X8_findOdds fu M L k0 a1 a2 = some z) : Met l yX8_findOdds (.code yX8_findOdds cX8_findOdds 8 (Option.none : Option Jvm.ClassFile.FieldType) :: UW) rm_X8_findOdds (va_Pc [.ref (ad G k0), .int a1, .int a2] (PreG G true M L)) (Qv G M z) 0 0 (gA G) := by
  refine r_in (by decide) (fun p e s m args below meth c S hr d ha ls hl => ?_) (Nat.le_of_ble_eq_true rfl)
  have S : Sx G true p s m args meth c cX8_findOdds 8 RX8 := S
  have hl : lv_has ls 8 [(0, .ref (ad G k0)), (1, .int a1), (2, .int a2)] := hl
  unfold f_X8_findOdds at h
  refine lv_iconst (v := 0) S.1 S.2.1 dX8_findOdds_0 (by decide) ?_
  refine lv_istore_n (lv' := [(3, .int (0 : Int32)), (0, .ref (ad G k0)), (1, .int a1), (2, .int a2)]) S.1 S.2.1 dX8_findOdds_1 rfl hl (by decide) rfl (fun ls hl => ?_)
  refine lc_X8_findOdds_2 S hr hk0 _ (fun L4 H locs d ls hl h => ?_) _ _ _  h _ _ d _ (lv_sub hl [1, 2, 3, 0] rfl)
  refine lv_iconst (v := 0) S.1 S.2.1 dX8_findOdds_21 (by decide) ?_
  refine lv_istore_n (lv' := [(3, .int (0 : Int32)), (0, .ref (ad G k0)), (1, .int a1), (2, .int a2)]) S.1 S.2.1 dX8_findOdds_22 rfl hl (by decide) rfl (fun ls hl => ?_)
  refine lc_X8_findOdds_23 S hr hk0 _ (fun L18 H locs d ls hl h => ?_) _ _ _  h _ _ d _ (lv_sub hl [1, 2, 3, 0] rfl)
  obtain rfl := Option.some.inj h
  exact r_vret S d hr dX8_findOdds_105
theorem hyV_X8_sure : yX8_sure.cls = RX8 ∧ yX8_sure.cls ≠ "java/lang/invoke/MethodHandle" ∧ yX8_sure.cls ≠ "java/lang/invoke/VarHandle" ∧ (parseMethodDescriptor yX8_sure.desc).map (fun d => d.parameters.length) = some 2 := by decide +kernel
abbrev rm_X8_sure : Room := { frames := 4, cells := 0, slots := 0, locals := 94 }
def f_X8_sure (fu : Nat) (M : Mem) (L : MemL) (k0 : Nat) (a1 : Int32) (a2 : Int32) : Option (Int32 × MemL) :=
  (f_X8_isLetter a1).bind (fun u1 =>
  (if u1 = 0 then some ((-1 : Int32), L)
  else (f_X8_in ((a2).toInt64) (0 : Int64) (8 : Int64)).bind (fun u2 =>
    (if u2 = 0 then some ((-1 : Int32), L)
    else (f_X8_findOdds fu M L k0 a1 a2).bind (fun u3 =>
      gd (inb a1 26) (
      lt (((u3 (k0 + 14) a1.toNatClampNeg) >>> (((30 : Int32)).toInt64 &&& 63))) (fun v5 : Int64 =>
      gd (inb a1 26) (
      lt (((u3 (k0 + 14) a1.toNatClampNeg) &&& (1073741823 : Int64))) (fun v7 : Int64 =>
      some ((((((1000 : Int64) * v5) + (((1000 : Int64) * v7) >>> (((30 : Int32)).toInt64 &&& 63))) >>> (((30 : Int32)).toInt64 &&& 63))).toInt32, u3))))))))))
set_option maxHeartbeats 4000000 in
set_option maxRecDepth 100000 in
theorem c_X8_sure (l : Launch) (G : Gx) (M : Mem) (L : MemL) (fu : Nat) (k0 : Nat) (a1 : Int32) (a2 : Int32) (hk0 : kd k0 = 20) {z : Int32 × MemL} (h : f_X8_sure fu M L k0 a1 a2 = some z) : Met l yX8_sure (.code yX8_sure cX8_sure 7 (Option.some Jvm.ClassFile.FieldType.int) :: UW) rm_X8_sure (va_Pc [.ref (ad G k0), .int a1, .int a2] (PreG G true M L)) (Qi G z.1 M z.2) 0 0 (gA G) := by
  refine r_in (by decide) (fun p e s m args below meth c S hr d ha ls hl => ?_) (Nat.le_of_ble_eq_true rfl)
  have S : Sx G true p s m args meth c cX8_sure 7 RX8 := S
  have hl : lv_has ls 7 [(0, .ref (ad G k0)), (1, .int a1), (2, .int a2)] := hl
  unfold f_X8_sure at h
  refine lv_iload_n S.1 S.2.1 dX8_sure_0 rfl (lv_at hl 1 rfl) ?_
  obtain ⟨u1, hu1, h⟩ := bd_e h
  refine r_ri d (r_cS (As := [.int a1]) (rest := []) S d (c_X8_isLetter l G M L a1 hu1) ml_RX8_101 sm_yX8_isLetter in_RX8 co_yX8_isLetter hyS_X8_isLetter ⟨rfl, rfl⟩ ⟨by decide, by decide⟩ rfl hl rfl (Nat.le_of_ble_eq_true rfl) dX8_sure_1 ⟨Nat.zero_le _, Nat.zero_le _⟩) (fun H locs d => ?_)
  refine lv_if_eq (tgt := 19) S.1 S.2.1 dX8_sure_4 (by decide) (fun cc => ?_) (fun cc => ?_)
  · replace h := it_p cc h
    refine lv_iconst (v := (-1)) S.1 S.2.1 dX8_sure_19 (by decide) ?_
    obtain rfl := Option.some.inj h
    exact r_iret S d hr rfl rfl dX8_sure_20
  · replace h := it_n cc h
    refine lv_iload_n S.1 S.2.1 dX8_sure_7 rfl (lv_at hl 2 rfl) ?_
    refine lv_i2l S.1 S.2.1 dX8_sure_8 rfl ?_
    refine lv_lconst (v := 0) S.1 S.2.1 dX8_sure_9 (by decide) ?_
    refine lv_ldc2 (v := 8) S.1 S.2.1 S.2.2.2.1 (S.uw cn_RX8_133) dX8_sure_10 ?_
    obtain ⟨u2, hu2, h⟩ := bd_e h
    refine r_ri d (r_cS (As := [.long ((a2).toInt64), .long (0 : Int64), .long (8 : Int64)]) (rest := []) S d (c_X8_in l G M L ((a2).toInt64) (0 : Int64) (8 : Int64) hu2) ml_RX8_75 sm_yX8_in in_RX8 co_yX8_in hyS_X8_in ⟨rfl, rfl⟩ ⟨by decide, by decide⟩ rfl hl rfl (Nat.le_of_ble_eq_true rfl) dX8_sure_13 ⟨Nat.zero_le _, Nat.zero_le _⟩) (fun H locs d => ?_)
    refine lv_if_ne (tgt := 21) S.1 S.2.1 dX8_sure_16 (by decide) (fun cc => ?_) (fun cc => ?_)
    · replace h := it_n cc h
      refine lv_aload_n S.1 S.2.1 dX8_sure_21 rfl (lv_at hl 0 rfl) ?_
      refine lv_iload_n S.1 S.2.1 dX8_sure_22 rfl (lv_at hl 1 rfl) ?_
      refine lv_iload_n S.1 S.2.1 dX8_sure_23 rfl (lv_at hl 2 rfl) ?_
      obtain ⟨u3, hu3, h⟩ := bd_e h
      refine r_rv d (r_cV (As := [.int a1, .int a2]) (rest := []) S d (c_X8_findOdds l G M L fu k0 a1 a2 hk0 hu3) (ksdM S hk0) (wc_20 hk0) rfl ml_RX8_216 im_yX8_findOdds se_yX8_findOdds in_RX8 co_yX8_findOdds hyV_X8_findOdds ⟨rfl, rfl⟩ ⟨by decide, by decide⟩ rfl hl rfl (Nat.le_of_ble_eq_true rfl) dX8_sure_24 ⟨Nat.zero_le _, Nat.zero_le _⟩) (fun H locs d => ?_)
      refine lv_aload_n S.1 S.2.1 dX8_sure_27 rfl (lv_at hl 0 rfl) ?_
      refine gf_20_19 S d hk0 fl_RX8_49 dX8_sure_28 ?_
      refine lv_iload_n S.1 S.2.1 dX8_sure_31 rfl (lv_at hl 1 rfl) ?_
      obtain ⟨g4, h⟩ := gd_e h
      refine r_lald S d (ksdM S (ch_20_19 hk0).1) (wc_22 (ch_20_19 hk0).1) (ch_20_19 hk0).2 g4 dX8_sure_32 ?_
      refine lv_bipush (v := 30) S.1 S.2.1 dX8_sure_33 (by decide) ?_
      refine lv_lshr S.1 S.2.1 dX8_sure_35 rfl ?_
      obtain ⟨v5, ev5, h⟩ := lt_e h
      refine r_topl ev5 ?_
      refine lv_lstore_n (lv' := [(3, .long v5), (0, .ref (ad G k0)), (1, .int a1), (2, .int a2)]) S.1 S.2.1 dX8_sure_36 rfl hl (by decide) rfl (fun ls hl => ?_)
      refine lv_aload_n S.1 S.2.1 dX8_sure_37 rfl (lv_at hl 1 rfl) ?_
      refine gf_20_19 S d hk0 fl_RX8_49 dX8_sure_38 ?_
      refine lv_iload_n S.1 S.2.1 dX8_sure_41 rfl (lv_at hl 2 rfl) ?_
      obtain ⟨g6, h⟩ := gd_e h
      refine r_lald S d (ksdM S (ch_20_19 hk0).1) (wc_22 (ch_20_19 hk0).1) (ch_20_19 hk0).2 g6 dX8_sure_42 ?_
      refine lv_ldc2 (v := 1073741823) S.1 S.2.1 S.2.2.2.1 (S.uw cn_RX8_220) dX8_sure_43 ?_
      refine lv_land S.1 S.2.1 dX8_sure_46 ?_
      obtain ⟨v7, ev7, h⟩ := lt_e h
      refine r_topl ev7 ?_
      refine lv_lstore (lv' := [(5, .long v7), (3, .long v5), (0, .ref (ad G k0)), (1, .int a1), (2, .int a2)]) S.1 S.2.1 dX8_sure_47 hl (by decide) rfl (fun ls hl => ?_)
      refine lv_ldc2 (v := 1000) S.1 S.2.1 S.2.2.2.1 (S.uw cn_RX8_222) dX8_sure_49 ?_
      refine lv_lload_n S.1 S.2.1 dX8_sure_52 rfl (lv_at hl 1 rfl) ?_
      refine lv_lmul S.1 S.2.1 dX8_sure_53 ?_
      refine lv_ldc2 (v := 1000) S.1 S.2.1 S.2.2.2.1 (S.uw cn_RX8_222) dX8_sure_54 ?_
      refine lv_lload S.1 S.2.1 dX8_sure_57 (lv_at hl 0 rfl) ?_
      refine lv_lmul S.1 S.2.1 dX8_sure_59 ?_
      refine lv_bipush (v := 30) S.1 S.2.1 dX8_sure_60 (by decide) ?_
      refine lv_lshr S.1 S.2.1 dX8_sure_62 rfl ?_
      refine lv_ladd S.1 S.2.1 dX8_sure_63 ?_
      refine lv_bipush (v := 30) S.1 S.2.1 dX8_sure_64 (by decide) ?_
      refine lv_lshr S.1 S.2.1 dX8_sure_66 rfl ?_
      refine lv_l2i S.1 S.2.1 dX8_sure_67 rfl ?_
      obtain rfl := Option.some.inj h
      exact r_iret S d hr rfl rfl dX8_sure_68
    · replace h := it_p cc h
      refine lv_iconst (v := (-1)) S.1 S.2.1 dX8_sure_19 (by decide) ?_
      obtain rfl := Option.some.inj h
      exact r_iret S d hr rfl rfl dX8_sure_20
theorem hyV_X8_taken : yX8_taken.cls = RX8 ∧ yX8_taken.cls ≠ "java/lang/invoke/MethodHandle" ∧ yX8_taken.cls ≠ "java/lang/invoke/VarHandle" ∧ (parseMethodDescriptor yX8_taken.desc).map (fun d => d.parameters.length) = some 2 := by decide +kernel
abbrev rm_X8_taken : Room := { frames := 4, cells := 0, slots := 0, locals := 94 }
def lp_X8_taken_36 (fu : Nat) (M : Mem) (L : MemL) (b0 : Nat) (b1 : Int32) (K : Int32 → Option (Int32 × MemL)) : Nat → Int32 → Int64 → Int32 → Option (Int32 × MemL)
  | 0, _, _, _ => none
  | n + 1, x3, x4, x6 =>
    (if (26 : Int32) ≤ x6 then (K x3)
    else (if x6 = b1 then lt (x6 + 1) (fun v9 : Int32 =>
        (lp_X8_taken_36 fu M L b0 b1 K n x3 x4 v9))
      else gd (inb x6 26) (
        (if (lg_cmp (L (b0 + 14) x6.toNatClampNeg) x4) ≤ 0 then lt (x6 + 1) (fun v8 : Int32 =>
          (lp_X8_taken_36 fu M L b0 b1 K n x3 x4 v8))
        else gd (inb x6 26) (
          lt ((L (b0 + 14) x6.toNatClampNeg)) (fun v6 : Int64 =>
          lt (x6 + 1) (fun v7 : Int32 =>
          (lp_X8_taken_36 fu M L b0 b1 K n x6 v6 v7))))))))
def f_X8_taken (fu : Nat) (M : Mem) (L : MemL) (k0 : Nat) (a1 : Int32) (a2 : Int32) : Option (Int32 × MemL) :=
  (f_X8_isLetter a1).bind (fun u1 =>
  (if u1 = 0 then some ((-1 : Int32), L)
  else (f_X8_in ((a2).toInt64) (0 : Int64) (8 : Int64)).bind (fun u2 =>
    (if u2 = 0 then some ((-1 : Int32), L)
    else (f_X8_findOdds fu M L k0 a1 a2).bind (fun u3 =>
      (lp_X8_taken_36 fu M u3 k0 a1 (fun (v10 : Int32) =>
        some (v10, u3)) fu (-4 : Int32) (0 : Int64) (0 : Int32)))))))
set_option maxHeartbeats 4000000 in
set_option maxRecDepth 100000 in
theorem lc_X8_taken_36 {p : Program} {l : Launch} {e : Env} {s : State} {m : MethodId} {args : Array Value} {below : List Frame} {meth : Method} {c : Code} {G : Gx} {M : Mem} {L : MemL} {fu : Nat} {b0 : Nat} {b1 : Int32} {z : Int32 × MemL} (S : Sx G true p s m args meth c cX8_taken 7 RX8) (hr : meth.sig.returnType = (Option.some Jvm.ClassFile.FieldType.int)) (hb0 : kd b0 = 20) (K : Int32 → Option (Int32 × MemL)) (hK : ∀ (y3 : Int32) (H : Heap) (locs : List Loc), Dy G s M L H locs → ∀ ls : Array Slot, lv_has ls 7 [(3, .int y3)] → K y3 = some z → W p l e rm_X8_taken s m args below meth c H locs 0 0 (MQ below (Qi G z.1 M z.2) args s 0 0 (gA G)) (F0 m 80 ls [])) :
    ∀ (n : Nat) (x3 : Int32) (x4 : Int64) (x6 : Int32), lp_X8_taken_36 fu M L b0 b1 K n x3 x4 x6 = some z → ∀ (H : Heap) (locs : List Loc), Dy G s M L H locs → ∀ ls : Array Slot, lv_has ls 7 [(0, .ref (ad G b0)), (1, .int b1), (3, .int x3), (4, .long x4), (6, .int x6)] → W p l e rm_X8_taken s m args below meth c H locs 0 0 (MQ below (Qi G z.1 M z.2) args s 0 0 (gA G)) (F0 m 36 ls []) := by
  intro n
  induction n with
  | zero =>
    intro x3 x4 x6 h
    have h : (none : Option (Int32 × MemL)) = some z := h
    cases h
  | succ n ih =>
    intro x3 x4 x6 h H locs d ls hl
    rw [lp_X8_taken_36] at h
    refine lv_iload S.1 S.2.1 dX8_taken_36 (lv_at hl 4 rfl) ?_
    refine lv_bipush (v := 26) S.1 S.2.1 dX8_taken_38 (by decide) ?_
    refine lv_icmp_ge (tgt := 80) S.1 S.2.1 dX8_taken_40 (by decide) (fun cc => ?_) (fun cc => ?_)
    · replace h := it_p cc h
      exact hK _ _ _ d _ (lv_sub hl [2] rfl) h
    · replace h := it_n cc h
      refine lv_iload S.1 S.2.1 dX8_taken_43 (lv_at hl 4 rfl) ?_
      refine lv_iload_n S.1 S.2.1 dX8_taken_45 rfl (lv_at hl 1 rfl) ?_
      refine lv_icmp_eq (tgt := 74) S.1 S.2.1 dX8_taken_46 (by decide) (fun cc => ?_) (fun cc => ?_)
      · replace h := it_p cc h
        obtain ⟨v9, ev9, h⟩ := lt_e h
        refine lv_iinc (v := v9) (lv' := [(6, .int v9), (0, .ref (ad G b0)), (1, .int b1), (3, .int x3), (4, .long x4)]) S.1 S.2.1 dX8_taken_74 hl (k := 4) rfl (by rw [ev9]; rfl) (by decide) rfl (fun ls hl => ?_)
        refine lv_goto (tgt := 36) S.1 S.2.1 dX8_taken_77 (by decide) ?_
        exact ih _ _ _ h _ _ d _ (lv_sub hl [1, 2, 3, 4, 0] rfl)
      · replace h := it_n cc h
        refine lv_aload_n S.1 S.2.1 dX8_taken_49 rfl (lv_at hl 0 rfl) ?_
        refine gf_20_19 S d hb0 fl_RX8_49 dX8_taken_50 ?_
        refine lv_iload S.1 S.2.1 dX8_taken_53 (lv_at hl 4 rfl) ?_
        obtain ⟨g4, h⟩ := gd_e h
        refine r_lald S d (ksdM S (ch_20_19 hb0).1) (wc_22 (ch_20_19 hb0).1) (ch_20_19 hb0).2 g4 dX8_taken_55 ?_
        refine lv_lload S.1 S.2.1 dX8_taken_56 (lv_at hl 3 rfl) ?_
        refine W.lcmp S.1 S.2.1 dX8_taken_58 ?_
        refine lv_if_le (tgt := 74) S.1 S.2.1 dX8_taken_59 (by decide) (fun cc => ?_) (fun cc => ?_)
        · replace h := it_p cc h
          obtain ⟨v8, ev8, h⟩ := lt_e h
          refine lv_iinc (v := v8) (lv' := [(6, .int v8), (0, .ref (ad G b0)), (1, .int b1), (3, .int x3), (4, .long x4)]) S.1 S.2.1 dX8_taken_74 hl (k := 4) rfl (by rw [ev8]; rfl) (by decide) rfl (fun ls hl => ?_)
          refine lv_goto (tgt := 36) S.1 S.2.1 dX8_taken_77 (by decide) ?_
          exact ih _ _ _ h _ _ d _ (lv_sub hl [1, 2, 3, 4, 0] rfl)
        · replace h := it_n cc h
          refine lv_iload S.1 S.2.1 dX8_taken_62 (lv_at hl 4 rfl) ?_
          refine lv_istore_n (lv' := [(3, .int x6), (0, .ref (ad G b0)), (1, .int b1), (4, .long x4), (6, .int x6)]) S.1 S.2.1 dX8_taken_64 rfl hl (by decide) rfl (fun ls hl => ?_)
          refine lv_aload_n S.1 S.2.1 dX8_taken_65 rfl (lv_at hl 1 rfl) ?_
          refine gf_20_19 S d hb0 fl_RX8_49 dX8_taken_66 ?_
          refine lv_iload S.1 S.2.1 dX8_taken_69 (lv_at hl 4 rfl) ?_
          obtain ⟨g5, h⟩ := gd_e h
          refine r_lald S d (ksdM S (ch_20_19 hb0).1) (wc_22 (ch_20_19 hb0).1) (ch_20_19 hb0).2 g5 dX8_taken_71 ?_
          obtain ⟨v6, ev6, h⟩ := lt_e h
          refine r_topl ev6 ?_
          refine lv_lstore (lv' := [(4, .long v6), (3, .int x6), (0, .ref (ad G b0)), (1, .int b1), (6, .int x6)]) S.1 S.2.1 dX8_taken_72 hl (by decide) rfl (fun ls hl => ?_)
          obtain ⟨v7, ev7, h⟩ := lt_e h
          refine lv_iinc (v := v7) (lv' := [(6, .int v7), (4, .long v6), (3, .int x6), (0, .ref (ad G b0)), (1, .int b1)]) S.1 S.2.1 dX8_taken_74 hl (k := 4) rfl (by rw [ev7]; rfl) (by decide) rfl (fun ls hl => ?_)
          refine lv_goto (tgt := 36) S.1 S.2.1 dX8_taken_77 (by decide) ?_
          exact ih _ _ _ h _ _ d _ (lv_sub hl [3, 4, 2, 1, 0] rfl)
set_option maxHeartbeats 4000000 in
set_option maxRecDepth 100000 in
theorem c_X8_taken (l : Launch) (G : Gx) (M : Mem) (L : MemL) (fu : Nat) (k0 : Nat) (a1 : Int32) (a2 : Int32) (hk0 : kd k0 = 20) {z : Int32 × MemL} (h : f_X8_taken fu M L k0 a1 a2 = some z) : Met l yX8_taken (.code yX8_taken cX8_taken 7 (Option.some Jvm.ClassFile.FieldType.int) :: UW) rm_X8_taken (va_Pc [.ref (ad G k0), .int a1, .int a2] (PreG G true M L)) (Qi G z.1 M z.2) 0 0 (gA G) := by
  refine r_in (by decide) (fun p e s m args below meth c S hr d ha ls hl => ?_) (Nat.le_of_ble_eq_true rfl)
  have S : Sx G true p s m args meth c cX8_taken 7 RX8 := S
  have hl : lv_has ls 7 [(0, .ref (ad G k0)), (1, .int a1), (2, .int a2)] := hl
  unfold f_X8_taken at h
  refine lv_iload_n S.1 S.2.1 dX8_taken_0 rfl (lv_at hl 1 rfl) ?_
  obtain ⟨u1, hu1, h⟩ := bd_e h
  refine r_ri d (r_cS (As := [.int a1]) (rest := []) S d (c_X8_isLetter l G M L a1 hu1) ml_RX8_101 sm_yX8_isLetter in_RX8 co_yX8_isLetter hyS_X8_isLetter ⟨rfl, rfl⟩ ⟨by decide, by decide⟩ rfl hl rfl (Nat.le_of_ble_eq_true rfl) dX8_taken_1 ⟨Nat.zero_le _, Nat.zero_le _⟩) (fun H locs d => ?_)
  refine lv_if_eq (tgt := 19) S.1 S.2.1 dX8_taken_4 (by decide) (fun cc => ?_) (fun cc => ?_)
  · replace h := it_p cc h
    refine lv_iconst (v := (-1)) S.1 S.2.1 dX8_taken_19 (by decide) ?_
    obtain rfl := Option.some.inj h
    exact r_iret S d hr rfl rfl dX8_taken_20
  · replace h := it_n cc h
    refine lv_iload_n S.1 S.2.1 dX8_taken_7 rfl (lv_at hl 2 rfl) ?_
    refine lv_i2l S.1 S.2.1 dX8_taken_8 rfl ?_
    refine lv_lconst (v := 0) S.1 S.2.1 dX8_taken_9 (by decide) ?_
    refine lv_ldc2 (v := 8) S.1 S.2.1 S.2.2.2.1 (S.uw cn_RX8_133) dX8_taken_10 ?_
    obtain ⟨u2, hu2, h⟩ := bd_e h
    refine r_ri d (r_cS (As := [.long ((a2).toInt64), .long (0 : Int64), .long (8 : Int64)]) (rest := []) S d (c_X8_in l G M L ((a2).toInt64) (0 : Int64) (8 : Int64) hu2) ml_RX8_75 sm_yX8_in in_RX8 co_yX8_in hyS_X8_in ⟨rfl, rfl⟩ ⟨by decide, by decide⟩ rfl hl rfl (Nat.le_of_ble_eq_true rfl) dX8_taken_13 ⟨Nat.zero_le _, Nat.zero_le _⟩) (fun H locs d => ?_)
    refine lv_if_ne (tgt := 21) S.1 S.2.1 dX8_taken_16 (by decide) (fun cc => ?_) (fun cc => ?_)
    · replace h := it_n cc h
      refine lv_aload_n S.1 S.2.1 dX8_taken_21 rfl (lv_at hl 0 rfl) ?_
      refine lv_iload_n S.1 S.2.1 dX8_taken_22 rfl (lv_at hl 1 rfl) ?_
      refine lv_iload_n S.1 S.2.1 dX8_taken_23 rfl (lv_at hl 2 rfl) ?_
      obtain ⟨u3, hu3, h⟩ := bd_e h
      refine r_rv d (r_cV (As := [.int a1, .int a2]) (rest := []) S d (c_X8_findOdds l G M L fu k0 a1 a2 hk0 hu3) (ksdM S hk0) (wc_20 hk0) rfl ml_RX8_216 im_yX8_findOdds se_yX8_findOdds in_RX8 co_yX8_findOdds hyV_X8_findOdds ⟨rfl, rfl⟩ ⟨by decide, by decide⟩ rfl hl rfl (Nat.le_of_ble_eq_true rfl) dX8_taken_24 ⟨Nat.zero_le _, Nat.zero_le _⟩) (fun H locs d => ?_)
      refine lv_bipush (v := (-4)) S.1 S.2.1 dX8_taken_27 (by decide) ?_
      refine lv_istore_n (lv' := [(3, .int (-4 : Int32)), (0, .ref (ad G k0)), (1, .int a1), (2, .int a2)]) S.1 S.2.1 dX8_taken_29 rfl hl (by decide) rfl (fun ls hl => ?_)
      refine lv_lconst (v := 0) S.1 S.2.1 dX8_taken_30 (by decide) ?_
      refine lv_lstore (lv' := [(4, .long (0 : Int64)), (3, .int (-4 : Int32)), (0, .ref (ad G k0)), (1, .int a1), (2, .int a2)]) S.1 S.2.1 dX8_taken_31 hl (by decide) rfl (fun ls hl => ?_)
      refine lv_iconst (v := 0) S.1 S.2.1 dX8_taken_33 (by decide) ?_
      refine lv_istore (lv' := [(6, .int (0 : Int32)), (4, .long (0 : Int64)), (3, .int (-4 : Int32)), (0, .ref (ad G k0)), (1, .int a1), (2, .int a2)]) S.1 S.2.1 dX8_taken_34 hl (by decide) rfl (fun ls hl => ?_)
      refine lc_X8_taken_36 S hr hk0 _ (fun v10 H locs d ls hl h => ?_) _ _ _ _  h _ _ d _ (lv_sub hl [3, 4, 2, 1, 0] rfl)
      refine lv_iload_n S.1 S.2.1 dX8_taken_80 rfl (lv_at hl 0 rfl) ?_
      obtain rfl := Option.some.inj h
      exact r_iret S d hr rfl rfl dX8_taken_81
    · replace h := it_p cc h
      refine lv_iconst (v := (-1)) S.1 S.2.1 dX8_taken_19 (by decide) ?_
      obtain rfl := Option.some.inj h
      exact r_iret S d hr rfl rfl dX8_taken_20
theorem hyV_X8_fades : yX8_fades.cls = RX8 ∧ yX8_fades.cls ≠ "java/lang/invoke/MethodHandle" ∧ yX8_fades.cls ≠ "java/lang/invoke/VarHandle" ∧ (parseMethodDescriptor yX8_fades.desc).map (fun d => d.parameters.length) = some 2 := by decide +kernel
abbrev rm_X8_fades : Room := { frames := 4, cells := 0, slots := 0, locals := 91 }
def lp_X8_fades_32 (fu : Nat) (b0 : Nat) (b1 : Int32) (b2 : Int32) (K : Mem → Option (Int32 × Mem)) : Nat → Int32 → Mem → Option (Int32 × Mem)
  | 0, _, _ => none
  | n + 1, x3, Mx =>
    (if (135 : Int32) ≤ x3 then (K Mx)
    else gd (inb x3 135) (
      gd (inb x3 135) (
      lt (up Mx (b0 + 15) x3.toNatClampNeg (Mx (b0 + 3) x3.toNatClampNeg)) (fun M6 : Mem =>
      lt (x3 + 1) (fun v7 : Int32 =>
      (lp_X8_fades_32 fu b0 b1 b2 K n v7 M6))))))
def lp_X8_fades_63 (fu : Nat) (b0 : Nat) (b1 : Int32) (b2 : Int32) (K : Int32 → Mem → Option (Int32 × Mem)) : Nat → Int32 → Int32 → Mem → Option (Int32 × Mem)
  | 0, _, _, _ => none
  | n + 1, x3, x4, Mx =>
    (if (30 : Int32) < x4 then (K x3 Mx)
    else (if 0 ≤ x3 then (K x3 Mx)
      else (f_X8_goWeek fu Mx b0).bind (fun u9 =>
        (f_X8_isWritten fu u9 b0 b1 b2).bind (fun u10 =>
        (if u10 = 0 then some x4
        else some (-4 : Int32)).bind (fun t11 : Int32 =>
        lt (x4 + 1) (fun v13 : Int32 =>
        (lp_X8_fades_63 fu b0 b1 b2 K n t11 v13 u9)))))))
def lp_X8_fades_104 (fu : Nat) (b0 : Nat) (b3 : Int32) (K : Mem → Option (Int32 × Mem)) : Nat → Int32 → Mem → Option (Int32 × Mem)
  | 0, _, _ => none
  | n + 1, x4, Mx =>
    (if (135 : Int32) ≤ x4 then (K Mx)
    else gd (inb x4 135) (
      gd (inb x4 135) (
      lt (up Mx (b0 + 3) x4.toNatClampNeg (Mx (b0 + 15) x4.toNatClampNeg)) (fun M18 : Mem =>
      lt (x4 + 1) (fun v19 : Int32 =>
      (lp_X8_fades_104 fu b0 b3 K n v19 M18))))))
def f_X8_fades (fu : Nat) (M : Mem) (k0 : Nat) (a1 : Int32) (a2 : Int32) : Option (Int32 × Mem) :=
  (f_X8_isWord M k0 a1).bind (fun u1 =>
  (if u1 = 0 then some ((-1 : Int32), M)
  else (f_X8_isStrip M k0 a2).bind (fun u2 =>
    (if u2 = 0 then some ((-1 : Int32), M)
    else (f_X8_isWritten fu M k0 a1 a2).bind (fun u3 =>
      (if u3 = 0 then some ((-2 : Int32), M)
      else (lp_X8_fades_32 fu k0 a1 a2 (fun (M8 : Mem) =>
          (lp_X8_fades_63 fu k0 a1 a2 (fun (v14 : Int32) (M15 : Mem) =>
            (lp_X8_fades_104 fu k0 v14 (fun (M20 : Mem) =>
              some (v14, M20)) fu (0 : Int32) M15)) fu (-4 : Int32) (1 : Int32) M8)) fu (0 : Int32) M)))))))
set_option maxHeartbeats 4000000 in
set_option maxRecDepth 100000 in
theorem lc_X8_fades_32 {p : Program} {l : Launch} {e : Env} {s : State} {m : MethodId} {args : Array Value} {below : List Frame} {meth : Method} {c : Code} {G : Gx} {L : MemL} {fu : Nat} {b0 : Nat} {b1 : Int32} {b2 : Int32} {z : Int32 × Mem} (S : Sx G true p s m args meth c cX8_fades 5 RX8) (hr : meth.sig.returnType = (Option.some Jvm.ClassFile.FieldType.int)) (hb0 : kd b0 = 20) (K : Mem → Option (Int32 × Mem)) (hK : ∀ (My : Mem) (H : Heap) (locs : List Loc), Dy G s My L H locs → ∀ ls : Array Slot, lv_has ls 5 [(0, .ref (ad G b0)), (1, .int b1), (2, .int b2)] → K My = some z → W p l e rm_X8_fades s m args below meth c H locs 0 0 (MQ below (Qi G z.1 z.2 L) args s 0 0 (gA G)) (F0 m 57 ls [])) :
    ∀ (n : Nat) (x3 : Int32) (Mx : Mem), lp_X8_fades_32 fu b0 b1 b2 K n x3 Mx = some z → ∀ (H : Heap) (locs : List Loc), Dy G s Mx L H locs → ∀ ls : Array Slot, lv_has ls 5 [(0, .ref (ad G b0)), (1, .int b1), (2, .int b2), (3, .int x3)] → W p l e rm_X8_fades s m args below meth c H locs 0 0 (MQ below (Qi G z.1 z.2 L) args s 0 0 (gA G)) (F0 m 32 ls []) := by
  intro n
  induction n with
  | zero =>
    intro x3 Mx h
    have h : (none : Option (Int32 × Mem)) = some z := h
    cases h
  | succ n ih =>
    intro x3 Mx h H locs d ls hl
    rw [lp_X8_fades_32] at h
    refine lv_iload_n S.1 S.2.1 dX8_fades_32 rfl (lv_at hl 3 rfl) ?_
    refine lv_sipush (v := 135) S.1 S.2.1 dX8_fades_33 (by decide) ?_
    refine lv_icmp_ge (tgt := 57) S.1 S.2.1 dX8_fades_36 (by decide) (fun cc => ?_) (fun cc => ?_)
    · replace h := it_p cc h
      exact hK _ _ _ d _ (lv_sub hl [0, 1, 2] rfl) h
    · replace h := it_n cc h
      refine lv_aload_n S.1 S.2.1 dX8_fades_39 rfl (lv_at hl 0 rfl) ?_
      refine gf_20_20 S d hb0 fl_RX8_53 dX8_fades_40 ?_
      refine lv_iload_n S.1 S.2.1 dX8_fades_43 rfl (lv_at hl 3 rfl) ?_
      refine lv_aload_n S.1 S.2.1 dX8_fades_44 rfl (lv_at hl 0 rfl) ?_
      refine gf_20_2 S d hb0 fl_RX8_16 dX8_fades_45 ?_
      refine lv_iload_n S.1 S.2.1 dX8_fades_48 rfl (lv_at hl 3 rfl) ?_
      obtain ⟨g4, h⟩ := gd_e h
      refine r_iald S d (ksdM S (ch_20_2 hb0).1) (wc_21 (ch_20_2 hb0).1) (ch_20_2 hb0).2 g4 dX8_fades_49 ?_
      obtain ⟨g5, h⟩ := gd_e h
      obtain ⟨M6, eM6, h⟩ := lt_e h
      refine r_iast S d eM6 (ksdM S (ch_20_20 hb0).1) (fun _ => wc_21 (ch_20_20 hb0).1) (ch_20_20 hb0).2 g5 dX8_fades_50 (fun H locs d => ?_)
      obtain ⟨v7, ev7, h⟩ := lt_e h
      refine lv_iinc (v := v7) (lv' := [(3, .int v7), (0, .ref (ad G b0)), (1, .int b1), (2, .int b2)]) S.1 S.2.1 dX8_fades_51 hl (k := 3) rfl (by rw [ev7]; rfl) (by decide) rfl (fun ls hl => ?_)
      refine lv_goto (tgt := 32) S.1 S.2.1 dX8_fades_54 (by decide) ?_
      exact ih _ _ h _ _ d _ (lv_sub hl [1, 2, 3, 0] rfl)
set_option maxHeartbeats 4000000 in
set_option maxRecDepth 100000 in
theorem lc_X8_fades_63 {p : Program} {l : Launch} {e : Env} {s : State} {m : MethodId} {args : Array Value} {below : List Frame} {meth : Method} {c : Code} {G : Gx} {L : MemL} {fu : Nat} {b0 : Nat} {b1 : Int32} {b2 : Int32} {z : Int32 × Mem} (S : Sx G true p s m args meth c cX8_fades 5 RX8) (hr : meth.sig.returnType = (Option.some Jvm.ClassFile.FieldType.int)) (hb0 : kd b0 = 20) (K : Int32 → Mem → Option (Int32 × Mem)) (hK : ∀ (y3 : Int32) (My : Mem) (H : Heap) (locs : List Loc), Dy G s My L H locs → ∀ ls : Array Slot, lv_has ls 5 [(0, .ref (ad G b0)), (3, .int y3)] → K y3 My = some z → W p l e rm_X8_fades s m args below meth c H locs 0 0 (MQ below (Qi G z.1 z.2 L) args s 0 0 (gA G)) (F0 m 101 ls [])) :
    ∀ (n : Nat) (x3 : Int32) (x4 : Int32) (Mx : Mem), lp_X8_fades_63 fu b0 b1 b2 K n x3 x4 Mx = some z → ∀ (H : Heap) (locs : List Loc), Dy G s Mx L H locs → ∀ ls : Array Slot, lv_has ls 5 [(0, .ref (ad G b0)), (1, .int b1), (2, .int b2), (3, .int x3), (4, .int x4)] → W p l e rm_X8_fades s m args below meth c H locs 0 0 (MQ below (Qi G z.1 z.2 L) args s 0 0 (gA G)) (F0 m 63 ls []) := by
  intro n
  induction n with
  | zero =>
    intro x3 x4 Mx h
    have h : (none : Option (Int32 × Mem)) = some z := h
    cases h
  | succ n ih =>
    intro x3 x4 Mx h H locs d ls hl
    rw [lp_X8_fades_63] at h
    refine lv_iload S.1 S.2.1 dX8_fades_63 (lv_at hl 4 rfl) ?_
    refine lv_bipush (v := 30) S.1 S.2.1 dX8_fades_65 (by decide) ?_
    refine lv_icmp_gt (tgt := 101) S.1 S.2.1 dX8_fades_67 (by decide) (fun cc => ?_) (fun cc => ?_)
    · replace h := it_p cc h
      exact hK _ _ _ _ d _ (lv_sub hl [0, 3] rfl) h
    · replace h := it_n cc h
      refine lv_iload_n S.1 S.2.1 dX8_fades_70 rfl (lv_at hl 3 rfl) ?_
      refine lv_if_ge (tgt := 101) S.1 S.2.1 dX8_fades_71 (by decide) (fun cc => ?_) (fun cc => ?_)
      · replace h := it_p cc h
        exact hK _ _ _ _ d _ (lv_sub hl [0, 3] rfl) h
      · replace h := it_n cc h
        refine lv_aload_n S.1 S.2.1 dX8_fades_74 rfl (lv_at hl 0 rfl) ?_
        obtain ⟨u9, hu9, h⟩ := bd_e h
        refine r_rv d (r_cV (As := []) (rest := []) S d (c_X8_goWeek l G Mx L fu b0 hb0 hu9) (ksdM S hb0) (wc_20 hb0) rfl ml_RX8_130 im_yX8_goWeek se_yX8_goWeek in_RX8 co_yX8_goWeek hyV_X8_goWeek ⟨rfl, rfl⟩ ⟨by decide, by decide⟩ rfl hl rfl (Nat.le_of_ble_eq_true rfl) dX8_fades_75 ⟨Nat.zero_le _, Nat.zero_le _⟩) (fun H locs d => ?_)
        refine lv_aload_n S.1 S.2.1 dX8_fades_78 rfl (lv_at hl 0 rfl) ?_
        refine lv_iload_n S.1 S.2.1 dX8_fades_79 rfl (lv_at hl 1 rfl) ?_
        refine lv_iload_n S.1 S.2.1 dX8_fades_80 rfl (lv_at hl 2 rfl) ?_
        obtain ⟨u10, hu10, h⟩ := bd_e h
        refine r_ri d (r_cV (As := [.int b1, .int b2]) (rest := []) S d (c_X8_isWritten l G u9 L fu b0 b1 b2 hb0 hu10) (ksdM S hb0) (wc_20 hb0) rfl ml_RX8_188 im_yX8_isWritten se_yX8_isWritten in_RX8 co_yX8_isWritten hyV_X8_isWritten ⟨rfl, rfl⟩ ⟨by decide, by decide⟩ rfl hl rfl (Nat.le_of_ble_eq_true rfl) dX8_fades_81 ⟨Nat.zero_le _, Nat.zero_le _⟩) (fun H locs d => ?_)
        obtain ⟨t11, g12, h⟩ := bd_e h
        have Jt11 : ∀ (H : Heap) (locs : List Loc), Dy G s u9 L H locs → W p l e rm_X8_fades s m args below meth c H locs 0 0 (MQ below (Qi G z.1 z.2 L) args s 0 0 (gA G)) (F0 m 94 ls [.int t11]) := by
          intro H locs d
          refine lv_istore_n (lv' := [(3, .int t11), (0, .ref (ad G b0)), (1, .int b1), (2, .int b2), (4, .int x4)]) S.1 S.2.1 dX8_fades_94 rfl hl (by decide) rfl (fun ls hl => ?_)
          obtain ⟨v13, ev13, h⟩ := lt_e h
          refine lv_iinc (v := v13) (lv' := [(4, .int v13), (3, .int t11), (0, .ref (ad G b0)), (1, .int b1), (2, .int b2)]) S.1 S.2.1 dX8_fades_95 hl (k := 4) rfl (by rw [ev13]; rfl) (by decide) rfl (fun ls hl => ?_)
          refine lv_goto (tgt := 63) S.1 S.2.1 dX8_fades_98 (by decide) ?_
          exact ih _ _ _ h _ _ d _ (lv_sub hl [2, 3, 4, 1, 0] rfl)
        have h := g12
        refine lv_if_eq (tgt := 92) S.1 S.2.1 dX8_fades_84 (by decide) (fun cc => ?_) (fun cc => ?_)
        · replace h := it_p cc h
          refine lv_iload S.1 S.2.1 dX8_fades_92 (lv_at hl 4 rfl) ?_
          obtain ej := Option.some.inj h
          refine r_top ej.symm ?_
          exact Jt11 _ _ d
        · replace h := it_n cc h
          refine lv_bipush (v := (-4)) S.1 S.2.1 dX8_fades_87 (by decide) ?_
          refine lv_goto (tgt := 94) S.1 S.2.1 dX8_fades_89 (by decide) ?_
          obtain ej := Option.some.inj h
          refine r_top ej.symm ?_
          exact Jt11 _ _ d
set_option maxHeartbeats 4000000 in
set_option maxRecDepth 100000 in
theorem lc_X8_fades_104 {p : Program} {l : Launch} {e : Env} {s : State} {m : MethodId} {args : Array Value} {below : List Frame} {meth : Method} {c : Code} {G : Gx} {L : MemL} {fu : Nat} {b0 : Nat} {b3 : Int32} {z : Int32 × Mem} (S : Sx G true p s m args meth c cX8_fades 5 RX8) (hr : meth.sig.returnType = (Option.some Jvm.ClassFile.FieldType.int)) (hb0 : kd b0 = 20) (K : Mem → Option (Int32 × Mem)) (hK : ∀ (My : Mem) (H : Heap) (locs : List Loc), Dy G s My L H locs → ∀ ls : Array Slot, lv_has ls 5 [(3, .int b3)] → K My = some z → W p l e rm_X8_fades s m args below meth c H locs 0 0 (MQ below (Qi G z.1 z.2 L) args s 0 0 (gA G)) (F0 m 132 ls [])) :
    ∀ (n : Nat) (x4 : Int32) (Mx : Mem), lp_X8_fades_104 fu b0 b3 K n x4 Mx = some z → ∀ (H : Heap) (locs : List Loc), Dy G s Mx L H locs → ∀ ls : Array Slot, lv_has ls 5 [(0, .ref (ad G b0)), (3, .int b3), (4, .int x4)] → W p l e rm_X8_fades s m args below meth c H locs 0 0 (MQ below (Qi G z.1 z.2 L) args s 0 0 (gA G)) (F0 m 104 ls []) := by
  intro n
  induction n with
  | zero =>
    intro x4 Mx h
    have h : (none : Option (Int32 × Mem)) = some z := h
    cases h
  | succ n ih =>
    intro x4 Mx h H locs d ls hl
    rw [lp_X8_fades_104] at h
    refine lv_iload S.1 S.2.1 dX8_fades_104 (lv_at hl 2 rfl) ?_
    refine lv_sipush (v := 135) S.1 S.2.1 dX8_fades_106 (by decide) ?_
    refine lv_icmp_ge (tgt := 132) S.1 S.2.1 dX8_fades_109 (by decide) (fun cc => ?_) (fun cc => ?_)
    · replace h := it_p cc h
      exact hK _ _ _ d _ (lv_sub hl [1] rfl) h
    · replace h := it_n cc h
      refine lv_aload_n S.1 S.2.1 dX8_fades_112 rfl (lv_at hl 0 rfl) ?_
      refine gf_20_2 S d hb0 fl_RX8_16 dX8_fades_113 ?_
      refine lv_iload S.1 S.2.1 dX8_fades_116 (lv_at hl 2 rfl) ?_
      refine lv_aload_n S.1 S.2.1 dX8_fades_118 rfl (lv_at hl 0 rfl) ?_
      refine gf_20_20 S d hb0 fl_RX8_53 dX8_fades_119 ?_
      refine lv_iload S.1 S.2.1 dX8_fades_122 (lv_at hl 2 rfl) ?_
      obtain ⟨g16, h⟩ := gd_e h
      refine r_iald S d (ksdM S (ch_20_20 hb0).1) (wc_21 (ch_20_20 hb0).1) (ch_20_20 hb0).2 g16 dX8_fades_124 ?_
      obtain ⟨g17, h⟩ := gd_e h
      obtain ⟨M18, eM18, h⟩ := lt_e h
      refine r_iast S d eM18 (ksdM S (ch_20_2 hb0).1) (fun _ => wc_21 (ch_20_2 hb0).1) (ch_20_2 hb0).2 g17 dX8_fades_125 (fun H locs d => ?_)
      obtain ⟨v19, ev19, h⟩ := lt_e h
      refine lv_iinc (v := v19) (lv' := [(4, .int v19), (0, .ref (ad G b0)), (3, .int b3)]) S.1 S.2.1 dX8_fades_126 hl (k := 2) rfl (by rw [ev19]; rfl) (by decide) rfl (fun ls hl => ?_)
      refine lv_goto (tgt := 104) S.1 S.2.1 dX8_fades_129 (by decide) ?_
      exact ih _ _ h _ _ d _ (lv_sub hl [1, 2, 0] rfl)
set_option maxHeartbeats 4000000 in
set_option maxRecDepth 100000 in
theorem c_X8_fades (l : Launch) (G : Gx) (M : Mem) (L : MemL) (fu : Nat) (k0 : Nat) (a1 : Int32) (a2 : Int32) (hk0 : kd k0 = 20) {z : Int32 × Mem} (h : f_X8_fades fu M k0 a1 a2 = some z) : Met l yX8_fades (.code yX8_fades cX8_fades 5 (Option.some Jvm.ClassFile.FieldType.int) :: UW) rm_X8_fades (va_Pc [.ref (ad G k0), .int a1, .int a2] (PreG G true M L)) (Qi G z.1 z.2 L) 0 0 (gA G) := by
  refine r_in (by decide) (fun p e s m args below meth c S hr d ha ls hl => ?_) (Nat.le_of_ble_eq_true rfl)
  have S : Sx G true p s m args meth c cX8_fades 5 RX8 := S
  have hl : lv_has ls 5 [(0, .ref (ad G k0)), (1, .int a1), (2, .int a2)] := hl
  unfold f_X8_fades at h
  refine lv_aload_n S.1 S.2.1 dX8_fades_0 rfl (lv_at hl 0 rfl) ?_
  refine lv_iload_n S.1 S.2.1 dX8_fades_1 rfl (lv_at hl 1 rfl) ?_
  obtain ⟨u1, hu1, h⟩ := bd_e h
  refine r_ri d (r_cV (As := [.int a1]) (rest := []) S d (c_X8_isWord l G M L k0 a1 hk0 hu1) (ksdM S hk0) (wc_20 hk0) rfl ml_RX8_174 im_yX8_isWord se_yX8_isWord in_RX8 co_yX8_isWord hyV_X8_isWord ⟨rfl, rfl⟩ ⟨by decide, by decide⟩ rfl hl rfl (Nat.le_of_ble_eq_true rfl) dX8_fades_2 ⟨Nat.zero_le _, Nat.zero_le _⟩) (fun H locs d => ?_)
  refine lv_if_eq (tgt := 16) S.1 S.2.1 dX8_fades_5 (by decide) (fun cc => ?_) (fun cc => ?_)
  · replace h := it_p cc h
    refine lv_iconst (v := (-1)) S.1 S.2.1 dX8_fades_16 (by decide) ?_
    obtain rfl := Option.some.inj h
    exact r_iret S d hr rfl rfl dX8_fades_17
  · replace h := it_n cc h
    refine lv_aload_n S.1 S.2.1 dX8_fades_8 rfl (lv_at hl 0 rfl) ?_
    refine lv_iload_n S.1 S.2.1 dX8_fades_9 rfl (lv_at hl 2 rfl) ?_
    obtain ⟨u2, hu2, h⟩ := bd_e h
    refine r_ri d (r_cV (As := [.int a2]) (rest := []) S d (c_X8_isStrip l G M L k0 a2 hk0 hu2) (ksdM S hk0) (wc_20 hk0) rfl ml_RX8_94 im_yX8_isStrip se_yX8_isStrip in_RX8 co_yX8_isStrip hyV_X8_isStrip ⟨rfl, rfl⟩ ⟨by decide, by decide⟩ rfl hl rfl (Nat.le_of_ble_eq_true rfl) dX8_fades_10 ⟨Nat.zero_le _, Nat.zero_le _⟩) (fun H locs d => ?_)
    refine lv_if_ne (tgt := 18) S.1 S.2.1 dX8_fades_13 (by decide) (fun cc => ?_) (fun cc => ?_)
    · replace h := it_n cc h
      refine lv_aload_n S.1 S.2.1 dX8_fades_18 rfl (lv_at hl 0 rfl) ?_
      refine lv_iload_n S.1 S.2.1 dX8_fades_19 rfl (lv_at hl 1 rfl) ?_
      refine lv_iload_n S.1 S.2.1 dX8_fades_20 rfl (lv_at hl 2 rfl) ?_
      obtain ⟨u3, hu3, h⟩ := bd_e h
      refine r_ri d (r_cV (As := [.int a1, .int a2]) (rest := []) S d (c_X8_isWritten l G M L fu k0 a1 a2 hk0 hu3) (ksdM S hk0) (wc_20 hk0) rfl ml_RX8_188 im_yX8_isWritten se_yX8_isWritten in_RX8 co_yX8_isWritten hyV_X8_isWritten ⟨rfl, rfl⟩ ⟨by decide, by decide⟩ rfl hl rfl (Nat.le_of_ble_eq_true rfl) dX8_fades_21 ⟨Nat.zero_le _, Nat.zero_le _⟩) (fun H locs d => ?_)
      refine lv_if_ne (tgt := 30) S.1 S.2.1 dX8_fades_24 (by decide) (fun cc => ?_) (fun cc => ?_)
      · replace h := it_n cc h
        refine lv_iconst (v := 0) S.1 S.2.1 dX8_fades_30 (by decide) ?_
        refine lv_istore_n (lv' := [(3, .int (0 : Int32)), (0, .ref (ad G k0)), (1, .int a1), (2, .int a2)]) S.1 S.2.1 dX8_fades_31 rfl hl (by decide) rfl (fun ls hl => ?_)
        refine lc_X8_fades_32 S hr hk0 _ (fun M8 H locs d ls hl h => ?_) _ _ _  h _ _ d _ (lv_sub hl [1, 2, 3, 0] rfl)
        refine lv_bipush (v := (-4)) S.1 S.2.1 dX8_fades_57 (by decide) ?_
        refine lv_istore_n (lv' := [(3, .int (-4 : Int32)), (0, .ref (ad G k0)), (1, .int a1), (2, .int a2)]) S.1 S.2.1 dX8_fades_59 rfl hl (by decide) rfl (fun ls hl => ?_)
        refine lv_iconst (v := 1) S.1 S.2.1 dX8_fades_60 (by decide) ?_
        refine lv_istore (lv' := [(4, .int (1 : Int32)), (3, .int (-4 : Int32)), (0, .ref (ad G k0)), (1, .int a1), (2, .int a2)]) S.1 S.2.1 dX8_fades_61 hl (by decide) rfl (fun ls hl => ?_)
        refine lc_X8_fades_63 S hr hk0 _ (fun v14 M15 H locs d ls hl h => ?_) _ _ _ _  h _ _ d _ (lv_sub hl [2, 3, 4, 1, 0] rfl)
        refine lv_iconst (v := 0) S.1 S.2.1 dX8_fades_101 (by decide) ?_
        refine lv_istore (lv' := [(4, .int (0 : Int32)), (0, .ref (ad G k0)), (3, .int v14)]) S.1 S.2.1 dX8_fades_102 hl (by decide) rfl (fun ls hl => ?_)
        refine lc_X8_fades_104 S hr hk0 _ (fun M20 H locs d ls hl h => ?_) _ _ _  h _ _ d _ (lv_sub hl [1, 2, 0] rfl)
        refine lv_iload_n S.1 S.2.1 dX8_fades_132 rfl (lv_at hl 0 rfl) ?_
        obtain rfl := Option.some.inj h
        exact r_iret S d hr rfl rfl dX8_fades_133
      · replace h := it_p cc h
        refine lv_bipush (v := (-2)) S.1 S.2.1 dX8_fades_27 (by decide) ?_
        obtain rfl := Option.some.inj h
        exact r_iret S d hr rfl rfl dX8_fades_29
    · replace h := it_p cc h
      refine lv_iconst (v := (-1)) S.1 S.2.1 dX8_fades_16 (by decide) ?_
      obtain rfl := Option.some.inj h
      exact r_iret S d hr rfl rfl dX8_fades_17
theorem hyV_X8_areLike : yX8_areLike.cls = RX8 ∧ yX8_areLike.cls ≠ "java/lang/invoke/MethodHandle" ∧ yX8_areLike.cls ≠ "java/lang/invoke/VarHandle" ∧ (parseMethodDescriptor yX8_areLike.desc).map (fun d => d.parameters.length) = some 2 := by decide +kernel
abbrev rm_X8_areLike : Room := { frames := 1, cells := 0, slots := 0, locals := 22 }
def lp_X8_areLike_22 (fu : Nat) (M : Mem) (b0 : Nat) (b1 : Int32) (b2 : Int32) (K : Int32 → Option (Int32)) : Nat → Int32 → Int32 → Option (Int32)
  | 0, _, _ => none
  | n + 1, x3, x4 =>
    (f_X8_sizeOf M b0 b1).bind (fun u5 =>
    (if u5 ≤ x4 then (K x3)
    else (if x3 = 0 then (K x3)
      else (f_X8_letterOf M b0 b1 x4).bind (fun u6 =>
        (f_X8_letterOf M b0 b2 x4).bind (fun u7 =>
        (if u6 = u7 then some (1 : Int32)
        else some (0 : Int32)).bind (fun t8 : Int32 =>
        lt (x4 + 1) (fun v10 : Int32 =>
        (lp_X8_areLike_22 fu M b0 b1 b2 K n t8 v10))))))))
def f_X8_areLike (fu : Nat) (M : Mem) (k0 : Nat) (a1 : Int32) (a2 : Int32) : Option (Int32) :=
  (f_X8_sizeOf M k0 a1).bind (fun u1 =>
  (f_X8_sizeOf M k0 a2).bind (fun u2 =>
  (if u1 = u2 then some (1 : Int32)
  else some (0 : Int32)).bind (fun t3 : Int32 =>
  (lp_X8_areLike_22 fu M k0 a1 a2 (fun (v11 : Int32) =>
    gd (isZ v11) (
    some (v11))) fu t3 (0 : Int32)))))
set_option maxHeartbeats 4000000 in
set_option maxRecDepth 100000 in
theorem lc_X8_areLike_22 {p : Program} {l : Launch} {e : Env} {s : State} {m : MethodId} {args : Array Value} {below : List Frame} {meth : Method} {c : Code} {G : Gx} {M : Mem} {L : MemL} {fu : Nat} {b0 : Nat} {b1 : Int32} {b2 : Int32} {z : Int32} (S : Sx G true p s m args meth c cX8_areLike 5 RX8) (hr : meth.sig.returnType = (Option.some Jvm.ClassFile.FieldType.boolean)) (hb0 : kd b0 = 20) (K : Int32 → Option (Int32)) (hK : ∀ (y3 : Int32) (H : Heap) (locs : List Loc), Dy G s M L H locs → ∀ ls : Array Slot, lv_has ls 5 [(3, .int y3)] → K y3 = some z → W p l e rm_X8_areLike s m args below meth c H locs 0 0 (MQ below (Qi G z M L) args s 0 0 (gA G)) (F0 m 65 ls [])) :
    ∀ (n : Nat) (x3 : Int32) (x4 : Int32), lp_X8_areLike_22 fu M b0 b1 b2 K n x3 x4 = some z → ∀ (H : Heap) (locs : List Loc), Dy G s M L H locs → ∀ ls : Array Slot, lv_has ls 5 [(0, .ref (ad G b0)), (1, .int b1), (2, .int b2), (3, .int x3), (4, .int x4)] → W p l e rm_X8_areLike s m args below meth c H locs 0 0 (MQ below (Qi G z M L) args s 0 0 (gA G)) (F0 m 22 ls []) := by
  intro n
  induction n with
  | zero =>
    intro x3 x4 h
    have h : (none : Option (Int32)) = some z := h
    cases h
  | succ n ih =>
    intro x3 x4 h H locs d ls hl
    rw [lp_X8_areLike_22] at h
    refine lv_iload S.1 S.2.1 dX8_areLike_22 (lv_at hl 4 rfl) ?_
    refine lv_aload_n S.1 S.2.1 dX8_areLike_24 rfl (lv_at hl 0 rfl) ?_
    refine lv_iload_n S.1 S.2.1 dX8_areLike_25 rfl (lv_at hl 1 rfl) ?_
    obtain ⟨u5, hu5, h⟩ := bd_e h
    refine r_ri d (r_cV (As := [.int b1]) (rest := [.int x4]) S d (c_X8_sizeOf l G M L b0 b1 hb0 hu5) (ksdM S hb0) (wc_20 hb0) rfl ml_RX8_179 im_yX8_sizeOf se_yX8_sizeOf in_RX8 co_yX8_sizeOf hyV_X8_sizeOf ⟨rfl, rfl⟩ ⟨by decide, by decide⟩ rfl hl rfl (Nat.le_of_ble_eq_true rfl) dX8_areLike_26 ⟨Nat.zero_le _, Nat.zero_le _⟩) (fun H locs d => ?_)
    refine lv_icmp_ge (tgt := 65) S.1 S.2.1 dX8_areLike_29 (by decide) (fun cc => ?_) (fun cc => ?_)
    · replace h := it_p cc h
      exact hK _ _ _ d _ (lv_sub hl [3] rfl) h
    · replace h := it_n cc h
      refine lv_iload_n S.1 S.2.1 dX8_areLike_32 rfl (lv_at hl 3 rfl) ?_
      refine lv_if_eq (tgt := 65) S.1 S.2.1 dX8_areLike_33 (by decide) (fun cc => ?_) (fun cc => ?_)
      · replace h := it_p cc h
        exact hK _ _ _ d _ (lv_sub hl [3] rfl) h
      · replace h := it_n cc h
        refine lv_aload_n S.1 S.2.1 dX8_areLike_36 rfl (lv_at hl 0 rfl) ?_
        refine lv_iload_n S.1 S.2.1 dX8_areLike_37 rfl (lv_at hl 1 rfl) ?_
        refine lv_iload S.1 S.2.1 dX8_areLike_38 (lv_at hl 4 rfl) ?_
        obtain ⟨u6, hu6, h⟩ := bd_e h
        refine r_ri d (r_cV (As := [.int b1, .int x4]) (rest := []) S d (c_X8_letterOf l G M L b0 b1 x4 hb0 hu6) (ksdM S hb0) (wc_20 hb0) rfl ml_RX8_185 im_yX8_letterOf se_yX8_letterOf in_RX8 co_yX8_letterOf hyV_X8_letterOf ⟨rfl, rfl⟩ ⟨by decide, by decide⟩ rfl hl rfl (Nat.le_of_ble_eq_true rfl) dX8_areLike_40 ⟨Nat.zero_le _, Nat.zero_le _⟩) (fun H locs d => ?_)
        refine lv_aload_n S.1 S.2.1 dX8_areLike_43 rfl (lv_at hl 0 rfl) ?_
        refine lv_iload_n S.1 S.2.1 dX8_areLike_44 rfl (lv_at hl 2 rfl) ?_
        refine lv_iload S.1 S.2.1 dX8_areLike_45 (lv_at hl 4 rfl) ?_
        obtain ⟨u7, hu7, h⟩ := bd_e h
        refine r_ri d (r_cV (As := [.int b2, .int x4]) (rest := [.int u6]) S d (c_X8_letterOf l G M L b0 b2 x4 hb0 hu7) (ksdM S hb0) (wc_20 hb0) rfl ml_RX8_185 im_yX8_letterOf se_yX8_letterOf in_RX8 co_yX8_letterOf hyV_X8_letterOf ⟨rfl, rfl⟩ ⟨by decide, by decide⟩ rfl hl rfl (Nat.le_of_ble_eq_true rfl) dX8_areLike_47 ⟨Nat.zero_le _, Nat.zero_le _⟩) (fun H locs d => ?_)
        obtain ⟨t8, g9, h⟩ := bd_e h
        have Jt8 : ∀ (H : Heap) (locs : List Loc), Dy G s M L H locs → W p l e rm_X8_areLike s m args below meth c H locs 0 0 (MQ below (Qi G z M L) args s 0 0 (gA G)) (F0 m 58 ls [.int t8]) := by
          intro H locs d
          refine lv_istore_n (lv' := [(3, .int t8), (0, .ref (ad G b0)), (1, .int b1), (2, .int b2), (4, .int x4)]) S.1 S.2.1 dX8_areLike_58 rfl hl (by decide) rfl (fun ls hl => ?_)
          obtain ⟨v10, ev10, h⟩ := lt_e h
          refine lv_iinc (v := v10) (lv' := [(4, .int v10), (3, .int t8), (0, .ref (ad G b0)), (1, .int b1), (2, .int b2)]) S.1 S.2.1 dX8_areLike_59 hl (k := 4) rfl (by rw [ev10]; rfl) (by decide) rfl (fun ls hl => ?_)
          refine lv_goto (tgt := 22) S.1 S.2.1 dX8_areLike_62 (by decide) ?_
          exact ih _ _ h _ _ d _ (lv_sub hl [2, 3, 4, 1, 0] rfl)
        have h := g9
        refine lv_icmp_ne (tgt := 57) S.1 S.2.1 dX8_areLike_50 (by decide) (fun cc => ?_) (fun cc => ?_)
        · replace h := it_n cc h
          refine lv_iconst (v := 0) S.1 S.2.1 dX8_areLike_57 (by decide) ?_
          obtain ej := Option.some.inj h
          refine r_top ej.symm ?_
          exact Jt8 _ _ d
        · replace h := it_p cc h
          refine lv_iconst (v := 1) S.1 S.2.1 dX8_areLike_53 (by decide) ?_
          refine lv_goto (tgt := 58) S.1 S.2.1 dX8_areLike_54 (by decide) ?_
          obtain ej := Option.some.inj h
          refine r_top ej.symm ?_
          exact Jt8 _ _ d
set_option maxHeartbeats 4000000 in
set_option maxRecDepth 100000 in
theorem c_X8_areLike (l : Launch) (G : Gx) (M : Mem) (L : MemL) (fu : Nat) (k0 : Nat) (a1 : Int32) (a2 : Int32) (hk0 : kd k0 = 20) {z : Int32} (h : f_X8_areLike fu M k0 a1 a2 = some z) : Met l yX8_areLike (.code yX8_areLike cX8_areLike 5 (Option.some Jvm.ClassFile.FieldType.boolean) :: UW) rm_X8_areLike (va_Pc [.ref (ad G k0), .int a1, .int a2] (PreG G true M L)) (Qi G z M L) 0 0 (gA G) := by
  refine r_in (by decide) (fun p e s m args below meth c S hr d ha ls hl => ?_) (Nat.le_of_ble_eq_true rfl)
  have S : Sx G true p s m args meth c cX8_areLike 5 RX8 := S
  have hl : lv_has ls 5 [(0, .ref (ad G k0)), (1, .int a1), (2, .int a2)] := hl
  unfold f_X8_areLike at h
  refine lv_aload_n S.1 S.2.1 dX8_areLike_0 rfl (lv_at hl 0 rfl) ?_
  refine lv_iload_n S.1 S.2.1 dX8_areLike_1 rfl (lv_at hl 1 rfl) ?_
  obtain ⟨u1, hu1, h⟩ := bd_e h
  refine r_ri d (r_cV (As := [.int a1]) (rest := []) S d (c_X8_sizeOf l G M L k0 a1 hk0 hu1) (ksdM S hk0) (wc_20 hk0) rfl ml_RX8_179 im_yX8_sizeOf se_yX8_sizeOf in_RX8 co_yX8_sizeOf hyV_X8_sizeOf ⟨rfl, rfl⟩ ⟨by decide, by decide⟩ rfl hl rfl (Nat.le_of_ble_eq_true rfl) dX8_areLike_2 ⟨Nat.zero_le _, Nat.zero_le _⟩) (fun H locs d => ?_)
  refine lv_aload_n S.1 S.2.1 dX8_areLike_5 rfl (lv_at hl 0 rfl) ?_
  refine lv_iload_n S.1 S.2.1 dX8_areLike_6 rfl (lv_at hl 2 rfl) ?_
  obtain ⟨u2, hu2, h⟩ := bd_e h
  refine r_ri d (r_cV (As := [.int a2]) (rest := [.int u1]) S d (c_X8_sizeOf l G M L k0 a2 hk0 hu2) (ksdM S hk0) (wc_20 hk0) rfl ml_RX8_179 im_yX8_sizeOf se_yX8_sizeOf in_RX8 co_yX8_sizeOf hyV_X8_sizeOf ⟨rfl, rfl⟩ ⟨by decide, by decide⟩ rfl hl rfl (Nat.le_of_ble_eq_true rfl) dX8_areLike_7 ⟨Nat.zero_le _, Nat.zero_le _⟩) (fun H locs d => ?_)
  obtain ⟨t3, g4, h⟩ := bd_e h
  have Jt3 : ∀ (H : Heap) (locs : List Loc), Dy G s M L H locs → W p l e rm_X8_areLike s m args below meth c H locs 0 0 (MQ below (Qi G z M L) args s 0 0 (gA G)) (F0 m 18 ls [.int t3]) := by
    intro H locs d
    refine lv_istore_n (lv' := [(3, .int t3), (0, .ref (ad G k0)), (1, .int a1), (2, .int a2)]) S.1 S.2.1 dX8_areLike_18 rfl hl (by decide) rfl (fun ls hl => ?_)
    refine lv_iconst (v := 0) S.1 S.2.1 dX8_areLike_19 (by decide) ?_
    refine lv_istore (lv' := [(4, .int (0 : Int32)), (3, .int t3), (0, .ref (ad G k0)), (1, .int a1), (2, .int a2)]) S.1 S.2.1 dX8_areLike_20 hl (by decide) rfl (fun ls hl => ?_)
    refine lc_X8_areLike_22 S hr hk0 _ (fun v11 H locs d ls hl h => ?_) _ _ _  h _ _ d _ (lv_sub hl [2, 3, 4, 1, 0] rfl)
    refine lv_iload_n S.1 S.2.1 dX8_areLike_65 rfl (lv_at hl 0 rfl) ?_
    obtain ⟨gz, h⟩ := gd_e h
    obtain rfl := Option.some.inj h
    exact r_iret S d hr (isZ_nar gz) rfl dX8_areLike_66
  have h := g4
  refine lv_icmp_ne (tgt := 17) S.1 S.2.1 dX8_areLike_10 (by decide) (fun cc => ?_) (fun cc => ?_)
  · replace h := it_n cc h
    refine lv_iconst (v := 0) S.1 S.2.1 dX8_areLike_17 (by decide) ?_
    obtain ej := Option.some.inj h
    refine r_top ej.symm ?_
    exact Jt3 _ _ d
  · replace h := it_p cc h
    refine lv_iconst (v := 1) S.1 S.2.1 dX8_areLike_13 (by decide) ?_
    refine lv_goto (tgt := 18) S.1 S.2.1 dX8_areLike_14 (by decide) ?_
    obtain ej := Option.some.inj h
    refine r_top ej.symm ?_
    exact Jt3 _ _ d
theorem hyV_X8_isIn : yX8_isIn.cls = RX8 ∧ yX8_isIn.cls ≠ "java/lang/invoke/MethodHandle" ∧ yX8_isIn.cls ≠ "java/lang/invoke/VarHandle" ∧ (parseMethodDescriptor yX8_isIn.desc).map (fun d => d.parameters.length) = some 3 := by decide +kernel
abbrev rm_X8_isIn : Room := { frames := 1, cells := 0, slots := 0, locals := 22 }
def lp_X8_isIn_25 (fu : Nat) (M : Mem) (b0 : Nat) (b1 : Int32) (b2 : Int32) (b3 : Int32) (b5 : Int32) (K : Int32 → Option (Int32)) : Nat → Int32 → Option (Int32)
  | 0, _ => none
  | n + 1, x4 =>
    (f_X8_sizeOf M b0 b3).bind (fun u3 =>
    (if u3 ≤ x4 then (K x4)
    else (f_X8_letterOf M b0 b3 x4).bind (fun u4 =>
      (f_X8_letterOf M b0 b1 b5).bind (fun u5 =>
      (if u4 = u5 then (K x4)
      else lt (x4 + 1) (fun v6 : Int32 =>
        (lp_X8_isIn_25 fu M b0 b1 b2 b3 b5 K n v6)))))))
def lp_X8_isIn_6 (fu : Nat) (M : Mem) (b0 : Nat) (b1 : Int32) (b2 : Int32) (b3 : Int32) (K : Unit → Option (Int32)) : Nat → Int32 → Int32 → Option (Int32)
  | 0, _, _ => none
  | n + 1, x4, x5 =>
    (f_X8_sizeOf M b0 b1).bind (fun u1 =>
    (if u1 ≤ x5 then (K ())
    else (f_X8_has b2 x5).bind (fun u2 =>
      (if u2 = 0 then lt (x5 + 1) (fun v11 : Int32 =>
        (lp_X8_isIn_6 fu M b0 b1 b2 b3 K n x4 v11))
      else (lp_X8_isIn_25 fu M b0 b1 b2 b3 x5 (fun (v7 : Int32) =>
          (f_X8_sizeOf M b0 b3).bind (fun u8 =>
          (if v7 = u8 then some ((0 : Int32))
          else lt (v7 + 1) (fun v9 : Int32 =>
            lt (x5 + 1) (fun v10 : Int32 =>
            (lp_X8_isIn_6 fu M b0 b1 b2 b3 K n v9 v10)))))) fu x4)))))
def f_X8_isIn (fu : Nat) (M : Mem) (k0 : Nat) (a1 : Int32) (a2 : Int32) (a3 : Int32) : Option (Int32) :=
  (lp_X8_isIn_6 fu M k0 a1 a2 a3 (fun (_ : Unit) =>
    some ((1 : Int32))) fu (0 : Int32) (0 : Int32))
set_option maxHeartbeats 4000000 in
set_option maxRecDepth 100000 in
theorem lc_X8_isIn_25 {p : Program} {l : Launch} {e : Env} {s : State} {m : MethodId} {args : Array Value} {below : List Frame} {meth : Method} {c : Code} {G : Gx} {M : Mem} {L : MemL} {fu : Nat} {b0 : Nat} {b1 : Int32} {b2 : Int32} {b3 : Int32} {b5 : Int32} {z : Int32} (S : Sx G true p s m args meth c cX8_isIn 6 RX8) (hr : meth.sig.returnType = (Option.some Jvm.ClassFile.FieldType.boolean)) (hb0 : kd b0 = 20) (K : Int32 → Option (Int32)) (hK : ∀ (y4 : Int32) (H : Heap) (locs : List Loc), Dy G s M L H locs → ∀ ls : Array Slot, lv_has ls 6 [(0, .ref (ad G b0)), (1, .int b1), (2, .int b2), (3, .int b3), (4, .int y4), (5, .int b5)] → K y4 = some z → W p l e rm_X8_isIn s m args below meth c H locs 0 0 (MQ below (Qi G z M L) args s 0 0 (gA G)) (F0 m 58 ls [])) :
    ∀ (n : Nat) (x4 : Int32), lp_X8_isIn_25 fu M b0 b1 b2 b3 b5 K n x4 = some z → ∀ (H : Heap) (locs : List Loc), Dy G s M L H locs → ∀ ls : Array Slot, lv_has ls 6 [(0, .ref (ad G b0)), (1, .int b1), (2, .int b2), (3, .int b3), (4, .int x4), (5, .int b5)] → W p l e rm_X8_isIn s m args below meth c H locs 0 0 (MQ below (Qi G z M L) args s 0 0 (gA G)) (F0 m 25 ls []) := by
  intro n
  induction n with
  | zero =>
    intro x4 h
    have h : (none : Option (Int32)) = some z := h
    cases h
  | succ n ih =>
    intro x4 h H locs d ls hl
    rw [lp_X8_isIn_25] at h
    refine lv_iload S.1 S.2.1 dX8_isIn_25 (lv_at hl 4 rfl) ?_
    refine lv_aload_n S.1 S.2.1 dX8_isIn_27 rfl (lv_at hl 0 rfl) ?_
    refine lv_iload_n S.1 S.2.1 dX8_isIn_28 rfl (lv_at hl 3 rfl) ?_
    obtain ⟨u3, hu3, h⟩ := bd_e h
    refine r_ri d (r_cV (As := [.int b3]) (rest := [.int x4]) S d (c_X8_sizeOf l G M L b0 b3 hb0 hu3) (ksdM S hb0) (wc_20 hb0) rfl ml_RX8_179 im_yX8_sizeOf se_yX8_sizeOf in_RX8 co_yX8_sizeOf hyV_X8_sizeOf ⟨rfl, rfl⟩ ⟨by decide, by decide⟩ rfl hl rfl (Nat.le_of_ble_eq_true rfl) dX8_isIn_29 ⟨Nat.zero_le _, Nat.zero_le _⟩) (fun H locs d => ?_)
    refine lv_icmp_ge (tgt := 58) S.1 S.2.1 dX8_isIn_32 (by decide) (fun cc => ?_) (fun cc => ?_)
    · replace h := it_p cc h
      exact hK _ _ _ d _ (lv_sub hl [0, 1, 2, 3, 4, 5] rfl) h
    · replace h := it_n cc h
      refine lv_aload_n S.1 S.2.1 dX8_isIn_35 rfl (lv_at hl 0 rfl) ?_
      refine lv_iload_n S.1 S.2.1 dX8_isIn_36 rfl (lv_at hl 3 rfl) ?_
      refine lv_iload S.1 S.2.1 dX8_isIn_37 (lv_at hl 4 rfl) ?_
      obtain ⟨u4, hu4, h⟩ := bd_e h
      refine r_ri d (r_cV (As := [.int b3, .int x4]) (rest := []) S d (c_X8_letterOf l G M L b0 b3 x4 hb0 hu4) (ksdM S hb0) (wc_20 hb0) rfl ml_RX8_185 im_yX8_letterOf se_yX8_letterOf in_RX8 co_yX8_letterOf hyV_X8_letterOf ⟨rfl, rfl⟩ ⟨by decide, by decide⟩ rfl hl rfl (Nat.le_of_ble_eq_true rfl) dX8_isIn_39 ⟨Nat.zero_le _, Nat.zero_le _⟩) (fun H locs d => ?_)
      refine lv_aload_n S.1 S.2.1 dX8_isIn_42 rfl (lv_at hl 0 rfl) ?_
      refine lv_iload_n S.1 S.2.1 dX8_isIn_43 rfl (lv_at hl 1 rfl) ?_
      refine lv_iload S.1 S.2.1 dX8_isIn_44 (lv_at hl 5 rfl) ?_
      obtain ⟨u5, hu5, h⟩ := bd_e h
      refine r_ri d (r_cV (As := [.int b1, .int b5]) (rest := [.int u4]) S d (c_X8_letterOf l G M L b0 b1 b5 hb0 hu5) (ksdM S hb0) (wc_20 hb0) rfl ml_RX8_185 im_yX8_letterOf se_yX8_letterOf in_RX8 co_yX8_letterOf hyV_X8_letterOf ⟨rfl, rfl⟩ ⟨by decide, by decide⟩ rfl hl rfl (Nat.le_of_ble_eq_true rfl) dX8_isIn_46 ⟨Nat.zero_le _, Nat.zero_le _⟩) (fun H locs d => ?_)
      refine lv_icmp_eq (tgt := 58) S.1 S.2.1 dX8_isIn_49 (by decide) (fun cc => ?_) (fun cc => ?_)
      · replace h := it_p cc h
        exact hK _ _ _ d _ (lv_sub hl [0, 1, 2, 3, 4, 5] rfl) h
      · replace h := it_n cc h
        obtain ⟨v6, ev6, h⟩ := lt_e h
        refine lv_iinc (v := v6) (lv' := [(4, .int v6), (0, .ref (ad G b0)), (1, .int b1), (2, .int b2), (3, .int b3), (5, .int b5)]) S.1 S.2.1 dX8_isIn_52 hl (k := 4) rfl (by rw [ev6]; rfl) (by decide) rfl (fun ls hl => ?_)
        refine lv_goto (tgt := 25) S.1 S.2.1 dX8_isIn_55 (by decide) ?_
        exact ih _ h _ _ d _ (lv_sub hl [1, 2, 3, 4, 0, 5] rfl)
set_option maxHeartbeats 4000000 in
set_option maxRecDepth 100000 in
theorem lc_X8_isIn_6 {p : Program} {l : Launch} {e : Env} {s : State} {m : MethodId} {args : Array Value} {below : List Frame} {meth : Method} {c : Code} {G : Gx} {M : Mem} {L : MemL} {fu : Nat} {b0 : Nat} {b1 : Int32} {b2 : Int32} {b3 : Int32} {z : Int32} (S : Sx G true p s m args meth c cX8_isIn 6 RX8) (hr : meth.sig.returnType = (Option.some Jvm.ClassFile.FieldType.boolean)) (hb0 : kd b0 = 20) (K : Unit → Option (Int32)) (hK : ∀ (_ : Unit) (H : Heap) (locs : List Loc), Dy G s M L H locs → ∀ ls : Array Slot, lv_has ls 6 [] → K () = some z → W p l e rm_X8_isIn s m args below meth c H locs 0 0 (MQ below (Qi G z M L) args s 0 0 (gA G)) (F0 m 79 ls [])) :
    ∀ (n : Nat) (x4 : Int32) (x5 : Int32), lp_X8_isIn_6 fu M b0 b1 b2 b3 K n x4 x5 = some z → ∀ (H : Heap) (locs : List Loc), Dy G s M L H locs → ∀ ls : Array Slot, lv_has ls 6 [(0, .ref (ad G b0)), (1, .int b1), (2, .int b2), (3, .int b3), (4, .int x4), (5, .int x5)] → W p l e rm_X8_isIn s m args below meth c H locs 0 0 (MQ below (Qi G z M L) args s 0 0 (gA G)) (F0 m 6 ls []) := by
  intro n
  induction n with
  | zero =>
    intro x4 x5 h
    have h : (none : Option (Int32)) = some z := h
    cases h
  | succ n ih =>
    intro x4 x5 h H locs d ls hl
    rw [lp_X8_isIn_6] at h
    refine lv_iload S.1 S.2.1 dX8_isIn_6 (lv_at hl 5 rfl) ?_
    refine lv_aload_n S.1 S.2.1 dX8_isIn_8 rfl (lv_at hl 0 rfl) ?_
    refine lv_iload_n S.1 S.2.1 dX8_isIn_9 rfl (lv_at hl 1 rfl) ?_
    obtain ⟨u1, hu1, h⟩ := bd_e h
    refine r_ri d (r_cV (As := [.int b1]) (rest := [.int x5]) S d (c_X8_sizeOf l G M L b0 b1 hb0 hu1) (ksdM S hb0) (wc_20 hb0) rfl ml_RX8_179 im_yX8_sizeOf se_yX8_sizeOf in_RX8 co_yX8_sizeOf hyV_X8_sizeOf ⟨rfl, rfl⟩ ⟨by decide, by decide⟩ rfl hl rfl (Nat.le_of_ble_eq_true rfl) dX8_isIn_10 ⟨Nat.zero_le _, Nat.zero_le _⟩) (fun H locs d => ?_)
    refine lv_icmp_ge (tgt := 79) S.1 S.2.1 dX8_isIn_13 (by decide) (fun cc => ?_) (fun cc => ?_)
    · replace h := it_p cc h
      exact hK () _ _ d _ (lv_sub hl [] rfl) h
    · replace h := it_n cc h
      refine lv_iload_n S.1 S.2.1 dX8_isIn_16 rfl (lv_at hl 2 rfl) ?_
      refine lv_iload S.1 S.2.1 dX8_isIn_17 (lv_at hl 5 rfl) ?_
      obtain ⟨u2, hu2, h⟩ := bd_e h
      refine r_ri d (r_cS (As := [.int b2, .int x5]) (rest := []) S d (c_X8_has l G M L b2 x5 hu2) ml_RX8_117 sm_yX8_has in_RX8 co_yX8_has hyS_X8_has ⟨rfl, rfl⟩ ⟨by decide, by decide⟩ rfl hl rfl (Nat.le_of_ble_eq_true rfl) dX8_isIn_19 ⟨Nat.zero_le _, Nat.zero_le _⟩) (fun H locs d => ?_)
      refine lv_if_eq (tgt := 73) S.1 S.2.1 dX8_isIn_22 (by decide) (fun cc => ?_) (fun cc => ?_)
      · replace h := it_p cc h
        obtain ⟨v11, ev11, h⟩ := lt_e h
        refine lv_iinc (v := v11) (lv' := [(5, .int v11), (0, .ref (ad G b0)), (1, .int b1), (2, .int b2), (3, .int b3), (4, .int x4)]) S.1 S.2.1 dX8_isIn_73 hl (k := 5) rfl (by rw [ev11]; rfl) (by decide) rfl (fun ls hl => ?_)
        refine lv_goto (tgt := 6) S.1 S.2.1 dX8_isIn_76 (by decide) ?_
        exact ih _ _ h _ _ d _ (lv_sub hl [1, 2, 3, 4, 5, 0] rfl)
      · replace h := it_n cc h
        refine lc_X8_isIn_25 S hr hb0 _ (fun v7 H locs d ls hl h => ?_) _ _  h _ _ d _ (lv_sub hl [0, 1, 2, 3, 4, 5] rfl)
        refine lv_iload S.1 S.2.1 dX8_isIn_58 (lv_at hl 4 rfl) ?_
        refine lv_aload_n S.1 S.2.1 dX8_isIn_60 rfl (lv_at hl 0 rfl) ?_
        refine lv_iload_n S.1 S.2.1 dX8_isIn_61 rfl (lv_at hl 3 rfl) ?_
        obtain ⟨u8, hu8, h⟩ := bd_e h
        refine r_ri d (r_cV (As := [.int b3]) (rest := [.int v7]) S d (c_X8_sizeOf l G M L b0 b3 hb0 hu8) (ksdM S hb0) (wc_20 hb0) rfl ml_RX8_179 im_yX8_sizeOf se_yX8_sizeOf in_RX8 co_yX8_sizeOf hyV_X8_sizeOf ⟨rfl, rfl⟩ ⟨by decide, by decide⟩ rfl hl rfl (Nat.le_of_ble_eq_true rfl) dX8_isIn_62 ⟨Nat.zero_le _, Nat.zero_le _⟩) (fun H locs d => ?_)
        refine lv_icmp_ne (tgt := 70) S.1 S.2.1 dX8_isIn_65 (by decide) (fun cc => ?_) (fun cc => ?_)
        · replace h := it_n cc h
          obtain ⟨v9, ev9, h⟩ := lt_e h
          refine lv_iinc (v := v9) (lv' := [(4, .int v9), (0, .ref (ad G b0)), (1, .int b1), (2, .int b2), (3, .int b3), (5, .int x5)]) S.1 S.2.1 dX8_isIn_70 hl (k := 4) rfl (by rw [ev9]; rfl) (by decide) rfl (fun ls hl => ?_)
          obtain ⟨v10, ev10, h⟩ := lt_e h
          refine lv_iinc (v := v10) (lv' := [(5, .int v10), (4, .int v9), (0, .ref (ad G b0)), (1, .int b1), (2, .int b2), (3, .int b3)]) S.1 S.2.1 dX8_isIn_73 hl (k := 5) rfl (by rw [ev10]; rfl) (by decide) rfl (fun ls hl => ?_)
          refine lv_goto (tgt := 6) S.1 S.2.1 dX8_isIn_76 (by decide) ?_
          exact ih _ _ h _ _ d _ (lv_sub hl [2, 3, 4, 5, 1, 0] rfl)
        · replace h := it_p cc h
          refine lv_iconst (v := 0) S.1 S.2.1 dX8_isIn_68 (by decide) ?_
          obtain rfl := Option.some.inj h
          exact r_iret S d hr rfl rfl dX8_isIn_69
set_option maxHeartbeats 4000000 in
set_option maxRecDepth 100000 in
theorem c_X8_isIn (l : Launch) (G : Gx) (M : Mem) (L : MemL) (fu : Nat) (k0 : Nat) (a1 : Int32) (a2 : Int32) (a3 : Int32) (hk0 : kd k0 = 20) {z : Int32} (h : f_X8_isIn fu M k0 a1 a2 a3 = some z) : Met l yX8_isIn (.code yX8_isIn cX8_isIn 6 (Option.some Jvm.ClassFile.FieldType.boolean) :: UW) rm_X8_isIn (va_Pc [.ref (ad G k0), .int a1, .int a2, .int a3] (PreG G true M L)) (Qi G z M L) 0 0 (gA G) := by
  refine r_in (by decide) (fun p e s m args below meth c S hr d ha ls hl => ?_) (Nat.le_of_ble_eq_true rfl)
  have S : Sx G true p s m args meth c cX8_isIn 6 RX8 := S
  have hl : lv_has ls 6 [(0, .ref (ad G k0)), (1, .int a1), (2, .int a2), (3, .int a3)] := hl
  unfold f_X8_isIn at h
  refine lv_iconst (v := 0) S.1 S.2.1 dX8_isIn_0 (by decide) ?_
  refine lv_istore (lv' := [(4, .int (0 : Int32)), (0, .ref (ad G k0)), (1, .int a1), (2, .int a2), (3, .int a3)]) S.1 S.2.1 dX8_isIn_1 hl (by decide) rfl (fun ls hl => ?_)
  refine lv_iconst (v := 0) S.1 S.2.1 dX8_isIn_3 (by decide) ?_
  refine lv_istore (lv' := [(5, .int (0 : Int32)), (4, .int (0 : Int32)), (0, .ref (ad G k0)), (1, .int a1), (2, .int a2), (3, .int a3)]) S.1 S.2.1 dX8_isIn_4 hl (by decide) rfl (fun ls hl => ?_)
  refine lc_X8_isIn_6 S hr hk0 _ (fun _ H locs d ls hl h => ?_) _ _ _  h _ _ d _ (lv_sub hl [2, 3, 4, 5, 1, 0] rfl)
  refine lv_iconst (v := 1) S.1 S.2.1 dX8_isIn_79 (by decide) ?_
  obtain rfl := Option.some.inj h
  exact r_iret S d hr rfl rfl dX8_isIn_80
theorem hyV_X8_brief : yX8_brief.cls = RX8 ∧ yX8_brief.cls ≠ "java/lang/invoke/MethodHandle" ∧ yX8_brief.cls ≠ "java/lang/invoke/VarHandle" ∧ (parseMethodDescriptor yX8_brief.desc).map (fun d => d.parameters.length) = some 1 := by decide +kernel
abbrev rm_X8_brief : Room := { frames := 2, cells := 0, slots := 0, locals := 47 }
def lp_X8_brief_32 (fu : Nat) (M : Mem) (b0 : Nat) (b1 : Int32) (b2 : Int32) (b3 : Int32) (K : Int32 → Option (Int32)) : Nat → Int32 → Int32 → Option (Int32)
  | 0, _, _ => none
  | n + 1, x4, x5 =>
    (if (M b0 8) ≤ x5 then (K x4)
    else (if x4 = 0 then some (0 : Int32)
      else (f_X8_areLike fu M b0 b1 x5).bind (fun u5 =>
        (if u5 = 0 then (f_X8_isIn fu M b0 b1 b3 x5).bind (fun u6 =>
          (if u6 = 0 then some (1 : Int32)
          else some (0 : Int32)))
        else some (1 : Int32)))).bind (fun t3 : Int32 =>
      lt (x5 + 1) (fun v7 : Int32 =>
      (lp_X8_brief_32 fu M b0 b1 b2 b3 K n t3 v7))))
def lp_X8_brief_15 (fu : Nat) (M : Mem) (b0 : Nat) (b1 : Int32) (K : Int32 → Option (Int32)) : Nat → Int32 → Int32 → Option (Int32)
  | 0, _, _ => none
  | n + 1, x2, x3 =>
    (f_X8_sizeOf M b0 b1).bind (fun u2 =>
    (if ((1 : Int32) <<< (u2 &&& 31)) ≤ x3 then (K x2)
    else (lp_X8_brief_32 fu M b0 b1 x2 x3 (fun (v8 : Int32) =>
        (if v8 = 0 then some x2
        else (if x2 < 0 then some x3
          else (f_X8_ones fu x3).bind (fun u11 =>
            (f_X8_ones fu x2).bind (fun u12 =>
            (if u12 ≤ u11 then some x2
            else some x3))))).bind (fun t9 : Int32 =>
        lt (x3 + 1) (fun v13 : Int32 =>
        (lp_X8_brief_15 fu M b0 b1 K n t9 v13)))) fu (1 : Int32) (0 : Int32))))
def f_X8_brief (fu : Nat) (M : Mem) (k0 : Nat) (a1 : Int32) : Option (Int32) :=
  (f_X8_isWord M k0 a1).bind (fun u1 =>
  (if u1 = 0 then some ((-1 : Int32))
  else (lp_X8_brief_15 fu M k0 a1 (fun (v14 : Int32) =>
      some (v14)) fu (-4 : Int32) (1 : Int32))))
set_option maxHeartbeats 4000000 in
set_option maxRecDepth 100000 in
theorem lc_X8_brief_32 {p : Program} {l : Launch} {e : Env} {s : State} {m : MethodId} {args : Array Value} {below : List Frame} {meth : Method} {c : Code} {G : Gx} {M : Mem} {L : MemL} {fu : Nat} {b0 : Nat} {b1 : Int32} {b2 : Int32} {b3 : Int32} {z : Int32} (S : Sx G true p s m args meth c cX8_brief 6 RX8) (hr : meth.sig.returnType = (Option.some Jvm.ClassFile.FieldType.int)) (hb0 : kd b0 = 20) (K : Int32 → Option (Int32)) (hK : ∀ (y4 : Int32) (H : Heap) (locs : List Loc), Dy G s M L H locs → ∀ ls : Array Slot, lv_has ls 6 [(0, .ref (ad G b0)), (1, .int b1), (2, .int b2), (3, .int b3), (4, .int y4)] → K y4 = some z → W p l e rm_X8_brief s m args below meth c H locs 0 0 (MQ below (Qi G z M L) args s 0 0 (gA G)) (F0 m 80 ls [])) :
    ∀ (n : Nat) (x4 : Int32) (x5 : Int32), lp_X8_brief_32 fu M b0 b1 b2 b3 K n x4 x5 = some z → ∀ (H : Heap) (locs : List Loc), Dy G s M L H locs → ∀ ls : Array Slot, lv_has ls 6 [(0, .ref (ad G b0)), (1, .int b1), (2, .int b2), (3, .int b3), (4, .int x4), (5, .int x5)] → W p l e rm_X8_brief s m args below meth c H locs 0 0 (MQ below (Qi G z M L) args s 0 0 (gA G)) (F0 m 32 ls []) := by
  intro n
  induction n with
  | zero =>
    intro x4 x5 h
    have h : (none : Option (Int32)) = some z := h
    cases h
  | succ n ih =>
    intro x4 x5 h H locs d ls hl
    rw [lp_X8_brief_32] at h
    refine lv_iload S.1 S.2.1 dX8_brief_32 (lv_at hl 5 rfl) ?_
    refine lv_aload_n S.1 S.2.1 dX8_brief_34 rfl (lv_at hl 0 rfl) ?_
    refine gf_20_8 S d hb0 fl_RX8_83 dX8_brief_35 ?_
    refine lv_icmp_ge (tgt := 80) S.1 S.2.1 dX8_brief_38 (by decide) (fun cc => ?_) (fun cc => ?_)
    · replace h := it_p cc h
      exact hK _ _ _ d _ (lv_sub hl [0, 1, 2, 3, 4] rfl) h
    · replace h := it_n cc h
      refine lv_iload S.1 S.2.1 dX8_brief_41 (lv_at hl 4 rfl) ?_
      obtain ⟨t3, g4, h⟩ := bd_e h
      have Jt3 : ∀ (H : Heap) (locs : List Loc), Dy G s M L H locs → W p l e rm_X8_brief s m args below meth c H locs 0 0 (MQ below (Qi G z M L) args s 0 0 (gA G)) (F0 m 72 ls [.int t3]) := by
        intro H locs d
        refine lv_istore (lv' := [(4, .int t3), (0, .ref (ad G b0)), (1, .int b1), (2, .int b2), (3, .int b3), (5, .int x5)]) S.1 S.2.1 dX8_brief_72 hl (by decide) rfl (fun ls hl => ?_)
        obtain ⟨v7, ev7, h⟩ := lt_e h
        refine lv_iinc (v := v7) (lv' := [(5, .int v7), (4, .int t3), (0, .ref (ad G b0)), (1, .int b1), (2, .int b2), (3, .int b3)]) S.1 S.2.1 dX8_brief_74 hl (k := 5) rfl (by rw [ev7]; rfl) (by decide) rfl (fun ls hl => ?_)
        refine lv_goto (tgt := 32) S.1 S.2.1 dX8_brief_77 (by decide) ?_
        exact ih _ _ h _ _ d _ (lv_sub hl [2, 3, 4, 5, 1, 0] rfl)
      have h := g4
      refine lv_if_eq (tgt := 71) S.1 S.2.1 dX8_brief_43 (by decide) (fun cc => ?_) (fun cc => ?_)
      · replace h := it_p cc h
        refine lv_iconst (v := 0) S.1 S.2.1 dX8_brief_71 (by decide) ?_
        obtain ej := Option.some.inj h
        refine r_top ej.symm ?_
        exact Jt3 _ _ d
      · replace h := it_n cc h
        refine lv_aload_n S.1 S.2.1 dX8_brief_46 rfl (lv_at hl 0 rfl) ?_
        refine lv_iload_n S.1 S.2.1 dX8_brief_47 rfl (lv_at hl 1 rfl) ?_
        refine lv_iload S.1 S.2.1 dX8_brief_48 (lv_at hl 5 rfl) ?_
        obtain ⟨u5, hu5, h⟩ := bd_e h
        refine r_ri d (r_cV (As := [.int b1, .int x5]) (rest := []) S d (c_X8_areLike l G M L fu b0 b1 x5 hb0 hu5) (ksdM S hb0) (wc_20 hb0) rfl ml_RX8_224 im_yX8_areLike se_yX8_areLike in_RX8 co_yX8_areLike hyV_X8_areLike ⟨rfl, rfl⟩ ⟨by decide, by decide⟩ rfl hl rfl (Nat.le_of_ble_eq_true rfl) dX8_brief_50 ⟨Nat.zero_le _, Nat.zero_le _⟩) (fun H locs d => ?_)
        refine lv_if_ne (tgt := 67) S.1 S.2.1 dX8_brief_53 (by decide) (fun cc => ?_) (fun cc => ?_)
        · replace h := it_n cc h
          refine lv_iconst (v := 1) S.1 S.2.1 dX8_brief_67 (by decide) ?_
          refine lv_goto (tgt := 72) S.1 S.2.1 dX8_brief_68 (by decide) ?_
          obtain ej := Option.some.inj h
          refine r_top ej.symm ?_
          exact Jt3 _ _ d
        · replace h := it_p cc h
          refine lv_aload_n S.1 S.2.1 dX8_brief_56 rfl (lv_at hl 0 rfl) ?_
          refine lv_iload_n S.1 S.2.1 dX8_brief_57 rfl (lv_at hl 1 rfl) ?_
          refine lv_iload_n S.1 S.2.1 dX8_brief_58 rfl (lv_at hl 3 rfl) ?_
          refine lv_iload S.1 S.2.1 dX8_brief_59 (lv_at hl 5 rfl) ?_
          obtain ⟨u6, hu6, h⟩ := bd_e h
          refine r_ri d (r_cV (As := [.int b1, .int b3, .int x5]) (rest := []) S d (c_X8_isIn l G M L fu b0 b1 b3 x5 hb0 hu6) (ksdM S hb0) (wc_20 hb0) rfl ml_RX8_227 im_yX8_isIn se_yX8_isIn in_RX8 co_yX8_isIn hyV_X8_isIn ⟨rfl, rfl⟩ ⟨by decide, by decide⟩ rfl hl rfl (Nat.le_of_ble_eq_true rfl) dX8_brief_61 ⟨Nat.zero_le _, Nat.zero_le _⟩) (fun H locs d => ?_)
          refine lv_if_ne (tgt := 71) S.1 S.2.1 dX8_brief_64 (by decide) (fun cc => ?_) (fun cc => ?_)
          · replace h := it_n cc h
            refine lv_iconst (v := 0) S.1 S.2.1 dX8_brief_71 (by decide) ?_
            obtain ej := Option.some.inj h
            refine r_top ej.symm ?_
            exact Jt3 _ _ d
          · replace h := it_p cc h
            refine lv_iconst (v := 1) S.1 S.2.1 dX8_brief_67 (by decide) ?_
            refine lv_goto (tgt := 72) S.1 S.2.1 dX8_brief_68 (by decide) ?_
            obtain ej := Option.some.inj h
            refine r_top ej.symm ?_
            exact Jt3 _ _ d
set_option maxHeartbeats 4000000 in
set_option maxRecDepth 100000 in
theorem lc_X8_brief_15 {p : Program} {l : Launch} {e : Env} {s : State} {m : MethodId} {args : Array Value} {below : List Frame} {meth : Method} {c : Code} {G : Gx} {M : Mem} {L : MemL} {fu : Nat} {b0 : Nat} {b1 : Int32} {z : Int32} (S : Sx G true p s m args meth c cX8_brief 6 RX8) (hr : meth.sig.returnType = (Option.some Jvm.ClassFile.FieldType.int)) (hb0 : kd b0 = 20) (K : Int32 → Option (Int32)) (hK : ∀ (y2 : Int32) (H : Heap) (locs : List Loc), Dy G s M L H locs → ∀ ls : Array Slot, lv_has ls 6 [(2, .int y2)] → K y2 = some z → W p l e rm_X8_brief s m args below meth c H locs 0 0 (MQ below (Qi G z M L) args s 0 0 (gA G)) (F0 m 112 ls [])) :
    ∀ (n : Nat) (x2 : Int32) (x3 : Int32), lp_X8_brief_15 fu M b0 b1 K n x2 x3 = some z → ∀ (H : Heap) (locs : List Loc), Dy G s M L H locs → ∀ ls : Array Slot, lv_has ls 6 [(0, .ref (ad G b0)), (1, .int b1), (2, .int x2), (3, .int x3)] → W p l e rm_X8_brief s m args below meth c H locs 0 0 (MQ below (Qi G z M L) args s 0 0 (gA G)) (F0 m 15 ls []) := by
  intro n
  induction n with
  | zero =>
    intro x2 x3 h
    have h : (none : Option (Int32)) = some z := h
    cases h
  | succ n ih =>
    intro x2 x3 h H locs d ls hl
    rw [lp_X8_brief_15] at h
    refine lv_iload_n S.1 S.2.1 dX8_brief_15 rfl (lv_at hl 3 rfl) ?_
    refine lv_iconst (v := 1) S.1 S.2.1 dX8_brief_16 (by decide) ?_
    refine lv_aload_n S.1 S.2.1 dX8_brief_17 rfl (lv_at hl 0 rfl) ?_
    refine lv_iload_n S.1 S.2.1 dX8_brief_18 rfl (lv_at hl 1 rfl) ?_
    obtain ⟨u2, hu2, h⟩ := bd_e h
    refine r_ri d (r_cV (As := [.int b1]) (rest := [.int (1 : Int32), .int x3]) S d (c_X8_sizeOf l G M L b0 b1 hb0 hu2) (ksdM S hb0) (wc_20 hb0) rfl ml_RX8_179 im_yX8_sizeOf se_yX8_sizeOf in_RX8 co_yX8_sizeOf hyV_X8_sizeOf ⟨rfl, rfl⟩ ⟨by decide, by decide⟩ rfl hl rfl (Nat.le_of_ble_eq_true rfl) dX8_brief_19 ⟨Nat.zero_le _, Nat.zero_le _⟩) (fun H locs d => ?_)
    refine lv_ishl S.1 S.2.1 dX8_brief_22 ?_
    refine lv_icmp_ge (tgt := 112) S.1 S.2.1 dX8_brief_23 (by decide) (fun cc => ?_) (fun cc => ?_)
    · replace h := it_p cc h
      exact hK _ _ _ d _ (lv_sub hl [2] rfl) h
    · replace h := it_n cc h
      refine lv_iconst (v := 1) S.1 S.2.1 dX8_brief_26 (by decide) ?_
      refine lv_istore (lv' := [(4, .int (1 : Int32)), (0, .ref (ad G b0)), (1, .int b1), (2, .int x2), (3, .int x3)]) S.1 S.2.1 dX8_brief_27 hl (by decide) rfl (fun ls hl => ?_)
      refine lv_iconst (v := 0) S.1 S.2.1 dX8_brief_29 (by decide) ?_
      refine lv_istore (lv' := [(5, .int (0 : Int32)), (4, .int (1 : Int32)), (0, .ref (ad G b0)), (1, .int b1), (2, .int x2), (3, .int x3)]) S.1 S.2.1 dX8_brief_30 hl (by decide) rfl (fun ls hl => ?_)
      refine lc_X8_brief_32 S hr hb0 _ (fun v8 H locs d ls hl h => ?_) _ _ _  h _ _ d _ (lv_sub hl [2, 3, 4, 5, 1, 0] rfl)
      refine lv_iload S.1 S.2.1 dX8_brief_80 (lv_at hl 4 rfl) ?_
      obtain ⟨t9, g10, h⟩ := bd_e h
      have Jt9 : ∀ (H : Heap) (locs : List Loc), Dy G s M L H locs → W p l e rm_X8_brief s m args below meth c H locs 0 0 (MQ below (Qi G z M L) args s 0 0 (gA G)) (F0 m 105 ls [.int t9]) := by
        intro H locs d
        refine lv_istore_n (lv' := [(2, .int t9), (0, .ref (ad G b0)), (1, .int b1), (3, .int x3), (4, .int v8)]) S.1 S.2.1 dX8_brief_105 rfl hl (by decide) rfl (fun ls hl => ?_)
        obtain ⟨v13, ev13, h⟩ := lt_e h
        refine lv_iinc (v := v13) (lv' := [(3, .int v13), (2, .int t9), (0, .ref (ad G b0)), (1, .int b1), (4, .int v8)]) S.1 S.2.1 dX8_brief_106 hl (k := 3) rfl (by rw [ev13]; rfl) (by decide) rfl (fun ls hl => ?_)
        refine lv_goto (tgt := 15) S.1 S.2.1 dX8_brief_109 (by decide) ?_
        exact ih _ _ h _ _ d _ (lv_sub hl [2, 3, 1, 0] rfl)
      have h := g10
      refine lv_if_eq (tgt := 104) S.1 S.2.1 dX8_brief_82 (by decide) (fun cc => ?_) (fun cc => ?_)
      · replace h := it_p cc h
        refine lv_iload_n S.1 S.2.1 dX8_brief_104 rfl (lv_at hl 2 rfl) ?_
        obtain ej := Option.some.inj h
        refine r_top ej.symm ?_
        exact Jt9 _ _ d
      · replace h := it_n cc h
        refine lv_iload_n S.1 S.2.1 dX8_brief_85 rfl (lv_at hl 2 rfl) ?_
        refine lv_if_lt (tgt := 100) S.1 S.2.1 dX8_brief_86 (by decide) (fun cc => ?_) (fun cc => ?_)
        · replace h := it_p cc h
          refine lv_iload_n S.1 S.2.1 dX8_brief_100 rfl (lv_at hl 3 rfl) ?_
          refine lv_goto (tgt := 105) S.1 S.2.1 dX8_brief_101 (by decide) ?_
          obtain ej := Option.some.inj h
          refine r_top ej.symm ?_
          exact Jt9 _ _ d
        · replace h := it_n cc h
          refine lv_iload_n S.1 S.2.1 dX8_brief_89 rfl (lv_at hl 3 rfl) ?_
          obtain ⟨u11, hu11, h⟩ := bd_e h
          refine r_ri d (r_cS (As := [.int x3]) (rest := []) S d (c_X8_ones l G M L fu x3 hu11) ml_RX8_108 sm_yX8_ones in_RX8 co_yX8_ones hyS_X8_ones ⟨rfl, rfl⟩ ⟨by decide, by decide⟩ rfl hl rfl (Nat.le_of_ble_eq_true rfl) dX8_brief_90 ⟨Nat.zero_le _, Nat.zero_le _⟩) (fun H locs d => ?_)
          refine lv_iload_n S.1 S.2.1 dX8_brief_93 rfl (lv_at hl 2 rfl) ?_
          obtain ⟨u12, hu12, h⟩ := bd_e h
          refine r_ri d (r_cS (As := [.int x2]) (rest := [.int u11]) S d (c_X8_ones l G M L fu x2 hu12) ml_RX8_108 sm_yX8_ones in_RX8 co_yX8_ones hyS_X8_ones ⟨rfl, rfl⟩ ⟨by decide, by decide⟩ rfl hl rfl (Nat.le_of_ble_eq_true rfl) dX8_brief_94 ⟨Nat.zero_le _, Nat.zero_le _⟩) (fun H locs d => ?_)
          refine lv_icmp_ge (tgt := 104) S.1 S.2.1 dX8_brief_97 (by decide) (fun cc => ?_) (fun cc => ?_)
          · replace h := it_p cc h
            refine lv_iload_n S.1 S.2.1 dX8_brief_104 rfl (lv_at hl 2 rfl) ?_
            obtain ej := Option.some.inj h
            refine r_top ej.symm ?_
            exact Jt9 _ _ d
          · replace h := it_n cc h
            refine lv_iload_n S.1 S.2.1 dX8_brief_100 rfl (lv_at hl 3 rfl) ?_
            refine lv_goto (tgt := 105) S.1 S.2.1 dX8_brief_101 (by decide) ?_
            obtain ej := Option.some.inj h
            refine r_top ej.symm ?_
            exact Jt9 _ _ d
set_option maxHeartbeats 4000000 in
set_option maxRecDepth 100000 in
theorem c_X8_brief (l : Launch) (G : Gx) (M : Mem) (L : MemL) (fu : Nat) (k0 : Nat) (a1 : Int32) (hk0 : kd k0 = 20) {z : Int32} (h : f_X8_brief fu M k0 a1 = some z) : Met l yX8_brief (.code yX8_brief cX8_brief 6 (Option.some Jvm.ClassFile.FieldType.int) :: UW) rm_X8_brief (va_Pc [.ref (ad G k0), .int a1] (PreG G true M L)) (Qi G z M L) 0 0 (gA G) := by
  refine r_in (by decide) (fun p e s m args below meth c S hr d ha ls hl => ?_) (Nat.le_of_ble_eq_true rfl)
  have S : Sx G true p s m args meth c cX8_brief 6 RX8 := S
  have hl : lv_has ls 6 [(0, .ref (ad G k0)), (1, .int a1)] := hl
  unfold f_X8_brief at h
  refine lv_aload_n S.1 S.2.1 dX8_brief_0 rfl (lv_at hl 0 rfl) ?_
  refine lv_iload_n S.1 S.2.1 dX8_brief_1 rfl (lv_at hl 1 rfl) ?_
  obtain ⟨u1, hu1, h⟩ := bd_e h
  refine r_ri d (r_cV (As := [.int a1]) (rest := []) S d (c_X8_isWord l G M L k0 a1 hk0 hu1) (ksdM S hk0) (wc_20 hk0) rfl ml_RX8_174 im_yX8_isWord se_yX8_isWord in_RX8 co_yX8_isWord hyV_X8_isWord ⟨rfl, rfl⟩ ⟨by decide, by decide⟩ rfl hl rfl (Nat.le_of_ble_eq_true rfl) dX8_brief_2 ⟨Nat.zero_le _, Nat.zero_le _⟩) (fun H locs d => ?_)
  refine lv_if_ne (tgt := 10) S.1 S.2.1 dX8_brief_5 (by decide) (fun cc => ?_) (fun cc => ?_)
  · replace h := it_n cc h
    refine lv_bipush (v := (-4)) S.1 S.2.1 dX8_brief_10 (by decide) ?_
    refine lv_istore_n (lv' := [(2, .int (-4 : Int32)), (0, .ref (ad G k0)), (1, .int a1)]) S.1 S.2.1 dX8_brief_12 rfl hl (by decide) rfl (fun ls hl => ?_)
    refine lv_iconst (v := 1) S.1 S.2.1 dX8_brief_13 (by decide) ?_
    refine lv_istore_n (lv' := [(3, .int (1 : Int32)), (2, .int (-4 : Int32)), (0, .ref (ad G k0)), (1, .int a1)]) S.1 S.2.1 dX8_brief_14 rfl hl (by decide) rfl (fun ls hl => ?_)
    refine lc_X8_brief_15 S hr hk0 _ (fun v14 H locs d ls hl h => ?_) _ _ _  h _ _ d _ (lv_sub hl [2, 3, 1, 0] rfl)
    refine lv_iload_n S.1 S.2.1 dX8_brief_112 rfl (lv_at hl 0 rfl) ?_
    obtain rfl := Option.some.inj h
    exact r_iret S d hr rfl rfl dX8_brief_113
  · replace h := it_p cc h
    refine lv_iconst (v := (-1)) S.1 S.2.1 dX8_brief_8 (by decide) ?_
    obtain rfl := Option.some.inj h
    exact r_iret S d hr rfl rfl dX8_brief_9
theorem hyV_X8_carried : yX8_carried.cls = RX8 ∧ yX8_carried.cls ≠ "java/lang/invoke/MethodHandle" ∧ yX8_carried.cls ≠ "java/lang/invoke/VarHandle" ∧ (parseMethodDescriptor yX8_carried.desc).map (fun d => d.parameters.length) = some 3 := by decide +kernel
abbrev rm_X8_carried : Room := { frames := 0, cells := 0, slots := 0, locals := 0 }
def f_X8_carried (M : Mem) (k0 : Nat) (a1 : Int32) (a2 : Int32) (a3 : Int32) : Option (Int32 × Mem) :=
  (if (9 : Int32) ≤ a1 then lt (a1 + (-9)) (fun v7 : Int32 =>
    (if (135 : Int32) ≤ v7 then lt (v7 + (-135)) (fun v14 : Int32 =>
      (if (6 : Int32) ≤ v14 then lt (v14 + (-6)) (fun v21 : Int32 =>
        (if (4 : Int32) ≤ v21 then lt (v21 + (-4)) (fun v28 : Int32 =>
          (if (36 : Int32) ≤ v28 then lt (v28 + (-36)) (fun v35 : Int32 =>
            (if a3 = 0 then gd (inb v35 80) (
              some (M (k0 + 7) v35.toNatClampNeg))
            else some a2).bind (fun t36 : Int32 =>
            gd (inb v35 80) (
            lt (up M (k0 + 7) v35.toNatClampNeg t36) (fun M40 : Mem =>
            gd (inb v35 80) (
            some ((M40 (k0 + 7) v35.toNatClampNeg), M40))))))
          else (if a3 = 0 then gd (inb v28 36) (
              some (M (k0 + 6) v28.toNatClampNeg))
            else some a2).bind (fun t29 : Int32 =>
            gd (inb v28 36) (
            lt (up M (k0 + 6) v28.toNatClampNeg t29) (fun M33 : Mem =>
            gd (inb v28 36) (
            some ((M33 (k0 + 6) v28.toNatClampNeg), M33)))))))
        else (if a3 = 0 then gd (inb v21 4) (
            some (M (k0 + 5) v21.toNatClampNeg))
          else some a2).bind (fun t22 : Int32 =>
          gd (inb v21 4) (
          lt (up M (k0 + 5) v21.toNatClampNeg t22) (fun M26 : Mem =>
          gd (inb v21 4) (
          some ((M26 (k0 + 5) v21.toNatClampNeg), M26)))))))
      else (if a3 = 0 then gd (inb v14 6) (
          some (M (k0 + 4) v14.toNatClampNeg))
        else some a2).bind (fun t15 : Int32 =>
        gd (inb v14 6) (
        lt (up M (k0 + 4) v14.toNatClampNeg t15) (fun M19 : Mem =>
        gd (inb v14 6) (
        some ((M19 (k0 + 4) v14.toNatClampNeg), M19)))))))
    else (if a3 = 0 then gd (inb v7 135) (
        some (M (k0 + 3) v7.toNatClampNeg))
      else some a2).bind (fun t8 : Int32 =>
      gd (inb v7 135) (
      lt (up M (k0 + 3) v7.toNatClampNeg t8) (fun M12 : Mem =>
      gd (inb v7 135) (
      some ((M12 (k0 + 3) v7.toNatClampNeg), M12)))))))
  else (if a3 = 0 then gd (inb a1 9) (
      some (M (k0 + 2) a1.toNatClampNeg))
    else some a2).bind (fun t1 : Int32 =>
    gd (inb a1 9) (
    lt (up M (k0 + 2) a1.toNatClampNeg t1) (fun M5 : Mem =>
    gd (inb a1 9) (
    some ((M5 (k0 + 2) a1.toNatClampNeg), M5))))))
set_option maxHeartbeats 4000000 in
set_option maxRecDepth 100000 in
theorem c_X8_carried (l : Launch) (G : Gx) (M : Mem) (L : MemL) (k0 : Nat) (a1 : Int32) (a2 : Int32) (a3 : Int32) (hk0 : kd k0 = 20) {z : Int32 × Mem} (h : f_X8_carried M k0 a1 a2 a3 = some z) : Met l yX8_carried (.code yX8_carried cX8_carried 5 (Option.some Jvm.ClassFile.FieldType.int) :: UW) rm_X8_carried (va_Pc [.ref (ad G k0), .int a1, .int a2, .int a3] (PreG G true M L)) (Qi G z.1 z.2 L) 0 0 (gA G) := by
  refine r_in (by decide) (fun p e s m args below meth c S hr d ha ls hl => ?_) (Nat.le_of_ble_eq_true rfl)
  have S : Sx G true p s m args meth c cX8_carried 5 RX8 := S
  have hl : lv_has ls 5 [(0, .ref (ad G k0)), (1, .int a1), (2, .int a2), (3, .int a3)] := hl
  unfold f_X8_carried at h
  refine lv_iload_n S.1 S.2.1 dX8_carried_0 rfl (lv_at hl 1 rfl) ?_
  refine lv_istore (lv' := [(4, .int a1), (0, .ref (ad G k0)), (1, .int a1), (2, .int a2), (3, .int a3)]) S.1 S.2.1 dX8_carried_1 hl (by decide) rfl (fun ls hl => ?_)
  refine lv_iload S.1 S.2.1 dX8_carried_3 (lv_at hl 0 rfl) ?_
  refine lv_bipush (v := 9) S.1 S.2.1 dX8_carried_5 (by decide) ?_
  refine lv_icmp_ge (tgt := 40) S.1 S.2.1 dX8_carried_7 (by decide) (fun cc => ?_) (fun cc => ?_)
  · replace h := it_p cc h
    obtain ⟨v7, ev7, h⟩ := lt_e h
    refine lv_iinc (v := v7) (lv' := [(4, .int v7), (0, .ref (ad G k0)), (1, .int a1), (2, .int a2), (3, .int a3)]) S.1 S.2.1 dX8_carried_40 hl (k := 0) rfl (by rw [ev7]; exact congrArg (fun q : Int32 => _ + q) (by decide +kernel : Int32.ofInt (-9) = -9)) (by decide) rfl (fun ls hl => ?_)
    refine lv_iload S.1 S.2.1 dX8_carried_43 (lv_at hl 0 rfl) ?_
    refine lv_sipush (v := 135) S.1 S.2.1 dX8_carried_45 (by decide) ?_
    refine lv_icmp_ge (tgt := 81) S.1 S.2.1 dX8_carried_48 (by decide) (fun cc => ?_) (fun cc => ?_)
    · replace h := it_p cc h
      obtain ⟨v14, ev14, h⟩ := lt_e h
      refine lv_iincW (v := v14) (lv' := [(4, .int v14), (0, .ref (ad G k0)), (1, .int a1), (2, .int a2), (3, .int a3)]) S.1 S.2.1 dX8_carried_81 hl (k := 0) rfl (by rw [ev14]; exact congrArg (fun q : Int32 => _ + q) (by decide +kernel : Int32.ofInt (-135) = -135)) (by decide) rfl (fun ls hl => ?_)
      refine lv_iload S.1 S.2.1 dX8_carried_87 (lv_at hl 0 rfl) ?_
      refine lv_bipush (v := 6) S.1 S.2.1 dX8_carried_89 (by decide) ?_
      refine lv_icmp_ge (tgt := 124) S.1 S.2.1 dX8_carried_91 (by decide) (fun cc => ?_) (fun cc => ?_)
      · replace h := it_p cc h
        obtain ⟨v21, ev21, h⟩ := lt_e h
        refine lv_iinc (v := v21) (lv' := [(4, .int v21), (0, .ref (ad G k0)), (1, .int a1), (2, .int a2), (3, .int a3)]) S.1 S.2.1 dX8_carried_124 hl (k := 0) rfl (by rw [ev21]; rfl) (by decide) rfl (fun ls hl => ?_)
        refine lv_iload S.1 S.2.1 dX8_carried_127 (lv_at hl 0 rfl) ?_
        refine lv_iconst (v := 4) S.1 S.2.1 dX8_carried_129 (by decide) ?_
        refine lv_icmp_ge (tgt := 163) S.1 S.2.1 dX8_carried_130 (by decide) (fun cc => ?_) (fun cc => ?_)
        · replace h := it_p cc h
          obtain ⟨v28, ev28, h⟩ := lt_e h
          refine lv_iinc (v := v28) (lv' := [(4, .int v28), (0, .ref (ad G k0)), (1, .int a1), (2, .int a2), (3, .int a3)]) S.1 S.2.1 dX8_carried_163 hl (k := 0) rfl (by rw [ev28]; rfl) (by decide) rfl (fun ls hl => ?_)
          refine lv_iload S.1 S.2.1 dX8_carried_166 (lv_at hl 0 rfl) ?_
          refine lv_bipush (v := 36) S.1 S.2.1 dX8_carried_168 (by decide) ?_
          refine lv_icmp_ge (tgt := 203) S.1 S.2.1 dX8_carried_170 (by decide) (fun cc => ?_) (fun cc => ?_)
          · replace h := it_p cc h
            obtain ⟨v35, ev35, h⟩ := lt_e h
            refine lv_iinc (v := v35) (lv' := [(4, .int v35), (0, .ref (ad G k0)), (1, .int a1), (2, .int a2), (3, .int a3)]) S.1 S.2.1 dX8_carried_203 hl (k := 0) rfl (by rw [ev35]; exact congrArg (fun q : Int32 => _ + q) (by decide +kernel : Int32.ofInt (-36) = -36)) (by decide) rfl (fun ls hl => ?_)
            refine lv_aload_n S.1 S.2.1 dX8_carried_206 rfl (lv_at hl 1 rfl) ?_
            refine gf_20_6 S d hk0 fl_RX8_28 dX8_carried_207 ?_
            refine lv_iload S.1 S.2.1 dX8_carried_210 (lv_at hl 0 rfl) ?_
            refine lv_iload_n S.1 S.2.1 dX8_carried_212 rfl (lv_at hl 4 rfl) ?_
            obtain ⟨t36, g37, h⟩ := bd_e h
            have Jt36 : ∀ (H : Heap) (locs : List Loc), Dy G s M L H locs → W p l e rm_X8_carried s m args below meth c H locs 0 0 (MQ below (Qi G z.1 z.2 L) args s 0 0 (gA G)) (F0 m 227 ls [.int t36, .int v35, .ref (ad G (k0 + 7))]) := by
              intro H locs d
              obtain ⟨g39, h⟩ := gd_e h
              obtain ⟨M40, eM40, h⟩ := lt_e h
              refine r_iast S d eM40 (ksdM S (ch_20_6 hk0).1) (fun _ => wc_21 (ch_20_6 hk0).1) (ch_20_6 hk0).2 g39 dX8_carried_227 (fun H locs d => ?_)
              refine lv_aload_n S.1 S.2.1 dX8_carried_228 rfl (lv_at hl 1 rfl) ?_
              refine gf_20_6 S d hk0 fl_RX8_28 dX8_carried_229 ?_
              refine lv_iload S.1 S.2.1 dX8_carried_232 (lv_at hl 0 rfl) ?_
              obtain ⟨g41, h⟩ := gd_e h
              refine r_iald S d (ksdM S (ch_20_6 hk0).1) (wc_21 (ch_20_6 hk0).1) (ch_20_6 hk0).2 g41 dX8_carried_234 ?_
              obtain rfl := Option.some.inj h
              exact r_iret S d hr rfl rfl dX8_carried_235
            have h := g37
            refine lv_if_eq (tgt := 220) S.1 S.2.1 dX8_carried_213 (by decide) (fun cc => ?_) (fun cc => ?_)
            · replace h := it_p cc h
              refine lv_aload_n S.1 S.2.1 dX8_carried_220 rfl (lv_at hl 1 rfl) ?_
              refine gf_20_6 S d hk0 fl_RX8_28 dX8_carried_221 ?_
              refine lv_iload S.1 S.2.1 dX8_carried_224 (lv_at hl 0 rfl) ?_
              obtain ⟨g38, h⟩ := gd_e h
              refine r_iald S d (ksdM S (ch_20_6 hk0).1) (wc_21 (ch_20_6 hk0).1) (ch_20_6 hk0).2 g38 dX8_carried_226 ?_
              obtain ej := Option.some.inj h
              refine r_top ej.symm ?_
              exact Jt36 _ _ d
            · replace h := it_n cc h
              refine lv_iload_n S.1 S.2.1 dX8_carried_216 rfl (lv_at hl 3 rfl) ?_
              refine lv_goto (tgt := 227) S.1 S.2.1 dX8_carried_217 (by decide) ?_
              obtain ej := Option.some.inj h
              refine r_top ej.symm ?_
              exact Jt36 _ _ d
          · replace h := it_n cc h
            refine lv_aload_n S.1 S.2.1 dX8_carried_173 rfl (lv_at hl 1 rfl) ?_
            refine gf_20_5 S d hk0 fl_RX8_25 dX8_carried_174 ?_
            refine lv_iload S.1 S.2.1 dX8_carried_177 (lv_at hl 0 rfl) ?_
            refine lv_iload_n S.1 S.2.1 dX8_carried_179 rfl (lv_at hl 4 rfl) ?_
            obtain ⟨t29, g30, h⟩ := bd_e h
            have Jt29 : ∀ (H : Heap) (locs : List Loc), Dy G s M L H locs → W p l e rm_X8_carried s m args below meth c H locs 0 0 (MQ below (Qi G z.1 z.2 L) args s 0 0 (gA G)) (F0 m 194 ls [.int t29, .int v28, .ref (ad G (k0 + 6))]) := by
              intro H locs d
              obtain ⟨g32, h⟩ := gd_e h
              obtain ⟨M33, eM33, h⟩ := lt_e h
              refine r_iast S d eM33 (ksdM S (ch_20_5 hk0).1) (fun _ => wc_21 (ch_20_5 hk0).1) (ch_20_5 hk0).2 g32 dX8_carried_194 (fun H locs d => ?_)
              refine lv_aload_n S.1 S.2.1 dX8_carried_195 rfl (lv_at hl 1 rfl) ?_
              refine gf_20_5 S d hk0 fl_RX8_25 dX8_carried_196 ?_
              refine lv_iload S.1 S.2.1 dX8_carried_199 (lv_at hl 0 rfl) ?_
              obtain ⟨g34, h⟩ := gd_e h
              refine r_iald S d (ksdM S (ch_20_5 hk0).1) (wc_21 (ch_20_5 hk0).1) (ch_20_5 hk0).2 g34 dX8_carried_201 ?_
              obtain rfl := Option.some.inj h
              exact r_iret S d hr rfl rfl dX8_carried_202
            have h := g30
            refine lv_if_eq (tgt := 187) S.1 S.2.1 dX8_carried_180 (by decide) (fun cc => ?_) (fun cc => ?_)
            · replace h := it_p cc h
              refine lv_aload_n S.1 S.2.1 dX8_carried_187 rfl (lv_at hl 1 rfl) ?_
              refine gf_20_5 S d hk0 fl_RX8_25 dX8_carried_188 ?_
              refine lv_iload S.1 S.2.1 dX8_carried_191 (lv_at hl 0 rfl) ?_
              obtain ⟨g31, h⟩ := gd_e h
              refine r_iald S d (ksdM S (ch_20_5 hk0).1) (wc_21 (ch_20_5 hk0).1) (ch_20_5 hk0).2 g31 dX8_carried_193 ?_
              obtain ej := Option.some.inj h
              refine r_top ej.symm ?_
              exact Jt29 _ _ d
            · replace h := it_n cc h
              refine lv_iload_n S.1 S.2.1 dX8_carried_183 rfl (lv_at hl 3 rfl) ?_
              refine lv_goto (tgt := 194) S.1 S.2.1 dX8_carried_184 (by decide) ?_
              obtain ej := Option.some.inj h
              refine r_top ej.symm ?_
              exact Jt29 _ _ d
        · replace h := it_n cc h
          refine lv_aload_n S.1 S.2.1 dX8_carried_133 rfl (lv_at hl 1 rfl) ?_
          refine gf_20_4 S d hk0 fl_RX8_22 dX8_carried_134 ?_
          refine lv_iload S.1 S.2.1 dX8_carried_137 (lv_at hl 0 rfl) ?_
          refine lv_iload_n S.1 S.2.1 dX8_carried_139 rfl (lv_at hl 4 rfl) ?_
          obtain ⟨t22, g23, h⟩ := bd_e h
          have Jt22 : ∀ (H : Heap) (locs : List Loc), Dy G s M L H locs → W p l e rm_X8_carried s m args below meth c H locs 0 0 (MQ below (Qi G z.1 z.2 L) args s 0 0 (gA G)) (F0 m 154 ls [.int t22, .int v21, .ref (ad G (k0 + 5))]) := by
            intro H locs d
            obtain ⟨g25, h⟩ := gd_e h
            obtain ⟨M26, eM26, h⟩ := lt_e h
            refine r_iast S d eM26 (ksdM S (ch_20_4 hk0).1) (fun _ => wc_21 (ch_20_4 hk0).1) (ch_20_4 hk0).2 g25 dX8_carried_154 (fun H locs d => ?_)
            refine lv_aload_n S.1 S.2.1 dX8_carried_155 rfl (lv_at hl 1 rfl) ?_
            refine gf_20_4 S d hk0 fl_RX8_22 dX8_carried_156 ?_
            refine lv_iload S.1 S.2.1 dX8_carried_159 (lv_at hl 0 rfl) ?_
            obtain ⟨g27, h⟩ := gd_e h
            refine r_iald S d (ksdM S (ch_20_4 hk0).1) (wc_21 (ch_20_4 hk0).1) (ch_20_4 hk0).2 g27 dX8_carried_161 ?_
            obtain rfl := Option.some.inj h
            exact r_iret S d hr rfl rfl dX8_carried_162
          have h := g23
          refine lv_if_eq (tgt := 147) S.1 S.2.1 dX8_carried_140 (by decide) (fun cc => ?_) (fun cc => ?_)
          · replace h := it_p cc h
            refine lv_aload_n S.1 S.2.1 dX8_carried_147 rfl (lv_at hl 1 rfl) ?_
            refine gf_20_4 S d hk0 fl_RX8_22 dX8_carried_148 ?_
            refine lv_iload S.1 S.2.1 dX8_carried_151 (lv_at hl 0 rfl) ?_
            obtain ⟨g24, h⟩ := gd_e h
            refine r_iald S d (ksdM S (ch_20_4 hk0).1) (wc_21 (ch_20_4 hk0).1) (ch_20_4 hk0).2 g24 dX8_carried_153 ?_
            obtain ej := Option.some.inj h
            refine r_top ej.symm ?_
            exact Jt22 _ _ d
          · replace h := it_n cc h
            refine lv_iload_n S.1 S.2.1 dX8_carried_143 rfl (lv_at hl 3 rfl) ?_
            refine lv_goto (tgt := 154) S.1 S.2.1 dX8_carried_144 (by decide) ?_
            obtain ej := Option.some.inj h
            refine r_top ej.symm ?_
            exact Jt22 _ _ d
      · replace h := it_n cc h
        refine lv_aload_n S.1 S.2.1 dX8_carried_94 rfl (lv_at hl 1 rfl) ?_
        refine gf_20_3 S d hk0 fl_RX8_19 dX8_carried_95 ?_
        refine lv_iload S.1 S.2.1 dX8_carried_98 (lv_at hl 0 rfl) ?_
        refine lv_iload_n S.1 S.2.1 dX8_carried_100 rfl (lv_at hl 4 rfl) ?_
        obtain ⟨t15, g16, h⟩ := bd_e h
        have Jt15 : ∀ (H : Heap) (locs : List Loc), Dy G s M L H locs → W p l e rm_X8_carried s m args below meth c H locs 0 0 (MQ below (Qi G z.1 z.2 L) args s 0 0 (gA G)) (F0 m 115 ls [.int t15, .int v14, .ref (ad G (k0 + 4))]) := by
          intro H locs d
          obtain ⟨g18, h⟩ := gd_e h
          obtain ⟨M19, eM19, h⟩ := lt_e h
          refine r_iast S d eM19 (ksdM S (ch_20_3 hk0).1) (fun _ => wc_21 (ch_20_3 hk0).1) (ch_20_3 hk0).2 g18 dX8_carried_115 (fun H locs d => ?_)
          refine lv_aload_n S.1 S.2.1 dX8_carried_116 rfl (lv_at hl 1 rfl) ?_
          refine gf_20_3 S d hk0 fl_RX8_19 dX8_carried_117 ?_
          refine lv_iload S.1 S.2.1 dX8_carried_120 (lv_at hl 0 rfl) ?_
          obtain ⟨g20, h⟩ := gd_e h
          refine r_iald S d (ksdM S (ch_20_3 hk0).1) (wc_21 (ch_20_3 hk0).1) (ch_20_3 hk0).2 g20 dX8_carried_122 ?_
          obtain rfl := Option.some.inj h
          exact r_iret S d hr rfl rfl dX8_carried_123
        have h := g16
        refine lv_if_eq (tgt := 108) S.1 S.2.1 dX8_carried_101 (by decide) (fun cc => ?_) (fun cc => ?_)
        · replace h := it_p cc h
          refine lv_aload_n S.1 S.2.1 dX8_carried_108 rfl (lv_at hl 1 rfl) ?_
          refine gf_20_3 S d hk0 fl_RX8_19 dX8_carried_109 ?_
          refine lv_iload S.1 S.2.1 dX8_carried_112 (lv_at hl 0 rfl) ?_
          obtain ⟨g17, h⟩ := gd_e h
          refine r_iald S d (ksdM S (ch_20_3 hk0).1) (wc_21 (ch_20_3 hk0).1) (ch_20_3 hk0).2 g17 dX8_carried_114 ?_
          obtain ej := Option.some.inj h
          refine r_top ej.symm ?_
          exact Jt15 _ _ d
        · replace h := it_n cc h
          refine lv_iload_n S.1 S.2.1 dX8_carried_104 rfl (lv_at hl 3 rfl) ?_
          refine lv_goto (tgt := 115) S.1 S.2.1 dX8_carried_105 (by decide) ?_
          obtain ej := Option.some.inj h
          refine r_top ej.symm ?_
          exact Jt15 _ _ d
    · replace h := it_n cc h
      refine lv_aload_n S.1 S.2.1 dX8_carried_51 rfl (lv_at hl 1 rfl) ?_
      refine gf_20_2 S d hk0 fl_RX8_16 dX8_carried_52 ?_
      refine lv_iload S.1 S.2.1 dX8_carried_55 (lv_at hl 0 rfl) ?_
      refine lv_iload_n S.1 S.2.1 dX8_carried_57 rfl (lv_at hl 4 rfl) ?_
      obtain ⟨t8, g9, h⟩ := bd_e h
      have Jt8 : ∀ (H : Heap) (locs : List Loc), Dy G s M L H locs → W p l e rm_X8_carried s m args below meth c H locs 0 0 (MQ below (Qi G z.1 z.2 L) args s 0 0 (gA G)) (F0 m 72 ls [.int t8, .int v7, .ref (ad G (k0 + 3))]) := by
        intro H locs d
        obtain ⟨g11, h⟩ := gd_e h
        obtain ⟨M12, eM12, h⟩ := lt_e h
        refine r_iast S d eM12 (ksdM S (ch_20_2 hk0).1) (fun _ => wc_21 (ch_20_2 hk0).1) (ch_20_2 hk0).2 g11 dX8_carried_72 (fun H locs d => ?_)
        refine lv_aload_n S.1 S.2.1 dX8_carried_73 rfl (lv_at hl 1 rfl) ?_
        refine gf_20_2 S d hk0 fl_RX8_16 dX8_carried_74 ?_
        refine lv_iload S.1 S.2.1 dX8_carried_77 (lv_at hl 0 rfl) ?_
        obtain ⟨g13, h⟩ := gd_e h
        refine r_iald S d (ksdM S (ch_20_2 hk0).1) (wc_21 (ch_20_2 hk0).1) (ch_20_2 hk0).2 g13 dX8_carried_79 ?_
        obtain rfl := Option.some.inj h
        exact r_iret S d hr rfl rfl dX8_carried_80
      have h := g9
      refine lv_if_eq (tgt := 65) S.1 S.2.1 dX8_carried_58 (by decide) (fun cc => ?_) (fun cc => ?_)
      · replace h := it_p cc h
        refine lv_aload_n S.1 S.2.1 dX8_carried_65 rfl (lv_at hl 1 rfl) ?_
        refine gf_20_2 S d hk0 fl_RX8_16 dX8_carried_66 ?_
        refine lv_iload S.1 S.2.1 dX8_carried_69 (lv_at hl 0 rfl) ?_
        obtain ⟨g10, h⟩ := gd_e h
        refine r_iald S d (ksdM S (ch_20_2 hk0).1) (wc_21 (ch_20_2 hk0).1) (ch_20_2 hk0).2 g10 dX8_carried_71 ?_
        obtain ej := Option.some.inj h
        refine r_top ej.symm ?_
        exact Jt8 _ _ d
      · replace h := it_n cc h
        refine lv_iload_n S.1 S.2.1 dX8_carried_61 rfl (lv_at hl 3 rfl) ?_
        refine lv_goto (tgt := 72) S.1 S.2.1 dX8_carried_62 (by decide) ?_
        obtain ej := Option.some.inj h
        refine r_top ej.symm ?_
        exact Jt8 _ _ d
  · replace h := it_n cc h
    refine lv_aload_n S.1 S.2.1 dX8_carried_10 rfl (lv_at hl 1 rfl) ?_
    refine gf_20_1 S d hk0 fl_RX8_13 dX8_carried_11 ?_
    refine lv_iload S.1 S.2.1 dX8_carried_14 (lv_at hl 0 rfl) ?_
    refine lv_iload_n S.1 S.2.1 dX8_carried_16 rfl (lv_at hl 4 rfl) ?_
    obtain ⟨t1, g2, h⟩ := bd_e h
    have Jt1 : ∀ (H : Heap) (locs : List Loc), Dy G s M L H locs → W p l e rm_X8_carried s m args below meth c H locs 0 0 (MQ below (Qi G z.1 z.2 L) args s 0 0 (gA G)) (F0 m 31 ls [.int t1, .int a1, .ref (ad G (k0 + 2))]) := by
      intro H locs d
      obtain ⟨g4, h⟩ := gd_e h
      obtain ⟨M5, eM5, h⟩ := lt_e h
      refine r_iast S d eM5 (ksdM S (ch_20_1 hk0).1) (fun _ => wc_21 (ch_20_1 hk0).1) (ch_20_1 hk0).2 g4 dX8_carried_31 (fun H locs d => ?_)
      refine lv_aload_n S.1 S.2.1 dX8_carried_32 rfl (lv_at hl 1 rfl) ?_
      refine gf_20_1 S d hk0 fl_RX8_13 dX8_carried_33 ?_
      refine lv_iload S.1 S.2.1 dX8_carried_36 (lv_at hl 0 rfl) ?_
      obtain ⟨g6, h⟩ := gd_e h
      refine r_iald S d (ksdM S (ch_20_1 hk0).1) (wc_21 (ch_20_1 hk0).1) (ch_20_1 hk0).2 g6 dX8_carried_38 ?_
      obtain rfl := Option.some.inj h
      exact r_iret S d hr rfl rfl dX8_carried_39
    have h := g2
    refine lv_if_eq (tgt := 24) S.1 S.2.1 dX8_carried_17 (by decide) (fun cc => ?_) (fun cc => ?_)
    · replace h := it_p cc h
      refine lv_aload_n S.1 S.2.1 dX8_carried_24 rfl (lv_at hl 1 rfl) ?_
      refine gf_20_1 S d hk0 fl_RX8_13 dX8_carried_25 ?_
      refine lv_iload S.1 S.2.1 dX8_carried_28 (lv_at hl 0 rfl) ?_
      obtain ⟨g3, h⟩ := gd_e h
      refine r_iald S d (ksdM S (ch_20_1 hk0).1) (wc_21 (ch_20_1 hk0).1) (ch_20_1 hk0).2 g3 dX8_carried_30 ?_
      obtain ej := Option.some.inj h
      refine r_top ej.symm ?_
      exact Jt1 _ _ d
    · replace h := it_n cc h
      refine lv_iload_n S.1 S.2.1 dX8_carried_20 rfl (lv_at hl 3 rfl) ?_
      refine lv_goto (tgt := 31) S.1 S.2.1 dX8_carried_21 (by decide) ?_
      obtain ej := Option.some.inj h
      refine r_top ej.symm ?_
      exact Jt1 _ _ d
theorem hyV_X8_image : yX8_image.cls = RX8 ∧ yX8_image.cls ≠ "java/lang/invoke/MethodHandle" ∧ yX8_image.cls ≠ "java/lang/invoke/VarHandle" ∧ (parseMethodDescriptor yX8_image.desc).map (fun d => d.parameters.length) = some 0 := by decide +kernel
abbrev rm_X8_image : Room := { frames := 1, cells := 0, slots := 0, locals := 24 }
def lp_X8_image_2 (fu : Nat) (b0 : Nat) (K : Mem → Option (Int32 × Mem)) : Nat → Int32 → Mem → Option (Int32 × Mem)
  | 0, _, _ => none
  | n + 1, x1, Mx =>
    (if (270 : Int32) ≤ x1 then (K Mx)
    else (f_X8_carried Mx b0 x1 (0 : Int32) (0 : Int32)).bind (fun u1 =>
      gd (inb x1 270) (
      lt (up u1.2 (b0 + 16) x1.toNatClampNeg u1.1) (fun M3 : Mem =>
      lt (x1 + 1) (fun v4 : Int32 =>
      (lp_X8_image_2 fu b0 K n v4 M3))))))
def f_X8_image (fu : Nat) (M : Mem) (k0 : Nat) : Option (Int32 × Mem) :=
  (lp_X8_image_2 fu k0 (fun (M5 : Mem) =>
    gd (inb (0 : Int32) 2) (
    lt (up M5 (k0 + 17) (0 : Int32).toNatClampNeg (M5 k0 7)) (fun M7 : Mem =>
    gd (inb (1 : Int32) 2) (
    lt (up M7 (k0 + 17) (1 : Int32).toNatClampNeg (M7 k0 8)) (fun M9 : Mem =>
    lt (up M9 k0 21 (1 : Int32)) (fun M10 : Mem =>
    some ((1 : Int32), M10))))))) fu (0 : Int32) M)
set_option maxHeartbeats 4000000 in
set_option maxRecDepth 100000 in
theorem lc_X8_image_2 {p : Program} {l : Launch} {e : Env} {s : State} {m : MethodId} {args : Array Value} {below : List Frame} {meth : Method} {c : Code} {G : Gx} {L : MemL} {fu : Nat} {b0 : Nat} {z : Int32 × Mem} (S : Sx G true p s m args meth c cX8_image 2 RX8) (hr : meth.sig.returnType = (Option.some Jvm.ClassFile.FieldType.int)) (hb0 : kd b0 = 20) (K : Mem → Option (Int32 × Mem)) (hK : ∀ (My : Mem) (H : Heap) (locs : List Loc), Dy G s My L H locs → ∀ ls : Array Slot, lv_has ls 2 [(0, .ref (ad G b0))] → K My = some z → W p l e rm_X8_image s m args below meth c H locs 0 0 (MQ below (Qi G z.1 z.2 L) args s 0 0 (gA G)) (F0 m 28 ls [])) :
    ∀ (n : Nat) (x1 : Int32) (Mx : Mem), lp_X8_image_2 fu b0 K n x1 Mx = some z → ∀ (H : Heap) (locs : List Loc), Dy G s Mx L H locs → ∀ ls : Array Slot, lv_has ls 2 [(0, .ref (ad G b0)), (1, .int x1)] → W p l e rm_X8_image s m args below meth c H locs 0 0 (MQ below (Qi G z.1 z.2 L) args s 0 0 (gA G)) (F0 m 2 ls []) := by
  intro n
  induction n with
  | zero =>
    intro x1 Mx h
    have h : (none : Option (Int32 × Mem)) = some z := h
    cases h
  | succ n ih =>
    intro x1 Mx h H locs d ls hl
    rw [lp_X8_image_2] at h
    refine lv_iload_n S.1 S.2.1 dX8_image_2 rfl (lv_at hl 1 rfl) ?_
    refine lv_sipush (v := 270) S.1 S.2.1 dX8_image_3 (by decide) ?_
    refine lv_icmp_ge (tgt := 28) S.1 S.2.1 dX8_image_6 (by decide) (fun cc => ?_) (fun cc => ?_)
    · replace h := it_p cc h
      exact hK _ _ _ d _ (lv_sub hl [0] rfl) h
    · replace h := it_n cc h
      refine lv_aload_n S.1 S.2.1 dX8_image_9 rfl (lv_at hl 0 rfl) ?_
      refine gf_20_22 S d hb0 fl_RX8_56 dX8_image_10 ?_
      refine lv_iload_n S.1 S.2.1 dX8_image_13 rfl (lv_at hl 1 rfl) ?_
      refine lv_aload_n S.1 S.2.1 dX8_image_14 rfl (lv_at hl 0 rfl) ?_
      refine lv_iload_n S.1 S.2.1 dX8_image_15 rfl (lv_at hl 1 rfl) ?_
      refine lv_iconst (v := 0) S.1 S.2.1 dX8_image_16 (by decide) ?_
      refine lv_iconst (v := 0) S.1 S.2.1 dX8_image_17 (by decide) ?_
      obtain ⟨u1, hu1, h⟩ := bd_e h
      refine r_ri d (r_cV (As := [.int x1, .int (0 : Int32), .int (0 : Int32)]) (rest := [.int x1, .ref (ad G (b0 + 16))]) S d (c_X8_carried l G Mx L b0 x1 (0 : Int32) (0 : Int32) hb0 hu1) (ksdM S hb0) (wc_20 hb0) rfl ml_RX8_231 im_yX8_carried se_yX8_carried in_RX8 co_yX8_carried hyV_X8_carried ⟨rfl, rfl⟩ ⟨by decide, by decide⟩ rfl hl rfl (Nat.le_of_ble_eq_true rfl) dX8_image_18 ⟨Nat.zero_le _, Nat.zero_le _⟩) (fun H locs d => ?_)
      obtain ⟨g2, h⟩ := gd_e h
      obtain ⟨M3, eM3, h⟩ := lt_e h
      refine r_iast S d eM3 (ksdM S (ch_20_22 hb0).1) (fun _ => wc_21 (ch_20_22 hb0).1) (ch_20_22 hb0).2 g2 dX8_image_21 (fun H locs d => ?_)
      obtain ⟨v4, ev4, h⟩ := lt_e h
      refine lv_iinc (v := v4) (lv' := [(1, .int v4), (0, .ref (ad G b0))]) S.1 S.2.1 dX8_image_22 hl (k := 1) rfl (by rw [ev4]; rfl) (by decide) rfl (fun ls hl => ?_)
      refine lv_goto (tgt := 2) S.1 S.2.1 dX8_image_25 (by decide) ?_
      exact ih _ _ h _ _ d _ (lv_sub hl [1, 0] rfl)
set_option maxHeartbeats 4000000 in
set_option maxRecDepth 100000 in
theorem c_X8_image (l : Launch) (G : Gx) (M : Mem) (L : MemL) (fu : Nat) (k0 : Nat) (hk0 : kd k0 = 20) {z : Int32 × Mem} (h : f_X8_image fu M k0 = some z) : Met l yX8_image (.code yX8_image cX8_image 2 (Option.some Jvm.ClassFile.FieldType.int) :: UW) rm_X8_image (va_Pc [.ref (ad G k0)] (PreG G true M L)) (Qi G z.1 z.2 L) 0 0 (gA G) := by
  refine r_in (by decide) (fun p e s m args below meth c S hr d ha ls hl => ?_) (Nat.le_of_ble_eq_true rfl)
  have S : Sx G true p s m args meth c cX8_image 2 RX8 := S
  have hl : lv_has ls 2 [(0, .ref (ad G k0))] := hl
  unfold f_X8_image at h
  refine lv_iconst (v := 0) S.1 S.2.1 dX8_image_0 (by decide) ?_
  refine lv_istore_n (lv' := [(1, .int (0 : Int32)), (0, .ref (ad G k0))]) S.1 S.2.1 dX8_image_1 rfl hl (by decide) rfl (fun ls hl => ?_)
  refine lc_X8_image_2 S hr hk0 _ (fun M5 H locs d ls hl h => ?_) _ _ _  h _ _ d _ (lv_sub hl [1, 0] rfl)
  refine lv_aload_n S.1 S.2.1 dX8_image_28 rfl (lv_at hl 0 rfl) ?_
  refine gf_20_23 S d hk0 fl_RX8_59 dX8_image_29 ?_
  refine lv_iconst (v := 0) S.1 S.2.1 dX8_image_32 (by decide) ?_
  refine lv_aload_n S.1 S.2.1 dX8_image_33 rfl (lv_at hl 0 rfl) ?_
  refine gf_20_7 S d hk0 fl_RX8_71 dX8_image_34 ?_
  obtain ⟨g6, h⟩ := gd_e h
  obtain ⟨M7, eM7, h⟩ := lt_e h
  refine r_iast S d eM7 (ksdM S (ch_20_23 hk0).1) (fun _ => wc_21 (ch_20_23 hk0).1) (ch_20_23 hk0).2 g6 dX8_image_37 (fun H locs d => ?_)
  refine lv_aload_n S.1 S.2.1 dX8_image_38 rfl (lv_at hl 0 rfl) ?_
  refine gf_20_23 S d hk0 fl_RX8_59 dX8_image_39 ?_
  refine lv_iconst (v := 1) S.1 S.2.1 dX8_image_42 (by decide) ?_
  refine lv_aload_n S.1 S.2.1 dX8_image_43 rfl (lv_at hl 0 rfl) ?_
  refine gf_20_8 S d hk0 fl_RX8_83 dX8_image_44 ?_
  obtain ⟨g8, h⟩ := gd_e h
  obtain ⟨M9, eM9, h⟩ := lt_e h
  refine r_iast S d eM9 (ksdM S (ch_20_23 hk0).1) (fun _ => wc_21 (ch_20_23 hk0).1) (ch_20_23 hk0).2 g8 dX8_image_47 (fun H locs d => ?_)
  refine lv_aload_n S.1 S.2.1 dX8_image_48 rfl (lv_at hl 0 rfl) ?_
  refine lv_iconst (v := 1) S.1 S.2.1 dX8_image_49 (by decide) ?_
  obtain ⟨M10, eM10, h⟩ := lt_e h
  refine pf_20_21 S d eM10 (by decide) hk0 fl_RX8_235 dX8_image_50 (fun H locs d => ?_)
  refine lv_iconst (v := 1) S.1 S.2.1 dX8_image_53 (by decide) ?_
  obtain rfl := Option.some.inj h
  exact r_iret S d hr rfl rfl dX8_image_54
theorem hyV_X8_restore : yX8_restore.cls = RX8 ∧ yX8_restore.cls ≠ "java/lang/invoke/MethodHandle" ∧ yX8_restore.cls ≠ "java/lang/invoke/VarHandle" ∧ (parseMethodDescriptor yX8_restore.desc).map (fun d => d.parameters.length) = some 0 := by decide +kernel
abbrev rm_X8_restore : Room := { frames := 1, cells := 0, slots := 0, locals := 24 }
def lp_X8_restore_12 (fu : Nat) (b0 : Nat) (K : Mem → Option (Int32 × Mem)) : Nat → Int32 → Mem → Option (Int32 × Mem)
  | 0, _, _ => none
  | n + 1, x1, Mx =>
    (if (270 : Int32) ≤ x1 then (K Mx)
    else gd (inb x1 270) (
      (f_X8_carried Mx b0 x1 (Mx (b0 + 16) x1.toNatClampNeg) (1 : Int32)).bind (fun u2 =>
      lt (x1 + 1) (fun v3 : Int32 =>
      (lp_X8_restore_12 fu b0 K n v3 u2.2)))))
def f_X8_restore (fu : Nat) (M : Mem) (k0 : Nat) : Option (Int32 × Mem) :=
  (if (M k0 21) = 0 then some ((-4 : Int32), M)
  else (lp_X8_restore_12 fu k0 (fun (M4 : Mem) =>
      gd (inb (0 : Int32) 2) (
      lt (up M4 k0 7 (M4 (k0 + 17) (0 : Int32).toNatClampNeg)) (fun M6 : Mem =>
      gd (inb (1 : Int32) 2) (
      lt (up M6 k0 8 (M6 (k0 + 17) (1 : Int32).toNatClampNeg)) (fun M8 : Mem =>
      some ((1 : Int32), M8)))))) fu (0 : Int32) M))
set_option maxHeartbeats 4000000 in
set_option maxRecDepth 100000 in
theorem lc_X8_restore_12 {p : Program} {l : Launch} {e : Env} {s : State} {m : MethodId} {args : Array Value} {below : List Frame} {meth : Method} {c : Code} {G : Gx} {L : MemL} {fu : Nat} {b0 : Nat} {z : Int32 × Mem} (S : Sx G true p s m args meth c cX8_restore 2 RX8) (hr : meth.sig.returnType = (Option.some Jvm.ClassFile.FieldType.int)) (hb0 : kd b0 = 20) (K : Mem → Option (Int32 × Mem)) (hK : ∀ (My : Mem) (H : Heap) (locs : List Loc), Dy G s My L H locs → ∀ ls : Array Slot, lv_has ls 2 [(0, .ref (ad G b0))] → K My = some z → W p l e rm_X8_restore s m args below meth c H locs 0 0 (MQ below (Qi G z.1 z.2 L) args s 0 0 (gA G)) (F0 m 38 ls [])) :
    ∀ (n : Nat) (x1 : Int32) (Mx : Mem), lp_X8_restore_12 fu b0 K n x1 Mx = some z → ∀ (H : Heap) (locs : List Loc), Dy G s Mx L H locs → ∀ ls : Array Slot, lv_has ls 2 [(0, .ref (ad G b0)), (1, .int x1)] → W p l e rm_X8_restore s m args below meth c H locs 0 0 (MQ below (Qi G z.1 z.2 L) args s 0 0 (gA G)) (F0 m 12 ls []) := by
  intro n
  induction n with
  | zero =>
    intro x1 Mx h
    have h : (none : Option (Int32 × Mem)) = some z := h
    cases h
  | succ n ih =>
    intro x1 Mx h H locs d ls hl
    rw [lp_X8_restore_12] at h
    refine lv_iload_n S.1 S.2.1 dX8_restore_12 rfl (lv_at hl 1 rfl) ?_
    refine lv_sipush (v := 270) S.1 S.2.1 dX8_restore_13 (by decide) ?_
    refine lv_icmp_ge (tgt := 38) S.1 S.2.1 dX8_restore_16 (by decide) (fun cc => ?_) (fun cc => ?_)
    · replace h := it_p cc h
      exact hK _ _ _ d _ (lv_sub hl [0] rfl) h
    · replace h := it_n cc h
      refine lv_aload_n S.1 S.2.1 dX8_restore_19 rfl (lv_at hl 0 rfl) ?_
      refine lv_iload_n S.1 S.2.1 dX8_restore_20 rfl (lv_at hl 1 rfl) ?_
      refine lv_aload_n S.1 S.2.1 dX8_restore_21 rfl (lv_at hl 0 rfl) ?_
      refine gf_20_22 S d hb0 fl_RX8_56 dX8_restore_22 ?_
      refine lv_iload_n S.1 S.2.1 dX8_restore_25 rfl (lv_at hl 1 rfl) ?_
      obtain ⟨g1, h⟩ := gd_e h
      refine r_iald S d (ksdM S (ch_20_22 hb0).1) (wc_21 (ch_20_22 hb0).1) (ch_20_22 hb0).2 g1 dX8_restore_26 ?_
      refine lv_iconst (v := 1) S.1 S.2.1 dX8_restore_27 (by decide) ?_
      obtain ⟨u2, hu2, h⟩ := bd_e h
      refine r_ri d (r_cV (As := [.int x1, .int (Mx (b0 + 16) x1.toNatClampNeg), .int (1 : Int32)]) (rest := []) S d (c_X8_carried l G Mx L b0 x1 (Mx (b0 + 16) x1.toNatClampNeg) (1 : Int32) hb0 hu2) (ksdM S hb0) (wc_20 hb0) rfl ml_RX8_231 im_yX8_carried se_yX8_carried in_RX8 co_yX8_carried hyV_X8_carried ⟨rfl, rfl⟩ ⟨by decide, by decide⟩ rfl hl rfl (Nat.le_of_ble_eq_true rfl) dX8_restore_28 ⟨Nat.zero_le _, Nat.zero_le _⟩) (fun H locs d => ?_)
      refine lv_pop S.1 S.2.1 dX8_restore_31 rfl ?_
      obtain ⟨v3, ev3, h⟩ := lt_e h
      refine lv_iinc (v := v3) (lv' := [(1, .int v3), (0, .ref (ad G b0))]) S.1 S.2.1 dX8_restore_32 hl (k := 1) rfl (by rw [ev3]; rfl) (by decide) rfl (fun ls hl => ?_)
      refine lv_goto (tgt := 12) S.1 S.2.1 dX8_restore_35 (by decide) ?_
      exact ih _ _ h _ _ d _ (lv_sub hl [1, 0] rfl)
set_option maxHeartbeats 4000000 in
set_option maxRecDepth 100000 in
theorem c_X8_restore (l : Launch) (G : Gx) (M : Mem) (L : MemL) (fu : Nat) (k0 : Nat) (hk0 : kd k0 = 20) {z : Int32 × Mem} (h : f_X8_restore fu M k0 = some z) : Met l yX8_restore (.code yX8_restore cX8_restore 2 (Option.some Jvm.ClassFile.FieldType.int) :: UW) rm_X8_restore (va_Pc [.ref (ad G k0)] (PreG G true M L)) (Qi G z.1 z.2 L) 0 0 (gA G) := by
  refine r_in (by decide) (fun p e s m args below meth c S hr d ha ls hl => ?_) (Nat.le_of_ble_eq_true rfl)
  have S : Sx G true p s m args meth c cX8_restore 2 RX8 := S
  have hl : lv_has ls 2 [(0, .ref (ad G k0))] := hl
  unfold f_X8_restore at h
  refine lv_aload_n S.1 S.2.1 dX8_restore_0 rfl (lv_at hl 0 rfl) ?_
  refine gf_20_21 S d hk0 fl_RX8_235 dX8_restore_1 ?_
  refine lv_if_ne (tgt := 10) S.1 S.2.1 dX8_restore_4 (by decide) (fun cc => ?_) (fun cc => ?_)
  · replace h := it_n cc h
    refine lv_iconst (v := 0) S.1 S.2.1 dX8_restore_10 (by decide) ?_
    refine lv_istore_n (lv' := [(1, .int (0 : Int32)), (0, .ref (ad G k0))]) S.1 S.2.1 dX8_restore_11 rfl hl (by decide) rfl (fun ls hl => ?_)
    refine lc_X8_restore_12 S hr hk0 _ (fun M4 H locs d ls hl h => ?_) _ _ _  h _ _ d _ (lv_sub hl [1, 0] rfl)
    refine lv_aload_n S.1 S.2.1 dX8_restore_38 rfl (lv_at hl 0 rfl) ?_
    refine lv_aload_n S.1 S.2.1 dX8_restore_39 rfl (lv_at hl 0 rfl) ?_
    refine gf_20_23 S d hk0 fl_RX8_59 dX8_restore_40 ?_
    refine lv_iconst (v := 0) S.1 S.2.1 dX8_restore_43 (by decide) ?_
    obtain ⟨g5, h⟩ := gd_e h
    refine r_iald S d (ksdM S (ch_20_23 hk0).1) (wc_21 (ch_20_23 hk0).1) (ch_20_23 hk0).2 g5 dX8_restore_44 ?_
    obtain ⟨M6, eM6, h⟩ := lt_e h
    refine pf_20_7 S d eM6 hk0 fl_RX8_71 dX8_restore_45 (fun H locs d => ?_)
    refine lv_aload_n S.1 S.2.1 dX8_restore_48 rfl (lv_at hl 0 rfl) ?_
    refine lv_aload_n S.1 S.2.1 dX8_restore_49 rfl (lv_at hl 0 rfl) ?_
    refine gf_20_23 S d hk0 fl_RX8_59 dX8_restore_50 ?_
    refine lv_iconst (v := 1) S.1 S.2.1 dX8_restore_53 (by decide) ?_
    obtain ⟨g7, h⟩ := gd_e h
    refine r_iald S d (ksdM S (ch_20_23 hk0).1) (wc_21 (ch_20_23 hk0).1) (ch_20_23 hk0).2 g7 dX8_restore_54 ?_
    obtain ⟨M8, eM8, h⟩ := lt_e h
    refine pf_20_8 S d eM8 hk0 fl_RX8_83 dX8_restore_55 (fun H locs d => ?_)
    refine lv_iconst (v := 1) S.1 S.2.1 dX8_restore_58 (by decide) ?_
    obtain rfl := Option.some.inj h
    exact r_iret S d hr rfl rfl dX8_restore_59
  · replace h := it_p cc h
    refine lv_bipush (v := (-4)) S.1 S.2.1 dX8_restore_7 (by decide) ?_
    obtain rfl := Option.some.inj h
    exact r_iret S d hr rfl rfl dX8_restore_9
theorem hyS_X8_isSheet : yX8_isSheet.cls ≠ "java/lang/invoke/MethodHandle" ∧ yX8_isSheet.cls ≠ "java/lang/invoke/VarHandle" ∧ (parseMethodDescriptor yX8_isSheet.desc).map (fun d => d.parameters.length) = some 2 := by decide +kernel
abbrev rm_X8_isSheet : Room := { frames := 1, cells := 0, slots := 0, locals := 25 }
def f_X8_isSheet (a0 : Int32) (a1 : Int32) : Option (Int32) :=
  (f_X8_in ((a0).toInt64) (0 : Int64) (3 : Int64)).bind (fun u1 =>
  (if u1 = 0 then some ((0 : Int32))
  else (f_X8_in ((a1).toInt64) (0 : Int64) (2 : Int64)).bind (fun u2 =>
    (if u2 = 0 then some ((0 : Int32))
    else some ((1 : Int32))))))
set_option maxHeartbeats 4000000 in
set_option maxRecDepth 100000 in
theorem c_X8_isSheet (l : Launch) (G : Gx) (M : Mem) (L : MemL) (a0 : Int32) (a1 : Int32) {z : Int32} (h : f_X8_isSheet a0 a1 = some z) : Met l yX8_isSheet (.code yX8_isSheet cX8_isSheet 2 (Option.some Jvm.ClassFile.FieldType.boolean) :: UW) rm_X8_isSheet (va_Pc [.int a0, .int a1] (PreG G true M L)) (Qi G z M L) 0 0 (gA G) := by
  refine r_in (by decide) (fun p e s m args below meth c S hr d ha ls hl => ?_) (Nat.le_of_ble_eq_true rfl)
  have S : Sx G true p s m args meth c cX8_isSheet 2 RX8 := S
  have hl : lv_has ls 2 [(0, .int a0), (1, .int a1)] := hl
  unfold f_X8_isSheet at h
  refine lv_iload_n S.1 S.2.1 dX8_isSheet_0 rfl (lv_at hl 0 rfl) ?_
  refine lv_i2l S.1 S.2.1 dX8_isSheet_1 rfl ?_
  refine lv_lconst (v := 0) S.1 S.2.1 dX8_isSheet_2 (by decide) ?_
  refine lv_ldc2 (v := 3) S.1 S.2.1 S.2.2.2.1 (S.uw cn_RX8_92) dX8_isSheet_3 ?_
  obtain ⟨u1, hu1, h⟩ := bd_e h
  refine r_ri d (r_cS (As := [.long ((a0).toInt64), .long (0 : Int64), .long (3 : Int64)]) (rest := []) S d (c_X8_in l G M L ((a0).toInt64) (0 : Int64) (3 : Int64) hu1) ml_RX8_75 sm_yX8_in in_RX8 co_yX8_in hyS_X8_in ⟨rfl, rfl⟩ ⟨by decide, by decide⟩ rfl hl rfl (Nat.le_of_ble_eq_true rfl) dX8_isSheet_6 ⟨Nat.zero_le _, Nat.zero_le _⟩) (fun H locs d => ?_)
  refine lv_if_eq (tgt := 28) S.1 S.2.1 dX8_isSheet_9 (by decide) (fun cc => ?_) (fun cc => ?_)
  · replace h := it_p cc h
    refine lv_iconst (v := 0) S.1 S.2.1 dX8_isSheet_28 (by decide) ?_
    obtain rfl := Option.some.inj h
    exact r_iret S d hr rfl rfl dX8_isSheet_29
  · replace h := it_n cc h
    refine lv_iload_n S.1 S.2.1 dX8_isSheet_12 rfl (lv_at hl 1 rfl) ?_
    refine lv_i2l S.1 S.2.1 dX8_isSheet_13 rfl ?_
    refine lv_lconst (v := 0) S.1 S.2.1 dX8_isSheet_14 (by decide) ?_
    refine lv_ldc2 (v := 2) S.1 S.2.1 S.2.2.2.1 (S.uw cn_RX8_239) dX8_isSheet_15 ?_
    obtain ⟨u2, hu2, h⟩ := bd_e h
    refine r_ri d (r_cS (As := [.long ((a1).toInt64), .long (0 : Int64), .long (2 : Int64)]) (rest := []) S d (c_X8_in l G M L ((a1).toInt64) (0 : Int64) (2 : Int64) hu2) ml_RX8_75 sm_yX8_in in_RX8 co_yX8_in hyS_X8_in ⟨rfl, rfl⟩ ⟨by decide, by decide⟩ rfl hl rfl (Nat.le_of_ble_eq_true rfl) dX8_isSheet_18 ⟨Nat.zero_le _, Nat.zero_le _⟩) (fun H locs d => ?_)
    refine lv_if_eq (tgt := 28) S.1 S.2.1 dX8_isSheet_21 (by decide) (fun cc => ?_) (fun cc => ?_)
    · replace h := it_p cc h
      refine lv_iconst (v := 0) S.1 S.2.1 dX8_isSheet_28 (by decide) ?_
      obtain rfl := Option.some.inj h
      exact r_iret S d hr rfl rfl dX8_isSheet_29
    · replace h := it_n cc h
      refine lv_iconst (v := 1) S.1 S.2.1 dX8_isSheet_24 (by decide) ?_
      refine lv_goto (tgt := 29) S.1 S.2.1 dX8_isSheet_25 (by decide) ?_
      obtain rfl := Option.some.inj h
      exact r_iret S d hr rfl rfl dX8_isSheet_29
theorem hyV_X8_sheet : yX8_sheet.cls = RX8 ∧ yX8_sheet.cls ≠ "java/lang/invoke/MethodHandle" ∧ yX8_sheet.cls ≠ "java/lang/invoke/VarHandle" ∧ (parseMethodDescriptor yX8_sheet.desc).map (fun d => d.parameters.length) = some 3 := by decide +kernel
abbrev rm_X8_sheet : Room := { frames := 2, cells := 0, slots := 0, locals := 46 }
def lp_X8_sheet_40 (fu : Nat) (b0 : Nat) (b1 : Int32) (b3 : Int32) (K : Mem → Option (Int32 × Mem)) : Nat → Int32 → Mem → Option (Int32 × Mem)
  | 0, _, _ => none
  | n + 1, x4, Mx =>
    (if (24 : Int32) ≤ x4 then (K Mx)
    else gd (inb (((24 : Int32) * b1) + x4) 96) (
      lt (up Mx (b0 + 20) (((24 : Int32) * b1) + x4).toNatClampNeg (0 : Int32)) (fun M7 : Mem =>
      lt (x4 + 1) (fun v8 : Int32 =>
      (lp_X8_sheet_40 fu b0 b1 b3 K n v8 M7)))))
def f_X8_sheet (fu : Nat) (M : Mem) (k0 : Nat) (a1 : Int32) (a2 : Int32) (a3 : Int32) : Option (Int32 × Mem) :=
  (f_X8_isSheet a1 a2).bind (fun u1 =>
  (if u1 = 0 then some ((-1 : Int32), M)
  else (if a3 ≤ (24 : Int32) then (if 0 ≤ a3 then gd (inb a1 4) (
        lt (up M (k0 + 18) a1.toNatClampNeg a2) (fun M3 : Mem =>
        gd (inb a1 4) (
        lt (up M3 (k0 + 19) a1.toNatClampNeg a3) (fun M5 : Mem =>
        (lp_X8_sheet_40 fu k0 a1 a3 (fun (M9 : Mem) =>
          some (a3, M9)) fu (0 : Int32) M5)))))
      else some ((-14 : Int32), M))
    else some ((-1 : Int32), M))))
set_option maxHeartbeats 4000000 in
set_option maxRecDepth 100000 in
theorem lc_X8_sheet_40 {p : Program} {l : Launch} {e : Env} {s : State} {m : MethodId} {args : Array Value} {below : List Frame} {meth : Method} {c : Code} {G : Gx} {L : MemL} {fu : Nat} {b0 : Nat} {b1 : Int32} {b3 : Int32} {z : Int32 × Mem} (S : Sx G true p s m args meth c cX8_sheet 5 RX8) (hr : meth.sig.returnType = (Option.some Jvm.ClassFile.FieldType.int)) (hb0 : kd b0 = 20) (K : Mem → Option (Int32 × Mem)) (hK : ∀ (My : Mem) (H : Heap) (locs : List Loc), Dy G s My L H locs → ∀ ls : Array Slot, lv_has ls 5 [(3, .int b3)] → K My = some z → W p l e rm_X8_sheet s m args below meth c H locs 0 0 (MQ below (Qi G z.1 z.2 L) args s 0 0 (gA G)) (F0 m 66 ls [])) :
    ∀ (n : Nat) (x4 : Int32) (Mx : Mem), lp_X8_sheet_40 fu b0 b1 b3 K n x4 Mx = some z → ∀ (H : Heap) (locs : List Loc), Dy G s Mx L H locs → ∀ ls : Array Slot, lv_has ls 5 [(0, .ref (ad G b0)), (1, .int b1), (3, .int b3), (4, .int x4)] → W p l e rm_X8_sheet s m args below meth c H locs 0 0 (MQ below (Qi G z.1 z.2 L) args s 0 0 (gA G)) (F0 m 40 ls []) := by
  intro n
  induction n with
  | zero =>
    intro x4 Mx h
    have h : (none : Option (Int32 × Mem)) = some z := h
    cases h
  | succ n ih =>
    intro x4 Mx h H locs d ls hl
    rw [lp_X8_sheet_40] at h
    refine lv_iload S.1 S.2.1 dX8_sheet_40 (lv_at hl 3 rfl) ?_
    refine lv_bipush (v := 24) S.1 S.2.1 dX8_sheet_42 (by decide) ?_
    refine lv_icmp_ge (tgt := 66) S.1 S.2.1 dX8_sheet_44 (by decide) (fun cc => ?_) (fun cc => ?_)
    · replace h := it_p cc h
      exact hK _ _ _ d _ (lv_sub hl [2] rfl) h
    · replace h := it_n cc h
      refine lv_aload_n S.1 S.2.1 dX8_sheet_47 rfl (lv_at hl 0 rfl) ?_
      refine gf_20_26 S d hb0 fl_RX8_68 dX8_sheet_48 ?_
      refine lv_bipush (v := 24) S.1 S.2.1 dX8_sheet_51 (by decide) ?_
      refine lv_iload_n S.1 S.2.1 dX8_sheet_53 rfl (lv_at hl 1 rfl) ?_
      refine lv_imul S.1 S.2.1 dX8_sheet_54 ?_
      refine lv_iload S.1 S.2.1 dX8_sheet_55 (lv_at hl 3 rfl) ?_
      refine lv_iadd S.1 S.2.1 dX8_sheet_57 ?_
      refine lv_iconst (v := 0) S.1 S.2.1 dX8_sheet_58 (by decide) ?_
      obtain ⟨g6, h⟩ := gd_e h
      obtain ⟨M7, eM7, h⟩ := lt_e h
      refine r_iast S d eM7 (ksdM S (ch_20_26 hb0).1) (fun _ => wc_21 (ch_20_26 hb0).1) (ch_20_26 hb0).2 g6 dX8_sheet_59 (fun H locs d => ?_)
      obtain ⟨v8, ev8, h⟩ := lt_e h
      refine lv_iinc (v := v8) (lv' := [(4, .int v8), (0, .ref (ad G b0)), (1, .int b1), (3, .int b3)]) S.1 S.2.1 dX8_sheet_60 hl (k := 3) rfl (by rw [ev8]; rfl) (by decide) rfl (fun ls hl => ?_)
      refine lv_goto (tgt := 40) S.1 S.2.1 dX8_sheet_63 (by decide) ?_
      exact ih _ _ h _ _ d _ (lv_sub hl [1, 2, 3, 0] rfl)
set_option maxHeartbeats 4000000 in
set_option maxRecDepth 100000 in
theorem c_X8_sheet (l : Launch) (G : Gx) (M : Mem) (L : MemL) (fu : Nat) (k0 : Nat) (a1 : Int32) (a2 : Int32) (a3 : Int32) (hk0 : kd k0 = 20) {z : Int32 × Mem} (h : f_X8_sheet fu M k0 a1 a2 a3 = some z) : Met l yX8_sheet (.code yX8_sheet cX8_sheet 5 (Option.some Jvm.ClassFile.FieldType.int) :: UW) rm_X8_sheet (va_Pc [.ref (ad G k0), .int a1, .int a2, .int a3] (PreG G true M L)) (Qi G z.1 z.2 L) 0 0 (gA G) := by
  refine r_in (by decide) (fun p e s m args below meth c S hr d ha ls hl => ?_) (Nat.le_of_ble_eq_true rfl)
  have S : Sx G true p s m args meth c cX8_sheet 5 RX8 := S
  have hl : lv_has ls 5 [(0, .ref (ad G k0)), (1, .int a1), (2, .int a2), (3, .int a3)] := hl
  unfold f_X8_sheet at h
  refine lv_iload_n S.1 S.2.1 dX8_sheet_0 rfl (lv_at hl 1 rfl) ?_
  refine lv_iload_n S.1 S.2.1 dX8_sheet_1 rfl (lv_at hl 2 rfl) ?_
  obtain ⟨u1, hu1, h⟩ := bd_e h
  refine r_ri d (r_cS (As := [.int a1, .int a2]) (rest := []) S d (c_X8_isSheet l G M L a1 a2 hu1) ml_RX8_241 sm_yX8_isSheet in_RX8 co_yX8_isSheet hyS_X8_isSheet ⟨rfl, rfl⟩ ⟨by decide, by decide⟩ rfl hl rfl (Nat.le_of_ble_eq_true rfl) dX8_sheet_2 ⟨Nat.zero_le _, Nat.zero_le _⟩) (fun H locs d => ?_)
  refine lv_if_eq (tgt := 14) S.1 S.2.1 dX8_sheet_5 (by decide) (fun cc => ?_) (fun cc => ?_)
  · replace h := it_p cc h
    refine lv_iconst (v := (-1)) S.1 S.2.1 dX8_sheet_14 (by decide) ?_
    obtain rfl := Option.some.inj h
    exact r_iret S d hr rfl rfl dX8_sheet_15
  · replace h := it_n cc h
    refine lv_iload_n S.1 S.2.1 dX8_sheet_8 rfl (lv_at hl 3 rfl) ?_
    refine lv_bipush (v := 24) S.1 S.2.1 dX8_sheet_9 (by decide) ?_
    refine lv_icmp_le (tgt := 16) S.1 S.2.1 dX8_sheet_11 (by decide) (fun cc => ?_) (fun cc => ?_)
    · replace h := it_p cc h
      refine lv_iload_n S.1 S.2.1 dX8_sheet_16 rfl (lv_at hl 3 rfl) ?_
      refine lv_if_ge (tgt := 23) S.1 S.2.1 dX8_sheet_17 (by decide) (fun cc => ?_) (fun cc => ?_)
      · replace h := it_p cc h
        refine lv_aload_n S.1 S.2.1 dX8_sheet_23 rfl (lv_at hl 0 rfl) ?_
        refine gf_20_24 S d hk0 fl_RX8_62 dX8_sheet_24 ?_
        refine lv_iload_n S.1 S.2.1 dX8_sheet_27 rfl (lv_at hl 1 rfl) ?_
        refine lv_iload_n S.1 S.2.1 dX8_sheet_28 rfl (lv_at hl 2 rfl) ?_
        obtain ⟨g2, h⟩ := gd_e h
        obtain ⟨M3, eM3, h⟩ := lt_e h
        refine r_iast S d eM3 (ksdM S (ch_20_24 hk0).1) (fun _ => wc_21 (ch_20_24 hk0).1) (ch_20_24 hk0).2 g2 dX8_sheet_29 (fun H locs d => ?_)
        refine lv_aload_n S.1 S.2.1 dX8_sheet_30 rfl (lv_at hl 0 rfl) ?_
        refine gf_20_25 S d hk0 fl_RX8_65 dX8_sheet_31 ?_
        refine lv_iload_n S.1 S.2.1 dX8_sheet_34 rfl (lv_at hl 1 rfl) ?_
        refine lv_iload_n S.1 S.2.1 dX8_sheet_35 rfl (lv_at hl 3 rfl) ?_
        obtain ⟨g4, h⟩ := gd_e h
        obtain ⟨M5, eM5, h⟩ := lt_e h
        refine r_iast S d eM5 (ksdM S (ch_20_25 hk0).1) (fun _ => wc_21 (ch_20_25 hk0).1) (ch_20_25 hk0).2 g4 dX8_sheet_36 (fun H locs d => ?_)
        refine lv_iconst (v := 0) S.1 S.2.1 dX8_sheet_37 (by decide) ?_
        refine lv_istore (lv' := [(4, .int (0 : Int32)), (0, .ref (ad G k0)), (1, .int a1), (2, .int a2), (3, .int a3)]) S.1 S.2.1 dX8_sheet_38 hl (by decide) rfl (fun ls hl => ?_)
        refine lc_X8_sheet_40 S hr hk0 _ (fun M9 H locs d ls hl h => ?_) _ _ _  h _ _ d _ (lv_sub hl [1, 2, 4, 0] rfl)
        refine lv_iload_n S.1 S.2.1 dX8_sheet_66 rfl (lv_at hl 0 rfl) ?_
        obtain rfl := Option.some.inj h
        exact r_iret S d hr rfl rfl dX8_sheet_67
      · replace h := it_n cc h
        refine lv_bipush (v := (-14)) S.1 S.2.1 dX8_sheet_20 (by decide) ?_
        obtain rfl := Option.some.inj h
        exact r_iret S d hr rfl rfl dX8_sheet_22
    · replace h := it_n cc h
      refine lv_iconst (v := (-1)) S.1 S.2.1 dX8_sheet_14 (by decide) ?_
      obtain rfl := Option.some.inj h
      exact r_iret S d hr rfl rfl dX8_sheet_15
theorem hyV_X8_drop : yX8_drop.cls = RX8 ∧ yX8_drop.cls ≠ "java/lang/invoke/MethodHandle" ∧ yX8_drop.cls ≠ "java/lang/invoke/VarHandle" ∧ (parseMethodDescriptor yX8_drop.desc).map (fun d => d.parameters.length) = some 1 := by decide +kernel
abbrev rm_X8_drop : Room := { frames := 1, cells := 0, slots := 0, locals := 25 }
def f_X8_drop (M : Mem) (k0 : Nat) (a1 : Int32) : Option (Int32 × Mem) :=
  (f_X8_in ((a1).toInt64) (0 : Int64) (3 : Int64)).bind (fun u1 =>
  (if u1 = 0 then some ((-1 : Int32), M)
  else gd (inb a1 4) (
    (if 0 ≤ (M (k0 + 18) a1.toNatClampNeg) then gd (inb a1 4) (
      lt (up M (k0 + 18) a1.toNatClampNeg (-1 : Int32)) (fun M4 : Mem =>
      gd (inb a1 4) (
      some ((M4 (k0 + 19) a1.toNatClampNeg), M4))))
    else some ((-11 : Int32), M)))))
set_option maxHeartbeats 4000000 in
set_option maxRecDepth 100000 in
theorem c_X8_drop (l : Launch) (G : Gx) (M : Mem) (L : MemL) (k0 : Nat) (a1 : Int32) (hk0 : kd k0 = 20) {z : Int32 × Mem} (h : f_X8_drop M k0 a1 = some z) : Met l yX8_drop (.code yX8_drop cX8_drop 2 (Option.some Jvm.ClassFile.FieldType.int) :: UW) rm_X8_drop (va_Pc [.ref (ad G k0), .int a1] (PreG G true M L)) (Qi G z.1 z.2 L) 0 0 (gA G) := by
  refine r_in (by decide) (fun p e s m args below meth c S hr d ha ls hl => ?_) (Nat.le_of_ble_eq_true rfl)
  have S : Sx G true p s m args meth c cX8_drop 2 RX8 := S
  have hl : lv_has ls 2 [(0, .ref (ad G k0)), (1, .int a1)] := hl
  unfold f_X8_drop at h
  refine lv_iload_n S.1 S.2.1 dX8_drop_0 rfl (lv_at hl 1 rfl) ?_
  refine lv_i2l S.1 S.2.1 dX8_drop_1 rfl ?_
  refine lv_lconst (v := 0) S.1 S.2.1 dX8_drop_2 (by decide) ?_
  refine lv_ldc2 (v := 3) S.1 S.2.1 S.2.2.2.1 (S.uw cn_RX8_92) dX8_drop_3 ?_
  obtain ⟨u1, hu1, h⟩ := bd_e h
  refine r_ri d (r_cS (As := [.long ((a1).toInt64), .long (0 : Int64), .long (3 : Int64)]) (rest := []) S d (c_X8_in l G M L ((a1).toInt64) (0 : Int64) (3 : Int64) hu1) ml_RX8_75 sm_yX8_in in_RX8 co_yX8_in hyS_X8_in ⟨rfl, rfl⟩ ⟨by decide, by decide⟩ rfl hl rfl (Nat.le_of_ble_eq_true rfl) dX8_drop_6 ⟨Nat.zero_le _, Nat.zero_le _⟩) (fun H locs d => ?_)
  refine lv_if_ne (tgt := 14) S.1 S.2.1 dX8_drop_9 (by decide) (fun cc => ?_) (fun cc => ?_)
  · replace h := it_n cc h
    refine lv_aload_n S.1 S.2.1 dX8_drop_14 rfl (lv_at hl 0 rfl) ?_
    refine gf_20_24 S d hk0 fl_RX8_62 dX8_drop_15 ?_
    refine lv_iload_n S.1 S.2.1 dX8_drop_18 rfl (lv_at hl 1 rfl) ?_
    obtain ⟨g2, h⟩ := gd_e h
    refine r_iald S d (ksdM S (ch_20_24 hk0).1) (wc_21 (ch_20_24 hk0).1) (ch_20_24 hk0).2 g2 dX8_drop_19 ?_
    refine lv_if_ge (tgt := 26) S.1 S.2.1 dX8_drop_20 (by decide) (fun cc => ?_) (fun cc => ?_)
    · replace h := it_p cc h
      refine lv_aload_n S.1 S.2.1 dX8_drop_26 rfl (lv_at hl 0 rfl) ?_
      refine gf_20_24 S d hk0 fl_RX8_62 dX8_drop_27 ?_
      refine lv_iload_n S.1 S.2.1 dX8_drop_30 rfl (lv_at hl 1 rfl) ?_
      refine lv_iconst (v := (-1)) S.1 S.2.1 dX8_drop_31 (by decide) ?_
      obtain ⟨g3, h⟩ := gd_e h
      obtain ⟨M4, eM4, h⟩ := lt_e h
      refine r_iast S d eM4 (ksdM S (ch_20_24 hk0).1) (fun _ => wc_21 (ch_20_24 hk0).1) (ch_20_24 hk0).2 g3 dX8_drop_32 (fun H locs d => ?_)
      refine lv_aload_n S.1 S.2.1 dX8_drop_33 rfl (lv_at hl 0 rfl) ?_
      refine gf_20_25 S d hk0 fl_RX8_65 dX8_drop_34 ?_
      refine lv_iload_n S.1 S.2.1 dX8_drop_37 rfl (lv_at hl 1 rfl) ?_
      obtain ⟨g5, h⟩ := gd_e h
      refine r_iald S d (ksdM S (ch_20_25 hk0).1) (wc_21 (ch_20_25 hk0).1) (ch_20_25 hk0).2 g5 dX8_drop_38 ?_
      obtain rfl := Option.some.inj h
      exact r_iret S d hr rfl rfl dX8_drop_39
    · replace h := it_n cc h
      refine lv_bipush (v := (-11)) S.1 S.2.1 dX8_drop_23 (by decide) ?_
      obtain rfl := Option.some.inj h
      exact r_iret S d hr rfl rfl dX8_drop_25
  · replace h := it_p cc h
    refine lv_iconst (v := (-1)) S.1 S.2.1 dX8_drop_12 (by decide) ?_
    obtain rfl := Option.some.inj h
    exact r_iret S d hr rfl rfl dX8_drop_13
theorem hyV_X8_lacksRow : yX8_lacksRow.cls = RX8 ∧ yX8_lacksRow.cls ≠ "java/lang/invoke/MethodHandle" ∧ yX8_lacksRow.cls ≠ "java/lang/invoke/VarHandle" ∧ (parseMethodDescriptor yX8_lacksRow.desc).map (fun d => d.parameters.length) = some 4 := by decide +kernel
abbrev rm_X8_lacksRow : Room := { frames := 1, cells := 0, slots := 0, locals := 25 }
def f_X8_lacksRow (M : Mem) (k0 : Nat) (a1 : Int32) (a2 : Int32) (a3 : Int32) (a4 : Int32) : Option (Int32) :=
  gd (inb a1 4) (
  (if (M (k0 + 18) a1.toNatClampNeg) = a2 then gd (inb a1 4) (
    (f_X8_in ((a3).toInt64) (0 : Int64) ((((M (k0 + 19) a1.toNatClampNeg) - a4)).toInt64)).bind (fun u4 =>
    (if u4 = 0 then some ((-13 : Int32))
    else some ((0 : Int32)))))
  else gd (inb a1 4) (
    (if 0 ≤ (M (k0 + 18) a1.toNatClampNeg) then some ((-12 : Int32))
    else some ((-11 : Int32))))))
set_option maxHeartbeats 4000000 in
set_option maxRecDepth 100000 in
theorem c_X8_lacksRow (l : Launch) (G : Gx) (M : Mem) (L : MemL) (k0 : Nat) (a1 : Int32) (a2 : Int32) (a3 : Int32) (a4 : Int32) (hk0 : kd k0 = 20) {z : Int32} (h : f_X8_lacksRow M k0 a1 a2 a3 a4 = some z) : Met l yX8_lacksRow (.code yX8_lacksRow cX8_lacksRow 5 (Option.some Jvm.ClassFile.FieldType.int) :: UW) rm_X8_lacksRow (va_Pc [.ref (ad G k0), .int a1, .int a2, .int a3, .int a4] (PreG G true M L)) (Qi G z M L) 0 0 (gA G) := by
  refine r_in (by decide) (fun p e s m args below meth c S hr d ha ls hl => ?_) (Nat.le_of_ble_eq_true rfl)
  have S : Sx G true p s m args meth c cX8_lacksRow 5 RX8 := S
  have hl : lv_has ls 5 [(0, .ref (ad G k0)), (1, .int a1), (2, .int a2), (3, .int a3), (4, .int a4)] := hl
  unfold f_X8_lacksRow at h
  refine lv_aload_n S.1 S.2.1 dX8_lacksRow_0 rfl (lv_at hl 0 rfl) ?_
  refine gf_20_24 S d hk0 fl_RX8_62 dX8_lacksRow_1 ?_
  refine lv_iload_n S.1 S.2.1 dX8_lacksRow_4 rfl (lv_at hl 1 rfl) ?_
  obtain ⟨g1, h⟩ := gd_e h
  refine r_iald S d (ksdM S (ch_20_24 hk0).1) (wc_21 (ch_20_24 hk0).1) (ch_20_24 hk0).2 g1 dX8_lacksRow_5 ?_
  refine lv_iload_n S.1 S.2.1 dX8_lacksRow_6 rfl (lv_at hl 2 rfl) ?_
  refine lv_icmp_eq (tgt := 27) S.1 S.2.1 dX8_lacksRow_7 (by decide) (fun cc => ?_) (fun cc => ?_)
  · replace h := it_p cc h
    refine lv_iload_n S.1 S.2.1 dX8_lacksRow_27 rfl (lv_at hl 3 rfl) ?_
    refine lv_i2l S.1 S.2.1 dX8_lacksRow_28 rfl ?_
    refine lv_lconst (v := 0) S.1 S.2.1 dX8_lacksRow_29 (by decide) ?_
    refine lv_aload_n S.1 S.2.1 dX8_lacksRow_30 rfl (lv_at hl 0 rfl) ?_
    refine gf_20_25 S d hk0 fl_RX8_65 dX8_lacksRow_31 ?_
    refine lv_iload_n S.1 S.2.1 dX8_lacksRow_34 rfl (lv_at hl 1 rfl) ?_
    obtain ⟨g3, h⟩ := gd_e h
    refine r_iald S d (ksdM S (ch_20_25 hk0).1) (wc_21 (ch_20_25 hk0).1) (ch_20_25 hk0).2 g3 dX8_lacksRow_35 ?_
    refine lv_iload S.1 S.2.1 dX8_lacksRow_36 (lv_at hl 4 rfl) ?_
    refine lv_isub S.1 S.2.1 dX8_lacksRow_38 ?_
    refine lv_i2l S.1 S.2.1 dX8_lacksRow_39 rfl ?_
    obtain ⟨u4, hu4, h⟩ := bd_e h
    refine r_ri d (r_cS (As := [.long ((a3).toInt64), .long (0 : Int64), .long ((((M (k0 + 19) a1.toNatClampNeg) - a4)).toInt64)]) (rest := []) S d (c_X8_in l G M L ((a3).toInt64) (0 : Int64) ((((M (k0 + 19) a1.toNatClampNeg) - a4)).toInt64) hu4) ml_RX8_75 sm_yX8_in in_RX8 co_yX8_in hyS_X8_in ⟨rfl, rfl⟩ ⟨by decide, by decide⟩ rfl hl rfl (Nat.le_of_ble_eq_true rfl) dX8_lacksRow_40 ⟨Nat.zero_le _, Nat.zero_le _⟩) (fun H locs d => ?_)
    refine lv_if_eq (tgt := 50) S.1 S.2.1 dX8_lacksRow_43 (by decide) (fun cc => ?_) (fun cc => ?_)
    · replace h := it_p cc h
      refine lv_bipush (v := (-13)) S.1 S.2.1 dX8_lacksRow_50 (by decide) ?_
      obtain rfl := Option.some.inj h
      exact r_iret S d hr rfl rfl dX8_lacksRow_52
    · replace h := it_n cc h
      refine lv_iconst (v := 0) S.1 S.2.1 dX8_lacksRow_46 (by decide) ?_
      refine lv_goto (tgt := 52) S.1 S.2.1 dX8_lacksRow_47 (by decide) ?_
      obtain rfl := Option.some.inj h
      exact r_iret S d hr rfl rfl dX8_lacksRow_52
  · replace h := it_n cc h
    refine lv_aload_n S.1 S.2.1 dX8_lacksRow_10 rfl (lv_at hl 0 rfl) ?_
    refine gf_20_24 S d hk0 fl_RX8_62 dX8_lacksRow_11 ?_
    refine lv_iload_n S.1 S.2.1 dX8_lacksRow_14 rfl (lv_at hl 1 rfl) ?_
    obtain ⟨g2, h⟩ := gd_e h
    refine r_iald S d (ksdM S (ch_20_24 hk0).1) (wc_21 (ch_20_24 hk0).1) (ch_20_24 hk0).2 g2 dX8_lacksRow_15 ?_
    refine lv_if_ge (tgt := 24) S.1 S.2.1 dX8_lacksRow_16 (by decide) (fun cc => ?_) (fun cc => ?_)
    · replace h := it_p cc h
      refine lv_bipush (v := (-12)) S.1 S.2.1 dX8_lacksRow_24 (by decide) ?_
      obtain rfl := Option.some.inj h
      exact r_iret S d hr rfl rfl dX8_lacksRow_26
    · replace h := it_n cc h
      refine lv_bipush (v := (-11)) S.1 S.2.1 dX8_lacksRow_19 (by decide) ?_
      refine lv_goto (tgt := 26) S.1 S.2.1 dX8_lacksRow_21 (by decide) ?_
      obtain rfl := Option.some.inj h
      exact r_iret S d hr rfl rfl dX8_lacksRow_26
theorem hyV_X8_item : yX8_item.cls = RX8 ∧ yX8_item.cls ≠ "java/lang/invoke/MethodHandle" ∧ yX8_item.cls ≠ "java/lang/invoke/VarHandle" ∧ (parseMethodDescriptor yX8_item.desc).map (fun d => d.parameters.length) = some 4 := by decide +kernel
abbrev rm_X8_item : Room := { frames := 2, cells := 0, slots := 0, locals := 49 }
def f_X8_item (M : Mem) (k0 : Nat) (a1 : Int32) (a2 : Int32) (a3 : Int32) (a4 : Int32) : Option (Int32 × Mem) :=
  (f_X8_isSheet a1 a2).bind (fun u1 =>
  (if u1 = 0 then some ((-1 : Int32), M)
  else (f_X8_lacksRow M k0 a1 a2 a3 (1 : Int32)).bind (fun u2 =>
    (if 0 ≤ u2 then (if a2 = 0 then some ((a4 <<< ((24 : Int32) &&& 31)) >>> ((24 : Int32) &&& 31))
      else (if a2 = (1 : Int32) then some ((a4 <<< ((16 : Int32) &&& 31)) >>> ((16 : Int32) &&& 31))
        else some a4)).bind (fun t3 : Int32 =>
      gd (inb (((24 : Int32) * a1) + a3) 96) (
      lt (up M (k0 + 20) (((24 : Int32) * a1) + a3).toNatClampNeg t3) (fun M6 : Mem =>
      some ((1 : Int32), M6))))
    else some (u2, M)))))
set_option maxHeartbeats 4000000 in
set_option maxRecDepth 100000 in
theorem c_X8_item (l : Launch) (G : Gx) (M : Mem) (L : MemL) (k0 : Nat) (a1 : Int32) (a2 : Int32) (a3 : Int32) (a4 : Int32) (hk0 : kd k0 = 20) {z : Int32 × Mem} (h : f_X8_item M k0 a1 a2 a3 a4 = some z) : Met l yX8_item (.code yX8_item cX8_item 6 (Option.some Jvm.ClassFile.FieldType.int) :: UW) rm_X8_item (va_Pc [.ref (ad G k0), .int a1, .int a2, .int a3, .int a4] (PreG G true M L)) (Qi G z.1 z.2 L) 0 0 (gA G) := by
  refine r_in (by decide) (fun p e s m args below meth c S hr d ha ls hl => ?_) (Nat.le_of_ble_eq_true rfl)
  have S : Sx G true p s m args meth c cX8_item 6 RX8 := S
  have hl : lv_has ls 6 [(0, .ref (ad G k0)), (1, .int a1), (2, .int a2), (3, .int a3), (4, .int a4)] := hl
  unfold f_X8_item at h
  refine lv_iload_n S.1 S.2.1 dX8_item_0 rfl (lv_at hl 1 rfl) ?_
  refine lv_iload_n S.1 S.2.1 dX8_item_1 rfl (lv_at hl 2 rfl) ?_
  obtain ⟨u1, hu1, h⟩ := bd_e h
  refine r_ri d (r_cS (As := [.int a1, .int a2]) (rest := []) S d (c_X8_isSheet l G M L a1 a2 hu1) ml_RX8_241 sm_yX8_isSheet in_RX8 co_yX8_isSheet hyS_X8_isSheet ⟨rfl, rfl⟩ ⟨by decide, by decide⟩ rfl hl rfl (Nat.le_of_ble_eq_true rfl) dX8_item_2 ⟨Nat.zero_le _, Nat.zero_le _⟩) (fun H locs d => ?_)
  refine lv_if_ne (tgt := 10) S.1 S.2.1 dX8_item_5 (by decide) (fun cc => ?_) (fun cc => ?_)
  · replace h := it_n cc h
    refine lv_aload_n S.1 S.2.1 dX8_item_10 rfl (lv_at hl 0 rfl) ?_
    refine lv_iload_n S.1 S.2.1 dX8_item_11 rfl (lv_at hl 1 rfl) ?_
    refine lv_iload_n S.1 S.2.1 dX8_item_12 rfl (lv_at hl 2 rfl) ?_
    refine lv_iload_n S.1 S.2.1 dX8_item_13 rfl (lv_at hl 3 rfl) ?_
    refine lv_iconst (v := 1) S.1 S.2.1 dX8_item_14 (by decide) ?_
    obtain ⟨u2, hu2, h⟩ := bd_e h
    refine r_ri d (r_cV (As := [.int a1, .int a2, .int a3, .int (1 : Int32)]) (rest := []) S d (c_X8_lacksRow l G M L k0 a1 a2 a3 (1 : Int32) hk0 hu2) (ksdM S hk0) (wc_20 hk0) rfl ml_RX8_244 im_yX8_lacksRow se_yX8_lacksRow in_RX8 co_yX8_lacksRow hyV_X8_lacksRow ⟨rfl, rfl⟩ ⟨by decide, by decide⟩ rfl hl rfl (Nat.le_of_ble_eq_true rfl) dX8_item_15 ⟨Nat.zero_le _, Nat.zero_le _⟩) (fun H locs d => ?_)
    refine lv_istore (lv' := [(5, .int u2), (0, .ref (ad G k0)), (1, .int a1), (2, .int a2), (3, .int a3), (4, .int a4)]) S.1 S.2.1 dX8_item_18 hl (by decide) rfl (fun ls hl => ?_)
    refine lv_iload S.1 S.2.1 dX8_item_20 (lv_at hl 0 rfl) ?_
    refine lv_if_ge (tgt := 28) S.1 S.2.1 dX8_item_22 (by decide) (fun cc => ?_) (fun cc => ?_)
    · replace h := it_p cc h
      refine lv_aload_n S.1 S.2.1 dX8_item_28 rfl (lv_at hl 1 rfl) ?_
      refine gf_20_26 S d hk0 fl_RX8_68 dX8_item_29 ?_
      refine lv_bipush (v := 24) S.1 S.2.1 dX8_item_32 (by decide) ?_
      refine lv_iload_n S.1 S.2.1 dX8_item_34 rfl (lv_at hl 2 rfl) ?_
      refine lv_imul S.1 S.2.1 dX8_item_35 ?_
      refine lv_iload_n S.1 S.2.1 dX8_item_36 rfl (lv_at hl 4 rfl) ?_
      refine lv_iadd S.1 S.2.1 dX8_item_37 ?_
      refine lv_iload_n S.1 S.2.1 dX8_item_38 rfl (lv_at hl 3 rfl) ?_
      obtain ⟨t3, g4, h⟩ := bd_e h
      have Jt3 : ∀ (H : Heap) (locs : List Loc), Dy G s M L H locs → W p l e rm_X8_item s m args below meth c H locs 0 0 (MQ below (Qi G z.1 z.2 L) args s 0 0 (gA G)) (F0 m 71 ls [.int t3, .int (((24 : Int32) * a1) + a3), .ref (ad G (k0 + 20))]) := by
        intro H locs d
        obtain ⟨g5, h⟩ := gd_e h
        obtain ⟨M6, eM6, h⟩ := lt_e h
        refine r_iast S d eM6 (ksdM S (ch_20_26 hk0).1) (fun _ => wc_21 (ch_20_26 hk0).1) (ch_20_26 hk0).2 g5 dX8_item_71 (fun H locs d => ?_)
        refine lv_iconst (v := 1) S.1 S.2.1 dX8_item_72 (by decide) ?_
        obtain rfl := Option.some.inj h
        exact r_iret S d hr rfl rfl dX8_item_73
      have h := g4
      refine lv_if_ne (tgt := 53) S.1 S.2.1 dX8_item_39 (by decide) (fun cc => ?_) (fun cc => ?_)
      · replace h := it_n cc h
        refine lv_iload_n S.1 S.2.1 dX8_item_53 rfl (lv_at hl 3 rfl) ?_
        refine lv_iconst (v := 1) S.1 S.2.1 dX8_item_54 (by decide) ?_
        refine lv_icmp_ne (tgt := 69) S.1 S.2.1 dX8_item_55 (by decide) (fun cc => ?_) (fun cc => ?_)
        · replace h := it_n cc h
          refine lv_iload S.1 S.2.1 dX8_item_69 (lv_at hl 5 rfl) ?_
          obtain ej := Option.some.inj h
          refine r_top ej.symm ?_
          exact Jt3 _ _ d
        · replace h := it_p cc h
          refine lv_iload S.1 S.2.1 dX8_item_58 (lv_at hl 5 rfl) ?_
          refine lv_bipush (v := 16) S.1 S.2.1 dX8_item_60 (by decide) ?_
          refine lv_ishl S.1 S.2.1 dX8_item_62 ?_
          refine lv_bipush (v := 16) S.1 S.2.1 dX8_item_63 (by decide) ?_
          refine lv_ishr S.1 S.2.1 dX8_item_65 ?_
          refine lv_goto (tgt := 71) S.1 S.2.1 dX8_item_66 (by decide) ?_
          obtain ej := Option.some.inj h
          refine r_top ej.symm ?_
          exact Jt3 _ _ d
      · replace h := it_p cc h
        refine lv_iload S.1 S.2.1 dX8_item_42 (lv_at hl 5 rfl) ?_
        refine lv_bipush (v := 24) S.1 S.2.1 dX8_item_44 (by decide) ?_
        refine lv_ishl S.1 S.2.1 dX8_item_46 ?_
        refine lv_bipush (v := 24) S.1 S.2.1 dX8_item_47 (by decide) ?_
        refine lv_ishr S.1 S.2.1 dX8_item_49 ?_
        refine lv_goto (tgt := 71) S.1 S.2.1 dX8_item_50 (by decide) ?_
        obtain ej := Option.some.inj h
        refine r_top ej.symm ?_
        exact Jt3 _ _ d
    · replace h := it_n cc h
      refine lv_iload S.1 S.2.1 dX8_item_25 (lv_at hl 0 rfl) ?_
      obtain rfl := Option.some.inj h
      exact r_iret S d hr rfl rfl dX8_item_27
  · replace h := it_p cc h
    refine lv_iconst (v := (-1)) S.1 S.2.1 dX8_item_8 (by decide) ?_
    obtain rfl := Option.some.inj h
    exact r_iret S d hr rfl rfl dX8_item_9
theorem hyV_X8_sow : yX8_sow.cls = RX8 ∧ yX8_sow.cls ≠ "java/lang/invoke/MethodHandle" ∧ yX8_sow.cls ≠ "java/lang/invoke/VarHandle" ∧ (parseMethodDescriptor yX8_sow.desc).map (fun d => d.parameters.length) = some 4 := by decide +kernel
abbrev rm_X8_sow : Room := { frames := 2, cells := 0, slots := 0, locals := 49 }
def lp_X8_sow_50 (fu : Nat) (M : Mem) (b0 : Nat) (b1 : Int32) (b6 : Int32) (K : Unit → Option (Int32 × Mem)) : Nat → Int32 → Option (Int32 × Mem)
  | 0, _ => none
  | n + 1, x7 =>
    (if (15 : Int32) ≤ x7 then (K ())
    else gd (inb (b6 + x7) 96) (
      (f_X8_in (((M (b0 + 20) (b6 + x7).toNatClampNeg)).toInt64) (0 : Int64) (9 : Int64)).bind (fun u6 =>
      (if u6 = 0 then some ((-2 : Int32), M)
      else lt (x7 + 1) (fun v7 : Int32 =>
        (lp_X8_sow_50 fu M b0 b1 b6 K n v7))))))
def lp_X8_sow_93 (fu : Nat) (b0 : Nat) (b1 : Int32) (b6 : Int32) (K : Int32 → Mem → Option (Int32 × Mem)) : Nat → Int32 → Int32 → Mem → Option (Int32 × Mem)
  | 0, _, _, _ => none
  | n + 1, x7, x8, Mx =>
    (if (15 : Int32) ≤ x8 then (K x7 Mx)
    else gd (inb (b6 + x8) 96) (
      gd (inb (((15 : Int32) * b1) + x8) 135) (
      lt (up Mx (b0 + 3) (((15 : Int32) * b1) + x8).toNatClampNeg (Mx (b0 + 20) (b6 + x8).toNatClampNeg)) (fun M10 : Mem =>
      gd (inb (b6 + x8) 96) (
      lt ((x7 + (M10 (b0 + 20) (b6 + x8).toNatClampNeg))) (fun v12 : Int32 =>
      lt (x8 + 1) (fun v13 : Int32 =>
      (lp_X8_sow_93 fu b0 b1 b6 K n v12 v13 M10))))))))
def f_X8_sow (fu : Nat) (M : Mem) (k0 : Nat) (a1 : Int32) (a2 : Int32) (a3 : Int32) (a4 : Int32) : Option (Int32 × Mem) :=
  (f_X8_isStrip M k0 a1).bind (fun u1 =>
  (if u1 = 0 then some ((-1 : Int32), M)
  else (f_X8_isSheet a2 a3).bind (fun u2 =>
    (if u2 = 0 then some ((-1 : Int32), M)
    else (f_X8_lacksRow M k0 a2 a3 a4 (15 : Int32)).bind (fun u3 =>
      (if 0 ≤ u3 then lt ((((24 : Int32) * a2) + a4)) (fun v4 : Int32 =>
        (lp_X8_sow_50 fu M k0 a1 v4 (fun (_ : Unit) =>
          (lp_X8_sow_93 fu k0 a1 v4 (fun (v14 : Int32) (M15 : Mem) =>
            some (v14, M15)) fu (0 : Int32) (0 : Int32) M)) fu (0 : Int32)))
      else some (u3, M)))))))
set_option maxHeartbeats 4000000 in
set_option maxRecDepth 100000 in
theorem lc_X8_sow_50 {p : Program} {l : Launch} {e : Env} {s : State} {m : MethodId} {args : Array Value} {below : List Frame} {meth : Method} {c : Code} {G : Gx} {M : Mem} {L : MemL} {fu : Nat} {b0 : Nat} {b1 : Int32} {b6 : Int32} {z : Int32 × Mem} (S : Sx G true p s m args meth c cX8_sow 9 RX8) (hr : meth.sig.returnType = (Option.some Jvm.ClassFile.FieldType.int)) (hb0 : kd b0 = 20) (K : Unit → Option (Int32 × Mem)) (hK : ∀ (_ : Unit) (H : Heap) (locs : List Loc), Dy G s M L H locs → ∀ ls : Array Slot, lv_has ls 9 [(0, .ref (ad G b0)), (1, .int b1), (6, .int b6)] → K () = some z → W p l e rm_X8_sow s m args below meth c H locs 0 0 (MQ below (Qi G z.1 z.2 L) args s 0 0 (gA G)) (F0 m 87 ls [])) :
    ∀ (n : Nat) (x7 : Int32), lp_X8_sow_50 fu M b0 b1 b6 K n x7 = some z → ∀ (H : Heap) (locs : List Loc), Dy G s M L H locs → ∀ ls : Array Slot, lv_has ls 9 [(0, .ref (ad G b0)), (1, .int b1), (6, .int b6), (7, .int x7)] → W p l e rm_X8_sow s m args below meth c H locs 0 0 (MQ below (Qi G z.1 z.2 L) args s 0 0 (gA G)) (F0 m 50 ls []) := by
  intro n
  induction n with
  | zero =>
    intro x7 h
    have h : (none : Option (Int32 × Mem)) = some z := h
    cases h
  | succ n ih =>
    intro x7 h H locs d ls hl
    rw [lp_X8_sow_50] at h
    refine lv_iload S.1 S.2.1 dX8_sow_50 (lv_at hl 3 rfl) ?_
    refine lv_bipush (v := 15) S.1 S.2.1 dX8_sow_52 (by decide) ?_
    refine lv_icmp_ge (tgt := 87) S.1 S.2.1 dX8_sow_54 (by decide) (fun cc => ?_) (fun cc => ?_)
    · replace h := it_p cc h
      exact hK () _ _ d _ (lv_sub hl [0, 1, 2] rfl) h
    · replace h := it_n cc h
      refine lv_aload_n S.1 S.2.1 dX8_sow_57 rfl (lv_at hl 0 rfl) ?_
      refine gf_20_26 S d hb0 fl_RX8_68 dX8_sow_58 ?_
      refine lv_iload S.1 S.2.1 dX8_sow_61 (lv_at hl 2 rfl) ?_
      refine lv_iload S.1 S.2.1 dX8_sow_63 (lv_at hl 3 rfl) ?_
      refine lv_iadd S.1 S.2.1 dX8_sow_65 ?_
      obtain ⟨g5, h⟩ := gd_e h
      refine r_iald S d (ksdM S (ch_20_26 hb0).1) (wc_21 (ch_20_26 hb0).1) (ch_20_26 hb0).2 g5 dX8_sow_66 ?_
      refine lv_i2l S.1 S.2.1 dX8_sow_67 rfl ?_
      refine lv_lconst (v := 0) S.1 S.2.1 dX8_sow_68 (by decide) ?_
      refine lv_ldc2 (v := 9) S.1 S.2.1 S.2.2.2.1 (S.uw cn_RX8_248) dX8_sow_69 ?_
      obtain ⟨u6, hu6, h⟩ := bd_e h
      refine r_ri d (r_cS (As := [.long (((M (b0 + 20) (b6 + x7).toNatClampNeg)).toInt64), .long (0 : Int64), .long (9 : Int64)]) (rest := []) S d (c_X8_in l G M L (((M (b0 + 20) (b6 + x7).toNatClampNeg)).toInt64) (0 : Int64) (9 : Int64) hu6) ml_RX8_75 sm_yX8_in in_RX8 co_yX8_in hyS_X8_in ⟨rfl, rfl⟩ ⟨by decide, by decide⟩ rfl hl rfl (Nat.le_of_ble_eq_true rfl) dX8_sow_72 ⟨Nat.zero_le _, Nat.zero_le _⟩) (fun H locs d => ?_)
      refine lv_if_ne (tgt := 81) S.1 S.2.1 dX8_sow_75 (by decide) (fun cc => ?_) (fun cc => ?_)
      · replace h := it_n cc h
        obtain ⟨v7, ev7, h⟩ := lt_e h
        refine lv_iinc (v := v7) (lv' := [(7, .int v7), (0, .ref (ad G b0)), (1, .int b1), (6, .int b6)]) S.1 S.2.1 dX8_sow_81 hl (k := 3) rfl (by rw [ev7]; rfl) (by decide) rfl (fun ls hl => ?_)
        refine lv_goto (tgt := 50) S.1 S.2.1 dX8_sow_84 (by decide) ?_
        exact ih _ h _ _ d _ (lv_sub hl [1, 2, 3, 0] rfl)
      · replace h := it_p cc h
        refine lv_bipush (v := (-2)) S.1 S.2.1 dX8_sow_78 (by decide) ?_
        obtain rfl := Option.some.inj h
        exact r_iret S d hr rfl rfl dX8_sow_80
set_option maxHeartbeats 4000000 in
set_option maxRecDepth 100000 in
theorem lc_X8_sow_93 {p : Program} {l : Launch} {e : Env} {s : State} {m : MethodId} {args : Array Value} {below : List Frame} {meth : Method} {c : Code} {G : Gx} {L : MemL} {fu : Nat} {b0 : Nat} {b1 : Int32} {b6 : Int32} {z : Int32 × Mem} (S : Sx G true p s m args meth c cX8_sow 9 RX8) (hr : meth.sig.returnType = (Option.some Jvm.ClassFile.FieldType.int)) (hb0 : kd b0 = 20) (K : Int32 → Mem → Option (Int32 × Mem)) (hK : ∀ (y7 : Int32) (My : Mem) (H : Heap) (locs : List Loc), Dy G s My L H locs → ∀ ls : Array Slot, lv_has ls 9 [(7, .int y7)] → K y7 My = some z → W p l e rm_X8_sow s m args below meth c H locs 0 0 (MQ below (Qi G z.1 z.2 L) args s 0 0 (gA G)) (F0 m 143 ls [])) :
    ∀ (n : Nat) (x7 : Int32) (x8 : Int32) (Mx : Mem), lp_X8_sow_93 fu b0 b1 b6 K n x7 x8 Mx = some z → ∀ (H : Heap) (locs : List Loc), Dy G s Mx L H locs → ∀ ls : Array Slot, lv_has ls 9 [(0, .ref (ad G b0)), (1, .int b1), (6, .int b6), (7, .int x7), (8, .int x8)] → W p l e rm_X8_sow s m args below meth c H locs 0 0 (MQ below (Qi G z.1 z.2 L) args s 0 0 (gA G)) (F0 m 93 ls []) := by
  intro n
  induction n with
  | zero =>
    intro x7 x8 Mx h
    have h : (none : Option (Int32 × Mem)) = some z := h
    cases h
  | succ n ih =>
    intro x7 x8 Mx h H locs d ls hl
    rw [lp_X8_sow_93] at h
    refine lv_iload S.1 S.2.1 dX8_sow_93 (lv_at hl 4 rfl) ?_
    refine lv_bipush (v := 15) S.1 S.2.1 dX8_sow_95 (by decide) ?_
    refine lv_icmp_ge (tgt := 143) S.1 S.2.1 dX8_sow_97 (by decide) (fun cc => ?_) (fun cc => ?_)
    · replace h := it_p cc h
      exact hK _ _ _ _ d _ (lv_sub hl [3] rfl) h
    · replace h := it_n cc h
      refine lv_aload_n S.1 S.2.1 dX8_sow_100 rfl (lv_at hl 0 rfl) ?_
      refine gf_20_2 S d hb0 fl_RX8_16 dX8_sow_101 ?_
      refine lv_bipush (v := 15) S.1 S.2.1 dX8_sow_104 (by decide) ?_
      refine lv_iload_n S.1 S.2.1 dX8_sow_106 rfl (lv_at hl 1 rfl) ?_
      refine lv_imul S.1 S.2.1 dX8_sow_107 ?_
      refine lv_iload S.1 S.2.1 dX8_sow_108 (lv_at hl 4 rfl) ?_
      refine lv_iadd S.1 S.2.1 dX8_sow_110 ?_
      refine lv_aload_n S.1 S.2.1 dX8_sow_111 rfl (lv_at hl 0 rfl) ?_
      refine gf_20_26 S d hb0 fl_RX8_68 dX8_sow_112 ?_
      refine lv_iload S.1 S.2.1 dX8_sow_115 (lv_at hl 2 rfl) ?_
      refine lv_iload S.1 S.2.1 dX8_sow_117 (lv_at hl 4 rfl) ?_
      refine lv_iadd S.1 S.2.1 dX8_sow_119 ?_
      obtain ⟨g8, h⟩ := gd_e h
      refine r_iald S d (ksdM S (ch_20_26 hb0).1) (wc_21 (ch_20_26 hb0).1) (ch_20_26 hb0).2 g8 dX8_sow_120 ?_
      obtain ⟨g9, h⟩ := gd_e h
      obtain ⟨M10, eM10, h⟩ := lt_e h
      refine r_iast S d eM10 (ksdM S (ch_20_2 hb0).1) (fun _ => wc_21 (ch_20_2 hb0).1) (ch_20_2 hb0).2 g9 dX8_sow_121 (fun H locs d => ?_)
      refine lv_iload S.1 S.2.1 dX8_sow_122 (lv_at hl 3 rfl) ?_
      refine lv_aload_n S.1 S.2.1 dX8_sow_124 rfl (lv_at hl 0 rfl) ?_
      refine gf_20_26 S d hb0 fl_RX8_68 dX8_sow_125 ?_
      refine lv_iload S.1 S.2.1 dX8_sow_128 (lv_at hl 2 rfl) ?_
      refine lv_iload S.1 S.2.1 dX8_sow_130 (lv_at hl 4 rfl) ?_
      refine lv_iadd S.1 S.2.1 dX8_sow_132 ?_
      obtain ⟨g11, h⟩ := gd_e h
      refine r_iald S d (ksdM S (ch_20_26 hb0).1) (wc_21 (ch_20_26 hb0).1) (ch_20_26 hb0).2 g11 dX8_sow_133 ?_
      refine lv_iadd S.1 S.2.1 dX8_sow_134 ?_
      obtain ⟨v12, ev12, h⟩ := lt_e h
      refine r_top ev12 ?_
      refine lv_istore (lv' := [(7, .int v12), (0, .ref (ad G b0)), (1, .int b1), (6, .int b6), (8, .int x8)]) S.1 S.2.1 dX8_sow_135 hl (by decide) rfl (fun ls hl => ?_)
      obtain ⟨v13, ev13, h⟩ := lt_e h
      refine lv_iinc (v := v13) (lv' := [(8, .int v13), (7, .int v12), (0, .ref (ad G b0)), (1, .int b1), (6, .int b6)]) S.1 S.2.1 dX8_sow_137 hl (k := 4) rfl (by rw [ev13]; rfl) (by decide) rfl (fun ls hl => ?_)
      refine lv_goto (tgt := 93) S.1 S.2.1 dX8_sow_140 (by decide) ?_
      exact ih _ _ _ h _ _ d _ (lv_sub hl [2, 3, 4, 1, 0] rfl)
set_option maxHeartbeats 4000000 in
set_option maxRecDepth 100000 in
theorem c_X8_sow (l : Launch) (G : Gx) (M : Mem) (L : MemL) (fu : Nat) (k0 : Nat) (a1 : Int32) (a2 : Int32) (a3 : Int32) (a4 : Int32) (hk0 : kd k0 = 20) {z : Int32 × Mem} (h : f_X8_sow fu M k0 a1 a2 a3 a4 = some z) : Met l yX8_sow (.code yX8_sow cX8_sow 9 (Option.some Jvm.ClassFile.FieldType.int) :: UW) rm_X8_sow (va_Pc [.ref (ad G k0), .int a1, .int a2, .int a3, .int a4] (PreG G true M L)) (Qi G z.1 z.2 L) 0 0 (gA G) := by
  refine r_in (by decide) (fun p e s m args below meth c S hr d ha ls hl => ?_) (Nat.le_of_ble_eq_true rfl)
  have S : Sx G true p s m args meth c cX8_sow 9 RX8 := S
  have hl : lv_has ls 9 [(0, .ref (ad G k0)), (1, .int a1), (2, .int a2), (3, .int a3), (4, .int a4)] := hl
  unfold f_X8_sow at h
  refine lv_aload_n S.1 S.2.1 dX8_sow_0 rfl (lv_at hl 0 rfl) ?_
  refine lv_iload_n S.1 S.2.1 dX8_sow_1 rfl (lv_at hl 1 rfl) ?_
  obtain ⟨u1, hu1, h⟩ := bd_e h
  refine r_ri d (r_cV (As := [.int a1]) (rest := []) S d (c_X8_isStrip l G M L k0 a1 hk0 hu1) (ksdM S hk0) (wc_20 hk0) rfl ml_RX8_94 im_yX8_isStrip se_yX8_isStrip in_RX8 co_yX8_isStrip hyV_X8_isStrip ⟨rfl, rfl⟩ ⟨by decide, by decide⟩ rfl hl rfl (Nat.le_of_ble_eq_true rfl) dX8_sow_2 ⟨Nat.zero_le _, Nat.zero_le _⟩) (fun H locs d => ?_)
  refine lv_if_eq (tgt := 16) S.1 S.2.1 dX8_sow_5 (by decide) (fun cc => ?_) (fun cc => ?_)
  · replace h := it_p cc h
    refine lv_iconst (v := (-1)) S.1 S.2.1 dX8_sow_16 (by decide) ?_
    obtain rfl := Option.some.inj h
    exact r_iret S d hr rfl rfl dX8_sow_17
  · replace h := it_n cc h
    refine lv_iload_n S.1 S.2.1 dX8_sow_8 rfl (lv_at hl 2 rfl) ?_
    refine lv_iload_n S.1 S.2.1 dX8_sow_9 rfl (lv_at hl 3 rfl) ?_
    obtain ⟨u2, hu2, h⟩ := bd_e h
    refine r_ri d (r_cS (As := [.int a2, .int a3]) (rest := []) S d (c_X8_isSheet l G M L a2 a3 hu2) ml_RX8_241 sm_yX8_isSheet in_RX8 co_yX8_isSheet hyS_X8_isSheet ⟨rfl, rfl⟩ ⟨by decide, by decide⟩ rfl hl rfl (Nat.le_of_ble_eq_true rfl) dX8_sow_10 ⟨Nat.zero_le _, Nat.zero_le _⟩) (fun H locs d => ?_)
    refine lv_if_ne (tgt := 18) S.1 S.2.1 dX8_sow_13 (by decide) (fun cc => ?_) (fun cc => ?_)
    · replace h := it_n cc h
      refine lv_aload_n S.1 S.2.1 dX8_sow_18 rfl (lv_at hl 0 rfl) ?_
      refine lv_iload_n S.1 S.2.1 dX8_sow_19 rfl (lv_at hl 2 rfl) ?_
      refine lv_iload_n S.1 S.2.1 dX8_sow_20 rfl (lv_at hl 3 rfl) ?_
      refine lv_iload S.1 S.2.1 dX8_sow_21 (lv_at hl 4 rfl) ?_
      refine lv_bipush (v := 15) S.1 S.2.1 dX8_sow_23 (by decide) ?_
      obtain ⟨u3, hu3, h⟩ := bd_e h
      refine r_ri d (r_cV (As := [.int a2, .int a3, .int a4, .int (15 : Int32)]) (rest := []) S d (c_X8_lacksRow l G M L k0 a2 a3 a4 (15 : Int32) hk0 hu3) (ksdM S hk0) (wc_20 hk0) rfl ml_RX8_244 im_yX8_lacksRow se_yX8_lacksRow in_RX8 co_yX8_lacksRow hyV_X8_lacksRow ⟨rfl, rfl⟩ ⟨by decide, by decide⟩ rfl hl rfl (Nat.le_of_ble_eq_true rfl) dX8_sow_25 ⟨Nat.zero_le _, Nat.zero_le _⟩) (fun H locs d => ?_)
      refine lv_istore (lv' := [(5, .int u3), (0, .ref (ad G k0)), (1, .int a1), (2, .int a2), (3, .int a3), (4, .int a4)]) S.1 S.2.1 dX8_sow_28 hl (by decide) rfl (fun ls hl => ?_)
      refine lv_iload S.1 S.2.1 dX8_sow_30 (lv_at hl 0 rfl) ?_
      refine lv_if_ge (tgt := 38) S.1 S.2.1 dX8_sow_32 (by decide) (fun cc => ?_) (fun cc => ?_)
      · replace h := it_p cc h
        refine lv_bipush (v := 24) S.1 S.2.1 dX8_sow_38 (by decide) ?_
        refine lv_iload_n S.1 S.2.1 dX8_sow_40 rfl (lv_at hl 3 rfl) ?_
        refine lv_imul S.1 S.2.1 dX8_sow_41 ?_
        refine lv_iload S.1 S.2.1 dX8_sow_42 (lv_at hl 5 rfl) ?_
        refine lv_iadd S.1 S.2.1 dX8_sow_44 ?_
        obtain ⟨v4, ev4, h⟩ := lt_e h
        refine r_top ev4 ?_
        refine lv_istore (lv' := [(6, .int v4), (5, .int u3), (0, .ref (ad G k0)), (1, .int a1), (2, .int a2), (3, .int a3), (4, .int a4)]) S.1 S.2.1 dX8_sow_45 hl (by decide) rfl (fun ls hl => ?_)
        refine lv_iconst (v := 0) S.1 S.2.1 dX8_sow_47 (by decide) ?_
        refine lv_istore (lv' := [(7, .int (0 : Int32)), (6, .int v4), (5, .int u3), (0, .ref (ad G k0)), (1, .int a1), (2, .int a2), (3, .int a3), (4, .int a4)]) S.1 S.2.1 dX8_sow_48 hl (by decide) rfl (fun ls hl => ?_)
        refine lc_X8_sow_50 S hr hk0 _ (fun _ H locs d ls hl h => ?_) _ _  h _ _ d _ (lv_sub hl [3, 4, 1, 0] rfl)
        refine lv_iconst (v := 0) S.1 S.2.1 dX8_sow_87 (by decide) ?_
        refine lv_istore (lv' := [(7, .int (0 : Int32)), (0, .ref (ad G k0)), (1, .int a1), (6, .int v4)]) S.1 S.2.1 dX8_sow_88 hl (by decide) rfl (fun ls hl => ?_)
        refine lv_iconst (v := 0) S.1 S.2.1 dX8_sow_90 (by decide) ?_
        refine lv_istore (lv' := [(8, .int (0 : Int32)), (7, .int (0 : Int32)), (0, .ref (ad G k0)), (1, .int a1), (6, .int v4)]) S.1 S.2.1 dX8_sow_91 hl (by decide) rfl (fun ls hl => ?_)
        refine lc_X8_sow_93 S hr hk0 _ (fun v14 M15 H locs d ls hl h => ?_) _ _ _ _  h _ _ d _ (lv_sub hl [2, 3, 4, 1, 0] rfl)
        refine lv_iload S.1 S.2.1 dX8_sow_143 (lv_at hl 0 rfl) ?_
        obtain rfl := Option.some.inj h
        exact r_iret S d hr rfl rfl dX8_sow_145
      · replace h := it_n cc h
        refine lv_iload S.1 S.2.1 dX8_sow_35 (lv_at hl 0 rfl) ?_
        obtain rfl := Option.some.inj h
        exact r_iret S d hr rfl rfl dX8_sow_37
    · replace h := it_p cc h
      refine lv_iconst (v := (-1)) S.1 S.2.1 dX8_sow_16 (by decide) ?_
      obtain rfl := Option.some.inj h
      exact r_iret S d hr rfl rfl dX8_sow_17
theorem hyV_X8_film : yX8_film.cls = RX8 ∧ yX8_film.cls ≠ "java/lang/invoke/MethodHandle" ∧ yX8_film.cls ≠ "java/lang/invoke/VarHandle" ∧ (parseMethodDescriptor yX8_film.desc).map (fun d => d.parameters.length) = some 3 := by decide +kernel
abbrev rm_X8_film : Room := { frames := 3, cells := 0, slots := 0, locals := 67 }
def lp_X8_film_34 (fu : Nat) (b0 : Nat) (b1 : Int32) (b3 : Int32) (K : Mem → Option (Int32 × Mem)) : Nat → Int32 → Mem → Option (Int32 × Mem)
  | 0, _, _ => none
  | n + 1, x5, Mx =>
    (if (Mx b0 7) ≤ x5 then (K Mx)
    else (f_X8_seenOf fu Mx b0 x5).bind (fun u3 =>
      (f_X8_readsAs fu Mx b0 u3).bind (fun u4 =>
      gd (inb ((((24 : Int32) * b1) + b3) + x5) 96) (
      lt (up Mx (b0 + 20) ((((24 : Int32) * b1) + b3) + x5).toNatClampNeg u4) (fun M6 : Mem =>
      lt (x5 + 1) (fun v7 : Int32 =>
      (lp_X8_film_34 fu b0 b1 b3 K n v7 M6)))))))
def f_X8_film (fu : Nat) (M : Mem) (k0 : Nat) (a1 : Int32) (a2 : Int32) (a3 : Int32) : Option (Int32 × Mem) :=
  (f_X8_isSheet a1 a2).bind (fun u1 =>
  (if u1 = 0 then some ((-1 : Int32), M)
  else (f_X8_lacksRow M k0 a1 a2 a3 (M k0 7)).bind (fun u2 =>
    (if 0 ≤ u2 then (lp_X8_film_34 fu k0 a1 a3 (fun (M8 : Mem) =>
        some ((M8 k0 7), M8)) fu (0 : Int32) M)
    else some (u2, M)))))
set_option maxHeartbeats 4000000 in
set_option maxRecDepth 100000 in
theorem lc_X8_film_34 {p : Program} {l : Launch} {e : Env} {s : State} {m : MethodId} {args : Array Value} {below : List Frame} {meth : Method} {c : Code} {G : Gx} {L : MemL} {fu : Nat} {b0 : Nat} {b1 : Int32} {b3 : Int32} {z : Int32 × Mem} (S : Sx G true p s m args meth c cX8_film 6 RX8) (hr : meth.sig.returnType = (Option.some Jvm.ClassFile.FieldType.int)) (hb0 : kd b0 = 20) (K : Mem → Option (Int32 × Mem)) (hK : ∀ (My : Mem) (H : Heap) (locs : List Loc), Dy G s My L H locs → ∀ ls : Array Slot, lv_has ls 6 [(0, .ref (ad G b0))] → K My = some z → W p l e rm_X8_film s m args below meth c H locs 0 0 (MQ below (Qi G z.1 z.2 L) args s 0 0 (gA G)) (F0 m 73 ls [])) :
    ∀ (n : Nat) (x5 : Int32) (Mx : Mem), lp_X8_film_34 fu b0 b1 b3 K n x5 Mx = some z → ∀ (H : Heap) (locs : List Loc), Dy G s Mx L H locs → ∀ ls : Array Slot, lv_has ls 6 [(0, .ref (ad G b0)), (1, .int b1), (3, .int b3), (5, .int x5)] → W p l e rm_X8_film s m args below meth c H locs 0 0 (MQ below (Qi G z.1 z.2 L) args s 0 0 (gA G)) (F0 m 34 ls []) := by
  intro n
  induction n with
  | zero =>
    intro x5 Mx h
    have h : (none : Option (Int32 × Mem)) = some z := h
    cases h
  | succ n ih =>
    intro x5 Mx h H locs d ls hl
    rw [lp_X8_film_34] at h
    refine lv_iload S.1 S.2.1 dX8_film_34 (lv_at hl 3 rfl) ?_
    refine lv_aload_n S.1 S.2.1 dX8_film_36 rfl (lv_at hl 0 rfl) ?_
    refine gf_20_7 S d hb0 fl_RX8_71 dX8_film_37 ?_
    refine lv_icmp_ge (tgt := 73) S.1 S.2.1 dX8_film_40 (by decide) (fun cc => ?_) (fun cc => ?_)
    · replace h := it_p cc h
      exact hK _ _ _ d _ (lv_sub hl [0] rfl) h
    · replace h := it_n cc h
      refine lv_aload_n S.1 S.2.1 dX8_film_43 rfl (lv_at hl 0 rfl) ?_
      refine gf_20_26 S d hb0 fl_RX8_68 dX8_film_44 ?_
      refine lv_bipush (v := 24) S.1 S.2.1 dX8_film_47 (by decide) ?_
      refine lv_iload_n S.1 S.2.1 dX8_film_49 rfl (lv_at hl 1 rfl) ?_
      refine lv_imul S.1 S.2.1 dX8_film_50 ?_
      refine lv_iload_n S.1 S.2.1 dX8_film_51 rfl (lv_at hl 2 rfl) ?_
      refine lv_iadd S.1 S.2.1 dX8_film_52 ?_
      refine lv_iload S.1 S.2.1 dX8_film_53 (lv_at hl 3 rfl) ?_
      refine lv_iadd S.1 S.2.1 dX8_film_55 ?_
      refine lv_aload_n S.1 S.2.1 dX8_film_56 rfl (lv_at hl 0 rfl) ?_
      refine lv_aload_n S.1 S.2.1 dX8_film_57 rfl (lv_at hl 0 rfl) ?_
      refine lv_iload S.1 S.2.1 dX8_film_58 (lv_at hl 3 rfl) ?_
      obtain ⟨u3, hu3, h⟩ := bd_e h
      refine r_ri d (r_cV (As := [.int x5]) (rest := [.ref (ad G b0), .int ((((24 : Int32) * b1) + b3) + x5), .ref (ad G (b0 + 20))]) S d (c_X8_seenOf l G Mx L fu b0 x5 hb0 hu3) (ksdM S hb0) (wc_20 hb0) rfl ml_RX8_104 im_yX8_seenOf se_yX8_seenOf in_RX8 co_yX8_seenOf hyV_X8_seenOf ⟨rfl, rfl⟩ ⟨by decide, by decide⟩ rfl hl rfl (Nat.le_of_ble_eq_true rfl) dX8_film_60 ⟨Nat.zero_le _, Nat.zero_le _⟩) (fun H locs d => ?_)
      obtain ⟨u4, hu4, h⟩ := bd_e h
      refine r_ri d (r_cV (As := [.int u3]) (rest := [.int ((((24 : Int32) * b1) + b3) + x5), .ref (ad G (b0 + 20))]) S d (c_X8_readsAs l G Mx L fu b0 u3 hb0 hu4) (ksdM S hb0) (wc_20 hb0) rfl ml_RX8_114 im_yX8_readsAs se_yX8_readsAs in_RX8 co_yX8_readsAs hyV_X8_readsAs ⟨rfl, rfl⟩ ⟨by decide, by decide⟩ rfl hl rfl (Nat.le_of_ble_eq_true rfl) dX8_film_63 ⟨Nat.zero_le _, Nat.zero_le _⟩) (fun H locs d => ?_)
      obtain ⟨g5, h⟩ := gd_e h
      obtain ⟨M6, eM6, h⟩ := lt_e h
      refine r_iast S d eM6 (ksdM S (ch_20_26 hb0).1) (fun _ => wc_21 (ch_20_26 hb0).1) (ch_20_26 hb0).2 g5 dX8_film_66 (fun H locs d => ?_)
      obtain ⟨v7, ev7, h⟩ := lt_e h
      refine lv_iinc (v := v7) (lv' := [(5, .int v7), (0, .ref (ad G b0)), (1, .int b1), (3, .int b3)]) S.1 S.2.1 dX8_film_67 hl (k := 3) rfl (by rw [ev7]; rfl) (by decide) rfl (fun ls hl => ?_)
      refine lv_goto (tgt := 34) S.1 S.2.1 dX8_film_70 (by decide) ?_
      exact ih _ _ h _ _ d _ (lv_sub hl [1, 2, 3, 0] rfl)
set_option maxHeartbeats 4000000 in
set_option maxRecDepth 100000 in
theorem c_X8_film (l : Launch) (G : Gx) (M : Mem) (L : MemL) (fu : Nat) (k0 : Nat) (a1 : Int32) (a2 : Int32) (a3 : Int32) (hk0 : kd k0 = 20) {z : Int32 × Mem} (h : f_X8_film fu M k0 a1 a2 a3 = some z) : Met l yX8_film (.code yX8_film cX8_film 6 (Option.some Jvm.ClassFile.FieldType.int) :: UW) rm_X8_film (va_Pc [.ref (ad G k0), .int a1, .int a2, .int a3] (PreG G true M L)) (Qi G z.1 z.2 L) 0 0 (gA G) := by
  refine r_in (by decide) (fun p e s m args below meth c S hr d ha ls hl => ?_) (Nat.le_of_ble_eq_true rfl)
  have S : Sx G true p s m args meth c cX8_film 6 RX8 := S
  have hl : lv_has ls 6 [(0, .ref (ad G k0)), (1, .int a1), (2, .int a2), (3, .int a3)] := hl
  unfold f_X8_film at h
  refine lv_iload_n S.1 S.2.1 dX8_film_0 rfl (lv_at hl 1 rfl) ?_
  refine lv_iload_n S.1 S.2.1 dX8_film_1 rfl (lv_at hl 2 rfl) ?_
  obtain ⟨u1, hu1, h⟩ := bd_e h
  refine r_ri d (r_cS (As := [.int a1, .int a2]) (rest := []) S d (c_X8_isSheet l G M L a1 a2 hu1) ml_RX8_241 sm_yX8_isSheet in_RX8 co_yX8_isSheet hyS_X8_isSheet ⟨rfl, rfl⟩ ⟨by decide, by decide⟩ rfl hl rfl (Nat.le_of_ble_eq_true rfl) dX8_film_2 ⟨Nat.zero_le _, Nat.zero_le _⟩) (fun H locs d => ?_)
  refine lv_if_ne (tgt := 10) S.1 S.2.1 dX8_film_5 (by decide) (fun cc => ?_) (fun cc => ?_)
  · replace h := it_n cc h
    refine lv_aload_n S.1 S.2.1 dX8_film_10 rfl (lv_at hl 0 rfl) ?_
    refine lv_iload_n S.1 S.2.1 dX8_film_11 rfl (lv_at hl 1 rfl) ?_
    refine lv_iload_n S.1 S.2.1 dX8_film_12 rfl (lv_at hl 2 rfl) ?_
    refine lv_iload_n S.1 S.2.1 dX8_film_13 rfl (lv_at hl 3 rfl) ?_
    refine lv_aload_n S.1 S.2.1 dX8_film_14 rfl (lv_at hl 0 rfl) ?_
    refine gf_20_7 S d hk0 fl_RX8_71 dX8_film_15 ?_
    obtain ⟨u2, hu2, h⟩ := bd_e h
    refine r_ri d (r_cV (As := [.int a1, .int a2, .int a3, .int (M k0 7)]) (rest := []) S d (c_X8_lacksRow l G M L k0 a1 a2 a3 (M k0 7) hk0 hu2) (ksdM S hk0) (wc_20 hk0) rfl ml_RX8_244 im_yX8_lacksRow se_yX8_lacksRow in_RX8 co_yX8_lacksRow hyV_X8_lacksRow ⟨rfl, rfl⟩ ⟨by decide, by decide⟩ rfl hl rfl (Nat.le_of_ble_eq_true rfl) dX8_film_18 ⟨Nat.zero_le _, Nat.zero_le _⟩) (fun H locs d => ?_)
    refine lv_istore (lv' := [(4, .int u2), (0, .ref (ad G k0)), (1, .int a1), (2, .int a2), (3, .int a3)]) S.1 S.2.1 dX8_film_21 hl (by decide) rfl (fun ls hl => ?_)
    refine lv_iload S.1 S.2.1 dX8_film_23 (lv_at hl 0 rfl) ?_
    refine lv_if_ge (tgt := 31) S.1 S.2.1 dX8_film_25 (by decide) (fun cc => ?_) (fun cc => ?_)
    · replace h := it_p cc h
      refine lv_iconst (v := 0) S.1 S.2.1 dX8_film_31 (by decide) ?_
      refine lv_istore (lv' := [(5, .int (0 : Int32)), (4, .int u2), (0, .ref (ad G k0)), (1, .int a1), (2, .int a2), (3, .int a3)]) S.1 S.2.1 dX8_film_32 hl (by decide) rfl (fun ls hl => ?_)
      refine lc_X8_film_34 S hr hk0 _ (fun M8 H locs d ls hl h => ?_) _ _ _  h _ _ d _ (lv_sub hl [2, 3, 5, 0] rfl)
      refine lv_aload_n S.1 S.2.1 dX8_film_73 rfl (lv_at hl 0 rfl) ?_
      refine gf_20_7 S d hk0 fl_RX8_71 dX8_film_74 ?_
      obtain rfl := Option.some.inj h
      exact r_iret S d hr rfl rfl dX8_film_77
    · replace h := it_n cc h
      refine lv_iload S.1 S.2.1 dX8_film_28 (lv_at hl 0 rfl) ?_
      obtain rfl := Option.some.inj h
      exact r_iret S d hr rfl rfl dX8_film_30
  · replace h := it_p cc h
    refine lv_iconst (v := (-1)) S.1 S.2.1 dX8_film_8 (by decide) ?_
    obtain rfl := Option.some.inj h
    exact r_iret S d hr rfl rfl dX8_film_9
