theorem hyV_X9_may : yX9_may.cls = RX9 ∧ yX9_may.cls ≠ "java/lang/invoke/MethodHandle" ∧ yX9_may.cls ≠ "java/lang/invoke/VarHandle" ∧ (parseMethodDescriptor yX9_may.desc).map (fun d => d.parameters.length) = some 2 := by decide +kernel
abbrev rm_X9_may : Room := { frames := 4, cells := 0, slots := 0, locals := 94 }
def f_X9_may (fu : Nat) (M : Mem) (k0 : Nat) (a1 : Int32) (a2 : Int32) : Option (Int32) :=
  (f_X9_isWord M k0 a1).bind (fun u1 =>
  (if u1 = 0 then some ((-1 : Int32))
  else (f_X9_isStrip M k0 a2).bind (fun u2 =>
    (if u2 = 0 then some ((-1 : Int32))
    else (f_X9_mayBe fu M k0 a1 a2).bind (fun u3 =>
      (if u3 = 0 then some ((0 : Int32))
      else some ((1 : Int32))))))))
set_option maxHeartbeats 4000000 in
set_option maxRecDepth 100000 in
theorem c_X9_may (l : Launch) (G : Gx) (M : Mem) (L : MemL) (fu : Nat) (k0 : Nat) (a1 : Int32) (a2 : Int32) (hk0 : kd k0 = 20) {z : Int32} (h : f_X9_may fu M k0 a1 a2 = some z) : Met l yX9_may (.code yX9_may cX9_may 3 (Option.some Jvm.ClassFile.FieldType.int) :: UW) rm_X9_may (va_Pc [.ref (ad G k0), .int a1, .int a2] (PreG G true M L)) (Qi G z M L) 0 0 (gA G) := by
  refine r_in (by decide) (fun p e s m args below meth c S hr d ha ls hl => ?_) (Nat.le_of_ble_eq_true rfl)
  have S : Sx G true p s m args meth c cX9_may 3 RX9 := S
  have hl : lv_has ls 3 [(0, .ref (ad G k0)), (1, .int a1), (2, .int a2)] := hl
  unfold f_X9_may at h
  refine lv_aload_n S.1 S.2.1 dX9_may_0 rfl (lv_at hl 0 rfl) ?_
  refine lv_iload_n S.1 S.2.1 dX9_may_1 rfl (lv_at hl 1 rfl) ?_
  obtain ⟨u1, hu1, h⟩ := bd_e h
  refine r_ri d (r_cV (As := [.int a1]) (rest := []) S d (c_X9_isWord l G M L k0 a1 hk0 hu1) (ksdM S hk0) (wc_20 hk0) rfl ml_RX9_174 im_yX9_isWord se_yX9_isWord in_RX9 co_yX9_isWord hyV_X9_isWord ⟨rfl, rfl⟩ ⟨by decide, by decide⟩ rfl hl rfl (Nat.le_of_ble_eq_true rfl) dX9_may_2 ⟨Nat.zero_le _, Nat.zero_le _⟩) (fun H locs d => ?_)
  refine lv_if_eq (tgt := 16) S.1 S.2.1 dX9_may_5 (by decide) (fun cc => ?_) (fun cc => ?_)
  · replace h := it_p cc h
    refine lv_iconst (v := (-1)) S.1 S.2.1 dX9_may_16 (by decide) ?_
    refine lv_goto (tgt := 34) S.1 S.2.1 dX9_may_17 (by decide) ?_
    obtain rfl := Option.some.inj h
    exact r_iret S d hr rfl rfl dX9_may_34
  · replace h := it_n cc h
    refine lv_aload_n S.1 S.2.1 dX9_may_8 rfl (lv_at hl 0 rfl) ?_
    refine lv_iload_n S.1 S.2.1 dX9_may_9 rfl (lv_at hl 2 rfl) ?_
    obtain ⟨u2, hu2, h⟩ := bd_e h
    refine r_ri d (r_cV (As := [.int a2]) (rest := []) S d (c_X9_isStrip l G M L k0 a2 hk0 hu2) (ksdM S hk0) (wc_20 hk0) rfl ml_RX9_94 im_yX9_isStrip se_yX9_isStrip in_RX9 co_yX9_isStrip hyV_X9_isStrip ⟨rfl, rfl⟩ ⟨by decide, by decide⟩ rfl hl rfl (Nat.le_of_ble_eq_true rfl) dX9_may_10 ⟨Nat.zero_le _, Nat.zero_le _⟩) (fun H locs d => ?_)
    refine lv_if_ne (tgt := 20) S.1 S.2.1 dX9_may_13 (by decide) (fun cc => ?_) (fun cc => ?_)
    · replace h := it_n cc h
      refine lv_aload_n S.1 S.2.1 dX9_may_20 rfl (lv_at hl 0 rfl) ?_
      refine lv_iload_n S.1 S.2.1 dX9_may_21 rfl (lv_at hl 1 rfl) ?_
      refine lv_iload_n S.1 S.2.1 dX9_may_22 rfl (lv_at hl 2 rfl) ?_
      obtain ⟨u3, hu3, h⟩ := bd_e h
      refine r_ri d (r_cV (As := [.int a1, .int a2]) (rest := []) S d (c_X9_mayBe l G M L fu k0 a1 a2 hk0 hu3) (ksdM S hk0) (wc_20 hk0) rfl ml_RX9_191 im_yX9_mayBe se_yX9_mayBe in_RX9 co_yX9_mayBe hyV_X9_mayBe ⟨rfl, rfl⟩ ⟨by decide, by decide⟩ rfl hl rfl (Nat.le_of_ble_eq_true rfl) dX9_may_23 ⟨Nat.zero_le _, Nat.zero_le _⟩) (fun H locs d => ?_)
      refine lv_if_eq (tgt := 33) S.1 S.2.1 dX9_may_26 (by decide) (fun cc => ?_) (fun cc => ?_)
      · replace h := it_p cc h
        refine lv_iconst (v := 0) S.1 S.2.1 dX9_may_33 (by decide) ?_
        obtain rfl := Option.some.inj h
        exact r_iret S d hr rfl rfl dX9_may_34
      · replace h := it_n cc h
        refine lv_iconst (v := 1) S.1 S.2.1 dX9_may_29 (by decide) ?_
        refine lv_goto (tgt := 34) S.1 S.2.1 dX9_may_30 (by decide) ?_
        obtain rfl := Option.some.inj h
        exact r_iret S d hr rfl rfl dX9_may_34
    · replace h := it_p cc h
      refine lv_iconst (v := (-1)) S.1 S.2.1 dX9_may_16 (by decide) ?_
      refine lv_goto (tgt := 34) S.1 S.2.1 dX9_may_17 (by decide) ?_
      obtain rfl := Option.some.inj h
      exact r_iret S d hr rfl rfl dX9_may_34
theorem hyV_X9_lostOn : yX9_lostOn.cls = RX9 ∧ yX9_lostOn.cls ≠ "java/lang/invoke/MethodHandle" ∧ yX9_lostOn.cls ≠ "java/lang/invoke/VarHandle" ∧ (parseMethodDescriptor yX9_lostOn.desc).map (fun d => d.parameters.length) = some 2 := by decide +kernel
abbrev rm_X9_lostOn : Room := { frames := 1, cells := 0, slots := 0, locals := 21 }
def lp_X9_lostOn_5 (fu : Nat) (M : Mem) (b0 : Nat) (b1 : Int32) (b2 : Int32) (K : Int32 → Option (Int32)) : Nat → Int32 → Int32 → Option (Int32)
  | 0, _, _ => none
  | n + 1, x3, x4 =>
    (if (15 : Int32) ≤ x4 then (K x3)
    else gd (inb (((15 : Int32) * b1) + x4) 135) (
      lt ((M (b0 + 3) (((15 : Int32) * b1) + x4).toNatClampNeg)) (fun v2 : Int32 =>
      gd (inb b2 26) (
      (f_X9_has (M (b0 + 1) b2.toNatClampNeg) x4).bind (fun u4 =>
      (if u4 = 0 then (if v2 ≤ (2 : Int32) then some (0 : Int32)
        else some v2)
      else some (0 : Int32)).bind (fun t5 : Int32 =>
      lt ((x3 + t5)) (fun v7 : Int32 =>
      lt (x4 + 1) (fun v8 : Int32 =>
      (lp_X9_lostOn_5 fu M b0 b1 b2 K n v7 v8)))))))))
def f_X9_lostOn (fu : Nat) (M : Mem) (k0 : Nat) (a1 : Int32) (a2 : Int32) : Option (Int32) :=
  (lp_X9_lostOn_5 fu M k0 a1 a2 (fun (v9 : Int32) =>
    gd (inb (3 : Int32) 4) (
    some (((M (k0 + 5) (3 : Int32).toNatClampNeg) * v9)))) fu (0 : Int32) (0 : Int32))
set_option maxHeartbeats 4000000 in
set_option maxRecDepth 100000 in
theorem lc_X9_lostOn_5 {p : Program} {l : Launch} {e : Env} {s : State} {m : MethodId} {args : Array Value} {below : List Frame} {meth : Method} {c : Code} {G : Gx} {M : Mem} {L : MemL} {fu : Nat} {b0 : Nat} {b1 : Int32} {b2 : Int32} {z : Int32} (S : Sx G true p s m args meth c cX9_lostOn 6 RX9) (hr : meth.sig.returnType = (Option.some Jvm.ClassFile.FieldType.int)) (hb0 : kd b0 = 20) (K : Int32 → Option (Int32)) (hK : ∀ (y3 : Int32) (H : Heap) (locs : List Loc), Dy G s M L H locs → ∀ ls : Array Slot, lv_has ls 6 [(0, .ref (ad G b0)), (3, .int y3)] → K y3 = some z → W p l e rm_X9_lostOn s m args below meth c H locs 0 0 (MQ below (Qi G z M L) args s 0 0 (gA G)) (F0 m 61 ls [])) :
    ∀ (n : Nat) (x3 : Int32) (x4 : Int32), lp_X9_lostOn_5 fu M b0 b1 b2 K n x3 x4 = some z → ∀ (H : Heap) (locs : List Loc), Dy G s M L H locs → ∀ ls : Array Slot, lv_has ls 6 [(0, .ref (ad G b0)), (1, .int b1), (2, .int b2), (3, .int x3), (4, .int x4)] → W p l e rm_X9_lostOn s m args below meth c H locs 0 0 (MQ below (Qi G z M L) args s 0 0 (gA G)) (F0 m 5 ls []) := by
  intro n
  induction n with
  | zero =>
    intro x3 x4 h
    have h : (none : Option (Int32)) = some z := h
    cases h
  | succ n ih =>
    intro x3 x4 h H locs d ls hl
    rw [lp_X9_lostOn_5] at h
    refine lv_iload S.1 S.2.1 dX9_lostOn_5 (lv_at hl 4 rfl) ?_
    refine lv_bipush (v := 15) S.1 S.2.1 dX9_lostOn_7 (by decide) ?_
    refine lv_icmp_ge (tgt := 61) S.1 S.2.1 dX9_lostOn_9 (by decide) (fun cc => ?_) (fun cc => ?_)
    · replace h := it_p cc h
      exact hK _ _ _ d _ (lv_sub hl [0, 3] rfl) h
    · replace h := it_n cc h
      refine lv_aload_n S.1 S.2.1 dX9_lostOn_12 rfl (lv_at hl 0 rfl) ?_
      refine gf_20_2 S d hb0 fl_RX9_16 dX9_lostOn_13 ?_
      refine lv_bipush (v := 15) S.1 S.2.1 dX9_lostOn_16 (by decide) ?_
      refine lv_iload_n S.1 S.2.1 dX9_lostOn_18 rfl (lv_at hl 1 rfl) ?_
      refine lv_imul S.1 S.2.1 dX9_lostOn_19 ?_
      refine lv_iload S.1 S.2.1 dX9_lostOn_20 (lv_at hl 4 rfl) ?_
      refine lv_iadd S.1 S.2.1 dX9_lostOn_22 ?_
      obtain ⟨g1, h⟩ := gd_e h
      refine r_iald S d (ksdM S (ch_20_2 hb0).1) (wc_21 (ch_20_2 hb0).1) (ch_20_2 hb0).2 g1 dX9_lostOn_23 ?_
      obtain ⟨v2, ev2, h⟩ := lt_e h
      refine r_top ev2 ?_
      refine lv_istore (lv' := [(5, .int v2), (0, .ref (ad G b0)), (1, .int b1), (2, .int b2), (3, .int x3), (4, .int x4)]) S.1 S.2.1 dX9_lostOn_24 hl (by decide) rfl (fun ls hl => ?_)
      refine lv_iload_n S.1 S.2.1 dX9_lostOn_26 rfl (lv_at hl 4 rfl) ?_
      refine lv_aload_n S.1 S.2.1 dX9_lostOn_27 rfl (lv_at hl 1 rfl) ?_
      refine gf_20_0 S d hb0 fl_RX9_7 dX9_lostOn_28 ?_
      refine lv_iload_n S.1 S.2.1 dX9_lostOn_31 rfl (lv_at hl 3 rfl) ?_
      obtain ⟨g3, h⟩ := gd_e h
      refine r_iald S d (ksdM S (ch_20_0 hb0).1) (wc_21 (ch_20_0 hb0).1) (ch_20_0 hb0).2 g3 dX9_lostOn_32 ?_
      refine lv_iload S.1 S.2.1 dX9_lostOn_33 (lv_at hl 5 rfl) ?_
      obtain ⟨u4, hu4, h⟩ := bd_e h
      refine r_ri d (r_cS (As := [.int (M (b0 + 1) b2.toNatClampNeg), .int x4]) (rest := [.int x3]) S d (c_X9_has l G M L (M (b0 + 1) b2.toNatClampNeg) x4 hu4) ml_RX9_117 sm_yX9_has in_RX9 co_yX9_has hyS_X9_has ⟨rfl, rfl⟩ ⟨by decide, by decide⟩ rfl hl rfl (Nat.le_of_ble_eq_true rfl) dX9_lostOn_35 ⟨Nat.zero_le _, Nat.zero_le _⟩) (fun H locs d => ?_)
      obtain ⟨t5, g6, h⟩ := bd_e h
      have Jt5 : ∀ (H : Heap) (locs : List Loc), Dy G s M L H locs → W p l e rm_X9_lostOn s m args below meth c H locs 0 0 (MQ below (Qi G z M L) args s 0 0 (gA G)) (F0 m 53 ls [.int t5, .int x3]) := by
        intro H locs d
        refine lv_iadd S.1 S.2.1 dX9_lostOn_53 ?_
        obtain ⟨v7, ev7, h⟩ := lt_e h
        refine r_top ev7 ?_
        refine lv_istore_n (lv' := [(3, .int v7), (5, .int v2), (0, .ref (ad G b0)), (1, .int b1), (2, .int b2), (4, .int x4)]) S.1 S.2.1 dX9_lostOn_54 rfl hl (by decide) rfl (fun ls hl => ?_)
        obtain ⟨v8, ev8, h⟩ := lt_e h
        refine lv_iinc (v := v8) (lv' := [(4, .int v8), (3, .int v7), (5, .int v2), (0, .ref (ad G b0)), (1, .int b1), (2, .int b2)]) S.1 S.2.1 dX9_lostOn_55 hl (k := 5) rfl (by rw [ev8]; rfl) (by decide) rfl (fun ls hl => ?_)
        refine lv_goto (tgt := 5) S.1 S.2.1 dX9_lostOn_58 (by decide) ?_
        exact ih _ _ h _ _ d _ (lv_sub hl [3, 4, 5, 1, 0] rfl)
      have h := g6
      refine lv_if_ne (tgt := 52) S.1 S.2.1 dX9_lostOn_38 (by decide) (fun cc => ?_) (fun cc => ?_)
      · replace h := it_n cc h
        refine lv_iconst (v := 0) S.1 S.2.1 dX9_lostOn_52 (by decide) ?_
        obtain ej := Option.some.inj h
        refine r_top ej.symm ?_
        exact Jt5 _ _ d
      · replace h := it_p cc h
        refine lv_iload S.1 S.2.1 dX9_lostOn_41 (lv_at hl 0 rfl) ?_
        refine lv_iconst (v := 2) S.1 S.2.1 dX9_lostOn_43 (by decide) ?_
        refine lv_icmp_le (tgt := 52) S.1 S.2.1 dX9_lostOn_44 (by decide) (fun cc => ?_) (fun cc => ?_)
        · replace h := it_p cc h
          refine lv_iconst (v := 0) S.1 S.2.1 dX9_lostOn_52 (by decide) ?_
          obtain ej := Option.some.inj h
          refine r_top ej.symm ?_
          exact Jt5 _ _ d
        · replace h := it_n cc h
          refine lv_iload S.1 S.2.1 dX9_lostOn_47 (lv_at hl 0 rfl) ?_
          refine lv_goto (tgt := 53) S.1 S.2.1 dX9_lostOn_49 (by decide) ?_
          obtain ej := Option.some.inj h
          refine r_top ej.symm ?_
          exact Jt5 _ _ d
set_option maxHeartbeats 4000000 in
set_option maxRecDepth 100000 in
theorem c_X9_lostOn (l : Launch) (G : Gx) (M : Mem) (L : MemL) (fu : Nat) (k0 : Nat) (a1 : Int32) (a2 : Int32) (hk0 : kd k0 = 20) {z : Int32} (h : f_X9_lostOn fu M k0 a1 a2 = some z) : Met l yX9_lostOn (.code yX9_lostOn cX9_lostOn 6 (Option.some Jvm.ClassFile.FieldType.int) :: UW) rm_X9_lostOn (va_Pc [.ref (ad G k0), .int a1, .int a2] (PreG G true M L)) (Qi G z M L) 0 0 (gA G) := by
  refine r_in (by decide) (fun p e s m args below meth c S hr d ha ls hl => ?_) (Nat.le_of_ble_eq_true rfl)
  have S : Sx G true p s m args meth c cX9_lostOn 6 RX9 := S
  have hl : lv_has ls 6 [(0, .ref (ad G k0)), (1, .int a1), (2, .int a2)] := hl
  unfold f_X9_lostOn at h
  refine lv_iconst (v := 0) S.1 S.2.1 dX9_lostOn_0 (by decide) ?_
  refine lv_istore_n (lv' := [(3, .int (0 : Int32)), (0, .ref (ad G k0)), (1, .int a1), (2, .int a2)]) S.1 S.2.1 dX9_lostOn_1 rfl hl (by decide) rfl (fun ls hl => ?_)
  refine lv_iconst (v := 0) S.1 S.2.1 dX9_lostOn_2 (by decide) ?_
  refine lv_istore (lv' := [(4, .int (0 : Int32)), (3, .int (0 : Int32)), (0, .ref (ad G k0)), (1, .int a1), (2, .int a2)]) S.1 S.2.1 dX9_lostOn_3 hl (by decide) rfl (fun ls hl => ?_)
  refine lc_X9_lostOn_5 S hr hk0 _ (fun v9 H locs d ls hl h => ?_) _ _ _  h _ _ d _ (lv_sub hl [2, 3, 4, 1, 0] rfl)
  refine lv_aload_n S.1 S.2.1 dX9_lostOn_61 rfl (lv_at hl 0 rfl) ?_
  refine gf_20_4 S d hk0 fl_RX9_22 dX9_lostOn_62 ?_
  refine lv_iconst (v := 3) S.1 S.2.1 dX9_lostOn_65 (by decide) ?_
  obtain ⟨g10, h⟩ := gd_e h
  refine r_iald S d (ksdM S (ch_20_4 hk0).1) (wc_21 (ch_20_4 hk0).1) (ch_20_4 hk0).2 g10 dX9_lostOn_66 ?_
  refine lv_iload_n S.1 S.2.1 dX9_lostOn_67 rfl (lv_at hl 1 rfl) ?_
  refine lv_imul S.1 S.2.1 dX9_lostOn_68 ?_
  obtain rfl := Option.some.inj h
  exact r_iret S d hr rfl rfl dX9_lostOn_69
theorem hyV_X9_lostBy : yX9_lostBy.cls = RX9 ∧ yX9_lostBy.cls ≠ "java/lang/invoke/MethodHandle" ∧ yX9_lostBy.cls ≠ "java/lang/invoke/VarHandle" ∧ (parseMethodDescriptor yX9_lostBy.desc).map (fun d => d.parameters.length) = some 2 := by decide +kernel
abbrev rm_X9_lostBy : Room := { frames := 2, cells := 0, slots := 0, locals := 46 }
def lp_X9_lostBy_5 (fu : Nat) (M : Mem) (b0 : Nat) (b1 : Int32) (b2 : Int32) (K : Int32 → Option (Int32)) : Nat → Int32 → Int32 → Option (Int32)
  | 0, _, _ => none
  | n + 1, x3, x4 =>
    (f_X9_sizeOf M b0 b1).bind (fun u1 =>
    (if u1 ≤ x4 then (K x3)
    else (f_X9_letterOf M b0 b1 x4).bind (fun u2 =>
      (f_X9_lostOn fu M b0 (b2 + x4) u2).bind (fun u3 =>
      lt ((x3 + u3)) (fun v4 : Int32 =>
      lt (x4 + 1) (fun v5 : Int32 =>
      (lp_X9_lostBy_5 fu M b0 b1 b2 K n v4 v5)))))))
def f_X9_lostBy (fu : Nat) (M : Mem) (k0 : Nat) (a1 : Int32) (a2 : Int32) : Option (Int32) :=
  (lp_X9_lostBy_5 fu M k0 a1 a2 (fun (v6 : Int32) =>
    some (v6)) fu (0 : Int32) (0 : Int32))
set_option maxHeartbeats 4000000 in
set_option maxRecDepth 100000 in
theorem lc_X9_lostBy_5 {p : Program} {l : Launch} {e : Env} {s : State} {m : MethodId} {args : Array Value} {below : List Frame} {meth : Method} {c : Code} {G : Gx} {M : Mem} {L : MemL} {fu : Nat} {b0 : Nat} {b1 : Int32} {b2 : Int32} {z : Int32} (S : Sx G true p s m args meth c cX9_lostBy 5 RX9) (hr : meth.sig.returnType = (Option.some Jvm.ClassFile.FieldType.int)) (hb0 : kd b0 = 20) (K : Int32 → Option (Int32)) (hK : ∀ (y3 : Int32) (H : Heap) (locs : List Loc), Dy G s M L H locs → ∀ ls : Array Slot, lv_has ls 5 [(3, .int y3)] → K y3 = some z → W p l e rm_X9_lostBy s m args below meth c H locs 0 0 (MQ below (Qi G z M L) args s 0 0 (gA G)) (F0 m 39 ls [])) :
    ∀ (n : Nat) (x3 : Int32) (x4 : Int32), lp_X9_lostBy_5 fu M b0 b1 b2 K n x3 x4 = some z → ∀ (H : Heap) (locs : List Loc), Dy G s M L H locs → ∀ ls : Array Slot, lv_has ls 5 [(0, .ref (ad G b0)), (1, .int b1), (2, .int b2), (3, .int x3), (4, .int x4)] → W p l e rm_X9_lostBy s m args below meth c H locs 0 0 (MQ below (Qi G z M L) args s 0 0 (gA G)) (F0 m 5 ls []) := by
  intro n
  induction n with
  | zero =>
    intro x3 x4 h
    have h : (none : Option (Int32)) = some z := h
    cases h
  | succ n ih =>
    intro x3 x4 h H locs d ls hl
    rw [lp_X9_lostBy_5] at h
    refine lv_iload S.1 S.2.1 dX9_lostBy_5 (lv_at hl 4 rfl) ?_
    refine lv_aload_n S.1 S.2.1 dX9_lostBy_7 rfl (lv_at hl 0 rfl) ?_
    refine lv_iload_n S.1 S.2.1 dX9_lostBy_8 rfl (lv_at hl 1 rfl) ?_
    obtain ⟨u1, hu1, h⟩ := bd_e h
    refine r_ri d (r_cV (As := [.int b1]) (rest := [.int x4]) S d (c_X9_sizeOf l G M L b0 b1 hb0 hu1) (ksdM S hb0) (wc_20 hb0) rfl ml_RX9_179 im_yX9_sizeOf se_yX9_sizeOf in_RX9 co_yX9_sizeOf hyV_X9_sizeOf ⟨rfl, rfl⟩ ⟨by decide, by decide⟩ rfl hl rfl (Nat.le_of_ble_eq_true rfl) dX9_lostBy_9 ⟨Nat.zero_le _, Nat.zero_le _⟩) (fun H locs d => ?_)
    refine lv_icmp_ge (tgt := 39) S.1 S.2.1 dX9_lostBy_12 (by decide) (fun cc => ?_) (fun cc => ?_)
    · replace h := it_p cc h
      exact hK _ _ _ d _ (lv_sub hl [3] rfl) h
    · replace h := it_n cc h
      refine lv_iload_n S.1 S.2.1 dX9_lostBy_15 rfl (lv_at hl 3 rfl) ?_
      refine lv_aload_n S.1 S.2.1 dX9_lostBy_16 rfl (lv_at hl 0 rfl) ?_
      refine lv_iload_n S.1 S.2.1 dX9_lostBy_17 rfl (lv_at hl 2 rfl) ?_
      refine lv_iload S.1 S.2.1 dX9_lostBy_18 (lv_at hl 4 rfl) ?_
      refine lv_iadd S.1 S.2.1 dX9_lostBy_20 ?_
      refine lv_aload_n S.1 S.2.1 dX9_lostBy_21 rfl (lv_at hl 0 rfl) ?_
      refine lv_iload_n S.1 S.2.1 dX9_lostBy_22 rfl (lv_at hl 1 rfl) ?_
      refine lv_iload S.1 S.2.1 dX9_lostBy_23 (lv_at hl 4 rfl) ?_
      obtain ⟨u2, hu2, h⟩ := bd_e h
      refine r_ri d (r_cV (As := [.int b1, .int x4]) (rest := [.int (b2 + x4), .ref (ad G b0), .int x3]) S d (c_X9_letterOf l G M L b0 b1 x4 hb0 hu2) (ksdM S hb0) (wc_20 hb0) rfl ml_RX9_185 im_yX9_letterOf se_yX9_letterOf in_RX9 co_yX9_letterOf hyV_X9_letterOf ⟨rfl, rfl⟩ ⟨by decide, by decide⟩ rfl hl rfl (Nat.le_of_ble_eq_true rfl) dX9_lostBy_25 ⟨Nat.zero_le _, Nat.zero_le _⟩) (fun H locs d => ?_)
      obtain ⟨u3, hu3, h⟩ := bd_e h
      refine r_ri d (r_cV (As := [.int (b2 + x4), .int u2]) (rest := [.int x3]) S d (c_X9_lostOn l G M L fu b0 (b2 + x4) u2 hb0 hu3) (ksdM S hb0) (wc_20 hb0) rfl ml_RX9_194 im_yX9_lostOn se_yX9_lostOn in_RX9 co_yX9_lostOn hyV_X9_lostOn ⟨rfl, rfl⟩ ⟨by decide, by decide⟩ rfl hl rfl (Nat.le_of_ble_eq_true rfl) dX9_lostBy_28 ⟨Nat.zero_le _, Nat.zero_le _⟩) (fun H locs d => ?_)
      refine lv_iadd S.1 S.2.1 dX9_lostBy_31 ?_
      obtain ⟨v4, ev4, h⟩ := lt_e h
      refine r_top ev4 ?_
      refine lv_istore_n (lv' := [(3, .int v4), (0, .ref (ad G b0)), (1, .int b1), (2, .int b2), (4, .int x4)]) S.1 S.2.1 dX9_lostBy_32 rfl hl (by decide) rfl (fun ls hl => ?_)
      obtain ⟨v5, ev5, h⟩ := lt_e h
      refine lv_iinc (v := v5) (lv' := [(4, .int v5), (3, .int v4), (0, .ref (ad G b0)), (1, .int b1), (2, .int b2)]) S.1 S.2.1 dX9_lostBy_33 hl (k := 4) rfl (by rw [ev5]; rfl) (by decide) rfl (fun ls hl => ?_)
      refine lv_goto (tgt := 5) S.1 S.2.1 dX9_lostBy_36 (by decide) ?_
      exact ih _ _ h _ _ d _ (lv_sub hl [2, 3, 4, 1, 0] rfl)
set_option maxHeartbeats 4000000 in
set_option maxRecDepth 100000 in
theorem c_X9_lostBy (l : Launch) (G : Gx) (M : Mem) (L : MemL) (fu : Nat) (k0 : Nat) (a1 : Int32) (a2 : Int32) (hk0 : kd k0 = 20) {z : Int32} (h : f_X9_lostBy fu M k0 a1 a2 = some z) : Met l yX9_lostBy (.code yX9_lostBy cX9_lostBy 5 (Option.some Jvm.ClassFile.FieldType.int) :: UW) rm_X9_lostBy (va_Pc [.ref (ad G k0), .int a1, .int a2] (PreG G true M L)) (Qi G z M L) 0 0 (gA G) := by
  refine r_in (by decide) (fun p e s m args below meth c S hr d ha ls hl => ?_) (Nat.le_of_ble_eq_true rfl)
  have S : Sx G true p s m args meth c cX9_lostBy 5 RX9 := S
  have hl : lv_has ls 5 [(0, .ref (ad G k0)), (1, .int a1), (2, .int a2)] := hl
  unfold f_X9_lostBy at h
  refine lv_iconst (v := 0) S.1 S.2.1 dX9_lostBy_0 (by decide) ?_
  refine lv_istore_n (lv' := [(3, .int (0 : Int32)), (0, .ref (ad G k0)), (1, .int a1), (2, .int a2)]) S.1 S.2.1 dX9_lostBy_1 rfl hl (by decide) rfl (fun ls hl => ?_)
  refine lv_iconst (v := 0) S.1 S.2.1 dX9_lostBy_2 (by decide) ?_
  refine lv_istore (lv' := [(4, .int (0 : Int32)), (3, .int (0 : Int32)), (0, .ref (ad G k0)), (1, .int a1), (2, .int a2)]) S.1 S.2.1 dX9_lostBy_3 hl (by decide) rfl (fun ls hl => ?_)
  refine lc_X9_lostBy_5 S hr hk0 _ (fun v6 H locs d ls hl h => ?_) _ _ _  h _ _ d _ (lv_sub hl [2, 3, 4, 1, 0] rfl)
  refine lv_iload_n S.1 S.2.1 dX9_lostBy_39 rfl (lv_at hl 0 rfl) ?_
  obtain rfl := Option.some.inj h
  exact r_iret S d hr rfl rfl dX9_lostBy_40
theorem hyV_X9_lost : yX9_lost.cls = RX9 ∧ yX9_lost.cls ≠ "java/lang/invoke/MethodHandle" ∧ yX9_lost.cls ≠ "java/lang/invoke/VarHandle" ∧ (parseMethodDescriptor yX9_lost.desc).map (fun d => d.parameters.length) = some 2 := by decide +kernel
abbrev rm_X9_lost : Room := { frames := 3, cells := 0, slots := 0, locals := 70 }
def f_X9_lost (fu : Nat) (M : Mem) (k0 : Nat) (a1 : Int32) (a2 : Int32) : Option (Int32) :=
  (f_X9_isWord M k0 a1).bind (fun u1 =>
  (if u1 = 0 then some ((-1 : Int32))
  else (f_X9_isStrip M k0 a2).bind (fun u2 =>
    (if u2 = 0 then some ((-1 : Int32))
    else (f_X9_hasRoom M k0 a1 a2).bind (fun u3 =>
      (if u3 = 0 then some ((-2 : Int32))
      else (f_X9_lostBy fu M k0 a1 a2).bind (fun u4 =>
        some (u4))))))))
set_option maxHeartbeats 4000000 in
set_option maxRecDepth 100000 in
theorem c_X9_lost (l : Launch) (G : Gx) (M : Mem) (L : MemL) (fu : Nat) (k0 : Nat) (a1 : Int32) (a2 : Int32) (hk0 : kd k0 = 20) {z : Int32} (h : f_X9_lost fu M k0 a1 a2 = some z) : Met l yX9_lost (.code yX9_lost cX9_lost 3 (Option.some Jvm.ClassFile.FieldType.int) :: UW) rm_X9_lost (va_Pc [.ref (ad G k0), .int a1, .int a2] (PreG G true M L)) (Qi G z M L) 0 0 (gA G) := by
  refine r_in (by decide) (fun p e s m args below meth c S hr d ha ls hl => ?_) (Nat.le_of_ble_eq_true rfl)
  have S : Sx G true p s m args meth c cX9_lost 3 RX9 := S
  have hl : lv_has ls 3 [(0, .ref (ad G k0)), (1, .int a1), (2, .int a2)] := hl
  unfold f_X9_lost at h
  refine lv_aload_n S.1 S.2.1 dX9_lost_0 rfl (lv_at hl 0 rfl) ?_
  refine lv_iload_n S.1 S.2.1 dX9_lost_1 rfl (lv_at hl 1 rfl) ?_
  obtain ⟨u1, hu1, h⟩ := bd_e h
  refine r_ri d (r_cV (As := [.int a1]) (rest := []) S d (c_X9_isWord l G M L k0 a1 hk0 hu1) (ksdM S hk0) (wc_20 hk0) rfl ml_RX9_174 im_yX9_isWord se_yX9_isWord in_RX9 co_yX9_isWord hyV_X9_isWord ⟨rfl, rfl⟩ ⟨by decide, by decide⟩ rfl hl rfl (Nat.le_of_ble_eq_true rfl) dX9_lost_2 ⟨Nat.zero_le _, Nat.zero_le _⟩) (fun H locs d => ?_)
  refine lv_if_eq (tgt := 16) S.1 S.2.1 dX9_lost_5 (by decide) (fun cc => ?_) (fun cc => ?_)
  · replace h := it_p cc h
    refine lv_iconst (v := (-1)) S.1 S.2.1 dX9_lost_16 (by decide) ?_
    refine lv_goto (tgt := 40) S.1 S.2.1 dX9_lost_17 (by decide) ?_
    obtain rfl := Option.some.inj h
    exact r_iret S d hr rfl rfl dX9_lost_40
  · replace h := it_n cc h
    refine lv_aload_n S.1 S.2.1 dX9_lost_8 rfl (lv_at hl 0 rfl) ?_
    refine lv_iload_n S.1 S.2.1 dX9_lost_9 rfl (lv_at hl 2 rfl) ?_
    obtain ⟨u2, hu2, h⟩ := bd_e h
    refine r_ri d (r_cV (As := [.int a2]) (rest := []) S d (c_X9_isStrip l G M L k0 a2 hk0 hu2) (ksdM S hk0) (wc_20 hk0) rfl ml_RX9_94 im_yX9_isStrip se_yX9_isStrip in_RX9 co_yX9_isStrip hyV_X9_isStrip ⟨rfl, rfl⟩ ⟨by decide, by decide⟩ rfl hl rfl (Nat.le_of_ble_eq_true rfl) dX9_lost_10 ⟨Nat.zero_le _, Nat.zero_le _⟩) (fun H locs d => ?_)
    refine lv_if_ne (tgt := 20) S.1 S.2.1 dX9_lost_13 (by decide) (fun cc => ?_) (fun cc => ?_)
    · replace h := it_n cc h
      refine lv_aload_n S.1 S.2.1 dX9_lost_20 rfl (lv_at hl 0 rfl) ?_
      refine lv_iload_n S.1 S.2.1 dX9_lost_21 rfl (lv_at hl 1 rfl) ?_
      refine lv_iload_n S.1 S.2.1 dX9_lost_22 rfl (lv_at hl 2 rfl) ?_
      obtain ⟨u3, hu3, h⟩ := bd_e h
      refine r_ri d (r_cV (As := [.int a1, .int a2]) (rest := []) S d (c_X9_hasRoom l G M L k0 a1 a2 hk0 hu3) (ksdM S hk0) (wc_20 hk0) rfl ml_RX9_182 im_yX9_hasRoom se_yX9_hasRoom in_RX9 co_yX9_hasRoom hyV_X9_hasRoom ⟨rfl, rfl⟩ ⟨by decide, by decide⟩ rfl hl rfl (Nat.le_of_ble_eq_true rfl) dX9_lost_23 ⟨Nat.zero_le _, Nat.zero_le _⟩) (fun H locs d => ?_)
      refine lv_if_eq (tgt := 38) S.1 S.2.1 dX9_lost_26 (by decide) (fun cc => ?_) (fun cc => ?_)
      · replace h := it_p cc h
        refine lv_bipush (v := (-2)) S.1 S.2.1 dX9_lost_38 (by decide) ?_
        obtain rfl := Option.some.inj h
        exact r_iret S d hr rfl rfl dX9_lost_40
      · replace h := it_n cc h
        refine lv_aload_n S.1 S.2.1 dX9_lost_29 rfl (lv_at hl 0 rfl) ?_
        refine lv_iload_n S.1 S.2.1 dX9_lost_30 rfl (lv_at hl 1 rfl) ?_
        refine lv_iload_n S.1 S.2.1 dX9_lost_31 rfl (lv_at hl 2 rfl) ?_
        obtain ⟨u4, hu4, h⟩ := bd_e h
        refine r_ri d (r_cV (As := [.int a1, .int a2]) (rest := []) S d (c_X9_lostBy l G M L fu k0 a1 a2 hk0 hu4) (ksdM S hk0) (wc_20 hk0) rfl ml_RX9_197 im_yX9_lostBy se_yX9_lostBy in_RX9 co_yX9_lostBy hyV_X9_lostBy ⟨rfl, rfl⟩ ⟨by decide, by decide⟩ rfl hl rfl (Nat.le_of_ble_eq_true rfl) dX9_lost_32 ⟨Nat.zero_le _, Nat.zero_le _⟩) (fun H locs d => ?_)
        refine lv_goto (tgt := 40) S.1 S.2.1 dX9_lost_35 (by decide) ?_
        obtain rfl := Option.some.inj h
        exact r_iret S d hr rfl rfl dX9_lost_40
    · replace h := it_p cc h
      refine lv_iconst (v := (-1)) S.1 S.2.1 dX9_lost_16 (by decide) ?_
      refine lv_goto (tgt := 40) S.1 S.2.1 dX9_lost_17 (by decide) ?_
      obtain rfl := Option.some.inj h
      exact r_iret S d hr rfl rfl dX9_lost_40
theorem hyV_X9_findRow : yX9_findRow.cls = RX9 ∧ yX9_findRow.cls ≠ "java/lang/invoke/MethodHandle" ∧ yX9_findRow.cls ≠ "java/lang/invoke/VarHandle" ∧ (parseMethodDescriptor yX9_findRow.desc).map (fun d => d.parameters.length) = some 0 := by decide +kernel
abbrev rm_X9_findRow : Room := { frames := 1, cells := 0, slots := 0, locals := 21 }
def lp_X9_findRow_37 (fu : Nat) (b0 : Nat) (b1 : Int32) (K : Mem → Option (Mem)) : Nat → Int32 → Mem → Option (Mem)
  | 0, _, _ => none
  | n + 1, x2, Mx =>
    (if (Mx b0 8) ≤ x2 then (K Mx)
    else gd (inb (((10 : Int32) * b1) + x2) 90) (
      (if (Mx (b0 + 12) (((10 : Int32) * b1) + x2).toNatClampNeg) = (1 : Int32) then gd (inb (((10 : Int32) * b1) + x2) 90) (
        (f_X9_sizeOf Mx b0 x2).bind (fun u9 =>
        gd (inb (b1 + u9) 10) (
        lt (((Mx (b0 + 13) (((10 : Int32) * b1) + x2).toNatClampNeg) + (Mx (b0 + 10) (b1 + u9).toNatClampNeg))) (fun v11 : Int32 =>
        gd (inb b1 10) (
        (if v11 ≤ (Mx (b0 + 10) b1.toNatClampNeg) then gd (inb b1 10) (
          some (Mx (b0 + 10) b1.toNatClampNeg))
        else some v11).bind (fun t13 : Int32 =>
        gd (inb b1 10) (
        lt (up Mx (b0 + 10) b1.toNatClampNeg t13) (fun M17 : Mem =>
        lt (x2 + 1) (fun v18 : Int32 =>
        (lp_X9_findRow_37 fu b0 b1 K n v18 M17))))))))))
      else lt (x2 + 1) (fun v19 : Int32 =>
        (lp_X9_findRow_37 fu b0 b1 K n v19 Mx)))))
def lp_X9_findRow_17 (fu : Nat) (b0 : Nat) (K : Mem → Option (Mem)) : Nat → Int32 → Mem → Option (Mem)
  | 0, _, _ => none
  | n + 1, x1, Mx =>
    (if x1 < 0 then (K Mx)
    else gd (inb (x1 + (1 : Int32)) 10) (
      gd (inb x1 10) (
      lt (up Mx (b0 + 10) x1.toNatClampNeg (Mx (b0 + 10) (x1 + (1 : Int32)).toNatClampNeg)) (fun M6 : Mem =>
      (lp_X9_findRow_37 fu b0 x1 (fun (M20 : Mem) =>
        lt (x1 + (-1)) (fun v21 : Int32 =>
        (lp_X9_findRow_17 fu b0 K n v21 M20))) fu (0 : Int32) M6)))))
def lp_X9_findRow_148 (fu : Nat) (M : Mem) (b0 : Nat) (b1 : Int32) (K : Int32 → Option (Mem)) : Nat → Int32 → Int32 → Option (Mem)
  | 0, _, _ => none
  | n + 1, x2, x3 =>
    (if x3 < 0 then (K x2)
    else gd (inb (((10 : Int32) * b1) + x3) 90) (
      (if (M (b0 + 12) (((10 : Int32) * b1) + x3).toNatClampNeg) = (1 : Int32) then gd (inb (((10 : Int32) * b1) + x3) 90) (
        (f_X9_sizeOf M b0 x3).bind (fun u29 =>
        gd (inb (b1 + u29) 10) (
        gd (inb b1 10) (
        (if ((M (b0 + 13) (((10 : Int32) * b1) + x3).toNatClampNeg) + (M (b0 + 10) (b1 + u29).toNatClampNeg)) = (M (b0 + 10) b1.toNatClampNeg) then some (1 : Int32)
        else some (0 : Int32))))))
      else some (0 : Int32)).bind (fun t26 : Int32 =>
      (if t26 = 0 then some x2
      else some x3).bind (fun t32 : Int32 =>
      lt (x3 + (-1)) (fun v34 : Int32 =>
      (lp_X9_findRow_148 fu M b0 b1 K n t32 v34))))))
def lp_X9_findRow_130 (fu : Nat) (b0 : Nat) (K : Mem → Option (Mem)) : Nat → Int32 → Mem → Option (Mem)
  | 0, _, _ => none
  | n + 1, x1, Mx =>
    (if (Mx b0 7) ≤ x1 then (K Mx)
    else lt (((Mx b0 8) - (1 : Int32))) (fun v24 : Int32 =>
      (lp_X9_findRow_148 fu Mx b0 x1 (fun (v35 : Int32) =>
        (if v35 < 0 then (if 0 ≤ v35 then (f_X9_sizeOf Mx b0 v35).bind (fun u45 =>
            some u45)
          else some (1 : Int32)).bind (fun t43 : Int32 =>
          lt ((x1 + t43)) (fun v46 : Int32 =>
          (lp_X9_findRow_130 fu b0 K n v46 Mx)))
        else gd (inb (Mx b0 16) 9) (
          lt (up Mx (b0 + 11) (Mx b0 16).toNatClampNeg (((10 : Int32) * x1) + v35)) (fun M37 : Mem =>
          lt (up M37 b0 16 ((M37 b0 16) + (1 : Int32))) (fun M38 : Mem =>
          (if 0 ≤ v35 then (f_X9_sizeOf M38 b0 v35).bind (fun u41 =>
            some u41)
          else some (1 : Int32)).bind (fun t39 : Int32 =>
          lt ((x1 + t39)) (fun v42 : Int32 =>
          (lp_X9_findRow_130 fu b0 K n v42 M38)))))))) fu (-4 : Int32) v24)))
def f_X9_findRow (fu : Nat) (M : Mem) (k0 : Nat) : Option (Mem) :=
  gd (inb (M k0 7) 10) (
  lt (up M (k0 + 10) (M k0 7).toNatClampNeg (0 : Int32)) (fun M2 : Mem =>
  lt (((M2 k0 7) - (1 : Int32))) (fun v3 : Int32 =>
  (lp_X9_findRow_17 fu k0 (fun (M22 : Mem) =>
    lt (up M22 k0 16 (0 : Int32)) (fun M23 : Mem =>
    (lp_X9_findRow_130 fu k0 (fun (M47 : Mem) =>
      some (M47)) fu (0 : Int32) M23))) fu v3 M2))))
set_option maxHeartbeats 4000000 in
set_option maxRecDepth 100000 in
theorem lc_X9_findRow_37 {p : Program} {l : Launch} {e : Env} {s : State} {m : MethodId} {args : Array Value} {below : List Frame} {meth : Method} {c : Code} {G : Gx} {L : MemL} {fu : Nat} {b0 : Nat} {b1 : Int32} {z : Mem} (S : Sx G true p s m args meth c cX9_findRow 5 RX9) (hr : meth.sig.returnType = (Option.none : Option Jvm.ClassFile.FieldType)) (hb0 : kd b0 = 20) (K : Mem → Option (Mem)) (hK : ∀ (My : Mem) (H : Heap) (locs : List Loc), Dy G s My L H locs → ∀ ls : Array Slot, lv_has ls 5 [(0, .ref (ad G b0)), (1, .int b1)] → K My = some z → W p l e rm_X9_findRow s m args below meth c H locs 0 0 (MQ below (Qv G z L) args s 0 0 (gA G)) (F0 m 117 ls [])) :
    ∀ (n : Nat) (x2 : Int32) (Mx : Mem), lp_X9_findRow_37 fu b0 b1 K n x2 Mx = some z → ∀ (H : Heap) (locs : List Loc), Dy G s Mx L H locs → ∀ ls : Array Slot, lv_has ls 5 [(0, .ref (ad G b0)), (1, .int b1), (2, .int x2)] → W p l e rm_X9_findRow s m args below meth c H locs 0 0 (MQ below (Qv G z L) args s 0 0 (gA G)) (F0 m 37 ls []) := by
  intro n
  induction n with
  | zero =>
    intro x2 Mx h
    have h : (none : Option (Mem)) = some z := h
    cases h
  | succ n ih =>
    intro x2 Mx h H locs d ls hl
    rw [lp_X9_findRow_37] at h
    refine lv_iload_n S.1 S.2.1 dX9_findRow_37 rfl (lv_at hl 2 rfl) ?_
    refine lv_aload_n S.1 S.2.1 dX9_findRow_38 rfl (lv_at hl 0 rfl) ?_
    refine gf_20_8 S d hb0 fl_RX9_83 dX9_findRow_39 ?_
    refine lv_icmp_ge (tgt := 117) S.1 S.2.1 dX9_findRow_42 (by decide) (fun cc => ?_) (fun cc => ?_)
    · replace h := it_p cc h
      exact hK _ _ _ d _ (lv_sub hl [0, 1] rfl) h
    · replace h := it_n cc h
      refine lv_aload_n S.1 S.2.1 dX9_findRow_45 rfl (lv_at hl 0 rfl) ?_
      refine gf_20_17 S d hb0 fl_RX9_43 dX9_findRow_46 ?_
      refine lv_bipush (v := 10) S.1 S.2.1 dX9_findRow_49 (by decide) ?_
      refine lv_iload_n S.1 S.2.1 dX9_findRow_51 rfl (lv_at hl 1 rfl) ?_
      refine lv_imul S.1 S.2.1 dX9_findRow_52 ?_
      refine lv_iload_n S.1 S.2.1 dX9_findRow_53 rfl (lv_at hl 2 rfl) ?_
      refine lv_iadd S.1 S.2.1 dX9_findRow_54 ?_
      obtain ⟨g7, h⟩ := gd_e h
      refine r_iald S d (ksdM S (ch_20_17 hb0).1) (wc_21 (ch_20_17 hb0).1) (ch_20_17 hb0).2 g7 dX9_findRow_55 ?_
      refine lv_iconst (v := 1) S.1 S.2.1 dX9_findRow_56 (by decide) ?_
      refine lv_icmp_ne (tgt := 111) S.1 S.2.1 dX9_findRow_57 (by decide) (fun cc => ?_) (fun cc => ?_)
      · replace h := it_n cc h
        obtain ⟨v19, ev19, h⟩ := lt_e h
        refine lv_iinc (v := v19) (lv' := [(2, .int v19), (0, .ref (ad G b0)), (1, .int b1)]) S.1 S.2.1 dX9_findRow_111 hl (k := 2) rfl (by rw [ev19]; rfl) (by decide) rfl (fun ls hl => ?_)
        refine lv_goto (tgt := 37) S.1 S.2.1 dX9_findRow_114 (by decide) ?_
        exact ih _ _ h _ _ d _ (lv_sub hl [1, 2, 0] rfl)
      · replace h := it_p cc h
        refine lv_aload_n S.1 S.2.1 dX9_findRow_60 rfl (lv_at hl 0 rfl) ?_
        refine gf_20_18 S d hb0 fl_RX9_46 dX9_findRow_61 ?_
        refine lv_bipush (v := 10) S.1 S.2.1 dX9_findRow_64 (by decide) ?_
        refine lv_iload_n S.1 S.2.1 dX9_findRow_66 rfl (lv_at hl 1 rfl) ?_
        refine lv_imul S.1 S.2.1 dX9_findRow_67 ?_
        refine lv_iload_n S.1 S.2.1 dX9_findRow_68 rfl (lv_at hl 2 rfl) ?_
        refine lv_iadd S.1 S.2.1 dX9_findRow_69 ?_
        obtain ⟨g8, h⟩ := gd_e h
        refine r_iald S d (ksdM S (ch_20_18 hb0).1) (wc_21 (ch_20_18 hb0).1) (ch_20_18 hb0).2 g8 dX9_findRow_70 ?_
        refine lv_aload_n S.1 S.2.1 dX9_findRow_71 rfl (lv_at hl 0 rfl) ?_
        refine gf_20_14 S d hb0 fl_RX9_37 dX9_findRow_72 ?_
        refine lv_iload_n S.1 S.2.1 dX9_findRow_75 rfl (lv_at hl 1 rfl) ?_
        refine lv_aload_n S.1 S.2.1 dX9_findRow_76 rfl (lv_at hl 0 rfl) ?_
        refine lv_iload_n S.1 S.2.1 dX9_findRow_77 rfl (lv_at hl 2 rfl) ?_
        obtain ⟨u9, hu9, h⟩ := bd_e h
        refine r_ri d (r_cV (As := [.int x2]) (rest := [.int b1, .ref (ad G (b0 + 10)), .int (Mx (b0 + 13) (((10 : Int32) * b1) + x2).toNatClampNeg)]) S d (c_X9_sizeOf l G Mx L b0 x2 hb0 hu9) (ksdM S hb0) (wc_20 hb0) rfl ml_RX9_179 im_yX9_sizeOf se_yX9_sizeOf in_RX9 co_yX9_sizeOf hyV_X9_sizeOf ⟨rfl, rfl⟩ ⟨by decide, by decide⟩ rfl hl rfl (Nat.le_of_ble_eq_true rfl) dX9_findRow_78 ⟨Nat.zero_le _, Nat.zero_le _⟩) (fun H locs d => ?_)
        refine lv_iadd S.1 S.2.1 dX9_findRow_81 ?_
        obtain ⟨g10, h⟩ := gd_e h
        refine r_iald S d (ksdM S (ch_20_14 hb0).1) (wc_21 (ch_20_14 hb0).1) (ch_20_14 hb0).2 g10 dX9_findRow_82 ?_
        refine lv_iadd S.1 S.2.1 dX9_findRow_83 ?_
        obtain ⟨v11, ev11, h⟩ := lt_e h
        refine r_top ev11 ?_
        refine lv_istore_n (lv' := [(3, .int v11), (0, .ref (ad G b0)), (1, .int b1), (2, .int x2)]) S.1 S.2.1 dX9_findRow_84 rfl hl (by decide) rfl (fun ls hl => ?_)
        refine lv_aload_n S.1 S.2.1 dX9_findRow_85 rfl (lv_at hl 1 rfl) ?_
        refine gf_20_14 S d hb0 fl_RX9_37 dX9_findRow_86 ?_
        refine lv_iload_n S.1 S.2.1 dX9_findRow_89 rfl (lv_at hl 2 rfl) ?_
        refine lv_iload_n S.1 S.2.1 dX9_findRow_90 rfl (lv_at hl 0 rfl) ?_
        refine lv_aload_n S.1 S.2.1 dX9_findRow_91 rfl (lv_at hl 1 rfl) ?_
        refine gf_20_14 S d hb0 fl_RX9_37 dX9_findRow_92 ?_
        refine lv_iload_n S.1 S.2.1 dX9_findRow_95 rfl (lv_at hl 2 rfl) ?_
        obtain ⟨g12, h⟩ := gd_e h
        refine r_iald S d (ksdM S (ch_20_14 hb0).1) (wc_21 (ch_20_14 hb0).1) (ch_20_14 hb0).2 g12 dX9_findRow_96 ?_
        obtain ⟨t13, g14, h⟩ := bd_e h
        have Jt13 : ∀ (H : Heap) (locs : List Loc), Dy G s Mx L H locs → W p l e rm_X9_findRow s m args below meth c H locs 0 0 (MQ below (Qv G z L) args s 0 0 (gA G)) (F0 m 110 ls [.int t13, .int b1, .ref (ad G (b0 + 10))]) := by
          intro H locs d
          obtain ⟨g16, h⟩ := gd_e h
          obtain ⟨M17, eM17, h⟩ := lt_e h
          refine r_iast S d eM17 (ksdM S (ch_20_14 hb0).1) (fun _ => wc_21 (ch_20_14 hb0).1) (ch_20_14 hb0).2 g16 dX9_findRow_110 (fun H locs d => ?_)
          obtain ⟨v18, ev18, h⟩ := lt_e h
          refine lv_iinc (v := v18) (lv' := [(2, .int v18), (3, .int v11), (0, .ref (ad G b0)), (1, .int b1)]) S.1 S.2.1 dX9_findRow_111 hl (k := 3) rfl (by rw [ev18]; rfl) (by decide) rfl (fun ls hl => ?_)
          refine lv_goto (tgt := 37) S.1 S.2.1 dX9_findRow_114 (by decide) ?_
          exact ih _ _ h _ _ d _ (lv_sub hl [2, 3, 0] rfl)
        have h := g14
        refine lv_icmp_le (tgt := 104) S.1 S.2.1 dX9_findRow_97 (by decide) (fun cc => ?_) (fun cc => ?_)
        · replace h := it_p cc h
          refine lv_aload_n S.1 S.2.1 dX9_findRow_104 rfl (lv_at hl 1 rfl) ?_
          refine gf_20_14 S d hb0 fl_RX9_37 dX9_findRow_105 ?_
          refine lv_iload_n S.1 S.2.1 dX9_findRow_108 rfl (lv_at hl 2 rfl) ?_
          obtain ⟨g15, h⟩ := gd_e h
          refine r_iald S d (ksdM S (ch_20_14 hb0).1) (wc_21 (ch_20_14 hb0).1) (ch_20_14 hb0).2 g15 dX9_findRow_109 ?_
          obtain ej := Option.some.inj h
          refine r_top ej.symm ?_
          exact Jt13 _ _ d
        · replace h := it_n cc h
          refine lv_iload_n S.1 S.2.1 dX9_findRow_100 rfl (lv_at hl 0 rfl) ?_
          refine lv_goto (tgt := 110) S.1 S.2.1 dX9_findRow_101 (by decide) ?_
          obtain ej := Option.some.inj h
          refine r_top ej.symm ?_
          exact Jt13 _ _ d
set_option maxHeartbeats 4000000 in
set_option maxRecDepth 100000 in
theorem lc_X9_findRow_17 {p : Program} {l : Launch} {e : Env} {s : State} {m : MethodId} {args : Array Value} {below : List Frame} {meth : Method} {c : Code} {G : Gx} {L : MemL} {fu : Nat} {b0 : Nat} {z : Mem} (S : Sx G true p s m args meth c cX9_findRow 5 RX9) (hr : meth.sig.returnType = (Option.none : Option Jvm.ClassFile.FieldType)) (hb0 : kd b0 = 20) (K : Mem → Option (Mem)) (hK : ∀ (My : Mem) (H : Heap) (locs : List Loc), Dy G s My L H locs → ∀ ls : Array Slot, lv_has ls 5 [(0, .ref (ad G b0))] → K My = some z → W p l e rm_X9_findRow s m args below meth c H locs 0 0 (MQ below (Qv G z L) args s 0 0 (gA G)) (F0 m 123 ls [])) :
    ∀ (n : Nat) (x1 : Int32) (Mx : Mem), lp_X9_findRow_17 fu b0 K n x1 Mx = some z → ∀ (H : Heap) (locs : List Loc), Dy G s Mx L H locs → ∀ ls : Array Slot, lv_has ls 5 [(0, .ref (ad G b0)), (1, .int x1)] → W p l e rm_X9_findRow s m args below meth c H locs 0 0 (MQ below (Qv G z L) args s 0 0 (gA G)) (F0 m 17 ls []) := by
  intro n
  induction n with
  | zero =>
    intro x1 Mx h
    have h : (none : Option (Mem)) = some z := h
    cases h
  | succ n ih =>
    intro x1 Mx h H locs d ls hl
    rw [lp_X9_findRow_17] at h
    refine lv_iload_n S.1 S.2.1 dX9_findRow_17 rfl (lv_at hl 1 rfl) ?_
    refine lv_if_lt (tgt := 123) S.1 S.2.1 dX9_findRow_18 (by decide) (fun cc => ?_) (fun cc => ?_)
    · replace h := it_p cc h
      exact hK _ _ _ d _ (lv_sub hl [0] rfl) h
    · replace h := it_n cc h
      refine lv_aload_n S.1 S.2.1 dX9_findRow_21 rfl (lv_at hl 0 rfl) ?_
      refine gf_20_14 S d hb0 fl_RX9_37 dX9_findRow_22 ?_
      refine lv_iload_n S.1 S.2.1 dX9_findRow_25 rfl (lv_at hl 1 rfl) ?_
      refine lv_aload_n S.1 S.2.1 dX9_findRow_26 rfl (lv_at hl 0 rfl) ?_
      refine gf_20_14 S d hb0 fl_RX9_37 dX9_findRow_27 ?_
      refine lv_iload_n S.1 S.2.1 dX9_findRow_30 rfl (lv_at hl 1 rfl) ?_
      refine lv_iconst (v := 1) S.1 S.2.1 dX9_findRow_31 (by decide) ?_
      refine lv_iadd S.1 S.2.1 dX9_findRow_32 ?_
      obtain ⟨g4, h⟩ := gd_e h
      refine r_iald S d (ksdM S (ch_20_14 hb0).1) (wc_21 (ch_20_14 hb0).1) (ch_20_14 hb0).2 g4 dX9_findRow_33 ?_
      obtain ⟨g5, h⟩ := gd_e h
      obtain ⟨M6, eM6, h⟩ := lt_e h
      refine r_iast S d eM6 (ksdM S (ch_20_14 hb0).1) (fun _ => wc_21 (ch_20_14 hb0).1) (ch_20_14 hb0).2 g5 dX9_findRow_34 (fun H locs d => ?_)
      refine lv_iconst (v := 0) S.1 S.2.1 dX9_findRow_35 (by decide) ?_
      refine lv_istore_n (lv' := [(2, .int (0 : Int32)), (0, .ref (ad G b0)), (1, .int x1)]) S.1 S.2.1 dX9_findRow_36 rfl hl (by decide) rfl (fun ls hl => ?_)
      refine lc_X9_findRow_37 S hr hb0 _ (fun M20 H locs d ls hl h => ?_) _ _ _  h _ _ d _ (lv_sub hl [1, 2, 0] rfl)
      obtain ⟨v21, ev21, h⟩ := lt_e h
      refine lv_iinc (v := v21) (lv' := [(1, .int v21), (0, .ref (ad G b0))]) S.1 S.2.1 dX9_findRow_117 hl (k := 1) rfl (by rw [ev21]; rfl) (by decide) rfl (fun ls hl => ?_)
      refine lv_goto (tgt := 17) S.1 S.2.1 dX9_findRow_120 (by decide) ?_
      exact ih _ _ h _ _ d _ (lv_sub hl [1, 0] rfl)
set_option maxHeartbeats 4000000 in
set_option maxRecDepth 100000 in
theorem lc_X9_findRow_148 {p : Program} {l : Launch} {e : Env} {s : State} {m : MethodId} {args : Array Value} {below : List Frame} {meth : Method} {c : Code} {G : Gx} {M : Mem} {L : MemL} {fu : Nat} {b0 : Nat} {b1 : Int32} {z : Mem} (S : Sx G true p s m args meth c cX9_findRow 5 RX9) (hr : meth.sig.returnType = (Option.none : Option Jvm.ClassFile.FieldType)) (hb0 : kd b0 = 20) (K : Int32 → Option (Mem)) (hK : ∀ (y2 : Int32) (H : Heap) (locs : List Loc), Dy G s M L H locs → ∀ ls : Array Slot, lv_has ls 5 [(0, .ref (ad G b0)), (1, .int b1), (2, .int y2)] → K y2 = some z → W p l e rm_X9_findRow s m args below meth c H locs 0 0 (MQ below (Qv G z L) args s 0 0 (gA G)) (F0 m 224 ls [])) :
    ∀ (n : Nat) (x2 : Int32) (x3 : Int32), lp_X9_findRow_148 fu M b0 b1 K n x2 x3 = some z → ∀ (H : Heap) (locs : List Loc), Dy G s M L H locs → ∀ ls : Array Slot, lv_has ls 5 [(0, .ref (ad G b0)), (1, .int b1), (2, .int x2), (3, .int x3)] → W p l e rm_X9_findRow s m args below meth c H locs 0 0 (MQ below (Qv G z L) args s 0 0 (gA G)) (F0 m 148 ls []) := by
  intro n
  induction n with
  | zero =>
    intro x2 x3 h
    have h : (none : Option (Mem)) = some z := h
    cases h
  | succ n ih =>
    intro x2 x3 h H locs d ls hl
    rw [lp_X9_findRow_148] at h
    refine lv_iload_n S.1 S.2.1 dX9_findRow_148 rfl (lv_at hl 3 rfl) ?_
    refine lv_if_lt (tgt := 224) S.1 S.2.1 dX9_findRow_149 (by decide) (fun cc => ?_) (fun cc => ?_)
    · replace h := it_p cc h
      exact hK _ _ _ d _ (lv_sub hl [0, 1, 2] rfl) h
    · replace h := it_n cc h
      refine lv_aload_n S.1 S.2.1 dX9_findRow_152 rfl (lv_at hl 0 rfl) ?_
      refine gf_20_17 S d hb0 fl_RX9_43 dX9_findRow_153 ?_
      refine lv_bipush (v := 10) S.1 S.2.1 dX9_findRow_156 (by decide) ?_
      refine lv_iload_n S.1 S.2.1 dX9_findRow_158 rfl (lv_at hl 1 rfl) ?_
      refine lv_imul S.1 S.2.1 dX9_findRow_159 ?_
      refine lv_iload_n S.1 S.2.1 dX9_findRow_160 rfl (lv_at hl 3 rfl) ?_
      refine lv_iadd S.1 S.2.1 dX9_findRow_161 ?_
      obtain ⟨g25, h⟩ := gd_e h
      refine r_iald S d (ksdM S (ch_20_17 hb0).1) (wc_21 (ch_20_17 hb0).1) (ch_20_17 hb0).2 g25 dX9_findRow_162 ?_
      refine lv_iconst (v := 1) S.1 S.2.1 dX9_findRow_163 (by decide) ?_
      obtain ⟨t26, g27, h⟩ := bd_e h
      have Jt26 : ∀ (H : Heap) (locs : List Loc), Dy G s M L H locs → W p l e rm_X9_findRow s m args below meth c H locs 0 0 (MQ below (Qv G z L) args s 0 0 (gA G)) (F0 m 205 ls [.int t26]) := by
        intro H locs d
        refine lv_istore (lv' := [(4, .int t26), (0, .ref (ad G b0)), (1, .int b1), (2, .int x2), (3, .int x3)]) S.1 S.2.1 dX9_findRow_205 hl (by decide) rfl (fun ls hl => ?_)
        refine lv_iload S.1 S.2.1 dX9_findRow_207 (lv_at hl 0 rfl) ?_
        obtain ⟨t32, g33, h⟩ := bd_e h
        have Jt32 : ∀ (H : Heap) (locs : List Loc), Dy G s M L H locs → W p l e rm_X9_findRow s m args below meth c H locs 0 0 (MQ below (Qv G z L) args s 0 0 (gA G)) (F0 m 217 ls [.int t32]) := by
          intro H locs d
          refine lv_istore_n (lv' := [(2, .int t32), (4, .int t26), (0, .ref (ad G b0)), (1, .int b1), (3, .int x3)]) S.1 S.2.1 dX9_findRow_217 rfl hl (by decide) rfl (fun ls hl => ?_)
          obtain ⟨v34, ev34, h⟩ := lt_e h
          refine lv_iinc (v := v34) (lv' := [(3, .int v34), (2, .int t32), (4, .int t26), (0, .ref (ad G b0)), (1, .int b1)]) S.1 S.2.1 dX9_findRow_218 hl (k := 4) rfl (by rw [ev34]; rfl) (by decide) rfl (fun ls hl => ?_)
          refine lv_goto (tgt := 148) S.1 S.2.1 dX9_findRow_221 (by decide) ?_
          exact ih _ _ h _ _ d _ (lv_sub hl [3, 4, 1, 0] rfl)
        have h := g33
        refine lv_if_eq (tgt := 216) S.1 S.2.1 dX9_findRow_209 (by decide) (fun cc => ?_) (fun cc => ?_)
        · replace h := it_p cc h
          refine lv_iload_n S.1 S.2.1 dX9_findRow_216 rfl (lv_at hl 3 rfl) ?_
          obtain ej := Option.some.inj h
          refine r_top ej.symm ?_
          exact Jt32 _ _ d
        · replace h := it_n cc h
          refine lv_iload_n S.1 S.2.1 dX9_findRow_212 rfl (lv_at hl 4 rfl) ?_
          refine lv_goto (tgt := 217) S.1 S.2.1 dX9_findRow_213 (by decide) ?_
          obtain ej := Option.some.inj h
          refine r_top ej.symm ?_
          exact Jt32 _ _ d
      have h := g27
      refine lv_icmp_ne (tgt := 204) S.1 S.2.1 dX9_findRow_164 (by decide) (fun cc => ?_) (fun cc => ?_)
      · replace h := it_n cc h
        refine lv_iconst (v := 0) S.1 S.2.1 dX9_findRow_204 (by decide) ?_
        obtain ej := Option.some.inj h
        refine r_top ej.symm ?_
        exact Jt26 _ _ d
      · replace h := it_p cc h
        refine lv_aload_n S.1 S.2.1 dX9_findRow_167 rfl (lv_at hl 0 rfl) ?_
        refine gf_20_18 S d hb0 fl_RX9_46 dX9_findRow_168 ?_
        refine lv_bipush (v := 10) S.1 S.2.1 dX9_findRow_171 (by decide) ?_
        refine lv_iload_n S.1 S.2.1 dX9_findRow_173 rfl (lv_at hl 1 rfl) ?_
        refine lv_imul S.1 S.2.1 dX9_findRow_174 ?_
        refine lv_iload_n S.1 S.2.1 dX9_findRow_175 rfl (lv_at hl 3 rfl) ?_
        refine lv_iadd S.1 S.2.1 dX9_findRow_176 ?_
        obtain ⟨g28, h⟩ := gd_e h
        refine r_iald S d (ksdM S (ch_20_18 hb0).1) (wc_21 (ch_20_18 hb0).1) (ch_20_18 hb0).2 g28 dX9_findRow_177 ?_
        refine lv_aload_n S.1 S.2.1 dX9_findRow_178 rfl (lv_at hl 0 rfl) ?_
        refine gf_20_14 S d hb0 fl_RX9_37 dX9_findRow_179 ?_
        refine lv_iload_n S.1 S.2.1 dX9_findRow_182 rfl (lv_at hl 1 rfl) ?_
        refine lv_aload_n S.1 S.2.1 dX9_findRow_183 rfl (lv_at hl 0 rfl) ?_
        refine lv_iload_n S.1 S.2.1 dX9_findRow_184 rfl (lv_at hl 3 rfl) ?_
        obtain ⟨u29, hu29, h⟩ := bd_e h
        refine r_ri d (r_cV (As := [.int x3]) (rest := [.int b1, .ref (ad G (b0 + 10)), .int (M (b0 + 13) (((10 : Int32) * b1) + x3).toNatClampNeg)]) S d (c_X9_sizeOf l G M L b0 x3 hb0 hu29) (ksdM S hb0) (wc_20 hb0) rfl ml_RX9_179 im_yX9_sizeOf se_yX9_sizeOf in_RX9 co_yX9_sizeOf hyV_X9_sizeOf ⟨rfl, rfl⟩ ⟨by decide, by decide⟩ rfl hl rfl (Nat.le_of_ble_eq_true rfl) dX9_findRow_185 ⟨Nat.zero_le _, Nat.zero_le _⟩) (fun H locs d => ?_)
        refine lv_iadd S.1 S.2.1 dX9_findRow_188 ?_
        obtain ⟨g30, h⟩ := gd_e h
        refine r_iald S d (ksdM S (ch_20_14 hb0).1) (wc_21 (ch_20_14 hb0).1) (ch_20_14 hb0).2 g30 dX9_findRow_189 ?_
        refine lv_iadd S.1 S.2.1 dX9_findRow_190 ?_
        refine lv_aload_n S.1 S.2.1 dX9_findRow_191 rfl (lv_at hl 0 rfl) ?_
        refine gf_20_14 S d hb0 fl_RX9_37 dX9_findRow_192 ?_
        refine lv_iload_n S.1 S.2.1 dX9_findRow_195 rfl (lv_at hl 1 rfl) ?_
        obtain ⟨g31, h⟩ := gd_e h
        refine r_iald S d (ksdM S (ch_20_14 hb0).1) (wc_21 (ch_20_14 hb0).1) (ch_20_14 hb0).2 g31 dX9_findRow_196 ?_
        refine lv_icmp_ne (tgt := 204) S.1 S.2.1 dX9_findRow_197 (by decide) (fun cc => ?_) (fun cc => ?_)
        · replace h := it_n cc h
          refine lv_iconst (v := 0) S.1 S.2.1 dX9_findRow_204 (by decide) ?_
          obtain ej := Option.some.inj h
          refine r_top ej.symm ?_
          exact Jt26 _ _ d
        · replace h := it_p cc h
          refine lv_iconst (v := 1) S.1 S.2.1 dX9_findRow_200 (by decide) ?_
          refine lv_goto (tgt := 205) S.1 S.2.1 dX9_findRow_201 (by decide) ?_
          obtain ej := Option.some.inj h
          refine r_top ej.symm ?_
          exact Jt26 _ _ d
set_option maxHeartbeats 4000000 in
set_option maxRecDepth 100000 in
theorem lc_X9_findRow_130 {p : Program} {l : Launch} {e : Env} {s : State} {m : MethodId} {args : Array Value} {below : List Frame} {meth : Method} {c : Code} {G : Gx} {L : MemL} {fu : Nat} {b0 : Nat} {z : Mem} (S : Sx G true p s m args meth c cX9_findRow 5 RX9) (hr : meth.sig.returnType = (Option.none : Option Jvm.ClassFile.FieldType)) (hb0 : kd b0 = 20) (K : Mem → Option (Mem)) (hK : ∀ (My : Mem) (H : Heap) (locs : List Loc), Dy G s My L H locs → ∀ ls : Array Slot, lv_has ls 5 [] → K My = some z → W p l e rm_X9_findRow s m args below meth c H locs 0 0 (MQ below (Qv G z L) args s 0 0 (gA G)) (F0 m 272 ls [])) :
    ∀ (n : Nat) (x1 : Int32) (Mx : Mem), lp_X9_findRow_130 fu b0 K n x1 Mx = some z → ∀ (H : Heap) (locs : List Loc), Dy G s Mx L H locs → ∀ ls : Array Slot, lv_has ls 5 [(0, .ref (ad G b0)), (1, .int x1)] → W p l e rm_X9_findRow s m args below meth c H locs 0 0 (MQ below (Qv G z L) args s 0 0 (gA G)) (F0 m 130 ls []) := by
  intro n
  induction n with
  | zero =>
    intro x1 Mx h
    have h : (none : Option (Mem)) = some z := h
    cases h
  | succ n ih =>
    intro x1 Mx h H locs d ls hl
    rw [lp_X9_findRow_130] at h
    refine lv_iload_n S.1 S.2.1 dX9_findRow_130 rfl (lv_at hl 1 rfl) ?_
    refine lv_aload_n S.1 S.2.1 dX9_findRow_131 rfl (lv_at hl 0 rfl) ?_
    refine gf_20_7 S d hb0 fl_RX9_71 dX9_findRow_132 ?_
    refine lv_icmp_ge (tgt := 272) S.1 S.2.1 dX9_findRow_135 (by decide) (fun cc => ?_) (fun cc => ?_)
    · replace h := it_p cc h
      exact hK _ _ _ d _ (lv_sub hl [] rfl) h
    · replace h := it_n cc h
      refine lv_bipush (v := (-4)) S.1 S.2.1 dX9_findRow_138 (by decide) ?_
      refine lv_istore_n (lv' := [(2, .int (-4 : Int32)), (0, .ref (ad G b0)), (1, .int x1)]) S.1 S.2.1 dX9_findRow_140 rfl hl (by decide) rfl (fun ls hl => ?_)
      refine lv_aload_n S.1 S.2.1 dX9_findRow_141 rfl (lv_at hl 1 rfl) ?_
      refine gf_20_8 S d hb0 fl_RX9_83 dX9_findRow_142 ?_
      refine lv_iconst (v := 1) S.1 S.2.1 dX9_findRow_145 (by decide) ?_
      refine lv_isub S.1 S.2.1 dX9_findRow_146 ?_
      obtain ⟨v24, ev24, h⟩ := lt_e h
      refine r_top ev24 ?_
      refine lv_istore_n (lv' := [(3, .int v24), (2, .int (-4 : Int32)), (0, .ref (ad G b0)), (1, .int x1)]) S.1 S.2.1 dX9_findRow_147 rfl hl (by decide) rfl (fun ls hl => ?_)
      refine lc_X9_findRow_148 S hr hb0 _ (fun v35 H locs d ls hl h => ?_) _ _ _  h _ _ d _ (lv_sub hl [2, 3, 1, 0] rfl)
      refine lv_iload_n S.1 S.2.1 dX9_findRow_224 rfl (lv_at hl 2 rfl) ?_
      refine lv_if_lt (tgt := 253) S.1 S.2.1 dX9_findRow_225 (by decide) (fun cc => ?_) (fun cc => ?_)
      · replace h := it_p cc h
        refine lv_iload_n S.1 S.2.1 dX9_findRow_253 rfl (lv_at hl 1 rfl) ?_
        refine lv_iload_n S.1 S.2.1 dX9_findRow_254 rfl (lv_at hl 2 rfl) ?_
        obtain ⟨t43, g44, h⟩ := bd_e h
        have Jt43 : ∀ (H : Heap) (locs : List Loc), Dy G s Mx L H locs → W p l e rm_X9_findRow s m args below meth c H locs 0 0 (MQ below (Qv G z L) args s 0 0 (gA G)) (F0 m 267 ls [.int t43, .int x1]) := by
          intro H locs d
          refine lv_iadd S.1 S.2.1 dX9_findRow_267 ?_
          obtain ⟨v46, ev46, h⟩ := lt_e h
          refine r_top ev46 ?_
          refine lv_istore_n (lv' := [(1, .int v46), (0, .ref (ad G b0)), (2, .int v35)]) S.1 S.2.1 dX9_findRow_268 rfl hl (by decide) rfl (fun ls hl => ?_)
          refine lv_goto (tgt := 130) S.1 S.2.1 dX9_findRow_269 (by decide) ?_
          exact ih _ _ h _ _ d _ (lv_sub hl [1, 0] rfl)
        have h := g44
        refine lv_if_ge (tgt := 262) S.1 S.2.1 dX9_findRow_255 (by decide) (fun cc => ?_) (fun cc => ?_)
        · replace h := it_p cc h
          refine lv_aload_n S.1 S.2.1 dX9_findRow_262 rfl (lv_at hl 0 rfl) ?_
          refine lv_iload_n S.1 S.2.1 dX9_findRow_263 rfl (lv_at hl 2 rfl) ?_
          obtain ⟨u45, hu45, h⟩ := bd_e h
          refine r_ri d (r_cV (As := [.int v35]) (rest := [.int x1]) S d (c_X9_sizeOf l G Mx L b0 v35 hb0 hu45) (ksdM S hb0) (wc_20 hb0) rfl ml_RX9_179 im_yX9_sizeOf se_yX9_sizeOf in_RX9 co_yX9_sizeOf hyV_X9_sizeOf ⟨rfl, rfl⟩ ⟨by decide, by decide⟩ rfl hl rfl (Nat.le_of_ble_eq_true rfl) dX9_findRow_264 ⟨Nat.zero_le _, Nat.zero_le _⟩) (fun H locs d => ?_)
          obtain ej := Option.some.inj h
          refine r_top ej.symm ?_
          exact Jt43 _ _ d
        · replace h := it_n cc h
          refine lv_iconst (v := 1) S.1 S.2.1 dX9_findRow_258 (by decide) ?_
          refine lv_goto (tgt := 267) S.1 S.2.1 dX9_findRow_259 (by decide) ?_
          obtain ej := Option.some.inj h
          refine r_top ej.symm ?_
          exact Jt43 _ _ d
      · replace h := it_n cc h
        refine lv_aload_n S.1 S.2.1 dX9_findRow_228 rfl (lv_at hl 0 rfl) ?_
        refine gf_20_15 S d hb0 fl_RX9_40 dX9_findRow_229 ?_
        refine lv_aload_n S.1 S.2.1 dX9_findRow_232 rfl (lv_at hl 0 rfl) ?_
        refine gf_20_16 S d hb0 fl_RX9_200 dX9_findRow_233 ?_
        refine lv_bipush (v := 10) S.1 S.2.1 dX9_findRow_236 (by decide) ?_
        refine lv_iload_n S.1 S.2.1 dX9_findRow_238 rfl (lv_at hl 1 rfl) ?_
        refine lv_imul S.1 S.2.1 dX9_findRow_239 ?_
        refine lv_iload_n S.1 S.2.1 dX9_findRow_240 rfl (lv_at hl 2 rfl) ?_
        refine lv_iadd S.1 S.2.1 dX9_findRow_241 ?_
        obtain ⟨g36, h⟩ := gd_e h
        obtain ⟨M37, eM37, h⟩ := lt_e h
        refine r_iast S d eM37 (ksdM S (ch_20_15 hb0).1) (fun _ => wc_21 (ch_20_15 hb0).1) (ch_20_15 hb0).2 g36 dX9_findRow_242 (fun H locs d => ?_)
        refine lv_aload_n S.1 S.2.1 dX9_findRow_243 rfl (lv_at hl 0 rfl) ?_
        refine lv_dup S.1 S.2.1 dX9_findRow_244 rfl ?_
        refine gf_20_16 S d hb0 fl_RX9_200 dX9_findRow_245 ?_
        refine lv_iconst (v := 1) S.1 S.2.1 dX9_findRow_248 (by decide) ?_
        refine lv_iadd S.1 S.2.1 dX9_findRow_249 ?_
        obtain ⟨M38, eM38, h⟩ := lt_e h
        refine pf_20_16 S d eM38 hb0 fl_RX9_200 dX9_findRow_250 (fun H locs d => ?_)
        refine lv_iload_n S.1 S.2.1 dX9_findRow_253 rfl (lv_at hl 1 rfl) ?_
        refine lv_iload_n S.1 S.2.1 dX9_findRow_254 rfl (lv_at hl 2 rfl) ?_
        obtain ⟨t39, g40, h⟩ := bd_e h
        have Jt39 : ∀ (H : Heap) (locs : List Loc), Dy G s M38 L H locs → W p l e rm_X9_findRow s m args below meth c H locs 0 0 (MQ below (Qv G z L) args s 0 0 (gA G)) (F0 m 267 ls [.int t39, .int x1]) := by
          intro H locs d
          refine lv_iadd S.1 S.2.1 dX9_findRow_267 ?_
          obtain ⟨v42, ev42, h⟩ := lt_e h
          refine r_top ev42 ?_
          refine lv_istore_n (lv' := [(1, .int v42), (0, .ref (ad G b0)), (2, .int v35)]) S.1 S.2.1 dX9_findRow_268 rfl hl (by decide) rfl (fun ls hl => ?_)
          refine lv_goto (tgt := 130) S.1 S.2.1 dX9_findRow_269 (by decide) ?_
          exact ih _ _ h _ _ d _ (lv_sub hl [1, 0] rfl)
        have h := g40
        refine lv_if_ge (tgt := 262) S.1 S.2.1 dX9_findRow_255 (by decide) (fun cc => ?_) (fun cc => ?_)
        · replace h := it_p cc h
          refine lv_aload_n S.1 S.2.1 dX9_findRow_262 rfl (lv_at hl 0 rfl) ?_
          refine lv_iload_n S.1 S.2.1 dX9_findRow_263 rfl (lv_at hl 2 rfl) ?_
          obtain ⟨u41, hu41, h⟩ := bd_e h
          refine r_ri d (r_cV (As := [.int v35]) (rest := [.int x1]) S d (c_X9_sizeOf l G M38 L b0 v35 hb0 hu41) (ksdM S hb0) (wc_20 hb0) rfl ml_RX9_179 im_yX9_sizeOf se_yX9_sizeOf in_RX9 co_yX9_sizeOf hyV_X9_sizeOf ⟨rfl, rfl⟩ ⟨by decide, by decide⟩ rfl hl rfl (Nat.le_of_ble_eq_true rfl) dX9_findRow_264 ⟨Nat.zero_le _, Nat.zero_le _⟩) (fun H locs d => ?_)
          obtain ej := Option.some.inj h
          refine r_top ej.symm ?_
          exact Jt39 _ _ d
        · replace h := it_n cc h
          refine lv_iconst (v := 1) S.1 S.2.1 dX9_findRow_258 (by decide) ?_
          refine lv_goto (tgt := 267) S.1 S.2.1 dX9_findRow_259 (by decide) ?_
          obtain ej := Option.some.inj h
          refine r_top ej.symm ?_
          exact Jt39 _ _ d
set_option maxHeartbeats 4000000 in
set_option maxRecDepth 100000 in
theorem c_X9_findRow (l : Launch) (G : Gx) (M : Mem) (L : MemL) (fu : Nat) (k0 : Nat) (hk0 : kd k0 = 20) {z : Mem} (h : f_X9_findRow fu M k0 = some z) : Met l yX9_findRow (.code yX9_findRow cX9_findRow 5 (Option.none : Option Jvm.ClassFile.FieldType) :: UW) rm_X9_findRow (va_Pc [.ref (ad G k0)] (PreG G true M L)) (Qv G z L) 0 0 (gA G) := by
  refine r_in (by decide) (fun p e s m args below meth c S hr d ha ls hl => ?_) (Nat.le_of_ble_eq_true rfl)
  have S : Sx G true p s m args meth c cX9_findRow 5 RX9 := S
  have hl : lv_has ls 5 [(0, .ref (ad G k0))] := hl
  unfold f_X9_findRow at h
  refine lv_aload_n S.1 S.2.1 dX9_findRow_0 rfl (lv_at hl 0 rfl) ?_
  refine gf_20_14 S d hk0 fl_RX9_37 dX9_findRow_1 ?_
  refine lv_aload_n S.1 S.2.1 dX9_findRow_4 rfl (lv_at hl 0 rfl) ?_
  refine gf_20_7 S d hk0 fl_RX9_71 dX9_findRow_5 ?_
  refine lv_iconst (v := 0) S.1 S.2.1 dX9_findRow_8 (by decide) ?_
  obtain ⟨g1, h⟩ := gd_e h
  obtain ⟨M2, eM2, h⟩ := lt_e h
  refine r_iast S d eM2 (ksdM S (ch_20_14 hk0).1) (fun _ => wc_21 (ch_20_14 hk0).1) (ch_20_14 hk0).2 g1 dX9_findRow_9 (fun H locs d => ?_)
  refine lv_aload_n S.1 S.2.1 dX9_findRow_10 rfl (lv_at hl 0 rfl) ?_
  refine gf_20_7 S d hk0 fl_RX9_71 dX9_findRow_11 ?_
  refine lv_iconst (v := 1) S.1 S.2.1 dX9_findRow_14 (by decide) ?_
  refine lv_isub S.1 S.2.1 dX9_findRow_15 ?_
  obtain ⟨v3, ev3, h⟩ := lt_e h
  refine r_top ev3 ?_
  refine lv_istore_n (lv' := [(1, .int v3), (0, .ref (ad G k0))]) S.1 S.2.1 dX9_findRow_16 rfl hl (by decide) rfl (fun ls hl => ?_)
  refine lc_X9_findRow_17 S hr hk0 _ (fun M22 H locs d ls hl h => ?_) _ _ _  h _ _ d _ (lv_sub hl [1, 0] rfl)
  refine lv_aload_n S.1 S.2.1 dX9_findRow_123 rfl (lv_at hl 0 rfl) ?_
  refine lv_iconst (v := 0) S.1 S.2.1 dX9_findRow_124 (by decide) ?_
  obtain ⟨M23, eM23, h⟩ := lt_e h
  refine pf_20_16 S d eM23 hk0 fl_RX9_200 dX9_findRow_125 (fun H locs d => ?_)
  refine lv_iconst (v := 0) S.1 S.2.1 dX9_findRow_128 (by decide) ?_
  refine lv_istore_n (lv' := [(1, .int (0 : Int32)), (0, .ref (ad G k0))]) S.1 S.2.1 dX9_findRow_129 rfl hl (by decide) rfl (fun ls hl => ?_)
  refine lc_X9_findRow_130 S hr hk0 _ (fun M47 H locs d ls hl h => ?_) _ _ _  h _ _ d _ (lv_sub hl [1, 0] rfl)
  obtain rfl := Option.some.inj h
  exact r_vret S d hr dX9_findRow_272
theorem hyV_X9_tellRow : yX9_tellRow.cls = RX9 ∧ yX9_tellRow.cls ≠ "java/lang/invoke/MethodHandle" ∧ yX9_tellRow.cls ≠ "java/lang/invoke/VarHandle" ∧ (parseMethodDescriptor yX9_tellRow.desc).map (fun d => d.parameters.length) = some 1 := by decide +kernel
abbrev rm_X9_tellRow : Room := { frames := 0, cells := 0, slots := 0, locals := 0 }
def f_X9_tellRow (M : Mem) (k0 : Nat) (a1 : Int32) : Option (Int32) :=
  (if a1 = (-1 : Int32) then gd (inb (0 : Int32) 10) (
    some ((M (k0 + 10) (0 : Int32).toNatClampNeg)))
  else (if a1 = (-2 : Int32) then some ((M k0 16))
    else (if (M k0 16) ≤ a1 then some ((-4 : Int32))
      else gd (inb a1 9) (
        some ((M (k0 + 11) a1.toNatClampNeg))))))
set_option maxHeartbeats 4000000 in
set_option maxRecDepth 100000 in
theorem c_X9_tellRow (l : Launch) (G : Gx) (M : Mem) (L : MemL) (k0 : Nat) (a1 : Int32) (hk0 : kd k0 = 20) {z : Int32} (h : f_X9_tellRow M k0 a1 = some z) : Met l yX9_tellRow (.code yX9_tellRow cX9_tellRow 2 (Option.some Jvm.ClassFile.FieldType.int) :: UW) rm_X9_tellRow (va_Pc [.ref (ad G k0), .int a1] (PreG G true M L)) (Qi G z M L) 0 0 (gA G) := by
  refine r_in (by decide) (fun p e s m args below meth c S hr d ha ls hl => ?_) (Nat.le_of_ble_eq_true rfl)
  have S : Sx G true p s m args meth c cX9_tellRow 2 RX9 := S
  have hl : lv_has ls 2 [(0, .ref (ad G k0)), (1, .int a1)] := hl
  unfold f_X9_tellRow at h
  refine lv_iload_n S.1 S.2.1 dX9_tellRow_0 rfl (lv_at hl 1 rfl) ?_
  refine lv_iconst (v := (-1)) S.1 S.2.1 dX9_tellRow_1 (by decide) ?_
  refine lv_icmp_ne (tgt := 14) S.1 S.2.1 dX9_tellRow_2 (by decide) (fun cc => ?_) (fun cc => ?_)
  · replace h := it_n cc h
    refine lv_iload_n S.1 S.2.1 dX9_tellRow_14 rfl (lv_at hl 1 rfl) ?_
    refine lv_bipush (v := (-2)) S.1 S.2.1 dX9_tellRow_15 (by decide) ?_
    refine lv_icmp_ne (tgt := 27) S.1 S.2.1 dX9_tellRow_17 (by decide) (fun cc => ?_) (fun cc => ?_)
    · replace h := it_n cc h
      refine lv_iload_n S.1 S.2.1 dX9_tellRow_27 rfl (lv_at hl 1 rfl) ?_
      refine lv_aload_n S.1 S.2.1 dX9_tellRow_28 rfl (lv_at hl 0 rfl) ?_
      refine gf_20_16 S d hk0 fl_RX9_200 dX9_tellRow_29 ?_
      refine lv_icmp_ge (tgt := 44) S.1 S.2.1 dX9_tellRow_32 (by decide) (fun cc => ?_) (fun cc => ?_)
      · replace h := it_p cc h
        refine lv_bipush (v := (-4)) S.1 S.2.1 dX9_tellRow_44 (by decide) ?_
        obtain rfl := Option.some.inj h
        exact r_iret S d hr rfl rfl dX9_tellRow_46
      · replace h := it_n cc h
        refine lv_aload_n S.1 S.2.1 dX9_tellRow_35 rfl (lv_at hl 0 rfl) ?_
        refine gf_20_15 S d hk0 fl_RX9_40 dX9_tellRow_36 ?_
        refine lv_iload_n S.1 S.2.1 dX9_tellRow_39 rfl (lv_at hl 1 rfl) ?_
        obtain ⟨g2, h⟩ := gd_e h
        refine r_iald S d (ksdM S (ch_20_15 hk0).1) (wc_21 (ch_20_15 hk0).1) (ch_20_15 hk0).2 g2 dX9_tellRow_40 ?_
        refine lv_goto (tgt := 46) S.1 S.2.1 dX9_tellRow_41 (by decide) ?_
        obtain rfl := Option.some.inj h
        exact r_iret S d hr rfl rfl dX9_tellRow_46
    · replace h := it_p cc h
      refine lv_aload_n S.1 S.2.1 dX9_tellRow_20 rfl (lv_at hl 0 rfl) ?_
      refine gf_20_16 S d hk0 fl_RX9_200 dX9_tellRow_21 ?_
      refine lv_goto (tgt := 46) S.1 S.2.1 dX9_tellRow_24 (by decide) ?_
      obtain rfl := Option.some.inj h
      exact r_iret S d hr rfl rfl dX9_tellRow_46
  · replace h := it_p cc h
    refine lv_aload_n S.1 S.2.1 dX9_tellRow_5 rfl (lv_at hl 0 rfl) ?_
    refine gf_20_14 S d hk0 fl_RX9_37 dX9_tellRow_6 ?_
    refine lv_iconst (v := 0) S.1 S.2.1 dX9_tellRow_9 (by decide) ?_
    obtain ⟨g1, h⟩ := gd_e h
    refine r_iald S d (ksdM S (ch_20_14 hk0).1) (wc_21 (ch_20_14 hk0).1) (ch_20_14 hk0).2 g1 dX9_tellRow_10 ?_
    refine lv_goto (tgt := 46) S.1 S.2.1 dX9_tellRow_11 (by decide) ?_
    obtain rfl := Option.some.inj h
    exact r_iret S d hr rfl rfl dX9_tellRow_46
theorem hyV_X9_read : yX9_read.cls = RX9 ∧ yX9_read.cls ≠ "java/lang/invoke/MethodHandle" ∧ yX9_read.cls ≠ "java/lang/invoke/VarHandle" ∧ (parseMethodDescriptor yX9_read.desc).map (fun d => d.parameters.length) = some 1 := by decide +kernel
abbrev rm_X9_read : Room := { frames := 4, cells := 0, slots := 0, locals := 91 }
def lp_X9_read_28 (fu : Nat) (b0 : Nat) (b1 : Int32) (b2 : Int32) (K : Mem → Option (Int32 × Mem)) : Nat → Int32 → Mem → Option (Int32 × Mem)
  | 0, _, _ => none
  | n + 1, x3, Mx =>
    (if (Mx b0 8) ≤ x3 then (K Mx)
    else (f_X9_isWritten fu Mx b0 x3 b2).bind (fun u2 =>
      (if u2 = 0 then some (0 : Int32)
      else some (1 : Int32)).bind (fun t3 : Int32 =>
      gd (inb (((10 : Int32) * b2) + x3) 90) (
      lt (up Mx (b0 + 12) (((10 : Int32) * b2) + x3).toNatClampNeg t3) (fun M6 : Mem =>
      gd (inb (((8 : Int32) * x3) + (1 : Int32)) 80) (
      gd (inb (((10 : Int32) * b2) + x3) 90) (
      lt (up M6 (b0 + 13) (((10 : Int32) * b2) + x3).toNatClampNeg (M6 (b0 + 7) (((8 : Int32) * x3) + (1 : Int32)).toNatClampNeg)) (fun M9 : Mem =>
      lt (x3 + 1) (fun v10 : Int32 =>
      (lp_X9_read_28 fu b0 b1 b2 K n v10 M9))))))))))
def lp_X9_read_18 (fu : Nat) (b0 : Nat) (b1 : Int32) (K : Mem → Option (Int32 × Mem)) : Nat → Int32 → Mem → Option (Int32 × Mem)
  | 0, _, _ => none
  | n + 1, x2, Mx =>
    (if (Mx b0 7) ≤ x2 then (K Mx)
    else (lp_X9_read_28 fu b0 b1 x2 (fun (M11 : Mem) =>
        lt (x2 + 1) (fun v12 : Int32 =>
        (lp_X9_read_18 fu b0 b1 K n v12 M11))) fu (0 : Int32) Mx))
def f_X9_read (fu : Nat) (M : Mem) (k0 : Nat) (a1 : Int32) : Option (Int32 × Mem) :=
  (f_X9_in ((a1).toInt64) (-2 : Int64) (8 : Int64)).bind (fun u1 =>
  (if u1 = 0 then some ((-1 : Int32), M)
  else (lp_X9_read_18 fu k0 a1 (fun (M13 : Mem) =>
      (f_X9_findRow fu M13 k0).bind (fun u14 =>
      (f_X9_tellRow u14 k0 a1).bind (fun u15 =>
      some (u15, u14)))) fu (0 : Int32) M)))
set_option maxHeartbeats 4000000 in
set_option maxRecDepth 100000 in
theorem lc_X9_read_28 {p : Program} {l : Launch} {e : Env} {s : State} {m : MethodId} {args : Array Value} {below : List Frame} {meth : Method} {c : Code} {G : Gx} {L : MemL} {fu : Nat} {b0 : Nat} {b1 : Int32} {b2 : Int32} {z : Int32 × Mem} (S : Sx G true p s m args meth c cX9_read 4 RX9) (hr : meth.sig.returnType = (Option.some Jvm.ClassFile.FieldType.int)) (hb0 : kd b0 = 20) (K : Mem → Option (Int32 × Mem)) (hK : ∀ (My : Mem) (H : Heap) (locs : List Loc), Dy G s My L H locs → ∀ ls : Array Slot, lv_has ls 4 [(0, .ref (ad G b0)), (1, .int b1), (2, .int b2)] → K My = some z → W p l e rm_X9_read s m args below meth c H locs 0 0 (MQ below (Qi G z.1 z.2 L) args s 0 0 (gA G)) (F0 m 89 ls [])) :
    ∀ (n : Nat) (x3 : Int32) (Mx : Mem), lp_X9_read_28 fu b0 b1 b2 K n x3 Mx = some z → ∀ (H : Heap) (locs : List Loc), Dy G s Mx L H locs → ∀ ls : Array Slot, lv_has ls 4 [(0, .ref (ad G b0)), (1, .int b1), (2, .int b2), (3, .int x3)] → W p l e rm_X9_read s m args below meth c H locs 0 0 (MQ below (Qi G z.1 z.2 L) args s 0 0 (gA G)) (F0 m 28 ls []) := by
  intro n
  induction n with
  | zero =>
    intro x3 Mx h
    have h : (none : Option (Int32 × Mem)) = some z := h
    cases h
  | succ n ih =>
    intro x3 Mx h H locs d ls hl
    rw [lp_X9_read_28] at h
    refine lv_iload_n S.1 S.2.1 dX9_read_28 rfl (lv_at hl 3 rfl) ?_
    refine lv_aload_n S.1 S.2.1 dX9_read_29 rfl (lv_at hl 0 rfl) ?_
    refine gf_20_8 S d hb0 fl_RX9_83 dX9_read_30 ?_
    refine lv_icmp_ge (tgt := 89) S.1 S.2.1 dX9_read_33 (by decide) (fun cc => ?_) (fun cc => ?_)
    · replace h := it_p cc h
      exact hK _ _ _ d _ (lv_sub hl [0, 1, 2] rfl) h
    · replace h := it_n cc h
      refine lv_aload_n S.1 S.2.1 dX9_read_36 rfl (lv_at hl 0 rfl) ?_
      refine gf_20_17 S d hb0 fl_RX9_43 dX9_read_37 ?_
      refine lv_bipush (v := 10) S.1 S.2.1 dX9_read_40 (by decide) ?_
      refine lv_iload_n S.1 S.2.1 dX9_read_42 rfl (lv_at hl 2 rfl) ?_
      refine lv_imul S.1 S.2.1 dX9_read_43 ?_
      refine lv_iload_n S.1 S.2.1 dX9_read_44 rfl (lv_at hl 3 rfl) ?_
      refine lv_iadd S.1 S.2.1 dX9_read_45 ?_
      refine lv_aload_n S.1 S.2.1 dX9_read_46 rfl (lv_at hl 0 rfl) ?_
      refine lv_iload_n S.1 S.2.1 dX9_read_47 rfl (lv_at hl 3 rfl) ?_
      refine lv_iload_n S.1 S.2.1 dX9_read_48 rfl (lv_at hl 2 rfl) ?_
      obtain ⟨u2, hu2, h⟩ := bd_e h
      refine r_ri d (r_cV (As := [.int x3, .int b2]) (rest := [.int (((10 : Int32) * b2) + x3), .ref (ad G (b0 + 12))]) S d (c_X9_isWritten l G Mx L fu b0 x3 b2 hb0 hu2) (ksdM S hb0) (wc_20 hb0) rfl ml_RX9_188 im_yX9_isWritten se_yX9_isWritten in_RX9 co_yX9_isWritten hyV_X9_isWritten ⟨rfl, rfl⟩ ⟨by decide, by decide⟩ rfl hl rfl (Nat.le_of_ble_eq_true rfl) dX9_read_49 ⟨Nat.zero_le _, Nat.zero_le _⟩) (fun H locs d => ?_)
      obtain ⟨t3, g4, h⟩ := bd_e h
      have Jt3 : ∀ (H : Heap) (locs : List Loc), Dy G s Mx L H locs → W p l e rm_X9_read s m args below meth c H locs 0 0 (MQ below (Qi G z.1 z.2 L) args s 0 0 (gA G)) (F0 m 60 ls [.int t3, .int (((10 : Int32) * b2) + x3), .ref (ad G (b0 + 12))]) := by
        intro H locs d
        obtain ⟨g5, h⟩ := gd_e h
        obtain ⟨M6, eM6, h⟩ := lt_e h
        refine r_iast S d eM6 (ksdM S (ch_20_17 hb0).1) (fun _ => wc_21 (ch_20_17 hb0).1) (ch_20_17 hb0).2 g5 dX9_read_60 (fun H locs d => ?_)
        refine lv_aload_n S.1 S.2.1 dX9_read_61 rfl (lv_at hl 0 rfl) ?_
        refine gf_20_18 S d hb0 fl_RX9_46 dX9_read_62 ?_
        refine lv_bipush (v := 10) S.1 S.2.1 dX9_read_65 (by decide) ?_
        refine lv_iload_n S.1 S.2.1 dX9_read_67 rfl (lv_at hl 2 rfl) ?_
        refine lv_imul S.1 S.2.1 dX9_read_68 ?_
        refine lv_iload_n S.1 S.2.1 dX9_read_69 rfl (lv_at hl 3 rfl) ?_
        refine lv_iadd S.1 S.2.1 dX9_read_70 ?_
        refine lv_aload_n S.1 S.2.1 dX9_read_71 rfl (lv_at hl 0 rfl) ?_
        refine gf_20_6 S d hb0 fl_RX9_28 dX9_read_72 ?_
        refine lv_bipush (v := 8) S.1 S.2.1 dX9_read_75 (by decide) ?_
        refine lv_iload_n S.1 S.2.1 dX9_read_77 rfl (lv_at hl 3 rfl) ?_
        refine lv_imul S.1 S.2.1 dX9_read_78 ?_
        refine lv_iconst (v := 1) S.1 S.2.1 dX9_read_79 (by decide) ?_
        refine lv_iadd S.1 S.2.1 dX9_read_80 ?_
        obtain ⟨g7, h⟩ := gd_e h
        refine r_iald S d (ksdM S (ch_20_6 hb0).1) (wc_21 (ch_20_6 hb0).1) (ch_20_6 hb0).2 g7 dX9_read_81 ?_
        obtain ⟨g8, h⟩ := gd_e h
        obtain ⟨M9, eM9, h⟩ := lt_e h
        refine r_iast S d eM9 (ksdM S (ch_20_18 hb0).1) (fun _ => wc_21 (ch_20_18 hb0).1) (ch_20_18 hb0).2 g8 dX9_read_82 (fun H locs d => ?_)
        obtain ⟨v10, ev10, h⟩ := lt_e h
        refine lv_iinc (v := v10) (lv' := [(3, .int v10), (0, .ref (ad G b0)), (1, .int b1), (2, .int b2)]) S.1 S.2.1 dX9_read_83 hl (k := 3) rfl (by rw [ev10]; rfl) (by decide) rfl (fun ls hl => ?_)
        refine lv_goto (tgt := 28) S.1 S.2.1 dX9_read_86 (by decide) ?_
        exact ih _ _ h _ _ d _ (lv_sub hl [1, 2, 3, 0] rfl)
      have h := g4
      refine lv_if_eq (tgt := 59) S.1 S.2.1 dX9_read_52 (by decide) (fun cc => ?_) (fun cc => ?_)
      · replace h := it_p cc h
        refine lv_iconst (v := 0) S.1 S.2.1 dX9_read_59 (by decide) ?_
        obtain ej := Option.some.inj h
        refine r_top ej.symm ?_
        exact Jt3 _ _ d
      · replace h := it_n cc h
        refine lv_iconst (v := 1) S.1 S.2.1 dX9_read_55 (by decide) ?_
        refine lv_goto (tgt := 60) S.1 S.2.1 dX9_read_56 (by decide) ?_
        obtain ej := Option.some.inj h
        refine r_top ej.symm ?_
        exact Jt3 _ _ d
set_option maxHeartbeats 4000000 in
set_option maxRecDepth 100000 in
theorem lc_X9_read_18 {p : Program} {l : Launch} {e : Env} {s : State} {m : MethodId} {args : Array Value} {below : List Frame} {meth : Method} {c : Code} {G : Gx} {L : MemL} {fu : Nat} {b0 : Nat} {b1 : Int32} {z : Int32 × Mem} (S : Sx G true p s m args meth c cX9_read 4 RX9) (hr : meth.sig.returnType = (Option.some Jvm.ClassFile.FieldType.int)) (hb0 : kd b0 = 20) (K : Mem → Option (Int32 × Mem)) (hK : ∀ (My : Mem) (H : Heap) (locs : List Loc), Dy G s My L H locs → ∀ ls : Array Slot, lv_has ls 4 [(0, .ref (ad G b0)), (1, .int b1)] → K My = some z → W p l e rm_X9_read s m args below meth c H locs 0 0 (MQ below (Qi G z.1 z.2 L) args s 0 0 (gA G)) (F0 m 95 ls [])) :
    ∀ (n : Nat) (x2 : Int32) (Mx : Mem), lp_X9_read_18 fu b0 b1 K n x2 Mx = some z → ∀ (H : Heap) (locs : List Loc), Dy G s Mx L H locs → ∀ ls : Array Slot, lv_has ls 4 [(0, .ref (ad G b0)), (1, .int b1), (2, .int x2)] → W p l e rm_X9_read s m args below meth c H locs 0 0 (MQ below (Qi G z.1 z.2 L) args s 0 0 (gA G)) (F0 m 18 ls []) := by
  intro n
  induction n with
  | zero =>
    intro x2 Mx h
    have h : (none : Option (Int32 × Mem)) = some z := h
    cases h
  | succ n ih =>
    intro x2 Mx h H locs d ls hl
    rw [lp_X9_read_18] at h
    refine lv_iload_n S.1 S.2.1 dX9_read_18 rfl (lv_at hl 2 rfl) ?_
    refine lv_aload_n S.1 S.2.1 dX9_read_19 rfl (lv_at hl 0 rfl) ?_
    refine gf_20_7 S d hb0 fl_RX9_71 dX9_read_20 ?_
    refine lv_icmp_ge (tgt := 95) S.1 S.2.1 dX9_read_23 (by decide) (fun cc => ?_) (fun cc => ?_)
    · replace h := it_p cc h
      exact hK _ _ _ d _ (lv_sub hl [0, 1] rfl) h
    · replace h := it_n cc h
      refine lv_iconst (v := 0) S.1 S.2.1 dX9_read_26 (by decide) ?_
      refine lv_istore_n (lv' := [(3, .int (0 : Int32)), (0, .ref (ad G b0)), (1, .int b1), (2, .int x2)]) S.1 S.2.1 dX9_read_27 rfl hl (by decide) rfl (fun ls hl => ?_)
      refine lc_X9_read_28 S hr hb0 _ (fun M11 H locs d ls hl h => ?_) _ _ _  h _ _ d _ (lv_sub hl [1, 2, 3, 0] rfl)
      obtain ⟨v12, ev12, h⟩ := lt_e h
      refine lv_iinc (v := v12) (lv' := [(2, .int v12), (0, .ref (ad G b0)), (1, .int b1)]) S.1 S.2.1 dX9_read_89 hl (k := 2) rfl (by rw [ev12]; rfl) (by decide) rfl (fun ls hl => ?_)
      refine lv_goto (tgt := 18) S.1 S.2.1 dX9_read_92 (by decide) ?_
      exact ih _ _ h _ _ d _ (lv_sub hl [1, 2, 0] rfl)
set_option maxHeartbeats 4000000 in
set_option maxRecDepth 100000 in
theorem c_X9_read (l : Launch) (G : Gx) (M : Mem) (L : MemL) (fu : Nat) (k0 : Nat) (a1 : Int32) (hk0 : kd k0 = 20) {z : Int32 × Mem} (h : f_X9_read fu M k0 a1 = some z) : Met l yX9_read (.code yX9_read cX9_read 4 (Option.some Jvm.ClassFile.FieldType.int) :: UW) rm_X9_read (va_Pc [.ref (ad G k0), .int a1] (PreG G true M L)) (Qi G z.1 z.2 L) 0 0 (gA G) := by
  refine r_in (by decide) (fun p e s m args below meth c S hr d ha ls hl => ?_) (Nat.le_of_ble_eq_true rfl)
  have S : Sx G true p s m args meth c cX9_read 4 RX9 := S
  have hl : lv_has ls 4 [(0, .ref (ad G k0)), (1, .int a1)] := hl
  unfold f_X9_read at h
  refine lv_iload_n S.1 S.2.1 dX9_read_0 rfl (lv_at hl 1 rfl) ?_
  refine lv_i2l S.1 S.2.1 dX9_read_1 rfl ?_
  refine lv_ldc2 (v := (-2)) S.1 S.2.1 S.2.2.2.1 (S.uw cn_RX9_203) dX9_read_2 ?_
  refine lv_ldc2 (v := 8) S.1 S.2.1 S.2.2.2.1 (S.uw cn_RX9_133) dX9_read_5 ?_
  obtain ⟨u1, hu1, h⟩ := bd_e h
  refine r_ri d (r_cS (As := [.long ((a1).toInt64), .long (-2 : Int64), .long (8 : Int64)]) (rest := []) S d (c_X9_in l G M L ((a1).toInt64) (-2 : Int64) (8 : Int64) hu1) ml_RX9_75 sm_yX9_in in_RX9 co_yX9_in hyS_X9_in ⟨rfl, rfl⟩ ⟨by decide, by decide⟩ rfl hl rfl (Nat.le_of_ble_eq_true rfl) dX9_read_8 ⟨Nat.zero_le _, Nat.zero_le _⟩) (fun H locs d => ?_)
  refine lv_if_ne (tgt := 16) S.1 S.2.1 dX9_read_11 (by decide) (fun cc => ?_) (fun cc => ?_)
  · replace h := it_n cc h
    refine lv_iconst (v := 0) S.1 S.2.1 dX9_read_16 (by decide) ?_
    refine lv_istore_n (lv' := [(2, .int (0 : Int32)), (0, .ref (ad G k0)), (1, .int a1)]) S.1 S.2.1 dX9_read_17 rfl hl (by decide) rfl (fun ls hl => ?_)
    refine lc_X9_read_18 S hr hk0 _ (fun M13 H locs d ls hl h => ?_) _ _ _  h _ _ d _ (lv_sub hl [1, 2, 0] rfl)
    refine lv_aload_n S.1 S.2.1 dX9_read_95 rfl (lv_at hl 0 rfl) ?_
    obtain ⟨u14, hu14, h⟩ := bd_e h
    refine r_rv d (r_cV (As := []) (rest := []) S d (c_X9_findRow l G M13 L fu k0 hk0 hu14) (ksdM S hk0) (wc_20 hk0) rfl ml_RX9_205 im_yX9_findRow se_yX9_findRow in_RX9 co_yX9_findRow hyV_X9_findRow ⟨rfl, rfl⟩ ⟨by decide, by decide⟩ rfl hl rfl (Nat.le_of_ble_eq_true rfl) dX9_read_96 ⟨Nat.zero_le _, Nat.zero_le _⟩) (fun H locs d => ?_)
    refine lv_aload_n S.1 S.2.1 dX9_read_99 rfl (lv_at hl 0 rfl) ?_
    refine lv_iload_n S.1 S.2.1 dX9_read_100 rfl (lv_at hl 1 rfl) ?_
    obtain ⟨u15, hu15, h⟩ := bd_e h
    refine r_ri d (r_cV (As := [.int a1]) (rest := []) S d (c_X9_tellRow l G u14 L k0 a1 hk0 hu15) (ksdM S hk0) (wc_20 hk0) rfl ml_RX9_208 im_yX9_tellRow se_yX9_tellRow in_RX9 co_yX9_tellRow hyV_X9_tellRow ⟨rfl, rfl⟩ ⟨by decide, by decide⟩ rfl hl rfl (Nat.le_of_ble_eq_true rfl) dX9_read_101 ⟨Nat.zero_le _, Nat.zero_le _⟩) (fun H locs d => ?_)
    obtain rfl := Option.some.inj h
    exact r_iret S d hr rfl rfl dX9_read_104
  · replace h := it_p cc h
    refine lv_iconst (v := (-1)) S.1 S.2.1 dX9_read_14 (by decide) ?_
    obtain rfl := Option.some.inj h
    exact r_iret S d hr rfl rfl dX9_read_15
theorem hyV_X9_plan : yX9_plan.cls = RX9 ∧ yX9_plan.cls ≠ "java/lang/invoke/MethodHandle" ∧ yX9_plan.cls ≠ "java/lang/invoke/VarHandle" ∧ (parseMethodDescriptor yX9_plan.desc).map (fun d => d.parameters.length) = some 1 := by decide +kernel
abbrev rm_X9_plan : Room := { frames := 4, cells := 0, slots := 0, locals := 94 }
def lp_X9_plan_28 (fu : Nat) (b0 : Nat) (b1 : Int32) (b2 : Int32) (K : Mem → Option (Int32 × Mem)) : Nat → Int32 → Mem → Option (Int32 × Mem)
  | 0, _, _ => none
  | n + 1, x3, Mx =>
    (if (Mx b0 8) ≤ x3 then (K Mx)
    else (f_X9_mayBe fu Mx b0 x3 b2).bind (fun u2 =>
      (if u2 = 0 then some (0 : Int32)
      else some (1 : Int32)).bind (fun t3 : Int32 =>
      gd (inb (((10 : Int32) * b2) + x3) 90) (
      lt (up Mx (b0 + 12) (((10 : Int32) * b2) + x3).toNatClampNeg t3) (fun M6 : Mem =>
      (f_X9_hasRoom M6 b0 x3 b2).bind (fun u7 =>
      (if u7 = 0 then some (0 : Int32)
      else gd (inb (((8 : Int32) * x3) + (1 : Int32)) 80) (
        (f_X9_lostBy fu M6 b0 x3 b2).bind (fun u11 =>
        some ((M6 (b0 + 7) (((8 : Int32) * x3) + (1 : Int32)).toNatClampNeg) - u11)))).bind (fun t8 : Int32 =>
      gd (inb (((10 : Int32) * b2) + x3) 90) (
      lt (up M6 (b0 + 13) (((10 : Int32) * b2) + x3).toNatClampNeg t8) (fun M13 : Mem =>
      lt (x3 + 1) (fun v14 : Int32 =>
      (lp_X9_plan_28 fu b0 b1 b2 K n v14 M13)))))))))))
def lp_X9_plan_18 (fu : Nat) (b0 : Nat) (b1 : Int32) (K : Mem → Option (Int32 × Mem)) : Nat → Int32 → Mem → Option (Int32 × Mem)
  | 0, _, _ => none
  | n + 1, x2, Mx =>
    (if (Mx b0 7) ≤ x2 then (K Mx)
    else (lp_X9_plan_28 fu b0 b1 x2 (fun (M15 : Mem) =>
        lt (x2 + 1) (fun v16 : Int32 =>
        (lp_X9_plan_18 fu b0 b1 K n v16 M15))) fu (0 : Int32) Mx))
def f_X9_plan (fu : Nat) (M : Mem) (k0 : Nat) (a1 : Int32) : Option (Int32 × Mem) :=
  (f_X9_in ((a1).toInt64) (-2 : Int64) (8 : Int64)).bind (fun u1 =>
  (if u1 = 0 then some ((-1 : Int32), M)
  else (lp_X9_plan_18 fu k0 a1 (fun (M17 : Mem) =>
      (f_X9_findRow fu M17 k0).bind (fun u18 =>
      (f_X9_tellRow u18 k0 a1).bind (fun u19 =>
      some (u19, u18)))) fu (0 : Int32) M)))
set_option maxHeartbeats 4000000 in
set_option maxRecDepth 100000 in
theorem lc_X9_plan_28 {p : Program} {l : Launch} {e : Env} {s : State} {m : MethodId} {args : Array Value} {below : List Frame} {meth : Method} {c : Code} {G : Gx} {L : MemL} {fu : Nat} {b0 : Nat} {b1 : Int32} {b2 : Int32} {z : Int32 × Mem} (S : Sx G true p s m args meth c cX9_plan 4 RX9) (hr : meth.sig.returnType = (Option.some Jvm.ClassFile.FieldType.int)) (hb0 : kd b0 = 20) (K : Mem → Option (Int32 × Mem)) (hK : ∀ (My : Mem) (H : Heap) (locs : List Loc), Dy G s My L H locs → ∀ ls : Array Slot, lv_has ls 4 [(0, .ref (ad G b0)), (1, .int b1), (2, .int b2)] → K My = some z → W p l e rm_X9_plan s m args below meth c H locs 0 0 (MQ below (Qi G z.1 z.2 L) args s 0 0 (gA G)) (F0 m 109 ls [])) :
    ∀ (n : Nat) (x3 : Int32) (Mx : Mem), lp_X9_plan_28 fu b0 b1 b2 K n x3 Mx = some z → ∀ (H : Heap) (locs : List Loc), Dy G s Mx L H locs → ∀ ls : Array Slot, lv_has ls 4 [(0, .ref (ad G b0)), (1, .int b1), (2, .int b2), (3, .int x3)] → W p l e rm_X9_plan s m args below meth c H locs 0 0 (MQ below (Qi G z.1 z.2 L) args s 0 0 (gA G)) (F0 m 28 ls []) := by
  intro n
  induction n with
  | zero =>
    intro x3 Mx h
    have h : (none : Option (Int32 × Mem)) = some z := h
    cases h
  | succ n ih =>
    intro x3 Mx h H locs d ls hl
    rw [lp_X9_plan_28] at h
    refine lv_iload_n S.1 S.2.1 dX9_plan_28 rfl (lv_at hl 3 rfl) ?_
    refine lv_aload_n S.1 S.2.1 dX9_plan_29 rfl (lv_at hl 0 rfl) ?_
    refine gf_20_8 S d hb0 fl_RX9_83 dX9_plan_30 ?_
    refine lv_icmp_ge (tgt := 109) S.1 S.2.1 dX9_plan_33 (by decide) (fun cc => ?_) (fun cc => ?_)
    · replace h := it_p cc h
      exact hK _ _ _ d _ (lv_sub hl [0, 1, 2] rfl) h
    · replace h := it_n cc h
      refine lv_aload_n S.1 S.2.1 dX9_plan_36 rfl (lv_at hl 0 rfl) ?_
      refine gf_20_17 S d hb0 fl_RX9_43 dX9_plan_37 ?_
      refine lv_bipush (v := 10) S.1 S.2.1 dX9_plan_40 (by decide) ?_
      refine lv_iload_n S.1 S.2.1 dX9_plan_42 rfl (lv_at hl 2 rfl) ?_
      refine lv_imul S.1 S.2.1 dX9_plan_43 ?_
      refine lv_iload_n S.1 S.2.1 dX9_plan_44 rfl (lv_at hl 3 rfl) ?_
      refine lv_iadd S.1 S.2.1 dX9_plan_45 ?_
      refine lv_aload_n S.1 S.2.1 dX9_plan_46 rfl (lv_at hl 0 rfl) ?_
      refine lv_iload_n S.1 S.2.1 dX9_plan_47 rfl (lv_at hl 3 rfl) ?_
      refine lv_iload_n S.1 S.2.1 dX9_plan_48 rfl (lv_at hl 2 rfl) ?_
      obtain ⟨u2, hu2, h⟩ := bd_e h
      refine r_ri d (r_cV (As := [.int x3, .int b2]) (rest := [.int (((10 : Int32) * b2) + x3), .ref (ad G (b0 + 12))]) S d (c_X9_mayBe l G Mx L fu b0 x3 b2 hb0 hu2) (ksdM S hb0) (wc_20 hb0) rfl ml_RX9_191 im_yX9_mayBe se_yX9_mayBe in_RX9 co_yX9_mayBe hyV_X9_mayBe ⟨rfl, rfl⟩ ⟨by decide, by decide⟩ rfl hl rfl (Nat.le_of_ble_eq_true rfl) dX9_plan_49 ⟨Nat.zero_le _, Nat.zero_le _⟩) (fun H locs d => ?_)
      obtain ⟨t3, g4, h⟩ := bd_e h
      have Jt3 : ∀ (H : Heap) (locs : List Loc), Dy G s Mx L H locs → W p l e rm_X9_plan s m args below meth c H locs 0 0 (MQ below (Qi G z.1 z.2 L) args s 0 0 (gA G)) (F0 m 60 ls [.int t3, .int (((10 : Int32) * b2) + x3), .ref (ad G (b0 + 12))]) := by
        intro H locs d
        obtain ⟨g5, h⟩ := gd_e h
        obtain ⟨M6, eM6, h⟩ := lt_e h
        refine r_iast S d eM6 (ksdM S (ch_20_17 hb0).1) (fun _ => wc_21 (ch_20_17 hb0).1) (ch_20_17 hb0).2 g5 dX9_plan_60 (fun H locs d => ?_)
        refine lv_aload_n S.1 S.2.1 dX9_plan_61 rfl (lv_at hl 0 rfl) ?_
        refine gf_20_18 S d hb0 fl_RX9_46 dX9_plan_62 ?_
        refine lv_bipush (v := 10) S.1 S.2.1 dX9_plan_65 (by decide) ?_
        refine lv_iload_n S.1 S.2.1 dX9_plan_67 rfl (lv_at hl 2 rfl) ?_
        refine lv_imul S.1 S.2.1 dX9_plan_68 ?_
        refine lv_iload_n S.1 S.2.1 dX9_plan_69 rfl (lv_at hl 3 rfl) ?_
        refine lv_iadd S.1 S.2.1 dX9_plan_70 ?_
        refine lv_aload_n S.1 S.2.1 dX9_plan_71 rfl (lv_at hl 0 rfl) ?_
        refine lv_iload_n S.1 S.2.1 dX9_plan_72 rfl (lv_at hl 3 rfl) ?_
        refine lv_iload_n S.1 S.2.1 dX9_plan_73 rfl (lv_at hl 2 rfl) ?_
        obtain ⟨u7, hu7, h⟩ := bd_e h
        refine r_ri d (r_cV (As := [.int x3, .int b2]) (rest := [.int (((10 : Int32) * b2) + x3), .ref (ad G (b0 + 13))]) S d (c_X9_hasRoom l G M6 L b0 x3 b2 hb0 hu7) (ksdM S hb0) (wc_20 hb0) rfl ml_RX9_182 im_yX9_hasRoom se_yX9_hasRoom in_RX9 co_yX9_hasRoom hyV_X9_hasRoom ⟨rfl, rfl⟩ ⟨by decide, by decide⟩ rfl hl rfl (Nat.le_of_ble_eq_true rfl) dX9_plan_74 ⟨Nat.zero_le _, Nat.zero_le _⟩) (fun H locs d => ?_)
        obtain ⟨t8, g9, h⟩ := bd_e h
        have Jt8 : ∀ (H : Heap) (locs : List Loc), Dy G s M6 L H locs → W p l e rm_X9_plan s m args below meth c H locs 0 0 (MQ below (Qi G z.1 z.2 L) args s 0 0 (gA G)) (F0 m 102 ls [.int t8, .int (((10 : Int32) * b2) + x3), .ref (ad G (b0 + 13))]) := by
          intro H locs d
          obtain ⟨g12, h⟩ := gd_e h
          obtain ⟨M13, eM13, h⟩ := lt_e h
          refine r_iast S d eM13 (ksdM S (ch_20_18 hb0).1) (fun _ => wc_21 (ch_20_18 hb0).1) (ch_20_18 hb0).2 g12 dX9_plan_102 (fun H locs d => ?_)
          obtain ⟨v14, ev14, h⟩ := lt_e h
          refine lv_iinc (v := v14) (lv' := [(3, .int v14), (0, .ref (ad G b0)), (1, .int b1), (2, .int b2)]) S.1 S.2.1 dX9_plan_103 hl (k := 3) rfl (by rw [ev14]; rfl) (by decide) rfl (fun ls hl => ?_)
          refine lv_goto (tgt := 28) S.1 S.2.1 dX9_plan_106 (by decide) ?_
          exact ih _ _ h _ _ d _ (lv_sub hl [1, 2, 3, 0] rfl)
        have h := g9
        refine lv_if_eq (tgt := 101) S.1 S.2.1 dX9_plan_77 (by decide) (fun cc => ?_) (fun cc => ?_)
        · replace h := it_p cc h
          refine lv_iconst (v := 0) S.1 S.2.1 dX9_plan_101 (by decide) ?_
          obtain ej := Option.some.inj h
          refine r_top ej.symm ?_
          exact Jt8 _ _ d
        · replace h := it_n cc h
          refine lv_aload_n S.1 S.2.1 dX9_plan_80 rfl (lv_at hl 0 rfl) ?_
          refine gf_20_6 S d hb0 fl_RX9_28 dX9_plan_81 ?_
          refine lv_bipush (v := 8) S.1 S.2.1 dX9_plan_84 (by decide) ?_
          refine lv_iload_n S.1 S.2.1 dX9_plan_86 rfl (lv_at hl 3 rfl) ?_
          refine lv_imul S.1 S.2.1 dX9_plan_87 ?_
          refine lv_iconst (v := 1) S.1 S.2.1 dX9_plan_88 (by decide) ?_
          refine lv_iadd S.1 S.2.1 dX9_plan_89 ?_
          obtain ⟨g10, h⟩ := gd_e h
          refine r_iald S d (ksdM S (ch_20_6 hb0).1) (wc_21 (ch_20_6 hb0).1) (ch_20_6 hb0).2 g10 dX9_plan_90 ?_
          refine lv_aload_n S.1 S.2.1 dX9_plan_91 rfl (lv_at hl 0 rfl) ?_
          refine lv_iload_n S.1 S.2.1 dX9_plan_92 rfl (lv_at hl 3 rfl) ?_
          refine lv_iload_n S.1 S.2.1 dX9_plan_93 rfl (lv_at hl 2 rfl) ?_
          obtain ⟨u11, hu11, h⟩ := bd_e h
          refine r_ri d (r_cV (As := [.int x3, .int b2]) (rest := [.int (M6 (b0 + 7) (((8 : Int32) * x3) + (1 : Int32)).toNatClampNeg), .int (((10 : Int32) * b2) + x3), .ref (ad G (b0 + 13))]) S d (c_X9_lostBy l G M6 L fu b0 x3 b2 hb0 hu11) (ksdM S hb0) (wc_20 hb0) rfl ml_RX9_197 im_yX9_lostBy se_yX9_lostBy in_RX9 co_yX9_lostBy hyV_X9_lostBy ⟨rfl, rfl⟩ ⟨by decide, by decide⟩ rfl hl rfl (Nat.le_of_ble_eq_true rfl) dX9_plan_94 ⟨Nat.zero_le _, Nat.zero_le _⟩) (fun H locs d => ?_)
          refine lv_isub S.1 S.2.1 dX9_plan_97 ?_
          refine lv_goto (tgt := 102) S.1 S.2.1 dX9_plan_98 (by decide) ?_
          obtain ej := Option.some.inj h
          refine r_top ej.symm ?_
          exact Jt8 _ _ d
      have h := g4
      refine lv_if_eq (tgt := 59) S.1 S.2.1 dX9_plan_52 (by decide) (fun cc => ?_) (fun cc => ?_)
      · replace h := it_p cc h
        refine lv_iconst (v := 0) S.1 S.2.1 dX9_plan_59 (by decide) ?_
        obtain ej := Option.some.inj h
        refine r_top ej.symm ?_
        exact Jt3 _ _ d
      · replace h := it_n cc h
        refine lv_iconst (v := 1) S.1 S.2.1 dX9_plan_55 (by decide) ?_
        refine lv_goto (tgt := 60) S.1 S.2.1 dX9_plan_56 (by decide) ?_
        obtain ej := Option.some.inj h
        refine r_top ej.symm ?_
        exact Jt3 _ _ d
set_option maxHeartbeats 4000000 in
set_option maxRecDepth 100000 in
theorem lc_X9_plan_18 {p : Program} {l : Launch} {e : Env} {s : State} {m : MethodId} {args : Array Value} {below : List Frame} {meth : Method} {c : Code} {G : Gx} {L : MemL} {fu : Nat} {b0 : Nat} {b1 : Int32} {z : Int32 × Mem} (S : Sx G true p s m args meth c cX9_plan 4 RX9) (hr : meth.sig.returnType = (Option.some Jvm.ClassFile.FieldType.int)) (hb0 : kd b0 = 20) (K : Mem → Option (Int32 × Mem)) (hK : ∀ (My : Mem) (H : Heap) (locs : List Loc), Dy G s My L H locs → ∀ ls : Array Slot, lv_has ls 4 [(0, .ref (ad G b0)), (1, .int b1)] → K My = some z → W p l e rm_X9_plan s m args below meth c H locs 0 0 (MQ below (Qi G z.1 z.2 L) args s 0 0 (gA G)) (F0 m 115 ls [])) :
    ∀ (n : Nat) (x2 : Int32) (Mx : Mem), lp_X9_plan_18 fu b0 b1 K n x2 Mx = some z → ∀ (H : Heap) (locs : List Loc), Dy G s Mx L H locs → ∀ ls : Array Slot, lv_has ls 4 [(0, .ref (ad G b0)), (1, .int b1), (2, .int x2)] → W p l e rm_X9_plan s m args below meth c H locs 0 0 (MQ below (Qi G z.1 z.2 L) args s 0 0 (gA G)) (F0 m 18 ls []) := by
  intro n
  induction n with
  | zero =>
    intro x2 Mx h
    have h : (none : Option (Int32 × Mem)) = some z := h
    cases h
  | succ n ih =>
    intro x2 Mx h H locs d ls hl
    rw [lp_X9_plan_18] at h
    refine lv_iload_n S.1 S.2.1 dX9_plan_18 rfl (lv_at hl 2 rfl) ?_
    refine lv_aload_n S.1 S.2.1 dX9_plan_19 rfl (lv_at hl 0 rfl) ?_
    refine gf_20_7 S d hb0 fl_RX9_71 dX9_plan_20 ?_
    refine lv_icmp_ge (tgt := 115) S.1 S.2.1 dX9_plan_23 (by decide) (fun cc => ?_) (fun cc => ?_)
    · replace h := it_p cc h
      exact hK _ _ _ d _ (lv_sub hl [0, 1] rfl) h
    · replace h := it_n cc h
      refine lv_iconst (v := 0) S.1 S.2.1 dX9_plan_26 (by decide) ?_
      refine lv_istore_n (lv' := [(3, .int (0 : Int32)), (0, .ref (ad G b0)), (1, .int b1), (2, .int x2)]) S.1 S.2.1 dX9_plan_27 rfl hl (by decide) rfl (fun ls hl => ?_)
      refine lc_X9_plan_28 S hr hb0 _ (fun M15 H locs d ls hl h => ?_) _ _ _  h _ _ d _ (lv_sub hl [1, 2, 3, 0] rfl)
      obtain ⟨v16, ev16, h⟩ := lt_e h
      refine lv_iinc (v := v16) (lv' := [(2, .int v16), (0, .ref (ad G b0)), (1, .int b1)]) S.1 S.2.1 dX9_plan_109 hl (k := 2) rfl (by rw [ev16]; rfl) (by decide) rfl (fun ls hl => ?_)
      refine lv_goto (tgt := 18) S.1 S.2.1 dX9_plan_112 (by decide) ?_
      exact ih _ _ h _ _ d _ (lv_sub hl [1, 2, 0] rfl)
set_option maxHeartbeats 4000000 in
set_option maxRecDepth 100000 in
theorem c_X9_plan (l : Launch) (G : Gx) (M : Mem) (L : MemL) (fu : Nat) (k0 : Nat) (a1 : Int32) (hk0 : kd k0 = 20) {z : Int32 × Mem} (h : f_X9_plan fu M k0 a1 = some z) : Met l yX9_plan (.code yX9_plan cX9_plan 4 (Option.some Jvm.ClassFile.FieldType.int) :: UW) rm_X9_plan (va_Pc [.ref (ad G k0), .int a1] (PreG G true M L)) (Qi G z.1 z.2 L) 0 0 (gA G) := by
  refine r_in (by decide) (fun p e s m args below meth c S hr d ha ls hl => ?_) (Nat.le_of_ble_eq_true rfl)
  have S : Sx G true p s m args meth c cX9_plan 4 RX9 := S
  have hl : lv_has ls 4 [(0, .ref (ad G k0)), (1, .int a1)] := hl
  unfold f_X9_plan at h
  refine lv_iload_n S.1 S.2.1 dX9_plan_0 rfl (lv_at hl 1 rfl) ?_
  refine lv_i2l S.1 S.2.1 dX9_plan_1 rfl ?_
  refine lv_ldc2 (v := (-2)) S.1 S.2.1 S.2.2.2.1 (S.uw cn_RX9_203) dX9_plan_2 ?_
  refine lv_ldc2 (v := 8) S.1 S.2.1 S.2.2.2.1 (S.uw cn_RX9_133) dX9_plan_5 ?_
  obtain ⟨u1, hu1, h⟩ := bd_e h
  refine r_ri d (r_cS (As := [.long ((a1).toInt64), .long (-2 : Int64), .long (8 : Int64)]) (rest := []) S d (c_X9_in l G M L ((a1).toInt64) (-2 : Int64) (8 : Int64) hu1) ml_RX9_75 sm_yX9_in in_RX9 co_yX9_in hyS_X9_in ⟨rfl, rfl⟩ ⟨by decide, by decide⟩ rfl hl rfl (Nat.le_of_ble_eq_true rfl) dX9_plan_8 ⟨Nat.zero_le _, Nat.zero_le _⟩) (fun H locs d => ?_)
  refine lv_if_ne (tgt := 16) S.1 S.2.1 dX9_plan_11 (by decide) (fun cc => ?_) (fun cc => ?_)
  · replace h := it_n cc h
    refine lv_iconst (v := 0) S.1 S.2.1 dX9_plan_16 (by decide) ?_
    refine lv_istore_n (lv' := [(2, .int (0 : Int32)), (0, .ref (ad G k0)), (1, .int a1)]) S.1 S.2.1 dX9_plan_17 rfl hl (by decide) rfl (fun ls hl => ?_)
    refine lc_X9_plan_18 S hr hk0 _ (fun M17 H locs d ls hl h => ?_) _ _ _  h _ _ d _ (lv_sub hl [1, 2, 0] rfl)
    refine lv_aload_n S.1 S.2.1 dX9_plan_115 rfl (lv_at hl 0 rfl) ?_
    obtain ⟨u18, hu18, h⟩ := bd_e h
    refine r_rv d (r_cV (As := []) (rest := []) S d (c_X9_findRow l G M17 L fu k0 hk0 hu18) (ksdM S hk0) (wc_20 hk0) rfl ml_RX9_205 im_yX9_findRow se_yX9_findRow in_RX9 co_yX9_findRow hyV_X9_findRow ⟨rfl, rfl⟩ ⟨by decide, by decide⟩ rfl hl rfl (Nat.le_of_ble_eq_true rfl) dX9_plan_116 ⟨Nat.zero_le _, Nat.zero_le _⟩) (fun H locs d => ?_)
    refine lv_aload_n S.1 S.2.1 dX9_plan_119 rfl (lv_at hl 0 rfl) ?_
    refine lv_iload_n S.1 S.2.1 dX9_plan_120 rfl (lv_at hl 1 rfl) ?_
    obtain ⟨u19, hu19, h⟩ := bd_e h
    refine r_ri d (r_cV (As := [.int a1]) (rest := []) S d (c_X9_tellRow l G u18 L k0 a1 hk0 hu19) (ksdM S hk0) (wc_20 hk0) rfl ml_RX9_208 im_yX9_tellRow se_yX9_tellRow in_RX9 co_yX9_tellRow hyV_X9_tellRow ⟨rfl, rfl⟩ ⟨by decide, by decide⟩ rfl hl rfl (Nat.le_of_ble_eq_true rfl) dX9_plan_121 ⟨Nat.zero_le _, Nat.zero_le _⟩) (fun H locs d => ?_)
    obtain rfl := Option.some.inj h
    exact r_iret S d hr rfl rfl dX9_plan_124
  · replace h := it_p cc h
    refine lv_iconst (v := (-1)) S.1 S.2.1 dX9_plan_14 (by decide) ?_
    obtain rfl := Option.some.inj h
    exact r_iret S d hr rfl rfl dX9_plan_15
theorem hyV_X9_nearest : yX9_nearest.cls = RX9 ∧ yX9_nearest.cls ≠ "java/lang/invoke/MethodHandle" ∧ yX9_nearest.cls ≠ "java/lang/invoke/VarHandle" ∧ (parseMethodDescriptor yX9_nearest.desc).map (fun d => d.parameters.length) = some 2 := by decide +kernel
abbrev rm_X9_nearest : Room := { frames := 2, cells := 0, slots := 0, locals := 46 }
def lp_X9_nearest_44 (fu : Nat) (M : Mem) (b0 : Nat) (b1 : Int32) (b2 : Int32) (b3 : Int32) (b4 : Int32) (b5 : Int32) (K : Int32 → Option (Int32)) : Nat → Int32 → Int32 → Option (Int32)
  | 0, _, _ => none
  | n + 1, x6, x7 =>
    (f_X9_sizeOf M b0 b5).bind (fun u3 =>
    (if u3 ≤ x7 then (K x6)
    else (f_X9_hasRoom M b0 b5 b1).bind (fun u4 =>
      (if u4 = 0 then (K x6)
      else (f_X9_seenOf fu M b0 (b1 + x7)).bind (fun u5 =>
        (f_X9_letterOf M b0 b5 x7).bind (fun u6 =>
        gd (inb u6 26) (
        (f_X9_ones fu (u5 ^^^ (M (b0 + 1) u6.toNatClampNeg))).bind (fun u8 =>
        lt ((x6 + u8)) (fun v9 : Int32 =>
        lt (x7 + 1) (fun v10 : Int32 =>
        (lp_X9_nearest_44 fu M b0 b1 b2 b3 b4 b5 K n v9 v10)))))))))))
def lp_X9_nearest_29 (fu : Nat) (M : Mem) (b0 : Nat) (b1 : Int32) (b2 : Int32) (K : Int32 → Int32 → Option (Int32)) : Nat → Int32 → Int32 → Int32 → Option (Int32)
  | 0, _, _, _ => none
  | n + 1, x3, x4, x5 =>
    (if (M b0 8) ≤ x5 then (K x3 x4)
    else (lp_X9_nearest_44 fu M b0 b1 b2 x3 x4 x5 (fun (v11 : Int32) =>
        (f_X9_hasRoom M b0 x5 b1).bind (fun u12 =>
        (if u12 = 0 then lt (x5 + 1) (fun v16 : Int32 =>
          (lp_X9_nearest_29 fu M b0 b1 b2 K n x3 x4 v16))
        else (if x3 < 0 then lt (x5 + 1) (fun v15 : Int32 =>
            (lp_X9_nearest_29 fu M b0 b1 b2 K n x5 v11 v15))
          else (if x4 ≤ v11 then lt (x5 + 1) (fun v14 : Int32 =>
              (lp_X9_nearest_29 fu M b0 b1 b2 K n x3 x4 v14))
            else lt (x5 + 1) (fun v13 : Int32 =>
              (lp_X9_nearest_29 fu M b0 b1 b2 K n x5 v11 v13))))))) fu (0 : Int32) (0 : Int32)))
def f_X9_nearest (fu : Nat) (M : Mem) (k0 : Nat) (a1 : Int32) (a2 : Int32) : Option (Int32) :=
  (f_X9_isStrip M k0 a1).bind (fun u1 =>
  (if u1 = 0 then some ((-1 : Int32))
  else (f_X9_in ((a2).toInt64) (0 : Int64) (1 : Int64)).bind (fun u2 =>
    (if u2 = 0 then some ((-1 : Int32))
    else (lp_X9_nearest_29 fu M k0 a1 a2 (fun (v17 : Int32) (v18 : Int32) =>
        (if 0 ≤ v17 then (if a2 = 0 then some (v17)
          else some (v18))
        else some ((-4 : Int32)))) fu (-4 : Int32) (0 : Int32) (0 : Int32))))))
set_option maxHeartbeats 4000000 in
set_option maxRecDepth 100000 in
theorem lc_X9_nearest_44 {p : Program} {l : Launch} {e : Env} {s : State} {m : MethodId} {args : Array Value} {below : List Frame} {meth : Method} {c : Code} {G : Gx} {M : Mem} {L : MemL} {fu : Nat} {b0 : Nat} {b1 : Int32} {b2 : Int32} {b3 : Int32} {b4 : Int32} {b5 : Int32} {z : Int32} (S : Sx G true p s m args meth c cX9_nearest 8 RX9) (hr : meth.sig.returnType = (Option.some Jvm.ClassFile.FieldType.int)) (hb0 : kd b0 = 20) (K : Int32 → Option (Int32)) (hK : ∀ (y6 : Int32) (H : Heap) (locs : List Loc), Dy G s M L H locs → ∀ ls : Array Slot, lv_has ls 8 [(0, .ref (ad G b0)), (1, .int b1), (2, .int b2), (3, .int b3), (4, .int b4), (5, .int b5), (6, .int y6)] → K y6 = some z → W p l e rm_X9_nearest s m args below meth c H locs 0 0 (MQ below (Qi G z M L) args s 0 0 (gA G)) (F0 m 101 ls [])) :
    ∀ (n : Nat) (x6 : Int32) (x7 : Int32), lp_X9_nearest_44 fu M b0 b1 b2 b3 b4 b5 K n x6 x7 = some z → ∀ (H : Heap) (locs : List Loc), Dy G s M L H locs → ∀ ls : Array Slot, lv_has ls 8 [(0, .ref (ad G b0)), (1, .int b1), (2, .int b2), (3, .int b3), (4, .int b4), (5, .int b5), (6, .int x6), (7, .int x7)] → W p l e rm_X9_nearest s m args below meth c H locs 0 0 (MQ below (Qi G z M L) args s 0 0 (gA G)) (F0 m 44 ls []) := by
  intro n
  induction n with
  | zero =>
    intro x6 x7 h
    have h : (none : Option (Int32)) = some z := h
    cases h
  | succ n ih =>
    intro x6 x7 h H locs d ls hl
    rw [lp_X9_nearest_44] at h
    refine lv_iload S.1 S.2.1 dX9_nearest_44 (lv_at hl 7 rfl) ?_
    refine lv_aload_n S.1 S.2.1 dX9_nearest_46 rfl (lv_at hl 0 rfl) ?_
    refine lv_iload S.1 S.2.1 dX9_nearest_47 (lv_at hl 5 rfl) ?_
    obtain ⟨u3, hu3, h⟩ := bd_e h
    refine r_ri d (r_cV (As := [.int b5]) (rest := [.int x7]) S d (c_X9_sizeOf l G M L b0 b5 hb0 hu3) (ksdM S hb0) (wc_20 hb0) rfl ml_RX9_179 im_yX9_sizeOf se_yX9_sizeOf in_RX9 co_yX9_sizeOf hyV_X9_sizeOf ⟨rfl, rfl⟩ ⟨by decide, by decide⟩ rfl hl rfl (Nat.le_of_ble_eq_true rfl) dX9_nearest_49 ⟨Nat.zero_le _, Nat.zero_le _⟩) (fun H locs d => ?_)
    refine lv_icmp_ge (tgt := 101) S.1 S.2.1 dX9_nearest_52 (by decide) (fun cc => ?_) (fun cc => ?_)
    · replace h := it_p cc h
      exact hK _ _ _ d _ (lv_sub hl [0, 1, 2, 3, 4, 5, 6] rfl) h
    · replace h := it_n cc h
      refine lv_aload_n S.1 S.2.1 dX9_nearest_55 rfl (lv_at hl 0 rfl) ?_
      refine lv_iload S.1 S.2.1 dX9_nearest_56 (lv_at hl 5 rfl) ?_
      refine lv_iload_n S.1 S.2.1 dX9_nearest_58 rfl (lv_at hl 1 rfl) ?_
      obtain ⟨u4, hu4, h⟩ := bd_e h
      refine r_ri d (r_cV (As := [.int b5, .int b1]) (rest := []) S d (c_X9_hasRoom l G M L b0 b5 b1 hb0 hu4) (ksdM S hb0) (wc_20 hb0) rfl ml_RX9_182 im_yX9_hasRoom se_yX9_hasRoom in_RX9 co_yX9_hasRoom hyV_X9_hasRoom ⟨rfl, rfl⟩ ⟨by decide, by decide⟩ rfl hl rfl (Nat.le_of_ble_eq_true rfl) dX9_nearest_59 ⟨Nat.zero_le _, Nat.zero_le _⟩) (fun H locs d => ?_)
      refine lv_if_eq (tgt := 101) S.1 S.2.1 dX9_nearest_62 (by decide) (fun cc => ?_) (fun cc => ?_)
      · replace h := it_p cc h
        exact hK _ _ _ d _ (lv_sub hl [0, 1, 2, 3, 4, 5, 6] rfl) h
      · replace h := it_n cc h
        refine lv_iload S.1 S.2.1 dX9_nearest_65 (lv_at hl 6 rfl) ?_
        refine lv_aload_n S.1 S.2.1 dX9_nearest_67 rfl (lv_at hl 0 rfl) ?_
        refine lv_iload_n S.1 S.2.1 dX9_nearest_68 rfl (lv_at hl 1 rfl) ?_
        refine lv_iload S.1 S.2.1 dX9_nearest_69 (lv_at hl 7 rfl) ?_
        refine lv_iadd S.1 S.2.1 dX9_nearest_71 ?_
        obtain ⟨u5, hu5, h⟩ := bd_e h
        refine r_ri d (r_cV (As := [.int (b1 + x7)]) (rest := [.int x6]) S d (c_X9_seenOf l G M L fu b0 (b1 + x7) hb0 hu5) (ksdM S hb0) (wc_20 hb0) rfl ml_RX9_104 im_yX9_seenOf se_yX9_seenOf in_RX9 co_yX9_seenOf hyV_X9_seenOf ⟨rfl, rfl⟩ ⟨by decide, by decide⟩ rfl hl rfl (Nat.le_of_ble_eq_true rfl) dX9_nearest_72 ⟨Nat.zero_le _, Nat.zero_le _⟩) (fun H locs d => ?_)
        refine lv_aload_n S.1 S.2.1 dX9_nearest_75 rfl (lv_at hl 0 rfl) ?_
        refine gf_20_0 S d hb0 fl_RX9_7 dX9_nearest_76 ?_
        refine lv_aload_n S.1 S.2.1 dX9_nearest_79 rfl (lv_at hl 0 rfl) ?_
        refine lv_iload S.1 S.2.1 dX9_nearest_80 (lv_at hl 5 rfl) ?_
        refine lv_iload S.1 S.2.1 dX9_nearest_82 (lv_at hl 7 rfl) ?_
        obtain ⟨u6, hu6, h⟩ := bd_e h
        refine r_ri d (r_cV (As := [.int b5, .int x7]) (rest := [.ref (ad G (b0 + 1)), .int u5, .int x6]) S d (c_X9_letterOf l G M L b0 b5 x7 hb0 hu6) (ksdM S hb0) (wc_20 hb0) rfl ml_RX9_185 im_yX9_letterOf se_yX9_letterOf in_RX9 co_yX9_letterOf hyV_X9_letterOf ⟨rfl, rfl⟩ ⟨by decide, by decide⟩ rfl hl rfl (Nat.le_of_ble_eq_true rfl) dX9_nearest_84 ⟨Nat.zero_le _, Nat.zero_le _⟩) (fun H locs d => ?_)
        obtain ⟨g7, h⟩ := gd_e h
        refine r_iald S d (ksdM S (ch_20_0 hb0).1) (wc_21 (ch_20_0 hb0).1) (ch_20_0 hb0).2 g7 dX9_nearest_87 ?_
        refine lv_ixor S.1 S.2.1 dX9_nearest_88 ?_
        obtain ⟨u8, hu8, h⟩ := bd_e h
        refine r_ri d (r_cS (As := [.int (u5 ^^^ (M (b0 + 1) u6.toNatClampNeg))]) (rest := [.int x6]) S d (c_X9_ones l G M L fu (u5 ^^^ (M (b0 + 1) u6.toNatClampNeg)) hu8) ml_RX9_108 sm_yX9_ones in_RX9 co_yX9_ones hyS_X9_ones ⟨rfl, rfl⟩ ⟨by decide, by decide⟩ rfl hl rfl (Nat.le_of_ble_eq_true rfl) dX9_nearest_89 ⟨Nat.zero_le _, Nat.zero_le _⟩) (fun H locs d => ?_)
        refine lv_iadd S.1 S.2.1 dX9_nearest_92 ?_
        obtain ⟨v9, ev9, h⟩ := lt_e h
        refine r_top ev9 ?_
        refine lv_istore (lv' := [(6, .int v9), (0, .ref (ad G b0)), (1, .int b1), (2, .int b2), (3, .int b3), (4, .int b4), (5, .int b5), (7, .int x7)]) S.1 S.2.1 dX9_nearest_93 hl (by decide) rfl (fun ls hl => ?_)
        obtain ⟨v10, ev10, h⟩ := lt_e h
        refine lv_iinc (v := v10) (lv' := [(7, .int v10), (6, .int v9), (0, .ref (ad G b0)), (1, .int b1), (2, .int b2), (3, .int b3), (4, .int b4), (5, .int b5)]) S.1 S.2.1 dX9_nearest_95 hl (k := 7) rfl (by rw [ev10]; rfl) (by decide) rfl (fun ls hl => ?_)
        refine lv_goto (tgt := 44) S.1 S.2.1 dX9_nearest_98 (by decide) ?_
        exact ih _ _ h _ _ d _ (lv_sub hl [2, 3, 4, 5, 6, 7, 1, 0] rfl)
set_option maxHeartbeats 4000000 in
set_option maxRecDepth 100000 in
theorem lc_X9_nearest_29 {p : Program} {l : Launch} {e : Env} {s : State} {m : MethodId} {args : Array Value} {below : List Frame} {meth : Method} {c : Code} {G : Gx} {M : Mem} {L : MemL} {fu : Nat} {b0 : Nat} {b1 : Int32} {b2 : Int32} {z : Int32} (S : Sx G true p s m args meth c cX9_nearest 8 RX9) (hr : meth.sig.returnType = (Option.some Jvm.ClassFile.FieldType.int)) (hb0 : kd b0 = 20) (K : Int32 → Int32 → Option (Int32)) (hK : ∀ (y3 : Int32) (y4 : Int32) (H : Heap) (locs : List Loc), Dy G s M L H locs → ∀ ls : Array Slot, lv_has ls 8 [(2, .int b2), (3, .int y3), (4, .int y4)] → K y3 y4 = some z → W p l e rm_X9_nearest s m args below meth c H locs 0 0 (MQ below (Qi G z M L) args s 0 0 (gA G)) (F0 m 135 ls [])) :
    ∀ (n : Nat) (x3 : Int32) (x4 : Int32) (x5 : Int32), lp_X9_nearest_29 fu M b0 b1 b2 K n x3 x4 x5 = some z → ∀ (H : Heap) (locs : List Loc), Dy G s M L H locs → ∀ ls : Array Slot, lv_has ls 8 [(0, .ref (ad G b0)), (1, .int b1), (2, .int b2), (3, .int x3), (4, .int x4), (5, .int x5)] → W p l e rm_X9_nearest s m args below meth c H locs 0 0 (MQ below (Qi G z M L) args s 0 0 (gA G)) (F0 m 29 ls []) := by
  intro n
  induction n with
  | zero =>
    intro x3 x4 x5 h
    have h : (none : Option (Int32)) = some z := h
    cases h
  | succ n ih =>
    intro x3 x4 x5 h H locs d ls hl
    rw [lp_X9_nearest_29] at h
    refine lv_iload S.1 S.2.1 dX9_nearest_29 (lv_at hl 5 rfl) ?_
    refine lv_aload_n S.1 S.2.1 dX9_nearest_31 rfl (lv_at hl 0 rfl) ?_
    refine gf_20_8 S d hb0 fl_RX9_83 dX9_nearest_32 ?_
    refine lv_icmp_ge (tgt := 135) S.1 S.2.1 dX9_nearest_35 (by decide) (fun cc => ?_) (fun cc => ?_)
    · replace h := it_p cc h
      exact hK _ _ _ _ d _ (lv_sub hl [2, 3, 4] rfl) h
    · replace h := it_n cc h
      refine lv_iconst (v := 0) S.1 S.2.1 dX9_nearest_38 (by decide) ?_
      refine lv_istore (lv' := [(6, .int (0 : Int32)), (0, .ref (ad G b0)), (1, .int b1), (2, .int b2), (3, .int x3), (4, .int x4), (5, .int x5)]) S.1 S.2.1 dX9_nearest_39 hl (by decide) rfl (fun ls hl => ?_)
      refine lv_iconst (v := 0) S.1 S.2.1 dX9_nearest_41 (by decide) ?_
      refine lv_istore (lv' := [(7, .int (0 : Int32)), (6, .int (0 : Int32)), (0, .ref (ad G b0)), (1, .int b1), (2, .int b2), (3, .int x3), (4, .int x4), (5, .int x5)]) S.1 S.2.1 dX9_nearest_42 hl (by decide) rfl (fun ls hl => ?_)
      refine lc_X9_nearest_44 S hr hb0 _ (fun v11 H locs d ls hl h => ?_) _ _ _  h _ _ d _ (lv_sub hl [2, 3, 4, 5, 6, 7, 1, 0] rfl)
      refine lv_aload_n S.1 S.2.1 dX9_nearest_101 rfl (lv_at hl 0 rfl) ?_
      refine lv_iload S.1 S.2.1 dX9_nearest_102 (lv_at hl 5 rfl) ?_
      refine lv_iload_n S.1 S.2.1 dX9_nearest_104 rfl (lv_at hl 1 rfl) ?_
      obtain ⟨u12, hu12, h⟩ := bd_e h
      refine r_ri d (r_cV (As := [.int x5, .int b1]) (rest := []) S d (c_X9_hasRoom l G M L b0 x5 b1 hb0 hu12) (ksdM S hb0) (wc_20 hb0) rfl ml_RX9_182 im_yX9_hasRoom se_yX9_hasRoom in_RX9 co_yX9_hasRoom hyV_X9_hasRoom ⟨rfl, rfl⟩ ⟨by decide, by decide⟩ rfl hl rfl (Nat.le_of_ble_eq_true rfl) dX9_nearest_105 ⟨Nat.zero_le _, Nat.zero_le _⟩) (fun H locs d => ?_)
      refine lv_if_eq (tgt := 129) S.1 S.2.1 dX9_nearest_108 (by decide) (fun cc => ?_) (fun cc => ?_)
      · replace h := it_p cc h
        obtain ⟨v16, ev16, h⟩ := lt_e h
        refine lv_iinc (v := v16) (lv' := [(5, .int v16), (0, .ref (ad G b0)), (1, .int b1), (2, .int b2), (3, .int x3), (4, .int x4), (6, .int v11)]) S.1 S.2.1 dX9_nearest_129 hl (k := 5) rfl (by rw [ev16]; rfl) (by decide) rfl (fun ls hl => ?_)
        refine lv_goto (tgt := 29) S.1 S.2.1 dX9_nearest_132 (by decide) ?_
        exact ih _ _ _ h _ _ d _ (lv_sub hl [1, 2, 3, 4, 5, 0] rfl)
      · replace h := it_n cc h
        refine lv_iload_n S.1 S.2.1 dX9_nearest_111 rfl (lv_at hl 3 rfl) ?_
        refine lv_if_lt (tgt := 122) S.1 S.2.1 dX9_nearest_112 (by decide) (fun cc => ?_) (fun cc => ?_)
        · replace h := it_p cc h
          refine lv_iload S.1 S.2.1 dX9_nearest_122 (lv_at hl 5 rfl) ?_
          refine lv_istore_n (lv' := [(3, .int x5), (0, .ref (ad G b0)), (1, .int b1), (2, .int b2), (4, .int x4), (5, .int x5), (6, .int v11)]) S.1 S.2.1 dX9_nearest_124 rfl hl (by decide) rfl (fun ls hl => ?_)
          refine lv_iload S.1 S.2.1 dX9_nearest_125 (lv_at hl 6 rfl) ?_
          refine lv_istore (lv' := [(4, .int v11), (3, .int x5), (0, .ref (ad G b0)), (1, .int b1), (2, .int b2), (5, .int x5), (6, .int v11)]) S.1 S.2.1 dX9_nearest_127 hl (by decide) rfl (fun ls hl => ?_)
          obtain ⟨v15, ev15, h⟩ := lt_e h
          refine lv_iinc (v := v15) (lv' := [(5, .int v15), (4, .int v11), (3, .int x5), (0, .ref (ad G b0)), (1, .int b1), (2, .int b2), (6, .int v11)]) S.1 S.2.1 dX9_nearest_129 hl (k := 5) rfl (by rw [ev15]; rfl) (by decide) rfl (fun ls hl => ?_)
          refine lv_goto (tgt := 29) S.1 S.2.1 dX9_nearest_132 (by decide) ?_
          exact ih _ _ _ h _ _ d _ (lv_sub hl [3, 4, 5, 2, 1, 0] rfl)
        · replace h := it_n cc h
          refine lv_iload S.1 S.2.1 dX9_nearest_115 (lv_at hl 6 rfl) ?_
          refine lv_iload S.1 S.2.1 dX9_nearest_117 (lv_at hl 4 rfl) ?_
          refine lv_icmp_ge (tgt := 129) S.1 S.2.1 dX9_nearest_119 (by decide) (fun cc => ?_) (fun cc => ?_)
          · replace h := it_p cc h
            obtain ⟨v14, ev14, h⟩ := lt_e h
            refine lv_iinc (v := v14) (lv' := [(5, .int v14), (0, .ref (ad G b0)), (1, .int b1), (2, .int b2), (3, .int x3), (4, .int x4), (6, .int v11)]) S.1 S.2.1 dX9_nearest_129 hl (k := 5) rfl (by rw [ev14]; rfl) (by decide) rfl (fun ls hl => ?_)
            refine lv_goto (tgt := 29) S.1 S.2.1 dX9_nearest_132 (by decide) ?_
            exact ih _ _ _ h _ _ d _ (lv_sub hl [1, 2, 3, 4, 5, 0] rfl)
          · replace h := it_n cc h
            refine lv_iload S.1 S.2.1 dX9_nearest_122 (lv_at hl 5 rfl) ?_
            refine lv_istore_n (lv' := [(3, .int x5), (0, .ref (ad G b0)), (1, .int b1), (2, .int b2), (4, .int x4), (5, .int x5), (6, .int v11)]) S.1 S.2.1 dX9_nearest_124 rfl hl (by decide) rfl (fun ls hl => ?_)
            refine lv_iload S.1 S.2.1 dX9_nearest_125 (lv_at hl 6 rfl) ?_
            refine lv_istore (lv' := [(4, .int v11), (3, .int x5), (0, .ref (ad G b0)), (1, .int b1), (2, .int b2), (5, .int x5), (6, .int v11)]) S.1 S.2.1 dX9_nearest_127 hl (by decide) rfl (fun ls hl => ?_)
            obtain ⟨v13, ev13, h⟩ := lt_e h
            refine lv_iinc (v := v13) (lv' := [(5, .int v13), (4, .int v11), (3, .int x5), (0, .ref (ad G b0)), (1, .int b1), (2, .int b2), (6, .int v11)]) S.1 S.2.1 dX9_nearest_129 hl (k := 5) rfl (by rw [ev13]; rfl) (by decide) rfl (fun ls hl => ?_)
            refine lv_goto (tgt := 29) S.1 S.2.1 dX9_nearest_132 (by decide) ?_
            exact ih _ _ _ h _ _ d _ (lv_sub hl [3, 4, 5, 2, 1, 0] rfl)
set_option maxHeartbeats 4000000 in
set_option maxRecDepth 100000 in
theorem c_X9_nearest (l : Launch) (G : Gx) (M : Mem) (L : MemL) (fu : Nat) (k0 : Nat) (a1 : Int32) (a2 : Int32) (hk0 : kd k0 = 20) {z : Int32} (h : f_X9_nearest fu M k0 a1 a2 = some z) : Met l yX9_nearest (.code yX9_nearest cX9_nearest 8 (Option.some Jvm.ClassFile.FieldType.int) :: UW) rm_X9_nearest (va_Pc [.ref (ad G k0), .int a1, .int a2] (PreG G true M L)) (Qi G z M L) 0 0 (gA G) := by
  refine r_in (by decide) (fun p e s m args below meth c S hr d ha ls hl => ?_) (Nat.le_of_ble_eq_true rfl)
  have S : Sx G true p s m args meth c cX9_nearest 8 RX9 := S
  have hl : lv_has ls 8 [(0, .ref (ad G k0)), (1, .int a1), (2, .int a2)] := hl
  unfold f_X9_nearest at h
  refine lv_aload_n S.1 S.2.1 dX9_nearest_0 rfl (lv_at hl 0 rfl) ?_
  refine lv_iload_n S.1 S.2.1 dX9_nearest_1 rfl (lv_at hl 1 rfl) ?_
  obtain ⟨u1, hu1, h⟩ := bd_e h
  refine r_ri d (r_cV (As := [.int a1]) (rest := []) S d (c_X9_isStrip l G M L k0 a1 hk0 hu1) (ksdM S hk0) (wc_20 hk0) rfl ml_RX9_94 im_yX9_isStrip se_yX9_isStrip in_RX9 co_yX9_isStrip hyV_X9_isStrip ⟨rfl, rfl⟩ ⟨by decide, by decide⟩ rfl hl rfl (Nat.le_of_ble_eq_true rfl) dX9_nearest_2 ⟨Nat.zero_le _, Nat.zero_le _⟩) (fun H locs d => ?_)
  refine lv_if_eq (tgt := 18) S.1 S.2.1 dX9_nearest_5 (by decide) (fun cc => ?_) (fun cc => ?_)
  · replace h := it_p cc h
    refine lv_iconst (v := (-1)) S.1 S.2.1 dX9_nearest_18 (by decide) ?_
    obtain rfl := Option.some.inj h
    exact r_iret S d hr rfl rfl dX9_nearest_19
  · replace h := it_n cc h
    refine lv_iload_n S.1 S.2.1 dX9_nearest_8 rfl (lv_at hl 2 rfl) ?_
    refine lv_i2l S.1 S.2.1 dX9_nearest_9 rfl ?_
    refine lv_lconst (v := 0) S.1 S.2.1 dX9_nearest_10 (by decide) ?_
    refine lv_lconst (v := 1) S.1 S.2.1 dX9_nearest_11 (by decide) ?_
    obtain ⟨u2, hu2, h⟩ := bd_e h
    refine r_ri d (r_cS (As := [.long ((a2).toInt64), .long (0 : Int64), .long (1 : Int64)]) (rest := []) S d (c_X9_in l G M L ((a2).toInt64) (0 : Int64) (1 : Int64) hu2) ml_RX9_75 sm_yX9_in in_RX9 co_yX9_in hyS_X9_in ⟨rfl, rfl⟩ ⟨by decide, by decide⟩ rfl hl rfl (Nat.le_of_ble_eq_true rfl) dX9_nearest_12 ⟨Nat.zero_le _, Nat.zero_le _⟩) (fun H locs d => ?_)
    refine lv_if_ne (tgt := 20) S.1 S.2.1 dX9_nearest_15 (by decide) (fun cc => ?_) (fun cc => ?_)
    · replace h := it_n cc h
      refine lv_bipush (v := (-4)) S.1 S.2.1 dX9_nearest_20 (by decide) ?_
      refine lv_istore_n (lv' := [(3, .int (-4 : Int32)), (0, .ref (ad G k0)), (1, .int a1), (2, .int a2)]) S.1 S.2.1 dX9_nearest_22 rfl hl (by decide) rfl (fun ls hl => ?_)
      refine lv_iconst (v := 0) S.1 S.2.1 dX9_nearest_23 (by decide) ?_
      refine lv_istore (lv' := [(4, .int (0 : Int32)), (3, .int (-4 : Int32)), (0, .ref (ad G k0)), (1, .int a1), (2, .int a2)]) S.1 S.2.1 dX9_nearest_24 hl (by decide) rfl (fun ls hl => ?_)
      refine lv_iconst (v := 0) S.1 S.2.1 dX9_nearest_26 (by decide) ?_
      refine lv_istore (lv' := [(5, .int (0 : Int32)), (4, .int (0 : Int32)), (3, .int (-4 : Int32)), (0, .ref (ad G k0)), (1, .int a1), (2, .int a2)]) S.1 S.2.1 dX9_nearest_27 hl (by decide) rfl (fun ls hl => ?_)
      refine lc_X9_nearest_29 S hr hk0 _ (fun v17 v18 H locs d ls hl h => ?_) _ _ _ _  h _ _ d _ (lv_sub hl [3, 4, 5, 2, 1, 0] rfl)
      refine lv_iload_n S.1 S.2.1 dX9_nearest_135 rfl (lv_at hl 1 rfl) ?_
      refine lv_if_ge (tgt := 144) S.1 S.2.1 dX9_nearest_136 (by decide) (fun cc => ?_) (fun cc => ?_)
      · replace h := it_p cc h
        refine lv_iload_n S.1 S.2.1 dX9_nearest_144 rfl (lv_at hl 0 rfl) ?_
        refine lv_if_ne (tgt := 152) S.1 S.2.1 dX9_nearest_145 (by decide) (fun cc => ?_) (fun cc => ?_)
        · replace h := it_n cc h
          refine lv_iload S.1 S.2.1 dX9_nearest_152 (lv_at hl 2 rfl) ?_
          obtain rfl := Option.some.inj h
          exact r_iret S d hr rfl rfl dX9_nearest_154
        · replace h := it_p cc h
          refine lv_iload_n S.1 S.2.1 dX9_nearest_148 rfl (lv_at hl 1 rfl) ?_
          refine lv_goto (tgt := 154) S.1 S.2.1 dX9_nearest_149 (by decide) ?_
          obtain rfl := Option.some.inj h
          exact r_iret S d hr rfl rfl dX9_nearest_154
      · replace h := it_n cc h
        refine lv_bipush (v := (-4)) S.1 S.2.1 dX9_nearest_139 (by decide) ?_
        refine lv_goto (tgt := 154) S.1 S.2.1 dX9_nearest_141 (by decide) ?_
        obtain rfl := Option.some.inj h
        exact r_iret S d hr rfl rfl dX9_nearest_154
    · replace h := it_p cc h
      refine lv_iconst (v := (-1)) S.1 S.2.1 dX9_nearest_18 (by decide) ?_
      obtain rfl := Option.some.inj h
      exact r_iret S d hr rfl rfl dX9_nearest_19
theorem hyV_X9_write : yX9_write.cls = RX9 ∧ yX9_write.cls ≠ "java/lang/invoke/MethodHandle" ∧ yX9_write.cls ≠ "java/lang/invoke/VarHandle" ∧ (parseMethodDescriptor yX9_write.desc).map (fun d => d.parameters.length) = some 2 := by decide +kernel
abbrev rm_X9_write : Room := { frames := 4, cells := 0, slots := 0, locals := 94 }
def lp_X9_write_35 (fu : Nat) (b0 : Nat) (b1 : Int32) (b2 : Int32) (K : Int32 → Mem → Option (Int32 × Mem)) : Nat → Int32 → Int32 → Mem → Option (Int32 × Mem)
  | 0, _, _, _ => none
  | n + 1, x3, x4, Mx =>
    (f_X9_sizeOf Mx b0 b1).bind (fun u4 =>
    (if u4 ≤ x4 then (K x3 Mx)
    else (f_X9_letterOf Mx b0 b1 x4).bind (fun u5 =>
      gd (inb u5 26) (
      (f_X9_mowSet fu Mx b0 (b2 + x4) (Mx (b0 + 1) u5.toNatClampNeg)).bind (fun u7 =>
      lt ((x3 + u7.1)) (fun v8 : Int32 =>
      lt (x4 + 1) (fun v9 : Int32 =>
      (lp_X9_write_35 fu b0 b1 b2 K n v8 v9 u7.2))))))))
def f_X9_write (fu : Nat) (M : Mem) (k0 : Nat) (a1 : Int32) (a2 : Int32) : Option (Int32 × Mem) :=
  (f_X9_isWord M k0 a1).bind (fun u1 =>
  (if u1 = 0 then some ((-1 : Int32), M)
  else (f_X9_isStrip M k0 a2).bind (fun u2 =>
    (if u2 = 0 then some ((-1 : Int32), M)
    else (f_X9_mayBe fu M k0 a1 a2).bind (fun u3 =>
      (if u3 = 0 then some ((-2 : Int32), M)
      else (lp_X9_write_35 fu k0 a1 a2 (fun (v10 : Int32) (M11 : Mem) =>
          some (v10, M11)) fu (0 : Int32) (0 : Int32) M)))))))
set_option maxHeartbeats 4000000 in
set_option maxRecDepth 100000 in
theorem lc_X9_write_35 {p : Program} {l : Launch} {e : Env} {s : State} {m : MethodId} {args : Array Value} {below : List Frame} {meth : Method} {c : Code} {G : Gx} {L : MemL} {fu : Nat} {b0 : Nat} {b1 : Int32} {b2 : Int32} {z : Int32 × Mem} (S : Sx G true p s m args meth c cX9_write 5 RX9) (hr : meth.sig.returnType = (Option.some Jvm.ClassFile.FieldType.int)) (hb0 : kd b0 = 20) (K : Int32 → Mem → Option (Int32 × Mem)) (hK : ∀ (y3 : Int32) (My : Mem) (H : Heap) (locs : List Loc), Dy G s My L H locs → ∀ ls : Array Slot, lv_has ls 5 [(3, .int y3)] → K y3 My = some z → W p l e rm_X9_write s m args below meth c H locs 0 0 (MQ below (Qi G z.1 z.2 L) args s 0 0 (gA G)) (F0 m 74 ls [])) :
    ∀ (n : Nat) (x3 : Int32) (x4 : Int32) (Mx : Mem), lp_X9_write_35 fu b0 b1 b2 K n x3 x4 Mx = some z → ∀ (H : Heap) (locs : List Loc), Dy G s Mx L H locs → ∀ ls : Array Slot, lv_has ls 5 [(0, .ref (ad G b0)), (1, .int b1), (2, .int b2), (3, .int x3), (4, .int x4)] → W p l e rm_X9_write s m args below meth c H locs 0 0 (MQ below (Qi G z.1 z.2 L) args s 0 0 (gA G)) (F0 m 35 ls []) := by
  intro n
  induction n with
  | zero =>
    intro x3 x4 Mx h
    have h : (none : Option (Int32 × Mem)) = some z := h
    cases h
  | succ n ih =>
    intro x3 x4 Mx h H locs d ls hl
    rw [lp_X9_write_35] at h
    refine lv_iload S.1 S.2.1 dX9_write_35 (lv_at hl 4 rfl) ?_
    refine lv_aload_n S.1 S.2.1 dX9_write_37 rfl (lv_at hl 0 rfl) ?_
    refine lv_iload_n S.1 S.2.1 dX9_write_38 rfl (lv_at hl 1 rfl) ?_
    obtain ⟨u4, hu4, h⟩ := bd_e h
    refine r_ri d (r_cV (As := [.int b1]) (rest := [.int x4]) S d (c_X9_sizeOf l G Mx L b0 b1 hb0 hu4) (ksdM S hb0) (wc_20 hb0) rfl ml_RX9_179 im_yX9_sizeOf se_yX9_sizeOf in_RX9 co_yX9_sizeOf hyV_X9_sizeOf ⟨rfl, rfl⟩ ⟨by decide, by decide⟩ rfl hl rfl (Nat.le_of_ble_eq_true rfl) dX9_write_39 ⟨Nat.zero_le _, Nat.zero_le _⟩) (fun H locs d => ?_)
    refine lv_icmp_ge (tgt := 74) S.1 S.2.1 dX9_write_42 (by decide) (fun cc => ?_) (fun cc => ?_)
    · replace h := it_p cc h
      exact hK _ _ _ _ d _ (lv_sub hl [3] rfl) h
    · replace h := it_n cc h
      refine lv_iload_n S.1 S.2.1 dX9_write_45 rfl (lv_at hl 3 rfl) ?_
      refine lv_aload_n S.1 S.2.1 dX9_write_46 rfl (lv_at hl 0 rfl) ?_
      refine lv_iload_n S.1 S.2.1 dX9_write_47 rfl (lv_at hl 2 rfl) ?_
      refine lv_iload S.1 S.2.1 dX9_write_48 (lv_at hl 4 rfl) ?_
      refine lv_iadd S.1 S.2.1 dX9_write_50 ?_
      refine lv_aload_n S.1 S.2.1 dX9_write_51 rfl (lv_at hl 0 rfl) ?_
      refine gf_20_0 S d hb0 fl_RX9_7 dX9_write_52 ?_
      refine lv_aload_n S.1 S.2.1 dX9_write_55 rfl (lv_at hl 0 rfl) ?_
      refine lv_iload_n S.1 S.2.1 dX9_write_56 rfl (lv_at hl 1 rfl) ?_
      refine lv_iload S.1 S.2.1 dX9_write_57 (lv_at hl 4 rfl) ?_
      obtain ⟨u5, hu5, h⟩ := bd_e h
      refine r_ri d (r_cV (As := [.int b1, .int x4]) (rest := [.ref (ad G (b0 + 1)), .int (b2 + x4), .ref (ad G b0), .int x3]) S d (c_X9_letterOf l G Mx L b0 b1 x4 hb0 hu5) (ksdM S hb0) (wc_20 hb0) rfl ml_RX9_185 im_yX9_letterOf se_yX9_letterOf in_RX9 co_yX9_letterOf hyV_X9_letterOf ⟨rfl, rfl⟩ ⟨by decide, by decide⟩ rfl hl rfl (Nat.le_of_ble_eq_true rfl) dX9_write_59 ⟨Nat.zero_le _, Nat.zero_le _⟩) (fun H locs d => ?_)
      obtain ⟨g6, h⟩ := gd_e h
      refine r_iald S d (ksdM S (ch_20_0 hb0).1) (wc_21 (ch_20_0 hb0).1) (ch_20_0 hb0).2 g6 dX9_write_62 ?_
      obtain ⟨u7, hu7, h⟩ := bd_e h
      refine r_ri d (r_cV (As := [.int (b2 + x4), .int (Mx (b0 + 1) u5.toNatClampNeg)]) (rest := [.int x3]) S d (c_X9_mowSet l G Mx L fu b0 (b2 + x4) (Mx (b0 + 1) u5.toNatClampNeg) hb0 hu7) (ksdM S hb0) (wc_20 hb0) rfl ml_RX9_124 im_yX9_mowSet se_yX9_mowSet in_RX9 co_yX9_mowSet hyV_X9_mowSet ⟨rfl, rfl⟩ ⟨by decide, by decide⟩ rfl hl rfl (Nat.le_of_ble_eq_true rfl) dX9_write_63 ⟨Nat.zero_le _, Nat.zero_le _⟩) (fun H locs d => ?_)
      refine lv_iadd S.1 S.2.1 dX9_write_66 ?_
      obtain ⟨v8, ev8, h⟩ := lt_e h
      refine r_top ev8 ?_
      refine lv_istore_n (lv' := [(3, .int v8), (0, .ref (ad G b0)), (1, .int b1), (2, .int b2), (4, .int x4)]) S.1 S.2.1 dX9_write_67 rfl hl (by decide) rfl (fun ls hl => ?_)
      obtain ⟨v9, ev9, h⟩ := lt_e h
      refine lv_iinc (v := v9) (lv' := [(4, .int v9), (3, .int v8), (0, .ref (ad G b0)), (1, .int b1), (2, .int b2)]) S.1 S.2.1 dX9_write_68 hl (k := 4) rfl (by rw [ev9]; rfl) (by decide) rfl (fun ls hl => ?_)
      refine lv_goto (tgt := 35) S.1 S.2.1 dX9_write_71 (by decide) ?_
      exact ih _ _ _ h _ _ d _ (lv_sub hl [2, 3, 4, 1, 0] rfl)
set_option maxHeartbeats 4000000 in
set_option maxRecDepth 100000 in
theorem c_X9_write (l : Launch) (G : Gx) (M : Mem) (L : MemL) (fu : Nat) (k0 : Nat) (a1 : Int32) (a2 : Int32) (hk0 : kd k0 = 20) {z : Int32 × Mem} (h : f_X9_write fu M k0 a1 a2 = some z) : Met l yX9_write (.code yX9_write cX9_write 5 (Option.some Jvm.ClassFile.FieldType.int) :: UW) rm_X9_write (va_Pc [.ref (ad G k0), .int a1, .int a2] (PreG G true M L)) (Qi G z.1 z.2 L) 0 0 (gA G) := by
  refine r_in (by decide) (fun p e s m args below meth c S hr d ha ls hl => ?_) (Nat.le_of_ble_eq_true rfl)
  have S : Sx G true p s m args meth c cX9_write 5 RX9 := S
  have hl : lv_has ls 5 [(0, .ref (ad G k0)), (1, .int a1), (2, .int a2)] := hl
  unfold f_X9_write at h
  refine lv_aload_n S.1 S.2.1 dX9_write_0 rfl (lv_at hl 0 rfl) ?_
  refine lv_iload_n S.1 S.2.1 dX9_write_1 rfl (lv_at hl 1 rfl) ?_
  obtain ⟨u1, hu1, h⟩ := bd_e h
  refine r_ri d (r_cV (As := [.int a1]) (rest := []) S d (c_X9_isWord l G M L k0 a1 hk0 hu1) (ksdM S hk0) (wc_20 hk0) rfl ml_RX9_174 im_yX9_isWord se_yX9_isWord in_RX9 co_yX9_isWord hyV_X9_isWord ⟨rfl, rfl⟩ ⟨by decide, by decide⟩ rfl hl rfl (Nat.le_of_ble_eq_true rfl) dX9_write_2 ⟨Nat.zero_le _, Nat.zero_le _⟩) (fun H locs d => ?_)
  refine lv_if_eq (tgt := 16) S.1 S.2.1 dX9_write_5 (by decide) (fun cc => ?_) (fun cc => ?_)
  · replace h := it_p cc h
    refine lv_iconst (v := (-1)) S.1 S.2.1 dX9_write_16 (by decide) ?_
    obtain rfl := Option.some.inj h
    exact r_iret S d hr rfl rfl dX9_write_17
  · replace h := it_n cc h
    refine lv_aload_n S.1 S.2.1 dX9_write_8 rfl (lv_at hl 0 rfl) ?_
    refine lv_iload_n S.1 S.2.1 dX9_write_9 rfl (lv_at hl 2 rfl) ?_
    obtain ⟨u2, hu2, h⟩ := bd_e h
    refine r_ri d (r_cV (As := [.int a2]) (rest := []) S d (c_X9_isStrip l G M L k0 a2 hk0 hu2) (ksdM S hk0) (wc_20 hk0) rfl ml_RX9_94 im_yX9_isStrip se_yX9_isStrip in_RX9 co_yX9_isStrip hyV_X9_isStrip ⟨rfl, rfl⟩ ⟨by decide, by decide⟩ rfl hl rfl (Nat.le_of_ble_eq_true rfl) dX9_write_10 ⟨Nat.zero_le _, Nat.zero_le _⟩) (fun H locs d => ?_)
    refine lv_if_ne (tgt := 18) S.1 S.2.1 dX9_write_13 (by decide) (fun cc => ?_) (fun cc => ?_)
    · replace h := it_n cc h
      refine lv_aload_n S.1 S.2.1 dX9_write_18 rfl (lv_at hl 0 rfl) ?_
      refine lv_iload_n S.1 S.2.1 dX9_write_19 rfl (lv_at hl 1 rfl) ?_
      refine lv_iload_n S.1 S.2.1 dX9_write_20 rfl (lv_at hl 2 rfl) ?_
      obtain ⟨u3, hu3, h⟩ := bd_e h
      refine r_ri d (r_cV (As := [.int a1, .int a2]) (rest := []) S d (c_X9_mayBe l G M L fu k0 a1 a2 hk0 hu3) (ksdM S hk0) (wc_20 hk0) rfl ml_RX9_191 im_yX9_mayBe se_yX9_mayBe in_RX9 co_yX9_mayBe hyV_X9_mayBe ⟨rfl, rfl⟩ ⟨by decide, by decide⟩ rfl hl rfl (Nat.le_of_ble_eq_true rfl) dX9_write_21 ⟨Nat.zero_le _, Nat.zero_le _⟩) (fun H locs d => ?_)
      refine lv_if_ne (tgt := 30) S.1 S.2.1 dX9_write_24 (by decide) (fun cc => ?_) (fun cc => ?_)
      · replace h := it_n cc h
        refine lv_iconst (v := 0) S.1 S.2.1 dX9_write_30 (by decide) ?_
        refine lv_istore_n (lv' := [(3, .int (0 : Int32)), (0, .ref (ad G k0)), (1, .int a1), (2, .int a2)]) S.1 S.2.1 dX9_write_31 rfl hl (by decide) rfl (fun ls hl => ?_)
        refine lv_iconst (v := 0) S.1 S.2.1 dX9_write_32 (by decide) ?_
        refine lv_istore (lv' := [(4, .int (0 : Int32)), (3, .int (0 : Int32)), (0, .ref (ad G k0)), (1, .int a1), (2, .int a2)]) S.1 S.2.1 dX9_write_33 hl (by decide) rfl (fun ls hl => ?_)
        refine lc_X9_write_35 S hr hk0 _ (fun v10 M11 H locs d ls hl h => ?_) _ _ _ _  h _ _ d _ (lv_sub hl [2, 3, 4, 1, 0] rfl)
        refine lv_iload_n S.1 S.2.1 dX9_write_74 rfl (lv_at hl 0 rfl) ?_
        obtain rfl := Option.some.inj h
        exact r_iret S d hr rfl rfl dX9_write_75
      · replace h := it_p cc h
        refine lv_bipush (v := (-2)) S.1 S.2.1 dX9_write_27 (by decide) ?_
        obtain rfl := Option.some.inj h
        exact r_iret S d hr rfl rfl dX9_write_29
    · replace h := it_p cc h
      refine lv_iconst (v := (-1)) S.1 S.2.1 dX9_write_16 (by decide) ?_
      obtain rfl := Option.some.inj h
      exact r_iret S d hr rfl rfl dX9_write_17
theorem hyV_X9_share : yX9_share.cls = RX9 ∧ yX9_share.cls ≠ "java/lang/invoke/MethodHandle" ∧ yX9_share.cls ≠ "java/lang/invoke/VarHandle" ∧ (parseMethodDescriptor yX9_share.desc).map (fun d => d.parameters.length) = some 3 := by decide +kernel
abbrev rm_X9_share : Room := { frames := 3, cells := 0, slots := 0, locals := 70 }
def lp_X9_share_83 (fu : Nat) (M : Mem) (b0 : Nat) (b1 : Int32) (b2 : Int32) (b3 : Int32) (b4 : Int32) (b5 : Int32) (K : Int32 → Option (Int32)) : Nat → Int32 → Int32 → Option (Int32)
  | 0, _, _ => none
  | n + 1, x6, x7 =>
    (if b5 ≤ x7 then (K x6)
    else (f_X9_letterOf M b0 b1 x7).bind (fun u9 =>
      (f_X9_lostOn fu M b0 (b2 + x7) u9).bind (fun u10 =>
      gd (decide (¬ b5 = 0)) (
      gd (decide (¬ b5 = 0)) (
      (if (b4 - b4 / b5 * b5) ≤ x7 then some (0 : Int32)
      else some (1 : Int32)).bind (fun t13 : Int32 =>
      lt (((u10 + (b4 / b5)) + t13)) (fun v15 : Int32 =>
      gd (inb (b2 + x7) 9) (
      (if (M (b0 + 2) (b2 + x7).toNatClampNeg) = b3 then some v15
      else some (0 : Int32)).bind (fun t17 : Int32 =>
      lt ((x6 + t17)) (fun v19 : Int32 =>
      lt (x7 + 1) (fun v20 : Int32 =>
      (lp_X9_share_83 fu M b0 b1 b2 b3 b4 b5 K n v19 v20))))))))))))
def f_X9_share (fu : Nat) (M : Mem) (k0 : Nat) (a1 : Int32) (a2 : Int32) (a3 : Int32) : Option (Int32) :=
  (f_X9_isWord M k0 a1).bind (fun u1 =>
  (if u1 = 0 then some ((-1 : Int32))
  else (f_X9_isStrip M k0 a2).bind (fun u2 =>
    (if u2 = 0 then some ((-1 : Int32))
    else (f_X9_in ((a3).toInt64) (0 : Int64) (5 : Int64)).bind (fun u3 =>
      (if u3 = 0 then some ((-1 : Int32))
      else (f_X9_hasRoom M k0 a1 a2).bind (fun u4 =>
        (if u4 = 0 then some ((-2 : Int32))
        else gd (inb (((8 : Int32) * a1) + (1 : Int32)) 80) (
          (f_X9_lostBy fu M k0 a1 a2).bind (fun u6 =>
          lt (((M (k0 + 7) (((8 : Int32) * a1) + (1 : Int32)).toNatClampNeg) - u6)) (fun v7 : Int32 =>
          (if 0 ≤ v7 then (f_X9_sizeOf M k0 a1).bind (fun u8 =>
            (lp_X9_share_83 fu M k0 a1 a2 a3 v7 u8 (fun (v21 : Int32) =>
              some (v21)) fu (0 : Int32) (0 : Int32)))
          else some ((-2 : Int32))))))))))))))
set_option maxHeartbeats 4000000 in
set_option maxRecDepth 100000 in
theorem lc_X9_share_83 {p : Program} {l : Launch} {e : Env} {s : State} {m : MethodId} {args : Array Value} {below : List Frame} {meth : Method} {c : Code} {G : Gx} {M : Mem} {L : MemL} {fu : Nat} {b0 : Nat} {b1 : Int32} {b2 : Int32} {b3 : Int32} {b4 : Int32} {b5 : Int32} {z : Int32} (S : Sx G true p s m args meth c cX9_share 9 RX9) (hr : meth.sig.returnType = (Option.some Jvm.ClassFile.FieldType.int)) (hb0 : kd b0 = 20) (K : Int32 → Option (Int32)) (hK : ∀ (y6 : Int32) (H : Heap) (locs : List Loc), Dy G s M L H locs → ∀ ls : Array Slot, lv_has ls 9 [(6, .int y6)] → K y6 = some z → W p l e rm_X9_share s m args below meth c H locs 0 0 (MQ below (Qi G z M L) args s 0 0 (gA G)) (F0 m 159 ls [])) :
    ∀ (n : Nat) (x6 : Int32) (x7 : Int32), lp_X9_share_83 fu M b0 b1 b2 b3 b4 b5 K n x6 x7 = some z → ∀ (H : Heap) (locs : List Loc), Dy G s M L H locs → ∀ ls : Array Slot, lv_has ls 9 [(0, .ref (ad G b0)), (1, .int b1), (2, .int b2), (3, .int b3), (4, .int b4), (5, .int b5), (6, .int x6), (7, .int x7)] → W p l e rm_X9_share s m args below meth c H locs 0 0 (MQ below (Qi G z M L) args s 0 0 (gA G)) (F0 m 83 ls []) := by
  intro n
  induction n with
  | zero =>
    intro x6 x7 h
    have h : (none : Option (Int32)) = some z := h
    cases h
  | succ n ih =>
    intro x6 x7 h H locs d ls hl
    rw [lp_X9_share_83] at h
    refine lv_iload S.1 S.2.1 dX9_share_83 (lv_at hl 7 rfl) ?_
    refine lv_iload S.1 S.2.1 dX9_share_85 (lv_at hl 5 rfl) ?_
    refine lv_icmp_ge (tgt := 159) S.1 S.2.1 dX9_share_87 (by decide) (fun cc => ?_) (fun cc => ?_)
    · replace h := it_p cc h
      exact hK _ _ _ d _ (lv_sub hl [6] rfl) h
    · replace h := it_n cc h
      refine lv_aload_n S.1 S.2.1 dX9_share_90 rfl (lv_at hl 0 rfl) ?_
      refine lv_iload_n S.1 S.2.1 dX9_share_91 rfl (lv_at hl 2 rfl) ?_
      refine lv_iload S.1 S.2.1 dX9_share_92 (lv_at hl 7 rfl) ?_
      refine lv_iadd S.1 S.2.1 dX9_share_94 ?_
      refine lv_aload_n S.1 S.2.1 dX9_share_95 rfl (lv_at hl 0 rfl) ?_
      refine lv_iload_n S.1 S.2.1 dX9_share_96 rfl (lv_at hl 1 rfl) ?_
      refine lv_iload S.1 S.2.1 dX9_share_97 (lv_at hl 7 rfl) ?_
      obtain ⟨u9, hu9, h⟩ := bd_e h
      refine r_ri d (r_cV (As := [.int b1, .int x7]) (rest := [.int (b2 + x7), .ref (ad G b0)]) S d (c_X9_letterOf l G M L b0 b1 x7 hb0 hu9) (ksdM S hb0) (wc_20 hb0) rfl ml_RX9_185 im_yX9_letterOf se_yX9_letterOf in_RX9 co_yX9_letterOf hyV_X9_letterOf ⟨rfl, rfl⟩ ⟨by decide, by decide⟩ rfl hl rfl (Nat.le_of_ble_eq_true rfl) dX9_share_99 ⟨Nat.zero_le _, Nat.zero_le _⟩) (fun H locs d => ?_)
      obtain ⟨u10, hu10, h⟩ := bd_e h
      refine r_ri d (r_cV (As := [.int (b2 + x7), .int u9]) (rest := []) S d (c_X9_lostOn l G M L fu b0 (b2 + x7) u9 hb0 hu10) (ksdM S hb0) (wc_20 hb0) rfl ml_RX9_194 im_yX9_lostOn se_yX9_lostOn in_RX9 co_yX9_lostOn hyV_X9_lostOn ⟨rfl, rfl⟩ ⟨by decide, by decide⟩ rfl hl rfl (Nat.le_of_ble_eq_true rfl) dX9_share_102 ⟨Nat.zero_le _, Nat.zero_le _⟩) (fun H locs d => ?_)
      refine lv_iload S.1 S.2.1 dX9_share_105 (lv_at hl 4 rfl) ?_
      refine lv_iload S.1 S.2.1 dX9_share_107 (lv_at hl 5 rfl) ?_
      obtain ⟨g11, h⟩ := gd_e h
      refine lv_idiv S.1 S.2.1 dX9_share_109 (of_decide_eq_true g11) ?_
      refine lv_iadd S.1 S.2.1 dX9_share_110 ?_
      refine lv_iload S.1 S.2.1 dX9_share_111 (lv_at hl 7 rfl) ?_
      refine lv_iload S.1 S.2.1 dX9_share_113 (lv_at hl 4 rfl) ?_
      refine lv_iload S.1 S.2.1 dX9_share_115 (lv_at hl 5 rfl) ?_
      obtain ⟨g12, h⟩ := gd_e h
      refine lv_irem S.1 S.2.1 dX9_share_117 (of_decide_eq_true g12) ?_
      obtain ⟨t13, g14, h⟩ := bd_e h
      have Jt13 : ∀ (H : Heap) (locs : List Loc), Dy G s M L H locs → W p l e rm_X9_share s m args below meth c H locs 0 0 (MQ below (Qi G z M L) args s 0 0 (gA G)) (F0 m 126 ls [.int t13, .int (u10 + (b4 / b5))]) := by
        intro H locs d
        refine lv_iadd S.1 S.2.1 dX9_share_126 ?_
        obtain ⟨v15, ev15, h⟩ := lt_e h
        refine r_top ev15 ?_
        refine lv_istore (lv' := [(8, .int v15), (0, .ref (ad G b0)), (1, .int b1), (2, .int b2), (3, .int b3), (4, .int b4), (5, .int b5), (6, .int x6), (7, .int x7)]) S.1 S.2.1 dX9_share_127 hl (by decide) rfl (fun ls hl => ?_)
        refine lv_iload S.1 S.2.1 dX9_share_129 (lv_at hl 7 rfl) ?_
        refine lv_aload_n S.1 S.2.1 dX9_share_131 rfl (lv_at hl 1 rfl) ?_
        refine gf_20_1 S d hb0 fl_RX9_13 dX9_share_132 ?_
        refine lv_iload_n S.1 S.2.1 dX9_share_135 rfl (lv_at hl 3 rfl) ?_
        refine lv_iload S.1 S.2.1 dX9_share_136 (lv_at hl 8 rfl) ?_
        refine lv_iadd S.1 S.2.1 dX9_share_138 ?_
        obtain ⟨g16, h⟩ := gd_e h
        refine r_iald S d (ksdM S (ch_20_1 hb0).1) (wc_21 (ch_20_1 hb0).1) (ch_20_1 hb0).2 g16 dX9_share_139 ?_
        refine lv_iload_n S.1 S.2.1 dX9_share_140 rfl (lv_at hl 4 rfl) ?_
        obtain ⟨t17, g18, h⟩ := bd_e h
        have Jt17 : ∀ (H : Heap) (locs : List Loc), Dy G s M L H locs → W p l e rm_X9_share s m args below meth c H locs 0 0 (MQ below (Qi G z M L) args s 0 0 (gA G)) (F0 m 150 ls [.int t17, .int x6]) := by
          intro H locs d
          refine lv_iadd S.1 S.2.1 dX9_share_150 ?_
          obtain ⟨v19, ev19, h⟩ := lt_e h
          refine r_top ev19 ?_
          refine lv_istore (lv' := [(6, .int v19), (8, .int v15), (0, .ref (ad G b0)), (1, .int b1), (2, .int b2), (3, .int b3), (4, .int b4), (5, .int b5), (7, .int x7)]) S.1 S.2.1 dX9_share_151 hl (by decide) rfl (fun ls hl => ?_)
          obtain ⟨v20, ev20, h⟩ := lt_e h
          refine lv_iinc (v := v20) (lv' := [(7, .int v20), (6, .int v19), (8, .int v15), (0, .ref (ad G b0)), (1, .int b1), (2, .int b2), (3, .int b3), (4, .int b4), (5, .int b5)]) S.1 S.2.1 dX9_share_153 hl (k := 8) rfl (by rw [ev20]; rfl) (by decide) rfl (fun ls hl => ?_)
          refine lv_goto (tgt := 83) S.1 S.2.1 dX9_share_156 (by decide) ?_
          exact ih _ _ h _ _ d _ (lv_sub hl [3, 4, 5, 6, 7, 8, 1, 0] rfl)
        have h := g18
        refine lv_icmp_ne (tgt := 149) S.1 S.2.1 dX9_share_141 (by decide) (fun cc => ?_) (fun cc => ?_)
        · replace h := it_n cc h
          refine lv_iconst (v := 0) S.1 S.2.1 dX9_share_149 (by decide) ?_
          obtain ej := Option.some.inj h
          refine r_top ej.symm ?_
          exact Jt17 _ _ d
        · replace h := it_p cc h
          refine lv_iload S.1 S.2.1 dX9_share_144 (lv_at hl 0 rfl) ?_
          refine lv_goto (tgt := 150) S.1 S.2.1 dX9_share_146 (by decide) ?_
          obtain ej := Option.some.inj h
          refine r_top ej.symm ?_
          exact Jt17 _ _ d
      have h := g14
      refine lv_icmp_ge (tgt := 125) S.1 S.2.1 dX9_share_118 (by decide) (fun cc => ?_) (fun cc => ?_)
      · replace h := it_p cc h
        refine lv_iconst (v := 0) S.1 S.2.1 dX9_share_125 (by decide) ?_
        obtain ej := Option.some.inj h
        refine r_top ej.symm ?_
        exact Jt13 _ _ d
      · replace h := it_n cc h
        refine lv_iconst (v := 1) S.1 S.2.1 dX9_share_121 (by decide) ?_
        refine lv_goto (tgt := 126) S.1 S.2.1 dX9_share_122 (by decide) ?_
        obtain ej := Option.some.inj h
        refine r_top ej.symm ?_
        exact Jt13 _ _ d
set_option maxHeartbeats 4000000 in
set_option maxRecDepth 100000 in
theorem c_X9_share (l : Launch) (G : Gx) (M : Mem) (L : MemL) (fu : Nat) (k0 : Nat) (a1 : Int32) (a2 : Int32) (a3 : Int32) (hk0 : kd k0 = 20) {z : Int32} (h : f_X9_share fu M k0 a1 a2 a3 = some z) : Met l yX9_share (.code yX9_share cX9_share 9 (Option.some Jvm.ClassFile.FieldType.int) :: UW) rm_X9_share (va_Pc [.ref (ad G k0), .int a1, .int a2, .int a3] (PreG G true M L)) (Qi G z M L) 0 0 (gA G) := by
  refine r_in (by decide) (fun p e s m args below meth c S hr d ha ls hl => ?_) (Nat.le_of_ble_eq_true rfl)
  have S : Sx G true p s m args meth c cX9_share 9 RX9 := S
  have hl : lv_has ls 9 [(0, .ref (ad G k0)), (1, .int a1), (2, .int a2), (3, .int a3)] := hl
  unfold f_X9_share at h
  refine lv_aload_n S.1 S.2.1 dX9_share_0 rfl (lv_at hl 0 rfl) ?_
  refine lv_iload_n S.1 S.2.1 dX9_share_1 rfl (lv_at hl 1 rfl) ?_
  obtain ⟨u1, hu1, h⟩ := bd_e h
  refine r_ri d (r_cV (As := [.int a1]) (rest := []) S d (c_X9_isWord l G M L k0 a1 hk0 hu1) (ksdM S hk0) (wc_20 hk0) rfl ml_RX9_174 im_yX9_isWord se_yX9_isWord in_RX9 co_yX9_isWord hyV_X9_isWord ⟨rfl, rfl⟩ ⟨by decide, by decide⟩ rfl hl rfl (Nat.le_of_ble_eq_true rfl) dX9_share_2 ⟨Nat.zero_le _, Nat.zero_le _⟩) (fun H locs d => ?_)
  refine lv_if_eq (tgt := 28) S.1 S.2.1 dX9_share_5 (by decide) (fun cc => ?_) (fun cc => ?_)
  · replace h := it_p cc h
    refine lv_iconst (v := (-1)) S.1 S.2.1 dX9_share_28 (by decide) ?_
    obtain rfl := Option.some.inj h
    exact r_iret S d hr rfl rfl dX9_share_29
  · replace h := it_n cc h
    refine lv_aload_n S.1 S.2.1 dX9_share_8 rfl (lv_at hl 0 rfl) ?_
    refine lv_iload_n S.1 S.2.1 dX9_share_9 rfl (lv_at hl 2 rfl) ?_
    obtain ⟨u2, hu2, h⟩ := bd_e h
    refine r_ri d (r_cV (As := [.int a2]) (rest := []) S d (c_X9_isStrip l G M L k0 a2 hk0 hu2) (ksdM S hk0) (wc_20 hk0) rfl ml_RX9_94 im_yX9_isStrip se_yX9_isStrip in_RX9 co_yX9_isStrip hyV_X9_isStrip ⟨rfl, rfl⟩ ⟨by decide, by decide⟩ rfl hl rfl (Nat.le_of_ble_eq_true rfl) dX9_share_10 ⟨Nat.zero_le _, Nat.zero_le _⟩) (fun H locs d => ?_)
    refine lv_if_eq (tgt := 28) S.1 S.2.1 dX9_share_13 (by decide) (fun cc => ?_) (fun cc => ?_)
    · replace h := it_p cc h
      refine lv_iconst (v := (-1)) S.1 S.2.1 dX9_share_28 (by decide) ?_
      obtain rfl := Option.some.inj h
      exact r_iret S d hr rfl rfl dX9_share_29
    · replace h := it_n cc h
      refine lv_iload_n S.1 S.2.1 dX9_share_16 rfl (lv_at hl 3 rfl) ?_
      refine lv_i2l S.1 S.2.1 dX9_share_17 rfl ?_
      refine lv_lconst (v := 0) S.1 S.2.1 dX9_share_18 (by decide) ?_
      refine lv_ldc2 (v := 5) S.1 S.2.1 S.2.2.2.1 (S.uw cn_RX9_86) dX9_share_19 ?_
      obtain ⟨u3, hu3, h⟩ := bd_e h
      refine r_ri d (r_cS (As := [.long ((a3).toInt64), .long (0 : Int64), .long (5 : Int64)]) (rest := []) S d (c_X9_in l G M L ((a3).toInt64) (0 : Int64) (5 : Int64) hu3) ml_RX9_75 sm_yX9_in in_RX9 co_yX9_in hyS_X9_in ⟨rfl, rfl⟩ ⟨by decide, by decide⟩ rfl hl rfl (Nat.le_of_ble_eq_true rfl) dX9_share_22 ⟨Nat.zero_le _, Nat.zero_le _⟩) (fun H locs d => ?_)
      refine lv_if_ne (tgt := 30) S.1 S.2.1 dX9_share_25 (by decide) (fun cc => ?_) (fun cc => ?_)
      · replace h := it_n cc h
        refine lv_aload_n S.1 S.2.1 dX9_share_30 rfl (lv_at hl 0 rfl) ?_
        refine lv_iload_n S.1 S.2.1 dX9_share_31 rfl (lv_at hl 1 rfl) ?_
        refine lv_iload_n S.1 S.2.1 dX9_share_32 rfl (lv_at hl 2 rfl) ?_
        obtain ⟨u4, hu4, h⟩ := bd_e h
        refine r_ri d (r_cV (As := [.int a1, .int a2]) (rest := []) S d (c_X9_hasRoom l G M L k0 a1 a2 hk0 hu4) (ksdM S hk0) (wc_20 hk0) rfl ml_RX9_182 im_yX9_hasRoom se_yX9_hasRoom in_RX9 co_yX9_hasRoom hyV_X9_hasRoom ⟨rfl, rfl⟩ ⟨by decide, by decide⟩ rfl hl rfl (Nat.le_of_ble_eq_true rfl) dX9_share_33 ⟨Nat.zero_le _, Nat.zero_le _⟩) (fun H locs d => ?_)
        refine lv_if_ne (tgt := 42) S.1 S.2.1 dX9_share_36 (by decide) (fun cc => ?_) (fun cc => ?_)
        · replace h := it_n cc h
          refine lv_aload_n S.1 S.2.1 dX9_share_42 rfl (lv_at hl 0 rfl) ?_
          refine gf_20_6 S d hk0 fl_RX9_28 dX9_share_43 ?_
          refine lv_bipush (v := 8) S.1 S.2.1 dX9_share_46 (by decide) ?_
          refine lv_iload_n S.1 S.2.1 dX9_share_48 rfl (lv_at hl 1 rfl) ?_
          refine lv_imul S.1 S.2.1 dX9_share_49 ?_
          refine lv_iconst (v := 1) S.1 S.2.1 dX9_share_50 (by decide) ?_
          refine lv_iadd S.1 S.2.1 dX9_share_51 ?_
          obtain ⟨g5, h⟩ := gd_e h
          refine r_iald S d (ksdM S (ch_20_6 hk0).1) (wc_21 (ch_20_6 hk0).1) (ch_20_6 hk0).2 g5 dX9_share_52 ?_
          refine lv_aload_n S.1 S.2.1 dX9_share_53 rfl (lv_at hl 0 rfl) ?_
          refine lv_iload_n S.1 S.2.1 dX9_share_54 rfl (lv_at hl 1 rfl) ?_
          refine lv_iload_n S.1 S.2.1 dX9_share_55 rfl (lv_at hl 2 rfl) ?_
          obtain ⟨u6, hu6, h⟩ := bd_e h
          refine r_ri d (r_cV (As := [.int a1, .int a2]) (rest := [.int (M (k0 + 7) (((8 : Int32) * a1) + (1 : Int32)).toNatClampNeg)]) S d (c_X9_lostBy l G M L fu k0 a1 a2 hk0 hu6) (ksdM S hk0) (wc_20 hk0) rfl ml_RX9_197 im_yX9_lostBy se_yX9_lostBy in_RX9 co_yX9_lostBy hyV_X9_lostBy ⟨rfl, rfl⟩ ⟨by decide, by decide⟩ rfl hl rfl (Nat.le_of_ble_eq_true rfl) dX9_share_56 ⟨Nat.zero_le _, Nat.zero_le _⟩) (fun H locs d => ?_)
          refine lv_isub S.1 S.2.1 dX9_share_59 ?_
          obtain ⟨v7, ev7, h⟩ := lt_e h
          refine r_top ev7 ?_
          refine lv_istore (lv' := [(4, .int v7), (0, .ref (ad G k0)), (1, .int a1), (2, .int a2), (3, .int a3)]) S.1 S.2.1 dX9_share_60 hl (by decide) rfl (fun ls hl => ?_)
          refine lv_iload S.1 S.2.1 dX9_share_62 (lv_at hl 0 rfl) ?_
          refine lv_if_ge (tgt := 70) S.1 S.2.1 dX9_share_64 (by decide) (fun cc => ?_) (fun cc => ?_)
          · replace h := it_p cc h
            refine lv_aload_n S.1 S.2.1 dX9_share_70 rfl (lv_at hl 1 rfl) ?_
            refine lv_iload_n S.1 S.2.1 dX9_share_71 rfl (lv_at hl 2 rfl) ?_
            obtain ⟨u8, hu8, h⟩ := bd_e h
            refine r_ri d (r_cV (As := [.int a1]) (rest := []) S d (c_X9_sizeOf l G M L k0 a1 hk0 hu8) (ksdM S hk0) (wc_20 hk0) rfl ml_RX9_179 im_yX9_sizeOf se_yX9_sizeOf in_RX9 co_yX9_sizeOf hyV_X9_sizeOf ⟨rfl, rfl⟩ ⟨by decide, by decide⟩ rfl hl rfl (Nat.le_of_ble_eq_true rfl) dX9_share_72 ⟨Nat.zero_le _, Nat.zero_le _⟩) (fun H locs d => ?_)
            refine lv_istore (lv' := [(5, .int u8), (4, .int v7), (0, .ref (ad G k0)), (1, .int a1), (2, .int a2), (3, .int a3)]) S.1 S.2.1 dX9_share_75 hl (by decide) rfl (fun ls hl => ?_)
            refine lv_iconst (v := 0) S.1 S.2.1 dX9_share_77 (by decide) ?_
            refine lv_istore (lv' := [(6, .int (0 : Int32)), (5, .int u8), (4, .int v7), (0, .ref (ad G k0)), (1, .int a1), (2, .int a2), (3, .int a3)]) S.1 S.2.1 dX9_share_78 hl (by decide) rfl (fun ls hl => ?_)
            refine lv_iconst (v := 0) S.1 S.2.1 dX9_share_80 (by decide) ?_
            refine lv_istore (lv' := [(7, .int (0 : Int32)), (6, .int (0 : Int32)), (5, .int u8), (4, .int v7), (0, .ref (ad G k0)), (1, .int a1), (2, .int a2), (3, .int a3)]) S.1 S.2.1 dX9_share_81 hl (by decide) rfl (fun ls hl => ?_)
            refine lc_X9_share_83 S hr hk0 _ (fun v21 H locs d ls hl h => ?_) _ _ _  h _ _ d _ (lv_sub hl [4, 5, 6, 7, 3, 2, 1, 0] rfl)
            refine lv_iload S.1 S.2.1 dX9_share_159 (lv_at hl 0 rfl) ?_
            obtain rfl := Option.some.inj h
            exact r_iret S d hr rfl rfl dX9_share_161
          · replace h := it_n cc h
            refine lv_bipush (v := (-2)) S.1 S.2.1 dX9_share_67 (by decide) ?_
            obtain rfl := Option.some.inj h
            exact r_iret S d hr rfl rfl dX9_share_69
        · replace h := it_p cc h
          refine lv_bipush (v := (-2)) S.1 S.2.1 dX9_share_39 (by decide) ?_
          obtain rfl := Option.some.inj h
          exact r_iret S d hr rfl rfl dX9_share_41
      · replace h := it_p cc h
        refine lv_iconst (v := (-1)) S.1 S.2.1 dX9_share_28 (by decide) ?_
        obtain rfl := Option.some.inj h
        exact r_iret S d hr rfl rfl dX9_share_29
theorem hyS_X9_power : yX9_power.cls ≠ "java/lang/invoke/MethodHandle" ∧ yX9_power.cls ≠ "java/lang/invoke/VarHandle" ∧ (parseMethodDescriptor yX9_power.desc).map (fun d => d.parameters.length) = some 2 := by decide +kernel
abbrev rm_X9_power : Room := { frames := 0, cells := 0, slots := 0, locals := 0 }
def lp_X9_power_5 (fu : Nat) (b0 : Int32) (b1 : Int32) (K : Int64 → Option (Int64)) : Nat → Int64 → Int32 → Option (Int64)
  | 0, _, _ => none
  | n + 1, x2, x4 =>
    (if b1 ≤ x4 then (K x2)
    else lt ((x2 * (b0).toInt64)) (fun v1 : Int64 =>
      lt (x4 + 1) (fun v2 : Int32 =>
      (lp_X9_power_5 fu b0 b1 K n v1 v2))))
def f_X9_power (fu : Nat) (a0 : Int32) (a1 : Int32) : Option (Int64) :=
  (lp_X9_power_5 fu a0 a1 (fun (v3 : Int64) =>
    some (v3)) fu (1 : Int64) (0 : Int32))
set_option maxHeartbeats 4000000 in
set_option maxRecDepth 100000 in
theorem lc_X9_power_5 {p : Program} {l : Launch} {e : Env} {s : State} {m : MethodId} {args : Array Value} {below : List Frame} {meth : Method} {c : Code} {G : Gx} {M : Mem} {L : MemL} {fu : Nat} {b0 : Int32} {b1 : Int32} {z : Int64} (S : Sx G true p s m args meth c cX9_power 5 RX9) (hr : meth.sig.returnType = (Option.some Jvm.ClassFile.FieldType.long))  (K : Int64 → Option (Int64)) (hK : ∀ (y2 : Int64) (H : Heap) (locs : List Loc), Dy G s M L H locs → ∀ ls : Array Slot, lv_has ls 5 [(2, .long y2)] → K y2 = some z → W p l e rm_X9_power s m args below meth c H locs 0 0 (MQ below (Ql G z M L) args s 0 0 (gA G)) (F0 m 22 ls [])) :
    ∀ (n : Nat) (x2 : Int64) (x4 : Int32), lp_X9_power_5 fu b0 b1 K n x2 x4 = some z → ∀ (H : Heap) (locs : List Loc), Dy G s M L H locs → ∀ ls : Array Slot, lv_has ls 5 [(0, .int b0), (1, .int b1), (2, .long x2), (4, .int x4)] → W p l e rm_X9_power s m args below meth c H locs 0 0 (MQ below (Ql G z M L) args s 0 0 (gA G)) (F0 m 5 ls []) := by
  intro n
  induction n with
  | zero =>
    intro x2 x4 h
    have h : (none : Option (Int64)) = some z := h
    cases h
  | succ n ih =>
    intro x2 x4 h H locs d ls hl
    rw [lp_X9_power_5] at h
    refine lv_iload S.1 S.2.1 dX9_power_5 (lv_at hl 3 rfl) ?_
    refine lv_iload_n S.1 S.2.1 dX9_power_7 rfl (lv_at hl 1 rfl) ?_
    refine lv_icmp_ge (tgt := 22) S.1 S.2.1 dX9_power_8 (by decide) (fun cc => ?_) (fun cc => ?_)
    · replace h := it_p cc h
      exact hK _ _ _ d _ (lv_sub hl [2] rfl) h
    · replace h := it_n cc h
      refine lv_lload_n S.1 S.2.1 dX9_power_11 rfl (lv_at hl 2 rfl) ?_
      refine lv_iload_n S.1 S.2.1 dX9_power_12 rfl (lv_at hl 0 rfl) ?_
      refine lv_i2l S.1 S.2.1 dX9_power_13 rfl ?_
      refine lv_lmul S.1 S.2.1 dX9_power_14 ?_
      obtain ⟨v1, ev1, h⟩ := lt_e h
      refine r_topl ev1 ?_
      refine lv_lstore_n (lv' := [(2, .long v1), (0, .int b0), (1, .int b1), (4, .int x4)]) S.1 S.2.1 dX9_power_15 rfl hl (by decide) rfl (fun ls hl => ?_)
      obtain ⟨v2, ev2, h⟩ := lt_e h
      refine lv_iinc (v := v2) (lv' := [(4, .int v2), (2, .long v1), (0, .int b0), (1, .int b1)]) S.1 S.2.1 dX9_power_16 hl (k := 3) rfl (by rw [ev2]; rfl) (by decide) rfl (fun ls hl => ?_)
      refine lv_goto (tgt := 5) S.1 S.2.1 dX9_power_19 (by decide) ?_
      exact ih _ _ h _ _ d _ (lv_sub hl [2, 3, 1, 0] rfl)
set_option maxHeartbeats 4000000 in
set_option maxRecDepth 100000 in
theorem c_X9_power (l : Launch) (G : Gx) (M : Mem) (L : MemL) (fu : Nat) (a0 : Int32) (a1 : Int32) {z : Int64} (h : f_X9_power fu a0 a1 = some z) : Met l yX9_power (.code yX9_power cX9_power 5 (Option.some Jvm.ClassFile.FieldType.long) :: UW) rm_X9_power (va_Pc [.int a0, .int a1] (PreG G true M L)) (Ql G z M L) 0 0 (gA G) := by
  refine r_in (by decide) (fun p e s m args below meth c S hr d ha ls hl => ?_) (Nat.le_of_ble_eq_true rfl)
  have S : Sx G true p s m args meth c cX9_power 5 RX9 := S
  have hl : lv_has ls 5 [(0, .int a0), (1, .int a1)] := hl
  unfold f_X9_power at h
  refine lv_lconst (v := 1) S.1 S.2.1 dX9_power_0 (by decide) ?_
  refine lv_lstore_n (lv' := [(2, .long (1 : Int64)), (0, .int a0), (1, .int a1)]) S.1 S.2.1 dX9_power_1 rfl hl (by decide) rfl (fun ls hl => ?_)
  refine lv_iconst (v := 0) S.1 S.2.1 dX9_power_2 (by decide) ?_
  refine lv_istore (lv' := [(4, .int (0 : Int32)), (2, .long (1 : Int64)), (0, .int a0), (1, .int a1)]) S.1 S.2.1 dX9_power_3 hl (by decide) rfl (fun ls hl => ?_)
  refine lc_X9_power_5 S hr  _ (fun v3 H locs d ls hl h => ?_) _ _ _  h _ _ d _ (lv_sub hl [2, 3, 1, 0] rfl)
  refine lv_lload_n S.1 S.2.1 dX9_power_22 rfl (lv_at hl 0 rfl) ?_
  obtain rfl := Option.some.inj h
  exact r_lret S d hr rfl dX9_power_23
theorem hyV_X9_findOdds : yX9_findOdds.cls = RX9 ∧ yX9_findOdds.cls ≠ "java/lang/invoke/MethodHandle" ∧ yX9_findOdds.cls ≠ "java/lang/invoke/VarHandle" ∧ (parseMethodDescriptor yX9_findOdds.desc).map (fun d => d.parameters.length) = some 2 := by decide +kernel
abbrev rm_X9_findOdds : Room := { frames := 3, cells := 0, slots := 0, locals := 67 }
def lp_X9_findOdds_2 (fu : Nat) (M : Mem) (b0 : Nat) (b1 : Int32) (b2 : Int32) (K : MemL → Option (MemL)) : Nat → Int32 → MemL → Option (MemL)
  | 0, _, _ => none
  | n + 1, x3, Lx =>
    (if (26 : Int32) ≤ x3 then (K Lx)
    else gd (inb x3 26) (
      lt (upL Lx (b0 + 14) x3.toNatClampNeg (0 : Int64)) (fun L2 : MemL =>
      lt (x3 + 1) (fun v3 : Int32 =>
      (lp_X9_findOdds_2 fu M b0 b1 b2 K n v3 L2)))))
def lp_X9_findOdds_23 (fu : Nat) (M : Mem) (b0 : Nat) (b1 : Int32) (b2 : Int32) (K : MemL → Option (MemL)) : Nat → Int32 → MemL → Option (MemL)
  | 0, _, _ => none
  | n + 1, x3, Lx =>
    (if (32768 : Int32) ≤ x3 then (K Lx)
    else (f_X9_ones fu x3).bind (fun u5 =>
      (f_X9_power fu b2 u5).bind (fun u6 =>
      (f_X9_power fu ((16 : Int32) - b2) ((15 : Int32) - u5)).bind (fun u7 =>
      lt ((u6 * u7)) (fun v8 : Int64 =>
      (if (lg_cmp v8 (0 : Int64)) = 0 then some (-4 : Int32)
      else gd (inb b1 26) (
        (f_X9_readsAs fu M b0 ((M (b0 + 1) b1.toNatClampNeg) ^^^ x3)).bind (fun u12 =>
        some u12))).bind (fun t9 : Int32 =>
      (if t9 < 0 then lt (x3 + 1) (fun v17 : Int32 =>
        (lp_X9_findOdds_23 fu M b0 b1 b2 K n v17 Lx))
      else gd (inb t9 26) (
        gd (inb t9 26) (
        lt (upL Lx (b0 + 14) t9.toNatClampNeg ((Lx (b0 + 14) t9.toNatClampNeg) + v8)) (fun L15 : MemL =>
        lt (x3 + 1) (fun v16 : Int32 =>
        (lp_X9_findOdds_23 fu M b0 b1 b2 K n v16 L15))))))))))))
def f_X9_findOdds (fu : Nat) (M : Mem) (L : MemL) (k0 : Nat) (a1 : Int32) (a2 : Int32) : Option (MemL) :=
  (lp_X9_findOdds_2 fu M k0 a1 a2 (fun (L4 : MemL) =>
    (lp_X9_findOdds_23 fu M k0 a1 a2 (fun (L18 : MemL) =>
      some (L18)) fu (0 : Int32) L4)) fu (0 : Int32) L)
set_option maxHeartbeats 4000000 in
set_option maxRecDepth 100000 in
theorem lc_X9_findOdds_2 {p : Program} {l : Launch} {e : Env} {s : State} {m : MethodId} {args : Array Value} {below : List Frame} {meth : Method} {c : Code} {G : Gx} {M : Mem}  {fu : Nat} {b0 : Nat} {b1 : Int32} {b2 : Int32} {z : MemL} (S : Sx G true p s m args meth c cX9_findOdds 8 RX9) (hr : meth.sig.returnType = (Option.none : Option Jvm.ClassFile.FieldType)) (hb0 : kd b0 = 20) (K : MemL → Option (MemL)) (hK : ∀ (Ly : MemL) (H : Heap) (locs : List Loc), Dy G s M Ly H locs → ∀ ls : Array Slot, lv_has ls 8 [(0, .ref (ad G b0)), (1, .int b1), (2, .int b2)] → K Ly = some z → W p l e rm_X9_findOdds s m args below meth c H locs 0 0 (MQ below (Qv G M z) args s 0 0 (gA G)) (F0 m 21 ls [])) :
    ∀ (n : Nat) (x3 : Int32) (Lx : MemL), lp_X9_findOdds_2 fu M b0 b1 b2 K n x3 Lx = some z → ∀ (H : Heap) (locs : List Loc), Dy G s M Lx H locs → ∀ ls : Array Slot, lv_has ls 8 [(0, .ref (ad G b0)), (1, .int b1), (2, .int b2), (3, .int x3)] → W p l e rm_X9_findOdds s m args below meth c H locs 0 0 (MQ below (Qv G M z) args s 0 0 (gA G)) (F0 m 2 ls []) := by
  intro n
  induction n with
  | zero =>
    intro x3 Lx h
    have h : (none : Option (MemL)) = some z := h
    cases h
  | succ n ih =>
    intro x3 Lx h H locs d ls hl
    rw [lp_X9_findOdds_2] at h
    refine lv_iload_n S.1 S.2.1 dX9_findOdds_2 rfl (lv_at hl 3 rfl) ?_
    refine lv_bipush (v := 26) S.1 S.2.1 dX9_findOdds_3 (by decide) ?_
    refine lv_icmp_ge (tgt := 21) S.1 S.2.1 dX9_findOdds_5 (by decide) (fun cc => ?_) (fun cc => ?_)
    · replace h := it_p cc h
      exact hK _ _ _ d _ (lv_sub hl [0, 1, 2] rfl) h
    · replace h := it_n cc h
      refine lv_aload_n S.1 S.2.1 dX9_findOdds_8 rfl (lv_at hl 0 rfl) ?_
      refine gf_20_19 S d hb0 fl_RX9_49 dX9_findOdds_9 ?_
      refine lv_iload_n S.1 S.2.1 dX9_findOdds_12 rfl (lv_at hl 3 rfl) ?_
      refine lv_lconst (v := 0) S.1 S.2.1 dX9_findOdds_13 (by decide) ?_
      obtain ⟨g1, h⟩ := gd_e h
      obtain ⟨L2, eL2, h⟩ := lt_e h
      refine r_last S d eL2 (ksdM S (ch_20_19 hb0).1) (fun _ => wc_22 (ch_20_19 hb0).1) (ch_20_19 hb0).2 g1 dX9_findOdds_14 (fun H locs d => ?_)
      obtain ⟨v3, ev3, h⟩ := lt_e h
      refine lv_iinc (v := v3) (lv' := [(3, .int v3), (0, .ref (ad G b0)), (1, .int b1), (2, .int b2)]) S.1 S.2.1 dX9_findOdds_15 hl (k := 3) rfl (by rw [ev3]; rfl) (by decide) rfl (fun ls hl => ?_)
      refine lv_goto (tgt := 2) S.1 S.2.1 dX9_findOdds_18 (by decide) ?_
      exact ih _ _ h _ _ d _ (lv_sub hl [1, 2, 3, 0] rfl)
set_option maxHeartbeats 4000000 in
set_option maxRecDepth 100000 in
theorem lc_X9_findOdds_23 {p : Program} {l : Launch} {e : Env} {s : State} {m : MethodId} {args : Array Value} {below : List Frame} {meth : Method} {c : Code} {G : Gx} {M : Mem}  {fu : Nat} {b0 : Nat} {b1 : Int32} {b2 : Int32} {z : MemL} (S : Sx G true p s m args meth c cX9_findOdds 8 RX9) (hr : meth.sig.returnType = (Option.none : Option Jvm.ClassFile.FieldType)) (hb0 : kd b0 = 20) (K : MemL → Option (MemL)) (hK : ∀ (Ly : MemL) (H : Heap) (locs : List Loc), Dy G s M Ly H locs → ∀ ls : Array Slot, lv_has ls 8 [] → K Ly = some z → W p l e rm_X9_findOdds s m args below meth c H locs 0 0 (MQ below (Qv G M z) args s 0 0 (gA G)) (F0 m 105 ls [])) :
    ∀ (n : Nat) (x3 : Int32) (Lx : MemL), lp_X9_findOdds_23 fu M b0 b1 b2 K n x3 Lx = some z → ∀ (H : Heap) (locs : List Loc), Dy G s M Lx H locs → ∀ ls : Array Slot, lv_has ls 8 [(0, .ref (ad G b0)), (1, .int b1), (2, .int b2), (3, .int x3)] → W p l e rm_X9_findOdds s m args below meth c H locs 0 0 (MQ below (Qv G M z) args s 0 0 (gA G)) (F0 m 23 ls []) := by
  intro n
  induction n with
  | zero =>
    intro x3 Lx h
    have h : (none : Option (MemL)) = some z := h
    cases h
  | succ n ih =>
    intro x3 Lx h H locs d ls hl
    rw [lp_X9_findOdds_23] at h
    refine lv_iload_n S.1 S.2.1 dX9_findOdds_23 rfl (lv_at hl 3 rfl) ?_
    refine lv_ldc (v := 32768) S.1 S.2.1 S.2.2.2.1 (S.uw ck_RX9_211) dX9_findOdds_24 ?_
    refine lv_icmp_ge (tgt := 105) S.1 S.2.1 dX9_findOdds_26 (by decide) (fun cc => ?_) (fun cc => ?_)
    · replace h := it_p cc h
      exact hK _ _ _ d _ (lv_sub hl [] rfl) h
    · replace h := it_n cc h
      refine lv_iload_n S.1 S.2.1 dX9_findOdds_29 rfl (lv_at hl 3 rfl) ?_
      obtain ⟨u5, hu5, h⟩ := bd_e h
      refine r_ri d (r_cS (As := [.int x3]) (rest := []) S d (c_X9_ones l G M Lx fu x3 hu5) ml_RX9_108 sm_yX9_ones in_RX9 co_yX9_ones hyS_X9_ones ⟨rfl, rfl⟩ ⟨by decide, by decide⟩ rfl hl rfl (Nat.le_of_ble_eq_true rfl) dX9_findOdds_30 ⟨Nat.zero_le _, Nat.zero_le _⟩) (fun H locs d => ?_)
      refine lv_istore (lv' := [(4, .int u5), (0, .ref (ad G b0)), (1, .int b1), (2, .int b2), (3, .int x3)]) S.1 S.2.1 dX9_findOdds_33 hl (by decide) rfl (fun ls hl => ?_)
      refine lv_iload_n S.1 S.2.1 dX9_findOdds_35 rfl (lv_at hl 3 rfl) ?_
      refine lv_iload S.1 S.2.1 dX9_findOdds_36 (lv_at hl 0 rfl) ?_
      obtain ⟨u6, hu6, h⟩ := bd_e h
      refine r_rl d (r_cS (As := [.int b2, .int u5]) (rest := []) S d (c_X9_power l G M Lx fu b2 u5 hu6) ml_RX9_212 sm_yX9_power in_RX9 co_yX9_power hyS_X9_power ⟨rfl, rfl⟩ ⟨by decide, by decide⟩ rfl hl rfl (Nat.le_of_ble_eq_true rfl) dX9_findOdds_38 ⟨Nat.zero_le _, Nat.zero_le _⟩) (fun H locs d => ?_)
      refine lv_bipush (v := 16) S.1 S.2.1 dX9_findOdds_41 (by decide) ?_
      refine lv_iload_n S.1 S.2.1 dX9_findOdds_43 rfl (lv_at hl 3 rfl) ?_
      refine lv_isub S.1 S.2.1 dX9_findOdds_44 ?_
      refine lv_bipush (v := 15) S.1 S.2.1 dX9_findOdds_45 (by decide) ?_
      refine lv_iload S.1 S.2.1 dX9_findOdds_47 (lv_at hl 0 rfl) ?_
      refine lv_isub S.1 S.2.1 dX9_findOdds_49 ?_
      obtain ⟨u7, hu7, h⟩ := bd_e h
      refine r_rl d (r_cS (As := [.int ((16 : Int32) - b2), .int ((15 : Int32) - u5)]) (rest := [.long u6]) S d (c_X9_power l G M Lx fu ((16 : Int32) - b2) ((15 : Int32) - u5) hu7) ml_RX9_212 sm_yX9_power in_RX9 co_yX9_power hyS_X9_power ⟨rfl, rfl⟩ ⟨by decide, by decide⟩ rfl hl rfl (Nat.le_of_ble_eq_true rfl) dX9_findOdds_50 ⟨Nat.zero_le _, Nat.zero_le _⟩) (fun H locs d => ?_)
      refine lv_lmul S.1 S.2.1 dX9_findOdds_53 ?_
      obtain ⟨v8, ev8, h⟩ := lt_e h
      refine r_topl ev8 ?_
      refine lv_lstore (lv' := [(5, .long v8), (4, .int u5), (0, .ref (ad G b0)), (1, .int b1), (2, .int b2), (3, .int x3)]) S.1 S.2.1 dX9_findOdds_54 hl (by decide) rfl (fun ls hl => ?_)
      refine lv_lload S.1 S.2.1 dX9_findOdds_56 (lv_at hl 0 rfl) ?_
      refine lv_lconst (v := 0) S.1 S.2.1 dX9_findOdds_58 (by decide) ?_
      refine W.lcmp S.1 S.2.1 dX9_findOdds_59 ?_
      obtain ⟨t9, g10, h⟩ := bd_e h
      have Jt9 : ∀ (H : Heap) (locs : List Loc), Dy G s M Lx H locs → W p l e rm_X9_findOdds s m args below meth c H locs 0 0 (MQ below (Qv G M z) args s 0 0 (gA G)) (F0 m 80 ls [.int t9]) := by
        intro H locs d
        refine lv_istore (lv' := [(7, .int t9), (5, .long v8), (4, .int u5), (0, .ref (ad G b0)), (1, .int b1), (2, .int b2), (3, .int x3)]) S.1 S.2.1 dX9_findOdds_80 hl (by decide) rfl (fun ls hl => ?_)
        refine lv_iload S.1 S.2.1 dX9_findOdds_82 (lv_at hl 0 rfl) ?_
        refine lv_if_lt (tgt := 99) S.1 S.2.1 dX9_findOdds_84 (by decide) (fun cc => ?_) (fun cc => ?_)
        · replace h := it_p cc h
          obtain ⟨v17, ev17, h⟩ := lt_e h
          refine lv_iinc (v := v17) (lv' := [(3, .int v17), (7, .int t9), (5, .long v8), (4, .int u5), (0, .ref (ad G b0)), (1, .int b1), (2, .int b2)]) S.1 S.2.1 dX9_findOdds_99 hl (k := 6) rfl (by rw [ev17]; rfl) (by decide) rfl (fun ls hl => ?_)
          refine lv_goto (tgt := 23) S.1 S.2.1 dX9_findOdds_102 (by decide) ?_
          exact ih _ _ h _ _ d _ (lv_sub hl [4, 5, 6, 0] rfl)
        · replace h := it_n cc h
          refine lv_aload_n S.1 S.2.1 dX9_findOdds_87 rfl (lv_at hl 3 rfl) ?_
          refine gf_20_19 S d hb0 fl_RX9_49 dX9_findOdds_88 ?_
          refine lv_iload S.1 S.2.1 dX9_findOdds_91 (lv_at hl 0 rfl) ?_
          refine lv_dup2_11 S.1 S.2.1 dX9_findOdds_93 rfl rfl ?_
          obtain ⟨g13, h⟩ := gd_e h
          refine r_lald S d (ksdM S (ch_20_19 hb0).1) (wc_22 (ch_20_19 hb0).1) (ch_20_19 hb0).2 g13 dX9_findOdds_94 ?_
          refine lv_lload S.1 S.2.1 dX9_findOdds_95 (lv_at hl 1 rfl) ?_
          refine lv_ladd S.1 S.2.1 dX9_findOdds_97 ?_
          obtain ⟨g14, h⟩ := gd_e h
          obtain ⟨L15, eL15, h⟩ := lt_e h
          refine r_last S d eL15 (ksdM S (ch_20_19 hb0).1) (fun _ => wc_22 (ch_20_19 hb0).1) (ch_20_19 hb0).2 g14 dX9_findOdds_98 (fun H locs d => ?_)
          obtain ⟨v16, ev16, h⟩ := lt_e h
          refine lv_iinc (v := v16) (lv' := [(3, .int v16), (7, .int t9), (5, .long v8), (4, .int u5), (0, .ref (ad G b0)), (1, .int b1), (2, .int b2)]) S.1 S.2.1 dX9_findOdds_99 hl (k := 6) rfl (by rw [ev16]; rfl) (by decide) rfl (fun ls hl => ?_)
          refine lv_goto (tgt := 23) S.1 S.2.1 dX9_findOdds_102 (by decide) ?_
          exact ih _ _ h _ _ d _ (lv_sub hl [4, 5, 6, 0] rfl)
      have h := g10
      refine lv_if_ne (tgt := 68) S.1 S.2.1 dX9_findOdds_60 (by decide) (fun cc => ?_) (fun cc => ?_)
      · replace h := it_n cc h
        refine lv_aload_n S.1 S.2.1 dX9_findOdds_68 rfl (lv_at hl 2 rfl) ?_
        refine lv_aload_n S.1 S.2.1 dX9_findOdds_69 rfl (lv_at hl 2 rfl) ?_
        refine gf_20_0 S d hb0 fl_RX9_7 dX9_findOdds_70 ?_
        refine lv_iload_n S.1 S.2.1 dX9_findOdds_73 rfl (lv_at hl 3 rfl) ?_
        obtain ⟨g11, h⟩ := gd_e h
        refine r_iald S d (ksdM S (ch_20_0 hb0).1) (wc_21 (ch_20_0 hb0).1) (ch_20_0 hb0).2 g11 dX9_findOdds_74 ?_
        refine lv_iload_n S.1 S.2.1 dX9_findOdds_75 rfl (lv_at hl 5 rfl) ?_
        refine lv_ixor S.1 S.2.1 dX9_findOdds_76 ?_
        obtain ⟨u12, hu12, h⟩ := bd_e h
        refine r_ri d (r_cV (As := [.int ((M (b0 + 1) b1.toNatClampNeg) ^^^ x3)]) (rest := []) S d (c_X9_readsAs l G M Lx fu b0 ((M (b0 + 1) b1.toNatClampNeg) ^^^ x3) hb0 hu12) (ksdM S hb0) (wc_20 hb0) rfl ml_RX9_114 im_yX9_readsAs se_yX9_readsAs in_RX9 co_yX9_readsAs hyV_X9_readsAs ⟨rfl, rfl⟩ ⟨by decide, by decide⟩ rfl hl rfl (Nat.le_of_ble_eq_true rfl) dX9_findOdds_77 ⟨Nat.zero_le _, Nat.zero_le _⟩) (fun H locs d => ?_)
        obtain ej := Option.some.inj h
        refine r_top ej.symm ?_
        exact Jt9 _ _ d
      · replace h := it_p cc h
        refine lv_bipush (v := (-4)) S.1 S.2.1 dX9_findOdds_63 (by decide) ?_
        refine lv_goto (tgt := 80) S.1 S.2.1 dX9_findOdds_65 (by decide) ?_
        obtain ej := Option.some.inj h
        refine r_top ej.symm ?_
        exact Jt9 _ _ d
set_option maxHeartbeats 4000000 in
set_option maxRecDepth 100000 in
theorem c_X9_findOdds (l : Launch) (G : Gx) (M : Mem) (L : MemL) (fu : Nat) (k0 : Nat) (a1 : Int32) (a2 : Int32) (hk0 : kd k0 = 20) {z : MemL} (h : f_X9_findOdds fu M L k0 a1 a2 = some z) : Met l yX9_findOdds (.code yX9_findOdds cX9_findOdds 8 (Option.none : Option Jvm.ClassFile.FieldType) :: UW) rm_X9_findOdds (va_Pc [.ref (ad G k0), .int a1, .int a2] (PreG G true M L)) (Qv G M z) 0 0 (gA G) := by
  refine r_in (by decide) (fun p e s m args below meth c S hr d ha ls hl => ?_) (Nat.le_of_ble_eq_true rfl)
  have S : Sx G true p s m args meth c cX9_findOdds 8 RX9 := S
  have hl : lv_has ls 8 [(0, .ref (ad G k0)), (1, .int a1), (2, .int a2)] := hl
  unfold f_X9_findOdds at h
  refine lv_iconst (v := 0) S.1 S.2.1 dX9_findOdds_0 (by decide) ?_
  refine lv_istore_n (lv' := [(3, .int (0 : Int32)), (0, .ref (ad G k0)), (1, .int a1), (2, .int a2)]) S.1 S.2.1 dX9_findOdds_1 rfl hl (by decide) rfl (fun ls hl => ?_)
  refine lc_X9_findOdds_2 S hr hk0 _ (fun L4 H locs d ls hl h => ?_) _ _ _  h _ _ d _ (lv_sub hl [1, 2, 3, 0] rfl)
  refine lv_iconst (v := 0) S.1 S.2.1 dX9_findOdds_21 (by decide) ?_
  refine lv_istore_n (lv' := [(3, .int (0 : Int32)), (0, .ref (ad G k0)), (1, .int a1), (2, .int a2)]) S.1 S.2.1 dX9_findOdds_22 rfl hl (by decide) rfl (fun ls hl => ?_)
  refine lc_X9_findOdds_23 S hr hk0 _ (fun L18 H locs d ls hl h => ?_) _ _ _  h _ _ d _ (lv_sub hl [1, 2, 3, 0] rfl)
  obtain rfl := Option.some.inj h
  exact r_vret S d hr dX9_findOdds_105
theorem hyV_X9_sure : yX9_sure.cls = RX9 ∧ yX9_sure.cls ≠ "java/lang/invoke/MethodHandle" ∧ yX9_sure.cls ≠ "java/lang/invoke/VarHandle" ∧ (parseMethodDescriptor yX9_sure.desc).map (fun d => d.parameters.length) = some 2 := by decide +kernel
abbrev rm_X9_sure : Room := { frames := 4, cells := 0, slots := 0, locals := 94 }
def f_X9_sure (fu : Nat) (M : Mem) (L : MemL) (k0 : Nat) (a1 : Int32) (a2 : Int32) : Option (Int32 × MemL) :=
  (f_X9_isLetter a1).bind (fun u1 =>
  (if u1 = 0 then some ((-1 : Int32), L)
  else (f_X9_in ((a2).toInt64) (0 : Int64) (8 : Int64)).bind (fun u2 =>
    (if u2 = 0 then some ((-1 : Int32), L)
    else (f_X9_findOdds fu M L k0 a1 a2).bind (fun u3 =>
      gd (inb a1 26) (
      lt (((u3 (k0 + 14) a1.toNatClampNeg) >>> (((30 : Int32)).toInt64 &&& 63))) (fun v5 : Int64 =>
      gd (inb a1 26) (
      lt (((u3 (k0 + 14) a1.toNatClampNeg) &&& (1073741823 : Int64))) (fun v7 : Int64 =>
      some ((((((1000 : Int64) * v5) + (((1000 : Int64) * v7) >>> (((30 : Int32)).toInt64 &&& 63))) >>> (((30 : Int32)).toInt64 &&& 63))).toInt32, u3))))))))))
set_option maxHeartbeats 4000000 in
set_option maxRecDepth 100000 in
theorem c_X9_sure (l : Launch) (G : Gx) (M : Mem) (L : MemL) (fu : Nat) (k0 : Nat) (a1 : Int32) (a2 : Int32) (hk0 : kd k0 = 20) {z : Int32 × MemL} (h : f_X9_sure fu M L k0 a1 a2 = some z) : Met l yX9_sure (.code yX9_sure cX9_sure 7 (Option.some Jvm.ClassFile.FieldType.int) :: UW) rm_X9_sure (va_Pc [.ref (ad G k0), .int a1, .int a2] (PreG G true M L)) (Qi G z.1 M z.2) 0 0 (gA G) := by
  refine r_in (by decide) (fun p e s m args below meth c S hr d ha ls hl => ?_) (Nat.le_of_ble_eq_true rfl)
  have S : Sx G true p s m args meth c cX9_sure 7 RX9 := S
  have hl : lv_has ls 7 [(0, .ref (ad G k0)), (1, .int a1), (2, .int a2)] := hl
  unfold f_X9_sure at h
  refine lv_iload_n S.1 S.2.1 dX9_sure_0 rfl (lv_at hl 1 rfl) ?_
  obtain ⟨u1, hu1, h⟩ := bd_e h
  refine r_ri d (r_cS (As := [.int a1]) (rest := []) S d (c_X9_isLetter l G M L a1 hu1) ml_RX9_101 sm_yX9_isLetter in_RX9 co_yX9_isLetter hyS_X9_isLetter ⟨rfl, rfl⟩ ⟨by decide, by decide⟩ rfl hl rfl (Nat.le_of_ble_eq_true rfl) dX9_sure_1 ⟨Nat.zero_le _, Nat.zero_le _⟩) (fun H locs d => ?_)
  refine lv_if_eq (tgt := 19) S.1 S.2.1 dX9_sure_4 (by decide) (fun cc => ?_) (fun cc => ?_)
  · replace h := it_p cc h
    refine lv_iconst (v := (-1)) S.1 S.2.1 dX9_sure_19 (by decide) ?_
    obtain rfl := Option.some.inj h
    exact r_iret S d hr rfl rfl dX9_sure_20
  · replace h := it_n cc h
    refine lv_iload_n S.1 S.2.1 dX9_sure_7 rfl (lv_at hl 2 rfl) ?_
    refine lv_i2l S.1 S.2.1 dX9_sure_8 rfl ?_
    refine lv_lconst (v := 0) S.1 S.2.1 dX9_sure_9 (by decide) ?_
    refine lv_ldc2 (v := 8) S.1 S.2.1 S.2.2.2.1 (S.uw cn_RX9_133) dX9_sure_10 ?_
    obtain ⟨u2, hu2, h⟩ := bd_e h
    refine r_ri d (r_cS (As := [.long ((a2).toInt64), .long (0 : Int64), .long (8 : Int64)]) (rest := []) S d (c_X9_in l G M L ((a2).toInt64) (0 : Int64) (8 : Int64) hu2) ml_RX9_75 sm_yX9_in in_RX9 co_yX9_in hyS_X9_in ⟨rfl, rfl⟩ ⟨by decide, by decide⟩ rfl hl rfl (Nat.le_of_ble_eq_true rfl) dX9_sure_13 ⟨Nat.zero_le _, Nat.zero_le _⟩) (fun H locs d => ?_)
    refine lv_if_ne (tgt := 21) S.1 S.2.1 dX9_sure_16 (by decide) (fun cc => ?_) (fun cc => ?_)
    · replace h := it_n cc h
      refine lv_aload_n S.1 S.2.1 dX9_sure_21 rfl (lv_at hl 0 rfl) ?_
      refine lv_iload_n S.1 S.2.1 dX9_sure_22 rfl (lv_at hl 1 rfl) ?_
      refine lv_iload_n S.1 S.2.1 dX9_sure_23 rfl (lv_at hl 2 rfl) ?_
      obtain ⟨u3, hu3, h⟩ := bd_e h
      refine r_rv d (r_cV (As := [.int a1, .int a2]) (rest := []) S d (c_X9_findOdds l G M L fu k0 a1 a2 hk0 hu3) (ksdM S hk0) (wc_20 hk0) rfl ml_RX9_216 im_yX9_findOdds se_yX9_findOdds in_RX9 co_yX9_findOdds hyV_X9_findOdds ⟨rfl, rfl⟩ ⟨by decide, by decide⟩ rfl hl rfl (Nat.le_of_ble_eq_true rfl) dX9_sure_24 ⟨Nat.zero_le _, Nat.zero_le _⟩) (fun H locs d => ?_)
      refine lv_aload_n S.1 S.2.1 dX9_sure_27 rfl (lv_at hl 0 rfl) ?_
      refine gf_20_19 S d hk0 fl_RX9_49 dX9_sure_28 ?_
      refine lv_iload_n S.1 S.2.1 dX9_sure_31 rfl (lv_at hl 1 rfl) ?_
      obtain ⟨g4, h⟩ := gd_e h
      refine r_lald S d (ksdM S (ch_20_19 hk0).1) (wc_22 (ch_20_19 hk0).1) (ch_20_19 hk0).2 g4 dX9_sure_32 ?_
      refine lv_bipush (v := 30) S.1 S.2.1 dX9_sure_33 (by decide) ?_
      refine lv_lshr S.1 S.2.1 dX9_sure_35 rfl ?_
      obtain ⟨v5, ev5, h⟩ := lt_e h
      refine r_topl ev5 ?_
      refine lv_lstore_n (lv' := [(3, .long v5), (0, .ref (ad G k0)), (1, .int a1), (2, .int a2)]) S.1 S.2.1 dX9_sure_36 rfl hl (by decide) rfl (fun ls hl => ?_)
      refine lv_aload_n S.1 S.2.1 dX9_sure_37 rfl (lv_at hl 1 rfl) ?_
      refine gf_20_19 S d hk0 fl_RX9_49 dX9_sure_38 ?_
      refine lv_iload_n S.1 S.2.1 dX9_sure_41 rfl (lv_at hl 2 rfl) ?_
      obtain ⟨g6, h⟩ := gd_e h
      refine r_lald S d (ksdM S (ch_20_19 hk0).1) (wc_22 (ch_20_19 hk0).1) (ch_20_19 hk0).2 g6 dX9_sure_42 ?_
      refine lv_ldc2 (v := 1073741823) S.1 S.2.1 S.2.2.2.1 (S.uw cn_RX9_220) dX9_sure_43 ?_
      refine lv_land S.1 S.2.1 dX9_sure_46 ?_
      obtain ⟨v7, ev7, h⟩ := lt_e h
      refine r_topl ev7 ?_
      refine lv_lstore (lv' := [(5, .long v7), (3, .long v5), (0, .ref (ad G k0)), (1, .int a1), (2, .int a2)]) S.1 S.2.1 dX9_sure_47 hl (by decide) rfl (fun ls hl => ?_)
      refine lv_ldc2 (v := 1000) S.1 S.2.1 S.2.2.2.1 (S.uw cn_RX9_222) dX9_sure_49 ?_
      refine lv_lload_n S.1 S.2.1 dX9_sure_52 rfl (lv_at hl 1 rfl) ?_
      refine lv_lmul S.1 S.2.1 dX9_sure_53 ?_
      refine lv_ldc2 (v := 1000) S.1 S.2.1 S.2.2.2.1 (S.uw cn_RX9_222) dX9_sure_54 ?_
      refine lv_lload S.1 S.2.1 dX9_sure_57 (lv_at hl 0 rfl) ?_
      refine lv_lmul S.1 S.2.1 dX9_sure_59 ?_
      refine lv_bipush (v := 30) S.1 S.2.1 dX9_sure_60 (by decide) ?_
      refine lv_lshr S.1 S.2.1 dX9_sure_62 rfl ?_
      refine lv_ladd S.1 S.2.1 dX9_sure_63 ?_
      refine lv_bipush (v := 30) S.1 S.2.1 dX9_sure_64 (by decide) ?_
      refine lv_lshr S.1 S.2.1 dX9_sure_66 rfl ?_
      refine lv_l2i S.1 S.2.1 dX9_sure_67 rfl ?_
      obtain rfl := Option.some.inj h
      exact r_iret S d hr rfl rfl dX9_sure_68
    · replace h := it_p cc h
      refine lv_iconst (v := (-1)) S.1 S.2.1 dX9_sure_19 (by decide) ?_
      obtain rfl := Option.some.inj h
      exact r_iret S d hr rfl rfl dX9_sure_20
theorem hyV_X9_taken : yX9_taken.cls = RX9 ∧ yX9_taken.cls ≠ "java/lang/invoke/MethodHandle" ∧ yX9_taken.cls ≠ "java/lang/invoke/VarHandle" ∧ (parseMethodDescriptor yX9_taken.desc).map (fun d => d.parameters.length) = some 2 := by decide +kernel
abbrev rm_X9_taken : Room := { frames := 4, cells := 0, slots := 0, locals := 94 }
def lp_X9_taken_36 (fu : Nat) (M : Mem) (L : MemL) (b0 : Nat) (b1 : Int32) (K : Int32 → Option (Int32 × MemL)) : Nat → Int32 → Int64 → Int32 → Option (Int32 × MemL)
  | 0, _, _, _ => none
  | n + 1, x3, x4, x6 =>
    (if (26 : Int32) ≤ x6 then (K x3)
    else (if x6 = b1 then lt (x6 + 1) (fun v9 : Int32 =>
        (lp_X9_taken_36 fu M L b0 b1 K n x3 x4 v9))
      else gd (inb x6 26) (
        (if (lg_cmp (L (b0 + 14) x6.toNatClampNeg) x4) ≤ 0 then lt (x6 + 1) (fun v8 : Int32 =>
          (lp_X9_taken_36 fu M L b0 b1 K n x3 x4 v8))
        else gd (inb x6 26) (
          lt ((L (b0 + 14) x6.toNatClampNeg)) (fun v6 : Int64 =>
          lt (x6 + 1) (fun v7 : Int32 =>
          (lp_X9_taken_36 fu M L b0 b1 K n x6 v6 v7))))))))
def f_X9_taken (fu : Nat) (M : Mem) (L : MemL) (k0 : Nat) (a1 : Int32) (a2 : Int32) : Option (Int32 × MemL) :=
  (f_X9_isLetter a1).bind (fun u1 =>
  (if u1 = 0 then some ((-1 : Int32), L)
  else (f_X9_in ((a2).toInt64) (0 : Int64) (8 : Int64)).bind (fun u2 =>
    (if u2 = 0 then some ((-1 : Int32), L)
    else (f_X9_findOdds fu M L k0 a1 a2).bind (fun u3 =>
      (lp_X9_taken_36 fu M u3 k0 a1 (fun (v10 : Int32) =>
        some (v10, u3)) fu (-4 : Int32) (0 : Int64) (0 : Int32)))))))
set_option maxHeartbeats 4000000 in
set_option maxRecDepth 100000 in
theorem lc_X9_taken_36 {p : Program} {l : Launch} {e : Env} {s : State} {m : MethodId} {args : Array Value} {below : List Frame} {meth : Method} {c : Code} {G : Gx} {M : Mem} {L : MemL} {fu : Nat} {b0 : Nat} {b1 : Int32} {z : Int32 × MemL} (S : Sx G true p s m args meth c cX9_taken 7 RX9) (hr : meth.sig.returnType = (Option.some Jvm.ClassFile.FieldType.int)) (hb0 : kd b0 = 20) (K : Int32 → Option (Int32 × MemL)) (hK : ∀ (y3 : Int32) (H : Heap) (locs : List Loc), Dy G s M L H locs → ∀ ls : Array Slot, lv_has ls 7 [(3, .int y3)] → K y3 = some z → W p l e rm_X9_taken s m args below meth c H locs 0 0 (MQ below (Qi G z.1 M z.2) args s 0 0 (gA G)) (F0 m 80 ls [])) :
    ∀ (n : Nat) (x3 : Int32) (x4 : Int64) (x6 : Int32), lp_X9_taken_36 fu M L b0 b1 K n x3 x4 x6 = some z → ∀ (H : Heap) (locs : List Loc), Dy G s M L H locs → ∀ ls : Array Slot, lv_has ls 7 [(0, .ref (ad G b0)), (1, .int b1), (3, .int x3), (4, .long x4), (6, .int x6)] → W p l e rm_X9_taken s m args below meth c H locs 0 0 (MQ below (Qi G z.1 M z.2) args s 0 0 (gA G)) (F0 m 36 ls []) := by
  intro n
  induction n with
  | zero =>
    intro x3 x4 x6 h
    have h : (none : Option (Int32 × MemL)) = some z := h
    cases h
  | succ n ih =>
    intro x3 x4 x6 h H locs d ls hl
    rw [lp_X9_taken_36] at h
    refine lv_iload S.1 S.2.1 dX9_taken_36 (lv_at hl 4 rfl) ?_
    refine lv_bipush (v := 26) S.1 S.2.1 dX9_taken_38 (by decide) ?_
    refine lv_icmp_ge (tgt := 80) S.1 S.2.1 dX9_taken_40 (by decide) (fun cc => ?_) (fun cc => ?_)
    · replace h := it_p cc h
      exact hK _ _ _ d _ (lv_sub hl [2] rfl) h
    · replace h := it_n cc h
      refine lv_iload S.1 S.2.1 dX9_taken_43 (lv_at hl 4 rfl) ?_
      refine lv_iload_n S.1 S.2.1 dX9_taken_45 rfl (lv_at hl 1 rfl) ?_
      refine lv_icmp_eq (tgt := 74) S.1 S.2.1 dX9_taken_46 (by decide) (fun cc => ?_) (fun cc => ?_)
      · replace h := it_p cc h
        obtain ⟨v9, ev9, h⟩ := lt_e h
        refine lv_iinc (v := v9) (lv' := [(6, .int v9), (0, .ref (ad G b0)), (1, .int b1), (3, .int x3), (4, .long x4)]) S.1 S.2.1 dX9_taken_74 hl (k := 4) rfl (by rw [ev9]; rfl) (by decide) rfl (fun ls hl => ?_)
        refine lv_goto (tgt := 36) S.1 S.2.1 dX9_taken_77 (by decide) ?_
        exact ih _ _ _ h _ _ d _ (lv_sub hl [1, 2, 3, 4, 0] rfl)
      · replace h := it_n cc h
        refine lv_aload_n S.1 S.2.1 dX9_taken_49 rfl (lv_at hl 0 rfl) ?_
        refine gf_20_19 S d hb0 fl_RX9_49 dX9_taken_50 ?_
        refine lv_iload S.1 S.2.1 dX9_taken_53 (lv_at hl 4 rfl) ?_
        obtain ⟨g4, h⟩ := gd_e h
        refine r_lald S d (ksdM S (ch_20_19 hb0).1) (wc_22 (ch_20_19 hb0).1) (ch_20_19 hb0).2 g4 dX9_taken_55 ?_
        refine lv_lload S.1 S.2.1 dX9_taken_56 (lv_at hl 3 rfl) ?_
        refine W.lcmp S.1 S.2.1 dX9_taken_58 ?_
        refine lv_if_le (tgt := 74) S.1 S.2.1 dX9_taken_59 (by decide) (fun cc => ?_) (fun cc => ?_)
        · replace h := it_p cc h
          obtain ⟨v8, ev8, h⟩ := lt_e h
          refine lv_iinc (v := v8) (lv' := [(6, .int v8), (0, .ref (ad G b0)), (1, .int b1), (3, .int x3), (4, .long x4)]) S.1 S.2.1 dX9_taken_74 hl (k := 4) rfl (by rw [ev8]; rfl) (by decide) rfl (fun ls hl => ?_)
          refine lv_goto (tgt := 36) S.1 S.2.1 dX9_taken_77 (by decide) ?_
          exact ih _ _ _ h _ _ d _ (lv_sub hl [1, 2, 3, 4, 0] rfl)
        · replace h := it_n cc h
          refine lv_iload S.1 S.2.1 dX9_taken_62 (lv_at hl 4 rfl) ?_
          refine lv_istore_n (lv' := [(3, .int x6), (0, .ref (ad G b0)), (1, .int b1), (4, .long x4), (6, .int x6)]) S.1 S.2.1 dX9_taken_64 rfl hl (by decide) rfl (fun ls hl => ?_)
          refine lv_aload_n S.1 S.2.1 dX9_taken_65 rfl (lv_at hl 1 rfl) ?_
          refine gf_20_19 S d hb0 fl_RX9_49 dX9_taken_66 ?_
          refine lv_iload S.1 S.2.1 dX9_taken_69 (lv_at hl 4 rfl) ?_
          obtain ⟨g5, h⟩ := gd_e h
          refine r_lald S d (ksdM S (ch_20_19 hb0).1) (wc_22 (ch_20_19 hb0).1) (ch_20_19 hb0).2 g5 dX9_taken_71 ?_
          obtain ⟨v6, ev6, h⟩ := lt_e h
          refine r_topl ev6 ?_
          refine lv_lstore (lv' := [(4, .long v6), (3, .int x6), (0, .ref (ad G b0)), (1, .int b1), (6, .int x6)]) S.1 S.2.1 dX9_taken_72 hl (by decide) rfl (fun ls hl => ?_)
          obtain ⟨v7, ev7, h⟩ := lt_e h
          refine lv_iinc (v := v7) (lv' := [(6, .int v7), (4, .long v6), (3, .int x6), (0, .ref (ad G b0)), (1, .int b1)]) S.1 S.2.1 dX9_taken_74 hl (k := 4) rfl (by rw [ev7]; rfl) (by decide) rfl (fun ls hl => ?_)
          refine lv_goto (tgt := 36) S.1 S.2.1 dX9_taken_77 (by decide) ?_
          exact ih _ _ _ h _ _ d _ (lv_sub hl [3, 4, 2, 1, 0] rfl)
set_option maxHeartbeats 4000000 in
set_option maxRecDepth 100000 in
theorem c_X9_taken (l : Launch) (G : Gx) (M : Mem) (L : MemL) (fu : Nat) (k0 : Nat) (a1 : Int32) (a2 : Int32) (hk0 : kd k0 = 20) {z : Int32 × MemL} (h : f_X9_taken fu M L k0 a1 a2 = some z) : Met l yX9_taken (.code yX9_taken cX9_taken 7 (Option.some Jvm.ClassFile.FieldType.int) :: UW) rm_X9_taken (va_Pc [.ref (ad G k0), .int a1, .int a2] (PreG G true M L)) (Qi G z.1 M z.2) 0 0 (gA G) := by
  refine r_in (by decide) (fun p e s m args below meth c S hr d ha ls hl => ?_) (Nat.le_of_ble_eq_true rfl)
  have S : Sx G true p s m args meth c cX9_taken 7 RX9 := S
  have hl : lv_has ls 7 [(0, .ref (ad G k0)), (1, .int a1), (2, .int a2)] := hl
  unfold f_X9_taken at h
  refine lv_iload_n S.1 S.2.1 dX9_taken_0 rfl (lv_at hl 1 rfl) ?_
  obtain ⟨u1, hu1, h⟩ := bd_e h
  refine r_ri d (r_cS (As := [.int a1]) (rest := []) S d (c_X9_isLetter l G M L a1 hu1) ml_RX9_101 sm_yX9_isLetter in_RX9 co_yX9_isLetter hyS_X9_isLetter ⟨rfl, rfl⟩ ⟨by decide, by decide⟩ rfl hl rfl (Nat.le_of_ble_eq_true rfl) dX9_taken_1 ⟨Nat.zero_le _, Nat.zero_le _⟩) (fun H locs d => ?_)
  refine lv_if_eq (tgt := 19) S.1 S.2.1 dX9_taken_4 (by decide) (fun cc => ?_) (fun cc => ?_)
  · replace h := it_p cc h
    refine lv_iconst (v := (-1)) S.1 S.2.1 dX9_taken_19 (by decide) ?_
    obtain rfl := Option.some.inj h
    exact r_iret S d hr rfl rfl dX9_taken_20
  · replace h := it_n cc h
    refine lv_iload_n S.1 S.2.1 dX9_taken_7 rfl (lv_at hl 2 rfl) ?_
    refine lv_i2l S.1 S.2.1 dX9_taken_8 rfl ?_
    refine lv_lconst (v := 0) S.1 S.2.1 dX9_taken_9 (by decide) ?_
    refine lv_ldc2 (v := 8) S.1 S.2.1 S.2.2.2.1 (S.uw cn_RX9_133) dX9_taken_10 ?_
    obtain ⟨u2, hu2, h⟩ := bd_e h
    refine r_ri d (r_cS (As := [.long ((a2).toInt64), .long (0 : Int64), .long (8 : Int64)]) (rest := []) S d (c_X9_in l G M L ((a2).toInt64) (0 : Int64) (8 : Int64) hu2) ml_RX9_75 sm_yX9_in in_RX9 co_yX9_in hyS_X9_in ⟨rfl, rfl⟩ ⟨by decide, by decide⟩ rfl hl rfl (Nat.le_of_ble_eq_true rfl) dX9_taken_13 ⟨Nat.zero_le _, Nat.zero_le _⟩) (fun H locs d => ?_)
    refine lv_if_ne (tgt := 21) S.1 S.2.1 dX9_taken_16 (by decide) (fun cc => ?_) (fun cc => ?_)
    · replace h := it_n cc h
      refine lv_aload_n S.1 S.2.1 dX9_taken_21 rfl (lv_at hl 0 rfl) ?_
      refine lv_iload_n S.1 S.2.1 dX9_taken_22 rfl (lv_at hl 1 rfl) ?_
      refine lv_iload_n S.1 S.2.1 dX9_taken_23 rfl (lv_at hl 2 rfl) ?_
      obtain ⟨u3, hu3, h⟩ := bd_e h
      refine r_rv d (r_cV (As := [.int a1, .int a2]) (rest := []) S d (c_X9_findOdds l G M L fu k0 a1 a2 hk0 hu3) (ksdM S hk0) (wc_20 hk0) rfl ml_RX9_216 im_yX9_findOdds se_yX9_findOdds in_RX9 co_yX9_findOdds hyV_X9_findOdds ⟨rfl, rfl⟩ ⟨by decide, by decide⟩ rfl hl rfl (Nat.le_of_ble_eq_true rfl) dX9_taken_24 ⟨Nat.zero_le _, Nat.zero_le _⟩) (fun H locs d => ?_)
      refine lv_bipush (v := (-4)) S.1 S.2.1 dX9_taken_27 (by decide) ?_
      refine lv_istore_n (lv' := [(3, .int (-4 : Int32)), (0, .ref (ad G k0)), (1, .int a1), (2, .int a2)]) S.1 S.2.1 dX9_taken_29 rfl hl (by decide) rfl (fun ls hl => ?_)
      refine lv_lconst (v := 0) S.1 S.2.1 dX9_taken_30 (by decide) ?_
      refine lv_lstore (lv' := [(4, .long (0 : Int64)), (3, .int (-4 : Int32)), (0, .ref (ad G k0)), (1, .int a1), (2, .int a2)]) S.1 S.2.1 dX9_taken_31 hl (by decide) rfl (fun ls hl => ?_)
      refine lv_iconst (v := 0) S.1 S.2.1 dX9_taken_33 (by decide) ?_
      refine lv_istore (lv' := [(6, .int (0 : Int32)), (4, .long (0 : Int64)), (3, .int (-4 : Int32)), (0, .ref (ad G k0)), (1, .int a1), (2, .int a2)]) S.1 S.2.1 dX9_taken_34 hl (by decide) rfl (fun ls hl => ?_)
      refine lc_X9_taken_36 S hr hk0 _ (fun v10 H locs d ls hl h => ?_) _ _ _ _  h _ _ d _ (lv_sub hl [3, 4, 2, 1, 0] rfl)
      refine lv_iload_n S.1 S.2.1 dX9_taken_80 rfl (lv_at hl 0 rfl) ?_
      obtain rfl := Option.some.inj h
      exact r_iret S d hr rfl rfl dX9_taken_81
    · replace h := it_p cc h
      refine lv_iconst (v := (-1)) S.1 S.2.1 dX9_taken_19 (by decide) ?_
      obtain rfl := Option.some.inj h
      exact r_iret S d hr rfl rfl dX9_taken_20
theorem hyV_X9_fades : yX9_fades.cls = RX9 ∧ yX9_fades.cls ≠ "java/lang/invoke/MethodHandle" ∧ yX9_fades.cls ≠ "java/lang/invoke/VarHandle" ∧ (parseMethodDescriptor yX9_fades.desc).map (fun d => d.parameters.length) = some 2 := by decide +kernel
abbrev rm_X9_fades : Room := { frames := 4, cells := 0, slots := 0, locals := 91 }
def lp_X9_fades_32 (fu : Nat) (b0 : Nat) (b1 : Int32) (b2 : Int32) (K : Mem → Option (Int32 × Mem)) : Nat → Int32 → Mem → Option (Int32 × Mem)
  | 0, _, _ => none
  | n + 1, x3, Mx =>
    (if (135 : Int32) ≤ x3 then (K Mx)
    else gd (inb x3 135) (
      gd (inb x3 135) (
      lt (up Mx (b0 + 15) x3.toNatClampNeg (Mx (b0 + 3) x3.toNatClampNeg)) (fun M6 : Mem =>
      lt (x3 + 1) (fun v7 : Int32 =>
      (lp_X9_fades_32 fu b0 b1 b2 K n v7 M6))))))
def lp_X9_fades_63 (fu : Nat) (b0 : Nat) (b1 : Int32) (b2 : Int32) (K : Int32 → Mem → Option (Int32 × Mem)) : Nat → Int32 → Int32 → Mem → Option (Int32 × Mem)
  | 0, _, _, _ => none
  | n + 1, x3, x4, Mx =>
    (if (30 : Int32) < x4 then (K x3 Mx)
    else (if 0 ≤ x3 then (K x3 Mx)
      else (f_X9_goWeek fu Mx b0).bind (fun u9 =>
        (f_X9_isWritten fu u9 b0 b1 b2).bind (fun u10 =>
        (if u10 = 0 then some x4
        else some (-4 : Int32)).bind (fun t11 : Int32 =>
        lt (x4 + 1) (fun v13 : Int32 =>
        (lp_X9_fades_63 fu b0 b1 b2 K n t11 v13 u9)))))))
def lp_X9_fades_104 (fu : Nat) (b0 : Nat) (b3 : Int32) (K : Mem → Option (Int32 × Mem)) : Nat → Int32 → Mem → Option (Int32 × Mem)
  | 0, _, _ => none
  | n + 1, x4, Mx =>
    (if (135 : Int32) ≤ x4 then (K Mx)
    else gd (inb x4 135) (
      gd (inb x4 135) (
      lt (up Mx (b0 + 3) x4.toNatClampNeg (Mx (b0 + 15) x4.toNatClampNeg)) (fun M18 : Mem =>
      lt (x4 + 1) (fun v19 : Int32 =>
      (lp_X9_fades_104 fu b0 b3 K n v19 M18))))))
def f_X9_fades (fu : Nat) (M : Mem) (k0 : Nat) (a1 : Int32) (a2 : Int32) : Option (Int32 × Mem) :=
  (f_X9_isWord M k0 a1).bind (fun u1 =>
  (if u1 = 0 then some ((-1 : Int32), M)
  else (f_X9_isStrip M k0 a2).bind (fun u2 =>
    (if u2 = 0 then some ((-1 : Int32), M)
    else (f_X9_isWritten fu M k0 a1 a2).bind (fun u3 =>
      (if u3 = 0 then some ((-2 : Int32), M)
      else (lp_X9_fades_32 fu k0 a1 a2 (fun (M8 : Mem) =>
          (lp_X9_fades_63 fu k0 a1 a2 (fun (v14 : Int32) (M15 : Mem) =>
            (lp_X9_fades_104 fu k0 v14 (fun (M20 : Mem) =>
              some (v14, M20)) fu (0 : Int32) M15)) fu (-4 : Int32) (1 : Int32) M8)) fu (0 : Int32) M)))))))
set_option maxHeartbeats 4000000 in
set_option maxRecDepth 100000 in
theorem lc_X9_fades_32 {p : Program} {l : Launch} {e : Env} {s : State} {m : MethodId} {args : Array Value} {below : List Frame} {meth : Method} {c : Code} {G : Gx} {L : MemL} {fu : Nat} {b0 : Nat} {b1 : Int32} {b2 : Int32} {z : Int32 × Mem} (S : Sx G true p s m args meth c cX9_fades 5 RX9) (hr : meth.sig.returnType = (Option.some Jvm.ClassFile.FieldType.int)) (hb0 : kd b0 = 20) (K : Mem → Option (Int32 × Mem)) (hK : ∀ (My : Mem) (H : Heap) (locs : List Loc), Dy G s My L H locs → ∀ ls : Array Slot, lv_has ls 5 [(0, .ref (ad G b0)), (1, .int b1), (2, .int b2)] → K My = some z → W p l e rm_X9_fades s m args below meth c H locs 0 0 (MQ below (Qi G z.1 z.2 L) args s 0 0 (gA G)) (F0 m 57 ls [])) :
    ∀ (n : Nat) (x3 : Int32) (Mx : Mem), lp_X9_fades_32 fu b0 b1 b2 K n x3 Mx = some z → ∀ (H : Heap) (locs : List Loc), Dy G s Mx L H locs → ∀ ls : Array Slot, lv_has ls 5 [(0, .ref (ad G b0)), (1, .int b1), (2, .int b2), (3, .int x3)] → W p l e rm_X9_fades s m args below meth c H locs 0 0 (MQ below (Qi G z.1 z.2 L) args s 0 0 (gA G)) (F0 m 32 ls []) := by
  intro n
  induction n with
  | zero =>
    intro x3 Mx h
    have h : (none : Option (Int32 × Mem)) = some z := h
    cases h
  | succ n ih =>
    intro x3 Mx h H locs d ls hl
    rw [lp_X9_fades_32] at h
    refine lv_iload_n S.1 S.2.1 dX9_fades_32 rfl (lv_at hl 3 rfl) ?_
    refine lv_sipush (v := 135) S.1 S.2.1 dX9_fades_33 (by decide) ?_
    refine lv_icmp_ge (tgt := 57) S.1 S.2.1 dX9_fades_36 (by decide) (fun cc => ?_) (fun cc => ?_)
    · replace h := it_p cc h
      exact hK _ _ _ d _ (lv_sub hl [0, 1, 2] rfl) h
    · replace h := it_n cc h
      refine lv_aload_n S.1 S.2.1 dX9_fades_39 rfl (lv_at hl 0 rfl) ?_
      refine gf_20_20 S d hb0 fl_RX9_53 dX9_fades_40 ?_
      refine lv_iload_n S.1 S.2.1 dX9_fades_43 rfl (lv_at hl 3 rfl) ?_
      refine lv_aload_n S.1 S.2.1 dX9_fades_44 rfl (lv_at hl 0 rfl) ?_
      refine gf_20_2 S d hb0 fl_RX9_16 dX9_fades_45 ?_
      refine lv_iload_n S.1 S.2.1 dX9_fades_48 rfl (lv_at hl 3 rfl) ?_
      obtain ⟨g4, h⟩ := gd_e h
      refine r_iald S d (ksdM S (ch_20_2 hb0).1) (wc_21 (ch_20_2 hb0).1) (ch_20_2 hb0).2 g4 dX9_fades_49 ?_
      obtain ⟨g5, h⟩ := gd_e h
      obtain ⟨M6, eM6, h⟩ := lt_e h
      refine r_iast S d eM6 (ksdM S (ch_20_20 hb0).1) (fun _ => wc_21 (ch_20_20 hb0).1) (ch_20_20 hb0).2 g5 dX9_fades_50 (fun H locs d => ?_)
      obtain ⟨v7, ev7, h⟩ := lt_e h
      refine lv_iinc (v := v7) (lv' := [(3, .int v7), (0, .ref (ad G b0)), (1, .int b1), (2, .int b2)]) S.1 S.2.1 dX9_fades_51 hl (k := 3) rfl (by rw [ev7]; rfl) (by decide) rfl (fun ls hl => ?_)
      refine lv_goto (tgt := 32) S.1 S.2.1 dX9_fades_54 (by decide) ?_
      exact ih _ _ h _ _ d _ (lv_sub hl [1, 2, 3, 0] rfl)
set_option maxHeartbeats 4000000 in
set_option maxRecDepth 100000 in
theorem lc_X9_fades_63 {p : Program} {l : Launch} {e : Env} {s : State} {m : MethodId} {args : Array Value} {below : List Frame} {meth : Method} {c : Code} {G : Gx} {L : MemL} {fu : Nat} {b0 : Nat} {b1 : Int32} {b2 : Int32} {z : Int32 × Mem} (S : Sx G true p s m args meth c cX9_fades 5 RX9) (hr : meth.sig.returnType = (Option.some Jvm.ClassFile.FieldType.int)) (hb0 : kd b0 = 20) (K : Int32 → Mem → Option (Int32 × Mem)) (hK : ∀ (y3 : Int32) (My : Mem) (H : Heap) (locs : List Loc), Dy G s My L H locs → ∀ ls : Array Slot, lv_has ls 5 [(0, .ref (ad G b0)), (3, .int y3)] → K y3 My = some z → W p l e rm_X9_fades s m args below meth c H locs 0 0 (MQ below (Qi G z.1 z.2 L) args s 0 0 (gA G)) (F0 m 101 ls [])) :
    ∀ (n : Nat) (x3 : Int32) (x4 : Int32) (Mx : Mem), lp_X9_fades_63 fu b0 b1 b2 K n x3 x4 Mx = some z → ∀ (H : Heap) (locs : List Loc), Dy G s Mx L H locs → ∀ ls : Array Slot, lv_has ls 5 [(0, .ref (ad G b0)), (1, .int b1), (2, .int b2), (3, .int x3), (4, .int x4)] → W p l e rm_X9_fades s m args below meth c H locs 0 0 (MQ below (Qi G z.1 z.2 L) args s 0 0 (gA G)) (F0 m 63 ls []) := by
  intro n
  induction n with
  | zero =>
    intro x3 x4 Mx h
    have h : (none : Option (Int32 × Mem)) = some z := h
    cases h
  | succ n ih =>
    intro x3 x4 Mx h H locs d ls hl
    rw [lp_X9_fades_63] at h
    refine lv_iload S.1 S.2.1 dX9_fades_63 (lv_at hl 4 rfl) ?_
    refine lv_bipush (v := 30) S.1 S.2.1 dX9_fades_65 (by decide) ?_
    refine lv_icmp_gt (tgt := 101) S.1 S.2.1 dX9_fades_67 (by decide) (fun cc => ?_) (fun cc => ?_)
    · replace h := it_p cc h
      exact hK _ _ _ _ d _ (lv_sub hl [0, 3] rfl) h
    · replace h := it_n cc h
      refine lv_iload_n S.1 S.2.1 dX9_fades_70 rfl (lv_at hl 3 rfl) ?_
      refine lv_if_ge (tgt := 101) S.1 S.2.1 dX9_fades_71 (by decide) (fun cc => ?_) (fun cc => ?_)
      · replace h := it_p cc h
        exact hK _ _ _ _ d _ (lv_sub hl [0, 3] rfl) h
      · replace h := it_n cc h
        refine lv_aload_n S.1 S.2.1 dX9_fades_74 rfl (lv_at hl 0 rfl) ?_
        obtain ⟨u9, hu9, h⟩ := bd_e h
        refine r_rv d (r_cV (As := []) (rest := []) S d (c_X9_goWeek l G Mx L fu b0 hb0 hu9) (ksdM S hb0) (wc_20 hb0) rfl ml_RX9_130 im_yX9_goWeek se_yX9_goWeek in_RX9 co_yX9_goWeek hyV_X9_goWeek ⟨rfl, rfl⟩ ⟨by decide, by decide⟩ rfl hl rfl (Nat.le_of_ble_eq_true rfl) dX9_fades_75 ⟨Nat.zero_le _, Nat.zero_le _⟩) (fun H locs d => ?_)
        refine lv_aload_n S.1 S.2.1 dX9_fades_78 rfl (lv_at hl 0 rfl) ?_
        refine lv_iload_n S.1 S.2.1 dX9_fades_79 rfl (lv_at hl 1 rfl) ?_
        refine lv_iload_n S.1 S.2.1 dX9_fades_80 rfl (lv_at hl 2 rfl) ?_
        obtain ⟨u10, hu10, h⟩ := bd_e h
        refine r_ri d (r_cV (As := [.int b1, .int b2]) (rest := []) S d (c_X9_isWritten l G u9 L fu b0 b1 b2 hb0 hu10) (ksdM S hb0) (wc_20 hb0) rfl ml_RX9_188 im_yX9_isWritten se_yX9_isWritten in_RX9 co_yX9_isWritten hyV_X9_isWritten ⟨rfl, rfl⟩ ⟨by decide, by decide⟩ rfl hl rfl (Nat.le_of_ble_eq_true rfl) dX9_fades_81 ⟨Nat.zero_le _, Nat.zero_le _⟩) (fun H locs d => ?_)
        obtain ⟨t11, g12, h⟩ := bd_e h
        have Jt11 : ∀ (H : Heap) (locs : List Loc), Dy G s u9 L H locs → W p l e rm_X9_fades s m args below meth c H locs 0 0 (MQ below (Qi G z.1 z.2 L) args s 0 0 (gA G)) (F0 m 94 ls [.int t11]) := by
          intro H locs d
          refine lv_istore_n (lv' := [(3, .int t11), (0, .ref (ad G b0)), (1, .int b1), (2, .int b2), (4, .int x4)]) S.1 S.2.1 dX9_fades_94 rfl hl (by decide) rfl (fun ls hl => ?_)
          obtain ⟨v13, ev13, h⟩ := lt_e h
          refine lv_iinc (v := v13) (lv' := [(4, .int v13), (3, .int t11), (0, .ref (ad G b0)), (1, .int b1), (2, .int b2)]) S.1 S.2.1 dX9_fades_95 hl (k := 4) rfl (by rw [ev13]; rfl) (by decide) rfl (fun ls hl => ?_)
          refine lv_goto (tgt := 63) S.1 S.2.1 dX9_fades_98 (by decide) ?_
          exact ih _ _ _ h _ _ d _ (lv_sub hl [2, 3, 4, 1, 0] rfl)
        have h := g12
        refine lv_if_eq (tgt := 92) S.1 S.2.1 dX9_fades_84 (by decide) (fun cc => ?_) (fun cc => ?_)
        · replace h := it_p cc h
          refine lv_iload S.1 S.2.1 dX9_fades_92 (lv_at hl 4 rfl) ?_
          obtain ej := Option.some.inj h
          refine r_top ej.symm ?_
          exact Jt11 _ _ d
        · replace h := it_n cc h
          refine lv_bipush (v := (-4)) S.1 S.2.1 dX9_fades_87 (by decide) ?_
          refine lv_goto (tgt := 94) S.1 S.2.1 dX9_fades_89 (by decide) ?_
          obtain ej := Option.some.inj h
          refine r_top ej.symm ?_
          exact Jt11 _ _ d
set_option maxHeartbeats 4000000 in
set_option maxRecDepth 100000 in
theorem lc_X9_fades_104 {p : Program} {l : Launch} {e : Env} {s : State} {m : MethodId} {args : Array Value} {below : List Frame} {meth : Method} {c : Code} {G : Gx} {L : MemL} {fu : Nat} {b0 : Nat} {b3 : Int32} {z : Int32 × Mem} (S : Sx G true p s m args meth c cX9_fades 5 RX9) (hr : meth.sig.returnType = (Option.some Jvm.ClassFile.FieldType.int)) (hb0 : kd b0 = 20) (K : Mem → Option (Int32 × Mem)) (hK : ∀ (My : Mem) (H : Heap) (locs : List Loc), Dy G s My L H locs → ∀ ls : Array Slot, lv_has ls 5 [(3, .int b3)] → K My = some z → W p l e rm_X9_fades s m args below meth c H locs 0 0 (MQ below (Qi G z.1 z.2 L) args s 0 0 (gA G)) (F0 m 132 ls [])) :
    ∀ (n : Nat) (x4 : Int32) (Mx : Mem), lp_X9_fades_104 fu b0 b3 K n x4 Mx = some z → ∀ (H : Heap) (locs : List Loc), Dy G s Mx L H locs → ∀ ls : Array Slot, lv_has ls 5 [(0, .ref (ad G b0)), (3, .int b3), (4, .int x4)] → W p l e rm_X9_fades s m args below meth c H locs 0 0 (MQ below (Qi G z.1 z.2 L) args s 0 0 (gA G)) (F0 m 104 ls []) := by
  intro n
  induction n with
  | zero =>
    intro x4 Mx h
    have h : (none : Option (Int32 × Mem)) = some z := h
    cases h
  | succ n ih =>
    intro x4 Mx h H locs d ls hl
    rw [lp_X9_fades_104] at h
    refine lv_iload S.1 S.2.1 dX9_fades_104 (lv_at hl 2 rfl) ?_
    refine lv_sipush (v := 135) S.1 S.2.1 dX9_fades_106 (by decide) ?_
    refine lv_icmp_ge (tgt := 132) S.1 S.2.1 dX9_fades_109 (by decide) (fun cc => ?_) (fun cc => ?_)
    · replace h := it_p cc h
      exact hK _ _ _ d _ (lv_sub hl [1] rfl) h
    · replace h := it_n cc h
      refine lv_aload_n S.1 S.2.1 dX9_fades_112 rfl (lv_at hl 0 rfl) ?_
      refine gf_20_2 S d hb0 fl_RX9_16 dX9_fades_113 ?_
      refine lv_iload S.1 S.2.1 dX9_fades_116 (lv_at hl 2 rfl) ?_
      refine lv_aload_n S.1 S.2.1 dX9_fades_118 rfl (lv_at hl 0 rfl) ?_
      refine gf_20_20 S d hb0 fl_RX9_53 dX9_fades_119 ?_
      refine lv_iload S.1 S.2.1 dX9_fades_122 (lv_at hl 2 rfl) ?_
      obtain ⟨g16, h⟩ := gd_e h
      refine r_iald S d (ksdM S (ch_20_20 hb0).1) (wc_21 (ch_20_20 hb0).1) (ch_20_20 hb0).2 g16 dX9_fades_124 ?_
      obtain ⟨g17, h⟩ := gd_e h
      obtain ⟨M18, eM18, h⟩ := lt_e h
      refine r_iast S d eM18 (ksdM S (ch_20_2 hb0).1) (fun _ => wc_21 (ch_20_2 hb0).1) (ch_20_2 hb0).2 g17 dX9_fades_125 (fun H locs d => ?_)
      obtain ⟨v19, ev19, h⟩ := lt_e h
      refine lv_iinc (v := v19) (lv' := [(4, .int v19), (0, .ref (ad G b0)), (3, .int b3)]) S.1 S.2.1 dX9_fades_126 hl (k := 2) rfl (by rw [ev19]; rfl) (by decide) rfl (fun ls hl => ?_)
      refine lv_goto (tgt := 104) S.1 S.2.1 dX9_fades_129 (by decide) ?_
      exact ih _ _ h _ _ d _ (lv_sub hl [1, 2, 0] rfl)
set_option maxHeartbeats 4000000 in
set_option maxRecDepth 100000 in
theorem c_X9_fades (l : Launch) (G : Gx) (M : Mem) (L : MemL) (fu : Nat) (k0 : Nat) (a1 : Int32) (a2 : Int32) (hk0 : kd k0 = 20) {z : Int32 × Mem} (h : f_X9_fades fu M k0 a1 a2 = some z) : Met l yX9_fades (.code yX9_fades cX9_fades 5 (Option.some Jvm.ClassFile.FieldType.int) :: UW) rm_X9_fades (va_Pc [.ref (ad G k0), .int a1, .int a2] (PreG G true M L)) (Qi G z.1 z.2 L) 0 0 (gA G) := by
  refine r_in (by decide) (fun p e s m args below meth c S hr d ha ls hl => ?_) (Nat.le_of_ble_eq_true rfl)
  have S : Sx G true p s m args meth c cX9_fades 5 RX9 := S
  have hl : lv_has ls 5 [(0, .ref (ad G k0)), (1, .int a1), (2, .int a2)] := hl
  unfold f_X9_fades at h
  refine lv_aload_n S.1 S.2.1 dX9_fades_0 rfl (lv_at hl 0 rfl) ?_
  refine lv_iload_n S.1 S.2.1 dX9_fades_1 rfl (lv_at hl 1 rfl) ?_
  obtain ⟨u1, hu1, h⟩ := bd_e h
  refine r_ri d (r_cV (As := [.int a1]) (rest := []) S d (c_X9_isWord l G M L k0 a1 hk0 hu1) (ksdM S hk0) (wc_20 hk0) rfl ml_RX9_174 im_yX9_isWord se_yX9_isWord in_RX9 co_yX9_isWord hyV_X9_isWord ⟨rfl, rfl⟩ ⟨by decide, by decide⟩ rfl hl rfl (Nat.le_of_ble_eq_true rfl) dX9_fades_2 ⟨Nat.zero_le _, Nat.zero_le _⟩) (fun H locs d => ?_)
  refine lv_if_eq (tgt := 16) S.1 S.2.1 dX9_fades_5 (by decide) (fun cc => ?_) (fun cc => ?_)
  · replace h := it_p cc h
    refine lv_iconst (v := (-1)) S.1 S.2.1 dX9_fades_16 (by decide) ?_
    obtain rfl := Option.some.inj h
    exact r_iret S d hr rfl rfl dX9_fades_17
  · replace h := it_n cc h
    refine lv_aload_n S.1 S.2.1 dX9_fades_8 rfl (lv_at hl 0 rfl) ?_
    refine lv_iload_n S.1 S.2.1 dX9_fades_9 rfl (lv_at hl 2 rfl) ?_
    obtain ⟨u2, hu2, h⟩ := bd_e h
    refine r_ri d (r_cV (As := [.int a2]) (rest := []) S d (c_X9_isStrip l G M L k0 a2 hk0 hu2) (ksdM S hk0) (wc_20 hk0) rfl ml_RX9_94 im_yX9_isStrip se_yX9_isStrip in_RX9 co_yX9_isStrip hyV_X9_isStrip ⟨rfl, rfl⟩ ⟨by decide, by decide⟩ rfl hl rfl (Nat.le_of_ble_eq_true rfl) dX9_fades_10 ⟨Nat.zero_le _, Nat.zero_le _⟩) (fun H locs d => ?_)
    refine lv_if_ne (tgt := 18) S.1 S.2.1 dX9_fades_13 (by decide) (fun cc => ?_) (fun cc => ?_)
    · replace h := it_n cc h
      refine lv_aload_n S.1 S.2.1 dX9_fades_18 rfl (lv_at hl 0 rfl) ?_
      refine lv_iload_n S.1 S.2.1 dX9_fades_19 rfl (lv_at hl 1 rfl) ?_
      refine lv_iload_n S.1 S.2.1 dX9_fades_20 rfl (lv_at hl 2 rfl) ?_
      obtain ⟨u3, hu3, h⟩ := bd_e h
      refine r_ri d (r_cV (As := [.int a1, .int a2]) (rest := []) S d (c_X9_isWritten l G M L fu k0 a1 a2 hk0 hu3) (ksdM S hk0) (wc_20 hk0) rfl ml_RX9_188 im_yX9_isWritten se_yX9_isWritten in_RX9 co_yX9_isWritten hyV_X9_isWritten ⟨rfl, rfl⟩ ⟨by decide, by decide⟩ rfl hl rfl (Nat.le_of_ble_eq_true rfl) dX9_fades_21 ⟨Nat.zero_le _, Nat.zero_le _⟩) (fun H locs d => ?_)
      refine lv_if_ne (tgt := 30) S.1 S.2.1 dX9_fades_24 (by decide) (fun cc => ?_) (fun cc => ?_)
      · replace h := it_n cc h
        refine lv_iconst (v := 0) S.1 S.2.1 dX9_fades_30 (by decide) ?_
        refine lv_istore_n (lv' := [(3, .int (0 : Int32)), (0, .ref (ad G k0)), (1, .int a1), (2, .int a2)]) S.1 S.2.1 dX9_fades_31 rfl hl (by decide) rfl (fun ls hl => ?_)
        refine lc_X9_fades_32 S hr hk0 _ (fun M8 H locs d ls hl h => ?_) _ _ _  h _ _ d _ (lv_sub hl [1, 2, 3, 0] rfl)
        refine lv_bipush (v := (-4)) S.1 S.2.1 dX9_fades_57 (by decide) ?_
        refine lv_istore_n (lv' := [(3, .int (-4 : Int32)), (0, .ref (ad G k0)), (1, .int a1), (2, .int a2)]) S.1 S.2.1 dX9_fades_59 rfl hl (by decide) rfl (fun ls hl => ?_)
        refine lv_iconst (v := 1) S.1 S.2.1 dX9_fades_60 (by decide) ?_
        refine lv_istore (lv' := [(4, .int (1 : Int32)), (3, .int (-4 : Int32)), (0, .ref (ad G k0)), (1, .int a1), (2, .int a2)]) S.1 S.2.1 dX9_fades_61 hl (by decide) rfl (fun ls hl => ?_)
        refine lc_X9_fades_63 S hr hk0 _ (fun v14 M15 H locs d ls hl h => ?_) _ _ _ _  h _ _ d _ (lv_sub hl [2, 3, 4, 1, 0] rfl)
        refine lv_iconst (v := 0) S.1 S.2.1 dX9_fades_101 (by decide) ?_
        refine lv_istore (lv' := [(4, .int (0 : Int32)), (0, .ref (ad G k0)), (3, .int v14)]) S.1 S.2.1 dX9_fades_102 hl (by decide) rfl (fun ls hl => ?_)
        refine lc_X9_fades_104 S hr hk0 _ (fun M20 H locs d ls hl h => ?_) _ _ _  h _ _ d _ (lv_sub hl [1, 2, 0] rfl)
        refine lv_iload_n S.1 S.2.1 dX9_fades_132 rfl (lv_at hl 0 rfl) ?_
        obtain rfl := Option.some.inj h
        exact r_iret S d hr rfl rfl dX9_fades_133
      · replace h := it_p cc h
        refine lv_bipush (v := (-2)) S.1 S.2.1 dX9_fades_27 (by decide) ?_
        obtain rfl := Option.some.inj h
        exact r_iret S d hr rfl rfl dX9_fades_29
    · replace h := it_p cc h
      refine lv_iconst (v := (-1)) S.1 S.2.1 dX9_fades_16 (by decide) ?_
      obtain rfl := Option.some.inj h
      exact r_iret S d hr rfl rfl dX9_fades_17
theorem hyV_X9_areLike : yX9_areLike.cls = RX9 ∧ yX9_areLike.cls ≠ "java/lang/invoke/MethodHandle" ∧ yX9_areLike.cls ≠ "java/lang/invoke/VarHandle" ∧ (parseMethodDescriptor yX9_areLike.desc).map (fun d => d.parameters.length) = some 2 := by decide +kernel
abbrev rm_X9_areLike : Room := { frames := 1, cells := 0, slots := 0, locals := 22 }
def lp_X9_areLike_22 (fu : Nat) (M : Mem) (b0 : Nat) (b1 : Int32) (b2 : Int32) (K : Int32 → Option (Int32)) : Nat → Int32 → Int32 → Option (Int32)
  | 0, _, _ => none
  | n + 1, x3, x4 =>
    (f_X9_sizeOf M b0 b1).bind (fun u5 =>
    (if u5 ≤ x4 then (K x3)
    else (if x3 = 0 then (K x3)
      else (f_X9_letterOf M b0 b1 x4).bind (fun u6 =>
        (f_X9_letterOf M b0 b2 x4).bind (fun u7 =>
        (if u6 = u7 then some (1 : Int32)
        else some (0 : Int32)).bind (fun t8 : Int32 =>
        lt (x4 + 1) (fun v10 : Int32 =>
        (lp_X9_areLike_22 fu M b0 b1 b2 K n t8 v10))))))))
def f_X9_areLike (fu : Nat) (M : Mem) (k0 : Nat) (a1 : Int32) (a2 : Int32) : Option (Int32) :=
  (f_X9_sizeOf M k0 a1).bind (fun u1 =>
  (f_X9_sizeOf M k0 a2).bind (fun u2 =>
  (if u1 = u2 then some (1 : Int32)
  else some (0 : Int32)).bind (fun t3 : Int32 =>
  (lp_X9_areLike_22 fu M k0 a1 a2 (fun (v11 : Int32) =>
    gd (isZ v11) (
    some (v11))) fu t3 (0 : Int32)))))
set_option maxHeartbeats 4000000 in
set_option maxRecDepth 100000 in
theorem lc_X9_areLike_22 {p : Program} {l : Launch} {e : Env} {s : State} {m : MethodId} {args : Array Value} {below : List Frame} {meth : Method} {c : Code} {G : Gx} {M : Mem} {L : MemL} {fu : Nat} {b0 : Nat} {b1 : Int32} {b2 : Int32} {z : Int32} (S : Sx G true p s m args meth c cX9_areLike 5 RX9) (hr : meth.sig.returnType = (Option.some Jvm.ClassFile.FieldType.boolean)) (hb0 : kd b0 = 20) (K : Int32 → Option (Int32)) (hK : ∀ (y3 : Int32) (H : Heap) (locs : List Loc), Dy G s M L H locs → ∀ ls : Array Slot, lv_has ls 5 [(3, .int y3)] → K y3 = some z → W p l e rm_X9_areLike s m args below meth c H locs 0 0 (MQ below (Qi G z M L) args s 0 0 (gA G)) (F0 m 65 ls [])) :
    ∀ (n : Nat) (x3 : Int32) (x4 : Int32), lp_X9_areLike_22 fu M b0 b1 b2 K n x3 x4 = some z → ∀ (H : Heap) (locs : List Loc), Dy G s M L H locs → ∀ ls : Array Slot, lv_has ls 5 [(0, .ref (ad G b0)), (1, .int b1), (2, .int b2), (3, .int x3), (4, .int x4)] → W p l e rm_X9_areLike s m args below meth c H locs 0 0 (MQ below (Qi G z M L) args s 0 0 (gA G)) (F0 m 22 ls []) := by
  intro n
  induction n with
  | zero =>
    intro x3 x4 h
    have h : (none : Option (Int32)) = some z := h
    cases h
  | succ n ih =>
    intro x3 x4 h H locs d ls hl
    rw [lp_X9_areLike_22] at h
    refine lv_iload S.1 S.2.1 dX9_areLike_22 (lv_at hl 4 rfl) ?_
    refine lv_aload_n S.1 S.2.1 dX9_areLike_24 rfl (lv_at hl 0 rfl) ?_
    refine lv_iload_n S.1 S.2.1 dX9_areLike_25 rfl (lv_at hl 1 rfl) ?_
    obtain ⟨u5, hu5, h⟩ := bd_e h
    refine r_ri d (r_cV (As := [.int b1]) (rest := [.int x4]) S d (c_X9_sizeOf l G M L b0 b1 hb0 hu5) (ksdM S hb0) (wc_20 hb0) rfl ml_RX9_179 im_yX9_sizeOf se_yX9_sizeOf in_RX9 co_yX9_sizeOf hyV_X9_sizeOf ⟨rfl, rfl⟩ ⟨by decide, by decide⟩ rfl hl rfl (Nat.le_of_ble_eq_true rfl) dX9_areLike_26 ⟨Nat.zero_le _, Nat.zero_le _⟩) (fun H locs d => ?_)
    refine lv_icmp_ge (tgt := 65) S.1 S.2.1 dX9_areLike_29 (by decide) (fun cc => ?_) (fun cc => ?_)
    · replace h := it_p cc h
      exact hK _ _ _ d _ (lv_sub hl [3] rfl) h
    · replace h := it_n cc h
      refine lv_iload_n S.1 S.2.1 dX9_areLike_32 rfl (lv_at hl 3 rfl) ?_
      refine lv_if_eq (tgt := 65) S.1 S.2.1 dX9_areLike_33 (by decide) (fun cc => ?_) (fun cc => ?_)
      · replace h := it_p cc h
        exact hK _ _ _ d _ (lv_sub hl [3] rfl) h
      · replace h := it_n cc h
        refine lv_aload_n S.1 S.2.1 dX9_areLike_36 rfl (lv_at hl 0 rfl) ?_
        refine lv_iload_n S.1 S.2.1 dX9_areLike_37 rfl (lv_at hl 1 rfl) ?_
        refine lv_iload S.1 S.2.1 dX9_areLike_38 (lv_at hl 4 rfl) ?_
        obtain ⟨u6, hu6, h⟩ := bd_e h
        refine r_ri d (r_cV (As := [.int b1, .int x4]) (rest := []) S d (c_X9_letterOf l G M L b0 b1 x4 hb0 hu6) (ksdM S hb0) (wc_20 hb0) rfl ml_RX9_185 im_yX9_letterOf se_yX9_letterOf in_RX9 co_yX9_letterOf hyV_X9_letterOf ⟨rfl, rfl⟩ ⟨by decide, by decide⟩ rfl hl rfl (Nat.le_of_ble_eq_true rfl) dX9_areLike_40 ⟨Nat.zero_le _, Nat.zero_le _⟩) (fun H locs d => ?_)
        refine lv_aload_n S.1 S.2.1 dX9_areLike_43 rfl (lv_at hl 0 rfl) ?_
        refine lv_iload_n S.1 S.2.1 dX9_areLike_44 rfl (lv_at hl 2 rfl) ?_
        refine lv_iload S.1 S.2.1 dX9_areLike_45 (lv_at hl 4 rfl) ?_
        obtain ⟨u7, hu7, h⟩ := bd_e h
        refine r_ri d (r_cV (As := [.int b2, .int x4]) (rest := [.int u6]) S d (c_X9_letterOf l G M L b0 b2 x4 hb0 hu7) (ksdM S hb0) (wc_20 hb0) rfl ml_RX9_185 im_yX9_letterOf se_yX9_letterOf in_RX9 co_yX9_letterOf hyV_X9_letterOf ⟨rfl, rfl⟩ ⟨by decide, by decide⟩ rfl hl rfl (Nat.le_of_ble_eq_true rfl) dX9_areLike_47 ⟨Nat.zero_le _, Nat.zero_le _⟩) (fun H locs d => ?_)
        obtain ⟨t8, g9, h⟩ := bd_e h
        have Jt8 : ∀ (H : Heap) (locs : List Loc), Dy G s M L H locs → W p l e rm_X9_areLike s m args below meth c H locs 0 0 (MQ below (Qi G z M L) args s 0 0 (gA G)) (F0 m 58 ls [.int t8]) := by
          intro H locs d
          refine lv_istore_n (lv' := [(3, .int t8), (0, .ref (ad G b0)), (1, .int b1), (2, .int b2), (4, .int x4)]) S.1 S.2.1 dX9_areLike_58 rfl hl (by decide) rfl (fun ls hl => ?_)
          obtain ⟨v10, ev10, h⟩ := lt_e h
          refine lv_iinc (v := v10) (lv' := [(4, .int v10), (3, .int t8), (0, .ref (ad G b0)), (1, .int b1), (2, .int b2)]) S.1 S.2.1 dX9_areLike_59 hl (k := 4) rfl (by rw [ev10]; rfl) (by decide) rfl (fun ls hl => ?_)
          refine lv_goto (tgt := 22) S.1 S.2.1 dX9_areLike_62 (by decide) ?_
          exact ih _ _ h _ _ d _ (lv_sub hl [2, 3, 4, 1, 0] rfl)
        have h := g9
        refine lv_icmp_ne (tgt := 57) S.1 S.2.1 dX9_areLike_50 (by decide) (fun cc => ?_) (fun cc => ?_)
        · replace h := it_n cc h
          refine lv_iconst (v := 0) S.1 S.2.1 dX9_areLike_57 (by decide) ?_
          obtain ej := Option.some.inj h
          refine r_top ej.symm ?_
          exact Jt8 _ _ d
        · replace h := it_p cc h
          refine lv_iconst (v := 1) S.1 S.2.1 dX9_areLike_53 (by decide) ?_
          refine lv_goto (tgt := 58) S.1 S.2.1 dX9_areLike_54 (by decide) ?_
          obtain ej := Option.some.inj h
          refine r_top ej.symm ?_
          exact Jt8 _ _ d
set_option maxHeartbeats 4000000 in
set_option maxRecDepth 100000 in
theorem c_X9_areLike (l : Launch) (G : Gx) (M : Mem) (L : MemL) (fu : Nat) (k0 : Nat) (a1 : Int32) (a2 : Int32) (hk0 : kd k0 = 20) {z : Int32} (h : f_X9_areLike fu M k0 a1 a2 = some z) : Met l yX9_areLike (.code yX9_areLike cX9_areLike 5 (Option.some Jvm.ClassFile.FieldType.boolean) :: UW) rm_X9_areLike (va_Pc [.ref (ad G k0), .int a1, .int a2] (PreG G true M L)) (Qi G z M L) 0 0 (gA G) := by
  refine r_in (by decide) (fun p e s m args below meth c S hr d ha ls hl => ?_) (Nat.le_of_ble_eq_true rfl)
  have S : Sx G true p s m args meth c cX9_areLike 5 RX9 := S
  have hl : lv_has ls 5 [(0, .ref (ad G k0)), (1, .int a1), (2, .int a2)] := hl
  unfold f_X9_areLike at h
  refine lv_aload_n S.1 S.2.1 dX9_areLike_0 rfl (lv_at hl 0 rfl) ?_
  refine lv_iload_n S.1 S.2.1 dX9_areLike_1 rfl (lv_at hl 1 rfl) ?_
  obtain ⟨u1, hu1, h⟩ := bd_e h
  refine r_ri d (r_cV (As := [.int a1]) (rest := []) S d (c_X9_sizeOf l G M L k0 a1 hk0 hu1) (ksdM S hk0) (wc_20 hk0) rfl ml_RX9_179 im_yX9_sizeOf se_yX9_sizeOf in_RX9 co_yX9_sizeOf hyV_X9_sizeOf ⟨rfl, rfl⟩ ⟨by decide, by decide⟩ rfl hl rfl (Nat.le_of_ble_eq_true rfl) dX9_areLike_2 ⟨Nat.zero_le _, Nat.zero_le _⟩) (fun H locs d => ?_)
  refine lv_aload_n S.1 S.2.1 dX9_areLike_5 rfl (lv_at hl 0 rfl) ?_
  refine lv_iload_n S.1 S.2.1 dX9_areLike_6 rfl (lv_at hl 2 rfl) ?_
  obtain ⟨u2, hu2, h⟩ := bd_e h
  refine r_ri d (r_cV (As := [.int a2]) (rest := [.int u1]) S d (c_X9_sizeOf l G M L k0 a2 hk0 hu2) (ksdM S hk0) (wc_20 hk0) rfl ml_RX9_179 im_yX9_sizeOf se_yX9_sizeOf in_RX9 co_yX9_sizeOf hyV_X9_sizeOf ⟨rfl, rfl⟩ ⟨by decide, by decide⟩ rfl hl rfl (Nat.le_of_ble_eq_true rfl) dX9_areLike_7 ⟨Nat.zero_le _, Nat.zero_le _⟩) (fun H locs d => ?_)
  obtain ⟨t3, g4, h⟩ := bd_e h
  have Jt3 : ∀ (H : Heap) (locs : List Loc), Dy G s M L H locs → W p l e rm_X9_areLike s m args below meth c H locs 0 0 (MQ below (Qi G z M L) args s 0 0 (gA G)) (F0 m 18 ls [.int t3]) := by
    intro H locs d
    refine lv_istore_n (lv' := [(3, .int t3), (0, .ref (ad G k0)), (1, .int a1), (2, .int a2)]) S.1 S.2.1 dX9_areLike_18 rfl hl (by decide) rfl (fun ls hl => ?_)
    refine lv_iconst (v := 0) S.1 S.2.1 dX9_areLike_19 (by decide) ?_
    refine lv_istore (lv' := [(4, .int (0 : Int32)), (3, .int t3), (0, .ref (ad G k0)), (1, .int a1), (2, .int a2)]) S.1 S.2.1 dX9_areLike_20 hl (by decide) rfl (fun ls hl => ?_)
    refine lc_X9_areLike_22 S hr hk0 _ (fun v11 H locs d ls hl h => ?_) _ _ _  h _ _ d _ (lv_sub hl [2, 3, 4, 1, 0] rfl)
    refine lv_iload_n S.1 S.2.1 dX9_areLike_65 rfl (lv_at hl 0 rfl) ?_
    obtain ⟨gz, h⟩ := gd_e h
    obtain rfl := Option.some.inj h
    exact r_iret S d hr (isZ_nar gz) rfl dX9_areLike_66
  have h := g4
  refine lv_icmp_ne (tgt := 17) S.1 S.2.1 dX9_areLike_10 (by decide) (fun cc => ?_) (fun cc => ?_)
  · replace h := it_n cc h
    refine lv_iconst (v := 0) S.1 S.2.1 dX9_areLike_17 (by decide) ?_
    obtain ej := Option.some.inj h
    refine r_top ej.symm ?_
    exact Jt3 _ _ d
  · replace h := it_p cc h
    refine lv_iconst (v := 1) S.1 S.2.1 dX9_areLike_13 (by decide) ?_
    refine lv_goto (tgt := 18) S.1 S.2.1 dX9_areLike_14 (by decide) ?_
    obtain ej := Option.some.inj h
    refine r_top ej.symm ?_
    exact Jt3 _ _ d
theorem hyV_X9_isIn : yX9_isIn.cls = RX9 ∧ yX9_isIn.cls ≠ "java/lang/invoke/MethodHandle" ∧ yX9_isIn.cls ≠ "java/lang/invoke/VarHandle" ∧ (parseMethodDescriptor yX9_isIn.desc).map (fun d => d.parameters.length) = some 3 := by decide +kernel
abbrev rm_X9_isIn : Room := { frames := 1, cells := 0, slots := 0, locals := 22 }
def lp_X9_isIn_25 (fu : Nat) (M : Mem) (b0 : Nat) (b1 : Int32) (b2 : Int32) (b3 : Int32) (b5 : Int32) (K : Int32 → Option (Int32)) : Nat → Int32 → Option (Int32)
  | 0, _ => none
  | n + 1, x4 =>
    (f_X9_sizeOf M b0 b3).bind (fun u3 =>
    (if u3 ≤ x4 then (K x4)
    else (f_X9_letterOf M b0 b3 x4).bind (fun u4 =>
      (f_X9_letterOf M b0 b1 b5).bind (fun u5 =>
      (if u4 = u5 then (K x4)
      else lt (x4 + 1) (fun v6 : Int32 =>
        (lp_X9_isIn_25 fu M b0 b1 b2 b3 b5 K n v6)))))))
def lp_X9_isIn_6 (fu : Nat) (M : Mem) (b0 : Nat) (b1 : Int32) (b2 : Int32) (b3 : Int32) (K : Unit → Option (Int32)) : Nat → Int32 → Int32 → Option (Int32)
  | 0, _, _ => none
  | n + 1, x4, x5 =>
    (f_X9_sizeOf M b0 b1).bind (fun u1 =>
    (if u1 ≤ x5 then (K ())
    else (f_X9_has b2 x5).bind (fun u2 =>
      (if u2 = 0 then lt (x5 + 1) (fun v11 : Int32 =>
        (lp_X9_isIn_6 fu M b0 b1 b2 b3 K n x4 v11))
      else (lp_X9_isIn_25 fu M b0 b1 b2 b3 x5 (fun (v7 : Int32) =>
          (f_X9_sizeOf M b0 b3).bind (fun u8 =>
          (if v7 = u8 then some ((0 : Int32))
          else lt (v7 + 1) (fun v9 : Int32 =>
            lt (x5 + 1) (fun v10 : Int32 =>
            (lp_X9_isIn_6 fu M b0 b1 b2 b3 K n v9 v10)))))) fu x4)))))
def f_X9_isIn (fu : Nat) (M : Mem) (k0 : Nat) (a1 : Int32) (a2 : Int32) (a3 : Int32) : Option (Int32) :=
  (lp_X9_isIn_6 fu M k0 a1 a2 a3 (fun (_ : Unit) =>
    some ((1 : Int32))) fu (0 : Int32) (0 : Int32))
set_option maxHeartbeats 4000000 in
set_option maxRecDepth 100000 in
theorem lc_X9_isIn_25 {p : Program} {l : Launch} {e : Env} {s : State} {m : MethodId} {args : Array Value} {below : List Frame} {meth : Method} {c : Code} {G : Gx} {M : Mem} {L : MemL} {fu : Nat} {b0 : Nat} {b1 : Int32} {b2 : Int32} {b3 : Int32} {b5 : Int32} {z : Int32} (S : Sx G true p s m args meth c cX9_isIn 6 RX9) (hr : meth.sig.returnType = (Option.some Jvm.ClassFile.FieldType.boolean)) (hb0 : kd b0 = 20) (K : Int32 → Option (Int32)) (hK : ∀ (y4 : Int32) (H : Heap) (locs : List Loc), Dy G s M L H locs → ∀ ls : Array Slot, lv_has ls 6 [(0, .ref (ad G b0)), (1, .int b1), (2, .int b2), (3, .int b3), (4, .int y4), (5, .int b5)] → K y4 = some z → W p l e rm_X9_isIn s m args below meth c H locs 0 0 (MQ below (Qi G z M L) args s 0 0 (gA G)) (F0 m 58 ls [])) :
    ∀ (n : Nat) (x4 : Int32), lp_X9_isIn_25 fu M b0 b1 b2 b3 b5 K n x4 = some z → ∀ (H : Heap) (locs : List Loc), Dy G s M L H locs → ∀ ls : Array Slot, lv_has ls 6 [(0, .ref (ad G b0)), (1, .int b1), (2, .int b2), (3, .int b3), (4, .int x4), (5, .int b5)] → W p l e rm_X9_isIn s m args below meth c H locs 0 0 (MQ below (Qi G z M L) args s 0 0 (gA G)) (F0 m 25 ls []) := by
  intro n
  induction n with
  | zero =>
    intro x4 h
    have h : (none : Option (Int32)) = some z := h
    cases h
  | succ n ih =>
    intro x4 h H locs d ls hl
    rw [lp_X9_isIn_25] at h
    refine lv_iload S.1 S.2.1 dX9_isIn_25 (lv_at hl 4 rfl) ?_
    refine lv_aload_n S.1 S.2.1 dX9_isIn_27 rfl (lv_at hl 0 rfl) ?_
    refine lv_iload_n S.1 S.2.1 dX9_isIn_28 rfl (lv_at hl 3 rfl) ?_
    obtain ⟨u3, hu3, h⟩ := bd_e h
    refine r_ri d (r_cV (As := [.int b3]) (rest := [.int x4]) S d (c_X9_sizeOf l G M L b0 b3 hb0 hu3) (ksdM S hb0) (wc_20 hb0) rfl ml_RX9_179 im_yX9_sizeOf se_yX9_sizeOf in_RX9 co_yX9_sizeOf hyV_X9_sizeOf ⟨rfl, rfl⟩ ⟨by decide, by decide⟩ rfl hl rfl (Nat.le_of_ble_eq_true rfl) dX9_isIn_29 ⟨Nat.zero_le _, Nat.zero_le _⟩) (fun H locs d => ?_)
    refine lv_icmp_ge (tgt := 58) S.1 S.2.1 dX9_isIn_32 (by decide) (fun cc => ?_) (fun cc => ?_)
    · replace h := it_p cc h
      exact hK _ _ _ d _ (lv_sub hl [0, 1, 2, 3, 4, 5] rfl) h
    · replace h := it_n cc h
      refine lv_aload_n S.1 S.2.1 dX9_isIn_35 rfl (lv_at hl 0 rfl) ?_
      refine lv_iload_n S.1 S.2.1 dX9_isIn_36 rfl (lv_at hl 3 rfl) ?_
      refine lv_iload S.1 S.2.1 dX9_isIn_37 (lv_at hl 4 rfl) ?_
      obtain ⟨u4, hu4, h⟩ := bd_e h
      refine r_ri d (r_cV (As := [.int b3, .int x4]) (rest := []) S d (c_X9_letterOf l G M L b0 b3 x4 hb0 hu4) (ksdM S hb0) (wc_20 hb0) rfl ml_RX9_185 im_yX9_letterOf se_yX9_letterOf in_RX9 co_yX9_letterOf hyV_X9_letterOf ⟨rfl, rfl⟩ ⟨by decide, by decide⟩ rfl hl rfl (Nat.le_of_ble_eq_true rfl) dX9_isIn_39 ⟨Nat.zero_le _, Nat.zero_le _⟩) (fun H locs d => ?_)
      refine lv_aload_n S.1 S.2.1 dX9_isIn_42 rfl (lv_at hl 0 rfl) ?_
      refine lv_iload_n S.1 S.2.1 dX9_isIn_43 rfl (lv_at hl 1 rfl) ?_
      refine lv_iload S.1 S.2.1 dX9_isIn_44 (lv_at hl 5 rfl) ?_
      obtain ⟨u5, hu5, h⟩ := bd_e h
      refine r_ri d (r_cV (As := [.int b1, .int b5]) (rest := [.int u4]) S d (c_X9_letterOf l G M L b0 b1 b5 hb0 hu5) (ksdM S hb0) (wc_20 hb0) rfl ml_RX9_185 im_yX9_letterOf se_yX9_letterOf in_RX9 co_yX9_letterOf hyV_X9_letterOf ⟨rfl, rfl⟩ ⟨by decide, by decide⟩ rfl hl rfl (Nat.le_of_ble_eq_true rfl) dX9_isIn_46 ⟨Nat.zero_le _, Nat.zero_le _⟩) (fun H locs d => ?_)
      refine lv_icmp_eq (tgt := 58) S.1 S.2.1 dX9_isIn_49 (by decide) (fun cc => ?_) (fun cc => ?_)
      · replace h := it_p cc h
        exact hK _ _ _ d _ (lv_sub hl [0, 1, 2, 3, 4, 5] rfl) h
      · replace h := it_n cc h
        obtain ⟨v6, ev6, h⟩ := lt_e h
        refine lv_iinc (v := v6) (lv' := [(4, .int v6), (0, .ref (ad G b0)), (1, .int b1), (2, .int b2), (3, .int b3), (5, .int b5)]) S.1 S.2.1 dX9_isIn_52 hl (k := 4) rfl (by rw [ev6]; rfl) (by decide) rfl (fun ls hl => ?_)
        refine lv_goto (tgt := 25) S.1 S.2.1 dX9_isIn_55 (by decide) ?_
        exact ih _ h _ _ d _ (lv_sub hl [1, 2, 3, 4, 0, 5] rfl)
set_option maxHeartbeats 4000000 in
set_option maxRecDepth 100000 in
theorem lc_X9_isIn_6 {p : Program} {l : Launch} {e : Env} {s : State} {m : MethodId} {args : Array Value} {below : List Frame} {meth : Method} {c : Code} {G : Gx} {M : Mem} {L : MemL} {fu : Nat} {b0 : Nat} {b1 : Int32} {b2 : Int32} {b3 : Int32} {z : Int32} (S : Sx G true p s m args meth c cX9_isIn 6 RX9) (hr : meth.sig.returnType = (Option.some Jvm.ClassFile.FieldType.boolean)) (hb0 : kd b0 = 20) (K : Unit → Option (Int32)) (hK : ∀ (_ : Unit) (H : Heap) (locs : List Loc), Dy G s M L H locs → ∀ ls : Array Slot, lv_has ls 6 [] → K () = some z → W p l e rm_X9_isIn s m args below meth c H locs 0 0 (MQ below (Qi G z M L) args s 0 0 (gA G)) (F0 m 79 ls [])) :
    ∀ (n : Nat) (x4 : Int32) (x5 : Int32), lp_X9_isIn_6 fu M b0 b1 b2 b3 K n x4 x5 = some z → ∀ (H : Heap) (locs : List Loc), Dy G s M L H locs → ∀ ls : Array Slot, lv_has ls 6 [(0, .ref (ad G b0)), (1, .int b1), (2, .int b2), (3, .int b3), (4, .int x4), (5, .int x5)] → W p l e rm_X9_isIn s m args below meth c H locs 0 0 (MQ below (Qi G z M L) args s 0 0 (gA G)) (F0 m 6 ls []) := by
  intro n
  induction n with
  | zero =>
    intro x4 x5 h
    have h : (none : Option (Int32)) = some z := h
    cases h
  | succ n ih =>
    intro x4 x5 h H locs d ls hl
    rw [lp_X9_isIn_6] at h
    refine lv_iload S.1 S.2.1 dX9_isIn_6 (lv_at hl 5 rfl) ?_
    refine lv_aload_n S.1 S.2.1 dX9_isIn_8 rfl (lv_at hl 0 rfl) ?_
    refine lv_iload_n S.1 S.2.1 dX9_isIn_9 rfl (lv_at hl 1 rfl) ?_
    obtain ⟨u1, hu1, h⟩ := bd_e h
    refine r_ri d (r_cV (As := [.int b1]) (rest := [.int x5]) S d (c_X9_sizeOf l G M L b0 b1 hb0 hu1) (ksdM S hb0) (wc_20 hb0) rfl ml_RX9_179 im_yX9_sizeOf se_yX9_sizeOf in_RX9 co_yX9_sizeOf hyV_X9_sizeOf ⟨rfl, rfl⟩ ⟨by decide, by decide⟩ rfl hl rfl (Nat.le_of_ble_eq_true rfl) dX9_isIn_10 ⟨Nat.zero_le _, Nat.zero_le _⟩) (fun H locs d => ?_)
    refine lv_icmp_ge (tgt := 79) S.1 S.2.1 dX9_isIn_13 (by decide) (fun cc => ?_) (fun cc => ?_)
    · replace h := it_p cc h
      exact hK () _ _ d _ (lv_sub hl [] rfl) h
    · replace h := it_n cc h
      refine lv_iload_n S.1 S.2.1 dX9_isIn_16 rfl (lv_at hl 2 rfl) ?_
      refine lv_iload S.1 S.2.1 dX9_isIn_17 (lv_at hl 5 rfl) ?_
      obtain ⟨u2, hu2, h⟩ := bd_e h
      refine r_ri d (r_cS (As := [.int b2, .int x5]) (rest := []) S d (c_X9_has l G M L b2 x5 hu2) ml_RX9_117 sm_yX9_has in_RX9 co_yX9_has hyS_X9_has ⟨rfl, rfl⟩ ⟨by decide, by decide⟩ rfl hl rfl (Nat.le_of_ble_eq_true rfl) dX9_isIn_19 ⟨Nat.zero_le _, Nat.zero_le _⟩) (fun H locs d => ?_)
      refine lv_if_eq (tgt := 73) S.1 S.2.1 dX9_isIn_22 (by decide) (fun cc => ?_) (fun cc => ?_)
      · replace h := it_p cc h
        obtain ⟨v11, ev11, h⟩ := lt_e h
        refine lv_iinc (v := v11) (lv' := [(5, .int v11), (0, .ref (ad G b0)), (1, .int b1), (2, .int b2), (3, .int b3), (4, .int x4)]) S.1 S.2.1 dX9_isIn_73 hl (k := 5) rfl (by rw [ev11]; rfl) (by decide) rfl (fun ls hl => ?_)
        refine lv_goto (tgt := 6) S.1 S.2.1 dX9_isIn_76 (by decide) ?_
        exact ih _ _ h _ _ d _ (lv_sub hl [1, 2, 3, 4, 5, 0] rfl)
      · replace h := it_n cc h
        refine lc_X9_isIn_25 S hr hb0 _ (fun v7 H locs d ls hl h => ?_) _ _  h _ _ d _ (lv_sub hl [0, 1, 2, 3, 4, 5] rfl)
        refine lv_iload S.1 S.2.1 dX9_isIn_58 (lv_at hl 4 rfl) ?_
        refine lv_aload_n S.1 S.2.1 dX9_isIn_60 rfl (lv_at hl 0 rfl) ?_
        refine lv_iload_n S.1 S.2.1 dX9_isIn_61 rfl (lv_at hl 3 rfl) ?_
        obtain ⟨u8, hu8, h⟩ := bd_e h
        refine r_ri d (r_cV (As := [.int b3]) (rest := [.int v7]) S d (c_X9_sizeOf l G M L b0 b3 hb0 hu8) (ksdM S hb0) (wc_20 hb0) rfl ml_RX9_179 im_yX9_sizeOf se_yX9_sizeOf in_RX9 co_yX9_sizeOf hyV_X9_sizeOf ⟨rfl, rfl⟩ ⟨by decide, by decide⟩ rfl hl rfl (Nat.le_of_ble_eq_true rfl) dX9_isIn_62 ⟨Nat.zero_le _, Nat.zero_le _⟩) (fun H locs d => ?_)
        refine lv_icmp_ne (tgt := 70) S.1 S.2.1 dX9_isIn_65 (by decide) (fun cc => ?_) (fun cc => ?_)
        · replace h := it_n cc h
          obtain ⟨v9, ev9, h⟩ := lt_e h
          refine lv_iinc (v := v9) (lv' := [(4, .int v9), (0, .ref (ad G b0)), (1, .int b1), (2, .int b2), (3, .int b3), (5, .int x5)]) S.1 S.2.1 dX9_isIn_70 hl (k := 4) rfl (by rw [ev9]; rfl) (by decide) rfl (fun ls hl => ?_)
          obtain ⟨v10, ev10, h⟩ := lt_e h
          refine lv_iinc (v := v10) (lv' := [(5, .int v10), (4, .int v9), (0, .ref (ad G b0)), (1, .int b1), (2, .int b2), (3, .int b3)]) S.1 S.2.1 dX9_isIn_73 hl (k := 5) rfl (by rw [ev10]; rfl) (by decide) rfl (fun ls hl => ?_)
          refine lv_goto (tgt := 6) S.1 S.2.1 dX9_isIn_76 (by decide) ?_
          exact ih _ _ h _ _ d _ (lv_sub hl [2, 3, 4, 5, 1, 0] rfl)
        · replace h := it_p cc h
          refine lv_iconst (v := 0) S.1 S.2.1 dX9_isIn_68 (by decide) ?_
          obtain rfl := Option.some.inj h
          exact r_iret S d hr rfl rfl dX9_isIn_69
set_option maxHeartbeats 4000000 in
set_option maxRecDepth 100000 in
theorem c_X9_isIn (l : Launch) (G : Gx) (M : Mem) (L : MemL) (fu : Nat) (k0 : Nat) (a1 : Int32) (a2 : Int32) (a3 : Int32) (hk0 : kd k0 = 20) {z : Int32} (h : f_X9_isIn fu M k0 a1 a2 a3 = some z) : Met l yX9_isIn (.code yX9_isIn cX9_isIn 6 (Option.some Jvm.ClassFile.FieldType.boolean) :: UW) rm_X9_isIn (va_Pc [.ref (ad G k0), .int a1, .int a2, .int a3] (PreG G true M L)) (Qi G z M L) 0 0 (gA G) := by
  refine r_in (by decide) (fun p e s m args below meth c S hr d ha ls hl => ?_) (Nat.le_of_ble_eq_true rfl)
  have S : Sx G true p s m args meth c cX9_isIn 6 RX9 := S
  have hl : lv_has ls 6 [(0, .ref (ad G k0)), (1, .int a1), (2, .int a2), (3, .int a3)] := hl
  unfold f_X9_isIn at h
  refine lv_iconst (v := 0) S.1 S.2.1 dX9_isIn_0 (by decide) ?_
  refine lv_istore (lv' := [(4, .int (0 : Int32)), (0, .ref (ad G k0)), (1, .int a1), (2, .int a2), (3, .int a3)]) S.1 S.2.1 dX9_isIn_1 hl (by decide) rfl (fun ls hl => ?_)
  refine lv_iconst (v := 0) S.1 S.2.1 dX9_isIn_3 (by decide) ?_
  refine lv_istore (lv' := [(5, .int (0 : Int32)), (4, .int (0 : Int32)), (0, .ref (ad G k0)), (1, .int a1), (2, .int a2), (3, .int a3)]) S.1 S.2.1 dX9_isIn_4 hl (by decide) rfl (fun ls hl => ?_)
  refine lc_X9_isIn_6 S hr hk0 _ (fun _ H locs d ls hl h => ?_) _ _ _  h _ _ d _ (lv_sub hl [2, 3, 4, 5, 1, 0] rfl)
  refine lv_iconst (v := 1) S.1 S.2.1 dX9_isIn_79 (by decide) ?_
  obtain rfl := Option.some.inj h
  exact r_iret S d hr rfl rfl dX9_isIn_80
