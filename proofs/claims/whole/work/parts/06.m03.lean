theorem hyS_X8_in : yX8_in.cls ≠ "java/lang/invoke/MethodHandle" ∧ yX8_in.cls ≠ "java/lang/invoke/VarHandle" ∧ (parseMethodDescriptor yX8_in.desc).map (fun d => d.parameters.length) = some 3 := by decide +kernel
abbrev rm_X8_in : Room := { frames := 0, cells := 0, slots := 0, locals := 0 }
def f_X8_in (a0 : Int64) (a2 : Int64) (a4 : Int64) : Option (Int32) :=
  (if (lg_cmp a0 a2) < 0 then some ((0 : Int32))
  else (if 0 < (lg_cmp a0 a4) then some ((0 : Int32))
    else some ((1 : Int32))))
set_option maxHeartbeats 4000000 in
set_option maxRecDepth 100000 in
theorem c_X8_in (l : Launch) (G : Gx) (M : Mem) (L : MemL) (a0 : Int64) (a2 : Int64) (a4 : Int64) {z : Int32} (h : f_X8_in a0 a2 a4 = some z) : Met l yX8_in (.code yX8_in cX8_in 6 (Option.some Jvm.ClassFile.FieldType.boolean) :: UW) rm_X8_in (va_Pc [.long a0, .long a2, .long a4] (PreG G true M L)) (Qi G z M L) 0 0 (gA G) := by
  refine r_in (by decide) (fun p e s m args below meth c S hr d ha ls hl => ?_) (Nat.le_of_ble_eq_true rfl)
  have S : Sx G true p s m args meth c cX8_in 6 RX8 := S
  have hl : lv_has ls 6 [(0, .long a0), (2, .long a2), (4, .long a4)] := hl
  unfold f_X8_in at h
  refine lv_lload_n S.1 S.2.1 dX8_in_0 rfl (lv_at hl 0 rfl) ?_
  refine lv_lload_n S.1 S.2.1 dX8_in_1 rfl (lv_at hl 1 rfl) ?_
  refine W.lcmp S.1 S.2.1 dX8_in_2 ?_
  refine lv_if_lt (tgt := 17) S.1 S.2.1 dX8_in_3 (by decide) (fun cc => ?_) (fun cc => ?_)
  · replace h := it_p cc h
    refine lv_iconst (v := 0) S.1 S.2.1 dX8_in_17 (by decide) ?_
    obtain rfl := Option.some.inj h
    exact r_iret S d hr rfl rfl dX8_in_18
  · replace h := it_n cc h
    refine lv_lload_n S.1 S.2.1 dX8_in_6 rfl (lv_at hl 0 rfl) ?_
    refine lv_lload S.1 S.2.1 dX8_in_7 (lv_at hl 2 rfl) ?_
    refine W.lcmp S.1 S.2.1 dX8_in_9 ?_
    refine lv_if_gt (tgt := 17) S.1 S.2.1 dX8_in_10 (by decide) (fun cc => ?_) (fun cc => ?_)
    · replace h := it_p cc h
      refine lv_iconst (v := 0) S.1 S.2.1 dX8_in_17 (by decide) ?_
      obtain rfl := Option.some.inj h
      exact r_iret S d hr rfl rfl dX8_in_18
    · replace h := it_n cc h
      refine lv_iconst (v := 1) S.1 S.2.1 dX8_in_13 (by decide) ?_
      refine lv_goto (tgt := 18) S.1 S.2.1 dX8_in_14 (by decide) ?_
      obtain rfl := Option.some.inj h
      exact r_iret S d hr rfl rfl dX8_in_18
theorem hyS_X8_has : yX8_has.cls ≠ "java/lang/invoke/MethodHandle" ∧ yX8_has.cls ≠ "java/lang/invoke/VarHandle" ∧ (parseMethodDescriptor yX8_has.desc).map (fun d => d.parameters.length) = some 2 := by decide +kernel
abbrev rm_X8_has : Room := { frames := 0, cells := 0, slots := 0, locals := 0 }
def f_X8_has (a0 : Int32) (a1 : Int32) : Option (Int32) :=
  (if ((a0 >>> (a1 &&& 31)) &&& (1 : Int32)) = (1 : Int32) then some ((1 : Int32))
  else some ((0 : Int32)))
set_option maxHeartbeats 4000000 in
set_option maxRecDepth 100000 in
theorem c_X8_has (l : Launch) (G : Gx) (M : Mem) (L : MemL) (a0 : Int32) (a1 : Int32) {z : Int32} (h : f_X8_has a0 a1 = some z) : Met l yX8_has (.code yX8_has cX8_has 2 (Option.some Jvm.ClassFile.FieldType.boolean) :: UW) rm_X8_has (va_Pc [.int a0, .int a1] (PreG G true M L)) (Qi G z M L) 0 0 (gA G) := by
  refine r_in (by decide) (fun p e s m args below meth c S hr d ha ls hl => ?_) (Nat.le_of_ble_eq_true rfl)
  have S : Sx G true p s m args meth c cX8_has 2 RX8 := S
  have hl : lv_has ls 2 [(0, .int a0), (1, .int a1)] := hl
  unfold f_X8_has at h
  refine lv_iload_n S.1 S.2.1 dX8_has_0 rfl (lv_at hl 0 rfl) ?_
  refine lv_iload_n S.1 S.2.1 dX8_has_1 rfl (lv_at hl 1 rfl) ?_
  refine lv_ishr S.1 S.2.1 dX8_has_2 ?_
  refine lv_iconst (v := 1) S.1 S.2.1 dX8_has_3 (by decide) ?_
  refine lv_iand S.1 S.2.1 dX8_has_4 ?_
  refine lv_iconst (v := 1) S.1 S.2.1 dX8_has_5 (by decide) ?_
  refine lv_icmp_ne (tgt := 13) S.1 S.2.1 dX8_has_6 (by decide) (fun cc => ?_) (fun cc => ?_)
  · replace h := it_n cc h
    refine lv_iconst (v := 0) S.1 S.2.1 dX8_has_13 (by decide) ?_
    obtain rfl := Option.some.inj h
    exact r_iret S d hr rfl rfl dX8_has_14
  · replace h := it_p cc h
    refine lv_iconst (v := 1) S.1 S.2.1 dX8_has_9 (by decide) ?_
    refine lv_goto (tgt := 14) S.1 S.2.1 dX8_has_10 (by decide) ?_
    obtain rfl := Option.some.inj h
    exact r_iret S d hr rfl rfl dX8_has_14
theorem hyS_X8_ones : yX8_ones.cls ≠ "java/lang/invoke/MethodHandle" ∧ yX8_ones.cls ≠ "java/lang/invoke/VarHandle" ∧ (parseMethodDescriptor yX8_ones.desc).map (fun d => d.parameters.length) = some 1 := by decide +kernel
abbrev rm_X8_ones : Room := { frames := 0, cells := 0, slots := 0, locals := 0 }
def lp_X8_ones_4 (fu : Nat) (K : Int32 → Option (Int32)) : Nat → Int32 → Int32 → Option (Int32)
  | 0, _, _ => none
  | n + 1, x1, x2 =>
    (if x2 = 0 then (K x1)
    else lt (x1 + 1) (fun v1 : Int32 =>
      lt ((x2 &&& (x2 - (1 : Int32)))) (fun v2 : Int32 =>
      (lp_X8_ones_4 fu K n v1 v2))))
def f_X8_ones (fu : Nat) (a0 : Int32) : Option (Int32) :=
  (lp_X8_ones_4 fu (fun (v3 : Int32) =>
    some (v3)) fu (0 : Int32) a0)
set_option maxHeartbeats 4000000 in
set_option maxRecDepth 100000 in
theorem lc_X8_ones_4 {p : Program} {l : Launch} {e : Env} {s : State} {m : MethodId} {args : Array Value} {below : List Frame} {meth : Method} {c : Code} {G : Gx} {M : Mem} {L : MemL} {fu : Nat} {z : Int32} (S : Sx G true p s m args meth c cX8_ones 3 RX8) (hr : meth.sig.returnType = (Option.some Jvm.ClassFile.FieldType.int))  (K : Int32 → Option (Int32)) (hK : ∀ (y1 : Int32) (H : Heap) (locs : List Loc), Dy G s M L H locs → ∀ ls : Array Slot, lv_has ls 3 [(1, .int y1)] → K y1 = some z → W p l e rm_X8_ones s m args below meth c H locs 0 0 (MQ below (Qi G z M L) args s 0 0 (gA G)) (F0 m 20 ls [])) :
    ∀ (n : Nat) (x1 : Int32) (x2 : Int32), lp_X8_ones_4 fu K n x1 x2 = some z → ∀ (H : Heap) (locs : List Loc), Dy G s M L H locs → ∀ ls : Array Slot, lv_has ls 3 [(1, .int x1), (2, .int x2)] → W p l e rm_X8_ones s m args below meth c H locs 0 0 (MQ below (Qi G z M L) args s 0 0 (gA G)) (F0 m 4 ls []) := by
  intro n
  induction n with
  | zero =>
    intro x1 x2 h
    have h : (none : Option (Int32)) = some z := h
    cases h
  | succ n ih =>
    intro x1 x2 h H locs d ls hl
    rw [lp_X8_ones_4] at h
    refine lv_iload_n S.1 S.2.1 dX8_ones_4 rfl (lv_at hl 1 rfl) ?_
    refine lv_if_eq (tgt := 20) S.1 S.2.1 dX8_ones_5 (by decide) (fun cc => ?_) (fun cc => ?_)
    · replace h := it_p cc h
      exact hK _ _ _ d _ (lv_sub hl [0] rfl) h
    · replace h := it_n cc h
      obtain ⟨v1, ev1, h⟩ := lt_e h
      refine lv_iinc (v := v1) (lv' := [(1, .int v1), (2, .int x2)]) S.1 S.2.1 dX8_ones_8 hl (k := 0) rfl (by rw [ev1]; rfl) (by decide) rfl (fun ls hl => ?_)
      refine lv_iload_n S.1 S.2.1 dX8_ones_11 rfl (lv_at hl 1 rfl) ?_
      refine lv_iload_n S.1 S.2.1 dX8_ones_12 rfl (lv_at hl 1 rfl) ?_
      refine lv_iconst (v := 1) S.1 S.2.1 dX8_ones_13 (by decide) ?_
      refine lv_isub S.1 S.2.1 dX8_ones_14 ?_
      refine lv_iand S.1 S.2.1 dX8_ones_15 ?_
      obtain ⟨v2, ev2, h⟩ := lt_e h
      refine r_top ev2 ?_
      refine lv_istore_n (lv' := [(2, .int v2), (1, .int v1)]) S.1 S.2.1 dX8_ones_16 rfl hl (by decide) rfl (fun ls hl => ?_)
      refine lv_goto (tgt := 4) S.1 S.2.1 dX8_ones_17 (by decide) ?_
      exact ih _ _ h _ _ d _ (lv_sub hl [1, 0] rfl)
set_option maxHeartbeats 4000000 in
set_option maxRecDepth 100000 in
theorem c_X8_ones (l : Launch) (G : Gx) (M : Mem) (L : MemL) (fu : Nat) (a0 : Int32) {z : Int32} (h : f_X8_ones fu a0 = some z) : Met l yX8_ones (.code yX8_ones cX8_ones 3 (Option.some Jvm.ClassFile.FieldType.int) :: UW) rm_X8_ones (va_Pc [.int a0] (PreG G true M L)) (Qi G z M L) 0 0 (gA G) := by
  refine r_in (by decide) (fun p e s m args below meth c S hr d ha ls hl => ?_) (Nat.le_of_ble_eq_true rfl)
  have S : Sx G true p s m args meth c cX8_ones 3 RX8 := S
  have hl : lv_has ls 3 [(0, .int a0)] := hl
  unfold f_X8_ones at h
  refine lv_iconst (v := 0) S.1 S.2.1 dX8_ones_0 (by decide) ?_
  refine lv_istore_n (lv' := [(1, .int (0 : Int32)), (0, .int a0)]) S.1 S.2.1 dX8_ones_1 rfl hl (by decide) rfl (fun ls hl => ?_)
  refine lv_iload_n S.1 S.2.1 dX8_ones_2 rfl (lv_at hl 1 rfl) ?_
  refine lv_istore_n (lv' := [(2, .int a0), (1, .int (0 : Int32)), (0, .int a0)]) S.1 S.2.1 dX8_ones_3 rfl hl (by decide) rfl (fun ls hl => ?_)
  refine lc_X8_ones_4 S hr  _ (fun v3 H locs d ls hl h => ?_) _ _ _  h _ _ d _ (lv_sub hl [1, 0] rfl)
  refine lv_iload_n S.1 S.2.1 dX8_ones_20 rfl (lv_at hl 0 rfl) ?_
  obtain rfl := Option.some.inj h
  exact r_iret S d hr rfl rfl dX8_ones_21
theorem hyV_X8_isStrip : yX8_isStrip.cls = RX8 ∧ yX8_isStrip.cls ≠ "java/lang/invoke/MethodHandle" ∧ yX8_isStrip.cls ≠ "java/lang/invoke/VarHandle" ∧ (parseMethodDescriptor yX8_isStrip.desc).map (fun d => d.parameters.length) = some 1 := by decide +kernel
abbrev rm_X8_isStrip : Room := { frames := 1, cells := 0, slots := 0, locals := 25 }
def f_X8_isStrip (M : Mem) (k0 : Nat) (a1 : Int32) : Option (Int32) :=
  (f_X8_in ((a1).toInt64) (0 : Int64) ((((M k0 7) - (1 : Int32))).toInt64)).bind (fun u1 =>
  gd (isZ u1) (
  some (u1)))
set_option maxHeartbeats 4000000 in
set_option maxRecDepth 100000 in
theorem c_X8_isStrip (l : Launch) (G : Gx) (M : Mem) (L : MemL) (k0 : Nat) (a1 : Int32) (hk0 : kd k0 = 20) {z : Int32} (h : f_X8_isStrip M k0 a1 = some z) : Met l yX8_isStrip (.code yX8_isStrip cX8_isStrip 2 (Option.some Jvm.ClassFile.FieldType.boolean) :: UW) rm_X8_isStrip (va_Pc [.ref (ad G k0), .int a1] (PreG G true M L)) (Qi G z M L) 0 0 (gA G) := by
  refine r_in (by decide) (fun p e s m args below meth c S hr d ha ls hl => ?_) (Nat.le_of_ble_eq_true rfl)
  have S : Sx G true p s m args meth c cX8_isStrip 2 RX8 := S
  have hl : lv_has ls 2 [(0, .ref (ad G k0)), (1, .int a1)] := hl
  unfold f_X8_isStrip at h
  refine lv_iload_n S.1 S.2.1 dX8_isStrip_0 rfl (lv_at hl 1 rfl) ?_
  refine lv_i2l S.1 S.2.1 dX8_isStrip_1 rfl ?_
  refine lv_lconst (v := 0) S.1 S.2.1 dX8_isStrip_2 (by decide) ?_
  refine lv_aload_n S.1 S.2.1 dX8_isStrip_3 rfl (lv_at hl 0 rfl) ?_
  refine gf_20_7 S d hk0 fl_RX8_71 dX8_isStrip_4 ?_
  refine lv_iconst (v := 1) S.1 S.2.1 dX8_isStrip_7 (by decide) ?_
  refine lv_isub S.1 S.2.1 dX8_isStrip_8 ?_
  refine lv_i2l S.1 S.2.1 dX8_isStrip_9 rfl ?_
  obtain ⟨u1, hu1, h⟩ := bd_e h
  refine r_ri d (r_cS (As := [.long ((a1).toInt64), .long (0 : Int64), .long ((((M k0 7) - (1 : Int32))).toInt64)]) (rest := []) S d (c_X8_in l G M L ((a1).toInt64) (0 : Int64) ((((M k0 7) - (1 : Int32))).toInt64) hu1) ml_RX8_75 sm_yX8_in in_RX8 co_yX8_in hyS_X8_in ⟨rfl, rfl⟩ ⟨by decide, by decide⟩ rfl hl rfl (Nat.le_of_ble_eq_true rfl) dX8_isStrip_10 ⟨Nat.zero_le _, Nat.zero_le _⟩) (fun H locs d => ?_)
  obtain ⟨gz, h⟩ := gd_e h
  obtain rfl := Option.some.inj h
  exact r_iret S d hr (isZ_nar gz) rfl dX8_isStrip_13
theorem hyS_X8_isCell : yX8_isCell.cls ≠ "java/lang/invoke/MethodHandle" ∧ yX8_isCell.cls ≠ "java/lang/invoke/VarHandle" ∧ (parseMethodDescriptor yX8_isCell.desc).map (fun d => d.parameters.length) = some 1 := by decide +kernel
abbrev rm_X8_isCell : Room := { frames := 1, cells := 0, slots := 0, locals := 25 }
def f_X8_isCell (a0 : Int32) : Option (Int32) :=
  (f_X8_in ((a0).toInt64) (0 : Int64) (14 : Int64)).bind (fun u1 =>
  gd (isZ u1) (
  some (u1)))
set_option maxHeartbeats 4000000 in
set_option maxRecDepth 100000 in
theorem c_X8_isCell (l : Launch) (G : Gx) (M : Mem) (L : MemL) (a0 : Int32) {z : Int32} (h : f_X8_isCell a0 = some z) : Met l yX8_isCell (.code yX8_isCell cX8_isCell 1 (Option.some Jvm.ClassFile.FieldType.boolean) :: UW) rm_X8_isCell (va_Pc [.int a0] (PreG G true M L)) (Qi G z M L) 0 0 (gA G) := by
  refine r_in (by decide) (fun p e s m args below meth c S hr d ha ls hl => ?_) (Nat.le_of_ble_eq_true rfl)
  have S : Sx G true p s m args meth c cX8_isCell 1 RX8 := S
  have hl : lv_has ls 1 [(0, .int a0)] := hl
  unfold f_X8_isCell at h
  refine lv_iload_n S.1 S.2.1 dX8_isCell_0 rfl (lv_at hl 0 rfl) ?_
  refine lv_i2l S.1 S.2.1 dX8_isCell_1 rfl ?_
  refine lv_lconst (v := 0) S.1 S.2.1 dX8_isCell_2 (by decide) ?_
  refine lv_ldc2 (v := 14) S.1 S.2.1 S.2.2.2.1 (S.uw cn_RX8_79) dX8_isCell_3 ?_
  obtain ⟨u1, hu1, h⟩ := bd_e h
  refine r_ri d (r_cS (As := [.long ((a0).toInt64), .long (0 : Int64), .long (14 : Int64)]) (rest := []) S d (c_X8_in l G M L ((a0).toInt64) (0 : Int64) (14 : Int64) hu1) ml_RX8_75 sm_yX8_in in_RX8 co_yX8_in hyS_X8_in ⟨rfl, rfl⟩ ⟨by decide, by decide⟩ rfl hl rfl (Nat.le_of_ble_eq_true rfl) dX8_isCell_6 ⟨Nat.zero_le _, Nat.zero_le _⟩) (fun H locs d => ?_)
  obtain ⟨gz, h⟩ := gd_e h
  obtain rfl := Option.some.inj h
  exact r_iret S d hr (isZ_nar gz) rfl dX8_isCell_9
theorem hyS_X8_isLetter : yX8_isLetter.cls ≠ "java/lang/invoke/MethodHandle" ∧ yX8_isLetter.cls ≠ "java/lang/invoke/VarHandle" ∧ (parseMethodDescriptor yX8_isLetter.desc).map (fun d => d.parameters.length) = some 1 := by decide +kernel
abbrev rm_X8_isLetter : Room := { frames := 1, cells := 0, slots := 0, locals := 25 }
def f_X8_isLetter (a0 : Int32) : Option (Int32) :=
  (f_X8_in ((a0).toInt64) (0 : Int64) (25 : Int64)).bind (fun u1 =>
  gd (isZ u1) (
  some (u1)))
set_option maxHeartbeats 4000000 in
set_option maxRecDepth 100000 in
theorem c_X8_isLetter (l : Launch) (G : Gx) (M : Mem) (L : MemL) (a0 : Int32) {z : Int32} (h : f_X8_isLetter a0 = some z) : Met l yX8_isLetter (.code yX8_isLetter cX8_isLetter 1 (Option.some Jvm.ClassFile.FieldType.boolean) :: UW) rm_X8_isLetter (va_Pc [.int a0] (PreG G true M L)) (Qi G z M L) 0 0 (gA G) := by
  refine r_in (by decide) (fun p e s m args below meth c S hr d ha ls hl => ?_) (Nat.le_of_ble_eq_true rfl)
  have S : Sx G true p s m args meth c cX8_isLetter 1 RX8 := S
  have hl : lv_has ls 1 [(0, .int a0)] := hl
  unfold f_X8_isLetter at h
  refine lv_iload_n S.1 S.2.1 dX8_isLetter_0 rfl (lv_at hl 0 rfl) ?_
  refine lv_i2l S.1 S.2.1 dX8_isLetter_1 rfl ?_
  refine lv_lconst (v := 0) S.1 S.2.1 dX8_isLetter_2 (by decide) ?_
  refine lv_ldc2 (v := 25) S.1 S.2.1 S.2.2.2.1 (S.uw cn_RX8_81) dX8_isLetter_3 ?_
  obtain ⟨u1, hu1, h⟩ := bd_e h
  refine r_ri d (r_cS (As := [.long ((a0).toInt64), .long (0 : Int64), .long (25 : Int64)]) (rest := []) S d (c_X8_in l G M L ((a0).toInt64) (0 : Int64) (25 : Int64) hu1) ml_RX8_75 sm_yX8_in in_RX8 co_yX8_in hyS_X8_in ⟨rfl, rfl⟩ ⟨by decide, by decide⟩ rfl hl rfl (Nat.le_of_ble_eq_true rfl) dX8_isLetter_6 ⟨Nat.zero_le _, Nat.zero_le _⟩) (fun H locs d => ?_)
  obtain ⟨gz, h⟩ := gd_e h
  obtain rfl := Option.some.inj h
  exact r_iret S d hr (isZ_nar gz) rfl dX8_isLetter_9
theorem hyV_X8_isWord : yX8_isWord.cls = RX8 ∧ yX8_isWord.cls ≠ "java/lang/invoke/MethodHandle" ∧ yX8_isWord.cls ≠ "java/lang/invoke/VarHandle" ∧ (parseMethodDescriptor yX8_isWord.desc).map (fun d => d.parameters.length) = some 1 := by decide +kernel
abbrev rm_X8_isWord : Room := { frames := 1, cells := 0, slots := 0, locals := 25 }
def f_X8_isWord (M : Mem) (k0 : Nat) (a1 : Int32) : Option (Int32) :=
  (f_X8_in ((a1).toInt64) (0 : Int64) ((((M k0 8) - (1 : Int32))).toInt64)).bind (fun u1 =>
  gd (isZ u1) (
  some (u1)))
set_option maxHeartbeats 4000000 in
set_option maxRecDepth 100000 in
theorem c_X8_isWord (l : Launch) (G : Gx) (M : Mem) (L : MemL) (k0 : Nat) (a1 : Int32) (hk0 : kd k0 = 20) {z : Int32} (h : f_X8_isWord M k0 a1 = some z) : Met l yX8_isWord (.code yX8_isWord cX8_isWord 2 (Option.some Jvm.ClassFile.FieldType.boolean) :: UW) rm_X8_isWord (va_Pc [.ref (ad G k0), .int a1] (PreG G true M L)) (Qi G z M L) 0 0 (gA G) := by
  refine r_in (by decide) (fun p e s m args below meth c S hr d ha ls hl => ?_) (Nat.le_of_ble_eq_true rfl)
  have S : Sx G true p s m args meth c cX8_isWord 2 RX8 := S
  have hl : lv_has ls 2 [(0, .ref (ad G k0)), (1, .int a1)] := hl
  unfold f_X8_isWord at h
  refine lv_iload_n S.1 S.2.1 dX8_isWord_0 rfl (lv_at hl 1 rfl) ?_
  refine lv_i2l S.1 S.2.1 dX8_isWord_1 rfl ?_
  refine lv_lconst (v := 0) S.1 S.2.1 dX8_isWord_2 (by decide) ?_
  refine lv_aload_n S.1 S.2.1 dX8_isWord_3 rfl (lv_at hl 0 rfl) ?_
  refine gf_20_8 S d hk0 fl_RX8_83 dX8_isWord_4 ?_
  refine lv_iconst (v := 1) S.1 S.2.1 dX8_isWord_7 (by decide) ?_
  refine lv_isub S.1 S.2.1 dX8_isWord_8 ?_
  refine lv_i2l S.1 S.2.1 dX8_isWord_9 rfl ?_
  obtain ⟨u1, hu1, h⟩ := bd_e h
  refine r_ri d (r_cS (As := [.long ((a1).toInt64), .long (0 : Int64), .long ((((M k0 8) - (1 : Int32))).toInt64)]) (rest := []) S d (c_X8_in l G M L ((a1).toInt64) (0 : Int64) ((((M k0 8) - (1 : Int32))).toInt64) hu1) ml_RX8_75 sm_yX8_in in_RX8 co_yX8_in hyS_X8_in ⟨rfl, rfl⟩ ⟨by decide, by decide⟩ rfl hl rfl (Nat.le_of_ble_eq_true rfl) dX8_isWord_10 ⟨Nat.zero_le _, Nat.zero_le _⟩) (fun H locs d => ?_)
  obtain ⟨gz, h⟩ := gd_e h
  obtain rfl := Option.some.inj h
  exact r_iret S d hr (isZ_nar gz) rfl dX8_isWord_13
theorem hyV_X8_addStrip : yX8_addStrip.cls = RX8 ∧ yX8_addStrip.cls ≠ "java/lang/invoke/MethodHandle" ∧ yX8_addStrip.cls ≠ "java/lang/invoke/VarHandle" ∧ (parseMethodDescriptor yX8_addStrip.desc).map (fun d => d.parameters.length) = some 1 := by decide +kernel
abbrev rm_X8_addStrip : Room := { frames := 0, cells := 0, slots := 0, locals := 0 }
def lp_X8_addStrip_12 (fu : Nat) (b0 : Nat) (K : Mem → Option (Mem)) : Nat → Int32 → Mem → Option (Mem)
  | 0, _, _ => none
  | n + 1, x2, Mx =>
    (if (15 : Int32) ≤ x2 then (K Mx)
    else gd (inb (((15 : Int32) * (Mx b0 7)) + x2) 135) (
      lt (up Mx (b0 + 3) (((15 : Int32) * (Mx b0 7)) + x2).toNatClampNeg (5 : Int32)) (fun M4 : Mem =>
      lt (x2 + 1) (fun v5 : Int32 =>
      (lp_X8_addStrip_12 fu b0 K n v5 M4)))))
def f_X8_addStrip (fu : Nat) (M : Mem) (k0 : Nat) (a1 : Int32) : Option (Mem) :=
  gd (inb (M k0 7) 9) (
  lt (up M (k0 + 2) (M k0 7).toNatClampNeg a1) (fun M2 : Mem =>
  (lp_X8_addStrip_12 fu k0 (fun (M6 : Mem) =>
    lt (up M6 k0 7 ((M6 k0 7) + (1 : Int32))) (fun M7 : Mem =>
    some (M7))) fu (0 : Int32) M2)))
set_option maxHeartbeats 4000000 in
set_option maxRecDepth 100000 in
theorem lc_X8_addStrip_12 {p : Program} {l : Launch} {e : Env} {s : State} {m : MethodId} {args : Array Value} {below : List Frame} {meth : Method} {c : Code} {G : Gx} {L : MemL} {fu : Nat} {b0 : Nat} {z : Mem} (S : Sx G true p s m args meth c cX8_addStrip 3 RX8) (hr : meth.sig.returnType = (Option.none : Option Jvm.ClassFile.FieldType)) (hb0 : kd b0 = 20) (K : Mem → Option (Mem)) (hK : ∀ (My : Mem) (H : Heap) (locs : List Loc), Dy G s My L H locs → ∀ ls : Array Slot, lv_has ls 3 [(0, .ref (ad G b0))] → K My = some z → W p l e rm_X8_addStrip s m args below meth c H locs 0 0 (MQ below (Qv G z L) args s 0 0 (gA G)) (F0 m 39 ls [])) :
    ∀ (n : Nat) (x2 : Int32) (Mx : Mem), lp_X8_addStrip_12 fu b0 K n x2 Mx = some z → ∀ (H : Heap) (locs : List Loc), Dy G s Mx L H locs → ∀ ls : Array Slot, lv_has ls 3 [(0, .ref (ad G b0)), (2, .int x2)] → W p l e rm_X8_addStrip s m args below meth c H locs 0 0 (MQ below (Qv G z L) args s 0 0 (gA G)) (F0 m 12 ls []) := by
  intro n
  induction n with
  | zero =>
    intro x2 Mx h
    have h : (none : Option (Mem)) = some z := h
    cases h
  | succ n ih =>
    intro x2 Mx h H locs d ls hl
    rw [lp_X8_addStrip_12] at h
    refine lv_iload_n S.1 S.2.1 dX8_addStrip_12 rfl (lv_at hl 1 rfl) ?_
    refine lv_bipush (v := 15) S.1 S.2.1 dX8_addStrip_13 (by decide) ?_
    refine lv_icmp_ge (tgt := 39) S.1 S.2.1 dX8_addStrip_15 (by decide) (fun cc => ?_) (fun cc => ?_)
    · replace h := it_p cc h
      exact hK _ _ _ d _ (lv_sub hl [0] rfl) h
    · replace h := it_n cc h
      refine lv_aload_n S.1 S.2.1 dX8_addStrip_18 rfl (lv_at hl 0 rfl) ?_
      refine gf_20_2 S d hb0 fl_RX8_16 dX8_addStrip_19 ?_
      refine lv_bipush (v := 15) S.1 S.2.1 dX8_addStrip_22 (by decide) ?_
      refine lv_aload_n S.1 S.2.1 dX8_addStrip_24 rfl (lv_at hl 0 rfl) ?_
      refine gf_20_7 S d hb0 fl_RX8_71 dX8_addStrip_25 ?_
      refine lv_imul S.1 S.2.1 dX8_addStrip_28 ?_
      refine lv_iload_n S.1 S.2.1 dX8_addStrip_29 rfl (lv_at hl 1 rfl) ?_
      refine lv_iadd S.1 S.2.1 dX8_addStrip_30 ?_
      refine lv_iconst (v := 5) S.1 S.2.1 dX8_addStrip_31 (by decide) ?_
      obtain ⟨g3, h⟩ := gd_e h
      obtain ⟨M4, eM4, h⟩ := lt_e h
      refine r_iast S d eM4 (ksdM S (ch_20_2 hb0).1) (fun _ => wc_21 (ch_20_2 hb0).1) (ch_20_2 hb0).2 g3 dX8_addStrip_32 (fun H locs d => ?_)
      obtain ⟨v5, ev5, h⟩ := lt_e h
      refine lv_iinc (v := v5) (lv' := [(2, .int v5), (0, .ref (ad G b0))]) S.1 S.2.1 dX8_addStrip_33 hl (k := 1) rfl (by rw [ev5]; rfl) (by decide) rfl (fun ls hl => ?_)
      refine lv_goto (tgt := 12) S.1 S.2.1 dX8_addStrip_36 (by decide) ?_
      exact ih _ _ h _ _ d _ (lv_sub hl [1, 0] rfl)
set_option maxHeartbeats 4000000 in
set_option maxRecDepth 100000 in
theorem c_X8_addStrip (l : Launch) (G : Gx) (M : Mem) (L : MemL) (fu : Nat) (k0 : Nat) (a1 : Int32) (hk0 : kd k0 = 20) {z : Mem} (h : f_X8_addStrip fu M k0 a1 = some z) : Met l yX8_addStrip (.code yX8_addStrip cX8_addStrip 3 (Option.none : Option Jvm.ClassFile.FieldType) :: UW) rm_X8_addStrip (va_Pc [.ref (ad G k0), .int a1] (PreG G true M L)) (Qv G z L) 0 0 (gA G) := by
  refine r_in (by decide) (fun p e s m args below meth c S hr d ha ls hl => ?_) (Nat.le_of_ble_eq_true rfl)
  have S : Sx G true p s m args meth c cX8_addStrip 3 RX8 := S
  have hl : lv_has ls 3 [(0, .ref (ad G k0)), (1, .int a1)] := hl
  unfold f_X8_addStrip at h
  refine lv_aload_n S.1 S.2.1 dX8_addStrip_0 rfl (lv_at hl 0 rfl) ?_
  refine gf_20_1 S d hk0 fl_RX8_13 dX8_addStrip_1 ?_
  refine lv_aload_n S.1 S.2.1 dX8_addStrip_4 rfl (lv_at hl 0 rfl) ?_
  refine gf_20_7 S d hk0 fl_RX8_71 dX8_addStrip_5 ?_
  refine lv_iload_n S.1 S.2.1 dX8_addStrip_8 rfl (lv_at hl 1 rfl) ?_
  obtain ⟨g1, h⟩ := gd_e h
  obtain ⟨M2, eM2, h⟩ := lt_e h
  refine r_iast S d eM2 (ksdM S (ch_20_1 hk0).1) (fun _ => wc_21 (ch_20_1 hk0).1) (ch_20_1 hk0).2 g1 dX8_addStrip_9 (fun H locs d => ?_)
  refine lv_iconst (v := 0) S.1 S.2.1 dX8_addStrip_10 (by decide) ?_
  refine lv_istore_n (lv' := [(2, .int (0 : Int32)), (0, .ref (ad G k0)), (1, .int a1)]) S.1 S.2.1 dX8_addStrip_11 rfl hl (by decide) rfl (fun ls hl => ?_)
  refine lc_X8_addStrip_12 S hr hk0 _ (fun M6 H locs d ls hl h => ?_) _ _ _  h _ _ d _ (lv_sub hl [1, 0] rfl)
  refine lv_aload_n S.1 S.2.1 dX8_addStrip_39 rfl (lv_at hl 0 rfl) ?_
  refine lv_dup S.1 S.2.1 dX8_addStrip_40 rfl ?_
  refine gf_20_7 S d hk0 fl_RX8_71 dX8_addStrip_41 ?_
  refine lv_iconst (v := 1) S.1 S.2.1 dX8_addStrip_44 (by decide) ?_
  refine lv_iadd S.1 S.2.1 dX8_addStrip_45 ?_
  obtain ⟨M7, eM7, h⟩ := lt_e h
  refine pf_20_7 S d eM7 hk0 fl_RX8_71 dX8_addStrip_46 (fun H locs d => ?_)
  obtain rfl := Option.some.inj h
  exact r_vret S d hr dX8_addStrip_49
theorem hyV_X8_strip : yX8_strip.cls = RX8 ∧ yX8_strip.cls ≠ "java/lang/invoke/MethodHandle" ∧ yX8_strip.cls ≠ "java/lang/invoke/VarHandle" ∧ (parseMethodDescriptor yX8_strip.desc).map (fun d => d.parameters.length) = some 1 := by decide +kernel
abbrev rm_X8_strip : Room := { frames := 1, cells := 0, slots := 0, locals := 25 }
def f_X8_strip (fu : Nat) (M : Mem) (k0 : Nat) (a1 : Int32) : Option (Int32 × Mem) :=
  (f_X8_in ((a1).toInt64) (0 : Int64) (5 : Int64)).bind (fun u1 =>
  (if u1 = 0 then some ((-1 : Int32), M)
  else (if (M k0 7) = (9 : Int32) then some ((-3 : Int32), M)
    else (f_X8_addStrip fu M k0 a1).bind (fun u2 =>
      some (((u2 k0 7) - (1 : Int32)), u2)))))
set_option maxHeartbeats 4000000 in
set_option maxRecDepth 100000 in
theorem c_X8_strip (l : Launch) (G : Gx) (M : Mem) (L : MemL) (fu : Nat) (k0 : Nat) (a1 : Int32) (hk0 : kd k0 = 20) {z : Int32 × Mem} (h : f_X8_strip fu M k0 a1 = some z) : Met l yX8_strip (.code yX8_strip cX8_strip 2 (Option.some Jvm.ClassFile.FieldType.int) :: UW) rm_X8_strip (va_Pc [.ref (ad G k0), .int a1] (PreG G true M L)) (Qi G z.1 z.2 L) 0 0 (gA G) := by
  refine r_in (by decide) (fun p e s m args below meth c S hr d ha ls hl => ?_) (Nat.le_of_ble_eq_true rfl)
  have S : Sx G true p s m args meth c cX8_strip 2 RX8 := S
  have hl : lv_has ls 2 [(0, .ref (ad G k0)), (1, .int a1)] := hl
  unfold f_X8_strip at h
  refine lv_iload_n S.1 S.2.1 dX8_strip_0 rfl (lv_at hl 1 rfl) ?_
  refine lv_i2l S.1 S.2.1 dX8_strip_1 rfl ?_
  refine lv_lconst (v := 0) S.1 S.2.1 dX8_strip_2 (by decide) ?_
  refine lv_ldc2 (v := 5) S.1 S.2.1 S.2.2.2.1 (S.uw cn_RX8_86) dX8_strip_3 ?_
  obtain ⟨u1, hu1, h⟩ := bd_e h
  refine r_ri d (r_cS (As := [.long ((a1).toInt64), .long (0 : Int64), .long (5 : Int64)]) (rest := []) S d (c_X8_in l G M L ((a1).toInt64) (0 : Int64) (5 : Int64) hu1) ml_RX8_75 sm_yX8_in in_RX8 co_yX8_in hyS_X8_in ⟨rfl, rfl⟩ ⟨by decide, by decide⟩ rfl hl rfl (Nat.le_of_ble_eq_true rfl) dX8_strip_6 ⟨Nat.zero_le _, Nat.zero_le _⟩) (fun H locs d => ?_)
  refine lv_if_ne (tgt := 14) S.1 S.2.1 dX8_strip_9 (by decide) (fun cc => ?_) (fun cc => ?_)
  · replace h := it_n cc h
    refine lv_aload_n S.1 S.2.1 dX8_strip_14 rfl (lv_at hl 0 rfl) ?_
    refine gf_20_7 S d hk0 fl_RX8_71 dX8_strip_15 ?_
    refine lv_bipush (v := 9) S.1 S.2.1 dX8_strip_18 (by decide) ?_
    refine lv_icmp_ne (tgt := 26) S.1 S.2.1 dX8_strip_20 (by decide) (fun cc => ?_) (fun cc => ?_)
    · replace h := it_n cc h
      refine lv_aload_n S.1 S.2.1 dX8_strip_26 rfl (lv_at hl 0 rfl) ?_
      refine lv_iload_n S.1 S.2.1 dX8_strip_27 rfl (lv_at hl 1 rfl) ?_
      obtain ⟨u2, hu2, h⟩ := bd_e h
      refine r_rv d (r_cV (As := [.int a1]) (rest := []) S d (c_X8_addStrip l G M L fu k0 a1 hk0 hu2) (ksdM S hk0) (wc_20 hk0) rfl ml_RX8_88 im_yX8_addStrip se_yX8_addStrip in_RX8 co_yX8_addStrip hyV_X8_addStrip ⟨rfl, rfl⟩ ⟨by decide, by decide⟩ rfl hl rfl (Nat.le_of_ble_eq_true rfl) dX8_strip_28 ⟨Nat.zero_le _, Nat.zero_le _⟩) (fun H locs d => ?_)
      refine lv_aload_n S.1 S.2.1 dX8_strip_31 rfl (lv_at hl 0 rfl) ?_
      refine gf_20_7 S d hk0 fl_RX8_71 dX8_strip_32 ?_
      refine lv_iconst (v := 1) S.1 S.2.1 dX8_strip_35 (by decide) ?_
      refine lv_isub S.1 S.2.1 dX8_strip_36 ?_
      obtain rfl := Option.some.inj h
      exact r_iret S d hr rfl rfl dX8_strip_37
    · replace h := it_p cc h
      refine lv_bipush (v := (-3)) S.1 S.2.1 dX8_strip_23 (by decide) ?_
      obtain rfl := Option.some.inj h
      exact r_iret S d hr rfl rfl dX8_strip_25
  · replace h := it_p cc h
    refine lv_iconst (v := (-1)) S.1 S.2.1 dX8_strip_12 (by decide) ?_
    obtain rfl := Option.some.inj h
    exact r_iret S d hr rfl rfl dX8_strip_13
theorem hyV_X8_set : yX8_set.cls = RX8 ∧ yX8_set.cls ≠ "java/lang/invoke/MethodHandle" ∧ yX8_set.cls ≠ "java/lang/invoke/VarHandle" ∧ (parseMethodDescriptor yX8_set.desc).map (fun d => d.parameters.length) = some 2 := by decide +kernel
abbrev rm_X8_set : Room := { frames := 1, cells := 0, slots := 0, locals := 25 }
def f_X8_set (M : Mem) (k0 : Nat) (a1 : Int32) (a2 : Int32) : Option (Int32 × Mem) :=
  (if a1 = 0 then some (5 : Int32)
  else (if a1 = (1 : Int32) then some (8 : Int32)
    else (if a1 = (2 : Int32) then some (7 : Int32)
      else some (9 : Int32)))).bind (fun t1 : Int32 =>
  (f_X8_in ((a1).toInt64) (0 : Int64) (3 : Int64)).bind (fun u3 =>
  (if u3 = 0 then some ((-1 : Int32), M)
  else (f_X8_in ((a2).toInt64) (0 : Int64) ((t1).toInt64)).bind (fun u4 =>
    (if u4 = 0 then some ((-1 : Int32), M)
    else gd (inb a1 4) (
      lt ((M (k0 + 5) a1.toNatClampNeg)) (fun v6 : Int32 =>
      gd (inb a1 4) (
      lt (up M (k0 + 5) a1.toNatClampNeg a2) (fun M8 : Mem =>
      some (v6, M8))))))))))
set_option maxHeartbeats 4000000 in
set_option maxRecDepth 100000 in
theorem c_X8_set (l : Launch) (G : Gx) (M : Mem) (L : MemL) (k0 : Nat) (a1 : Int32) (a2 : Int32) (hk0 : kd k0 = 20) {z : Int32 × Mem} (h : f_X8_set M k0 a1 a2 = some z) : Met l yX8_set (.code yX8_set cX8_set 5 (Option.some Jvm.ClassFile.FieldType.int) :: UW) rm_X8_set (va_Pc [.ref (ad G k0), .int a1, .int a2] (PreG G true M L)) (Qi G z.1 z.2 L) 0 0 (gA G) := by
  refine r_in (by decide) (fun p e s m args below meth c S hr d ha ls hl => ?_) (Nat.le_of_ble_eq_true rfl)
  have S : Sx G true p s m args meth c cX8_set 5 RX8 := S
  have hl : lv_has ls 5 [(0, .ref (ad G k0)), (1, .int a1), (2, .int a2)] := hl
  unfold f_X8_set at h
  refine lv_iload_n S.1 S.2.1 dX8_set_0 rfl (lv_at hl 1 rfl) ?_
  obtain ⟨t1, g2, h⟩ := bd_e h
  have Jt1 : ∀ (H : Heap) (locs : List Loc), Dy G s M L H locs → W p l e rm_X8_set s m args below meth c H locs 0 0 (MQ below (Qi G z.1 z.2 L) args s 0 0 (gA G)) (F0 m 30 ls [.int t1]) := by
    intro H locs d
    refine lv_istore_n (lv' := [(3, .int t1), (0, .ref (ad G k0)), (1, .int a1), (2, .int a2)]) S.1 S.2.1 dX8_set_30 rfl hl (by decide) rfl (fun ls hl => ?_)
    refine lv_iload_n S.1 S.2.1 dX8_set_31 rfl (lv_at hl 2 rfl) ?_
    refine lv_i2l S.1 S.2.1 dX8_set_32 rfl ?_
    refine lv_lconst (v := 0) S.1 S.2.1 dX8_set_33 (by decide) ?_
    refine lv_ldc2 (v := 3) S.1 S.2.1 S.2.2.2.1 (S.uw cn_RX8_92) dX8_set_34 ?_
    obtain ⟨u3, hu3, h⟩ := bd_e h
    refine r_ri d (r_cS (As := [.long ((a1).toInt64), .long (0 : Int64), .long (3 : Int64)]) (rest := []) S d (c_X8_in l G M L ((a1).toInt64) (0 : Int64) (3 : Int64) hu3) ml_RX8_75 sm_yX8_in in_RX8 co_yX8_in hyS_X8_in ⟨rfl, rfl⟩ ⟨by decide, by decide⟩ rfl hl rfl (Nat.le_of_ble_eq_true rfl) dX8_set_37 ⟨Nat.zero_le _, Nat.zero_le _⟩) (fun H locs d => ?_)
    refine lv_if_eq (tgt := 54) S.1 S.2.1 dX8_set_40 (by decide) (fun cc => ?_) (fun cc => ?_)
    · replace h := it_p cc h
      refine lv_iconst (v := (-1)) S.1 S.2.1 dX8_set_54 (by decide) ?_
      obtain rfl := Option.some.inj h
      exact r_iret S d hr rfl rfl dX8_set_55
    · replace h := it_n cc h
      refine lv_iload_n S.1 S.2.1 dX8_set_43 rfl (lv_at hl 3 rfl) ?_
      refine lv_i2l S.1 S.2.1 dX8_set_44 rfl ?_
      refine lv_lconst (v := 0) S.1 S.2.1 dX8_set_45 (by decide) ?_
      refine lv_iload_n S.1 S.2.1 dX8_set_46 rfl (lv_at hl 0 rfl) ?_
      refine lv_i2l S.1 S.2.1 dX8_set_47 rfl ?_
      obtain ⟨u4, hu4, h⟩ := bd_e h
      refine r_ri d (r_cS (As := [.long ((a2).toInt64), .long (0 : Int64), .long ((t1).toInt64)]) (rest := []) S d (c_X8_in l G M L ((a2).toInt64) (0 : Int64) ((t1).toInt64) hu4) ml_RX8_75 sm_yX8_in in_RX8 co_yX8_in hyS_X8_in ⟨rfl, rfl⟩ ⟨by decide, by decide⟩ rfl hl rfl (Nat.le_of_ble_eq_true rfl) dX8_set_48 ⟨Nat.zero_le _, Nat.zero_le _⟩) (fun H locs d => ?_)
      refine lv_if_ne (tgt := 56) S.1 S.2.1 dX8_set_51 (by decide) (fun cc => ?_) (fun cc => ?_)
      · replace h := it_n cc h
        refine lv_aload_n S.1 S.2.1 dX8_set_56 rfl (lv_at hl 1 rfl) ?_
        refine gf_20_4 S d hk0 fl_RX8_22 dX8_set_57 ?_
        refine lv_iload_n S.1 S.2.1 dX8_set_60 rfl (lv_at hl 2 rfl) ?_
        obtain ⟨g5, h⟩ := gd_e h
        refine r_iald S d (ksdM S (ch_20_4 hk0).1) (wc_21 (ch_20_4 hk0).1) (ch_20_4 hk0).2 g5 dX8_set_61 ?_
        obtain ⟨v6, ev6, h⟩ := lt_e h
        refine r_top ev6 ?_
        refine lv_istore (lv' := [(4, .int v6), (3, .int t1), (0, .ref (ad G k0)), (1, .int a1), (2, .int a2)]) S.1 S.2.1 dX8_set_62 hl (by decide) rfl (fun ls hl => ?_)
        refine lv_aload_n S.1 S.2.1 dX8_set_64 rfl (lv_at hl 2 rfl) ?_
        refine gf_20_4 S d hk0 fl_RX8_22 dX8_set_65 ?_
        refine lv_iload_n S.1 S.2.1 dX8_set_68 rfl (lv_at hl 3 rfl) ?_
        refine lv_iload_n S.1 S.2.1 dX8_set_69 rfl (lv_at hl 4 rfl) ?_
        obtain ⟨g7, h⟩ := gd_e h
        obtain ⟨M8, eM8, h⟩ := lt_e h
        refine r_iast S d eM8 (ksdM S (ch_20_4 hk0).1) (fun _ => wc_21 (ch_20_4 hk0).1) (ch_20_4 hk0).2 g7 dX8_set_70 (fun H locs d => ?_)
        refine lv_iload S.1 S.2.1 dX8_set_71 (lv_at hl 0 rfl) ?_
        obtain rfl := Option.some.inj h
        exact r_iret S d hr rfl rfl dX8_set_73
      · replace h := it_p cc h
        refine lv_iconst (v := (-1)) S.1 S.2.1 dX8_set_54 (by decide) ?_
        obtain rfl := Option.some.inj h
        exact r_iret S d hr rfl rfl dX8_set_55
  have h := g2
  refine lv_if_ne (tgt := 8) S.1 S.2.1 dX8_set_1 (by decide) (fun cc => ?_) (fun cc => ?_)
  · replace h := it_n cc h
    refine lv_iload_n S.1 S.2.1 dX8_set_8 rfl (lv_at hl 1 rfl) ?_
    refine lv_iconst (v := 1) S.1 S.2.1 dX8_set_9 (by decide) ?_
    refine lv_icmp_ne (tgt := 18) S.1 S.2.1 dX8_set_10 (by decide) (fun cc => ?_) (fun cc => ?_)
    · replace h := it_n cc h
      refine lv_iload_n S.1 S.2.1 dX8_set_18 rfl (lv_at hl 1 rfl) ?_
      refine lv_iconst (v := 2) S.1 S.2.1 dX8_set_19 (by decide) ?_
      refine lv_icmp_ne (tgt := 28) S.1 S.2.1 dX8_set_20 (by decide) (fun cc => ?_) (fun cc => ?_)
      · replace h := it_n cc h
        refine lv_bipush (v := 9) S.1 S.2.1 dX8_set_28 (by decide) ?_
        obtain ej := Option.some.inj h
        refine r_top ej.symm ?_
        exact Jt1 _ _ d
      · replace h := it_p cc h
        refine lv_bipush (v := 7) S.1 S.2.1 dX8_set_23 (by decide) ?_
        refine lv_goto (tgt := 30) S.1 S.2.1 dX8_set_25 (by decide) ?_
        obtain ej := Option.some.inj h
        refine r_top ej.symm ?_
        exact Jt1 _ _ d
    · replace h := it_p cc h
      refine lv_bipush (v := 8) S.1 S.2.1 dX8_set_13 (by decide) ?_
      refine lv_goto (tgt := 30) S.1 S.2.1 dX8_set_15 (by decide) ?_
      obtain ej := Option.some.inj h
      refine r_top ej.symm ?_
      exact Jt1 _ _ d
  · replace h := it_p cc h
    refine lv_iconst (v := 5) S.1 S.2.1 dX8_set_4 (by decide) ?_
    refine lv_goto (tgt := 30) S.1 S.2.1 dX8_set_5 (by decide) ?_
    obtain ej := Option.some.inj h
    refine r_top ej.symm ?_
    exact Jt1 _ _ d
theorem hyV_X8_grass : yX8_grass.cls = RX8 ∧ yX8_grass.cls ≠ "java/lang/invoke/MethodHandle" ∧ yX8_grass.cls ≠ "java/lang/invoke/VarHandle" ∧ (parseMethodDescriptor yX8_grass.desc).map (fun d => d.parameters.length) = some 2 := by decide +kernel
abbrev rm_X8_grass : Room := { frames := 2, cells := 0, slots := 0, locals := 46 }
def f_X8_grass (M : Mem) (k0 : Nat) (a1 : Int32) (a2 : Int32) : Option (Int32) :=
  (f_X8_isStrip M k0 a1).bind (fun u1 =>
  (if u1 = 0 then some ((-1 : Int32))
  else (f_X8_isCell a2).bind (fun u2 =>
    (if u2 = 0 then some ((-1 : Int32))
    else gd (inb (((15 : Int32) * a1) + a2) 135) (
      some ((M (k0 + 3) (((15 : Int32) * a1) + a2).toNatClampNeg)))))))
set_option maxHeartbeats 4000000 in
set_option maxRecDepth 100000 in
theorem c_X8_grass (l : Launch) (G : Gx) (M : Mem) (L : MemL) (k0 : Nat) (a1 : Int32) (a2 : Int32) (hk0 : kd k0 = 20) {z : Int32} (h : f_X8_grass M k0 a1 a2 = some z) : Met l yX8_grass (.code yX8_grass cX8_grass 3 (Option.some Jvm.ClassFile.FieldType.int) :: UW) rm_X8_grass (va_Pc [.ref (ad G k0), .int a1, .int a2] (PreG G true M L)) (Qi G z M L) 0 0 (gA G) := by
  refine r_in (by decide) (fun p e s m args below meth c S hr d ha ls hl => ?_) (Nat.le_of_ble_eq_true rfl)
  have S : Sx G true p s m args meth c cX8_grass 3 RX8 := S
  have hl : lv_has ls 3 [(0, .ref (ad G k0)), (1, .int a1), (2, .int a2)] := hl
  unfold f_X8_grass at h
  refine lv_aload_n S.1 S.2.1 dX8_grass_0 rfl (lv_at hl 0 rfl) ?_
  refine lv_iload_n S.1 S.2.1 dX8_grass_1 rfl (lv_at hl 1 rfl) ?_
  obtain ⟨u1, hu1, h⟩ := bd_e h
  refine r_ri d (r_cV (As := [.int a1]) (rest := []) S d (c_X8_isStrip l G M L k0 a1 hk0 hu1) (ksdM S hk0) (wc_20 hk0) rfl ml_RX8_94 im_yX8_isStrip se_yX8_isStrip in_RX8 co_yX8_isStrip hyV_X8_isStrip ⟨rfl, rfl⟩ ⟨by decide, by decide⟩ rfl hl rfl (Nat.le_of_ble_eq_true rfl) dX8_grass_2 ⟨Nat.zero_le _, Nat.zero_le _⟩) (fun H locs d => ?_)
  refine lv_if_eq (tgt := 29) S.1 S.2.1 dX8_grass_5 (by decide) (fun cc => ?_) (fun cc => ?_)
  · replace h := it_p cc h
    refine lv_iconst (v := (-1)) S.1 S.2.1 dX8_grass_29 (by decide) ?_
    obtain rfl := Option.some.inj h
    exact r_iret S d hr rfl rfl dX8_grass_30
  · replace h := it_n cc h
    refine lv_iload_n S.1 S.2.1 dX8_grass_8 rfl (lv_at hl 2 rfl) ?_
    obtain ⟨u2, hu2, h⟩ := bd_e h
    refine r_ri d (r_cS (As := [.int a2]) (rest := []) S d (c_X8_isCell l G M L a2 hu2) ml_RX8_98 sm_yX8_isCell in_RX8 co_yX8_isCell hyS_X8_isCell ⟨rfl, rfl⟩ ⟨by decide, by decide⟩ rfl hl rfl (Nat.le_of_ble_eq_true rfl) dX8_grass_9 ⟨Nat.zero_le _, Nat.zero_le _⟩) (fun H locs d => ?_)
    refine lv_if_eq (tgt := 29) S.1 S.2.1 dX8_grass_12 (by decide) (fun cc => ?_) (fun cc => ?_)
    · replace h := it_p cc h
      refine lv_iconst (v := (-1)) S.1 S.2.1 dX8_grass_29 (by decide) ?_
      obtain rfl := Option.some.inj h
      exact r_iret S d hr rfl rfl dX8_grass_30
    · replace h := it_n cc h
      refine lv_aload_n S.1 S.2.1 dX8_grass_15 rfl (lv_at hl 0 rfl) ?_
      refine gf_20_2 S d hk0 fl_RX8_16 dX8_grass_16 ?_
      refine lv_bipush (v := 15) S.1 S.2.1 dX8_grass_19 (by decide) ?_
      refine lv_iload_n S.1 S.2.1 dX8_grass_21 rfl (lv_at hl 1 rfl) ?_
      refine lv_imul S.1 S.2.1 dX8_grass_22 ?_
      refine lv_iload_n S.1 S.2.1 dX8_grass_23 rfl (lv_at hl 2 rfl) ?_
      refine lv_iadd S.1 S.2.1 dX8_grass_24 ?_
      obtain ⟨g3, h⟩ := gd_e h
      refine r_iald S d (ksdM S (ch_20_2 hk0).1) (wc_21 (ch_20_2 hk0).1) (ch_20_2 hk0).2 g3 dX8_grass_25 ?_
      refine lv_goto (tgt := 30) S.1 S.2.1 dX8_grass_26 (by decide) ?_
      obtain rfl := Option.some.inj h
      exact r_iret S d hr rfl rfl dX8_grass_30
theorem hyV_X8_letter : yX8_letter.cls = RX8 ∧ yX8_letter.cls ≠ "java/lang/invoke/MethodHandle" ∧ yX8_letter.cls ≠ "java/lang/invoke/VarHandle" ∧ (parseMethodDescriptor yX8_letter.desc).map (fun d => d.parameters.length) = some 1 := by decide +kernel
abbrev rm_X8_letter : Room := { frames := 2, cells := 0, slots := 0, locals := 45 }
def f_X8_letter (M : Mem) (k0 : Nat) (a1 : Int32) : Option (Int32) :=
  (f_X8_isLetter a1).bind (fun u1 =>
  (if u1 = 0 then some ((-1 : Int32))
  else gd (inb a1 26) (
    some ((M (k0 + 1) a1.toNatClampNeg)))))
set_option maxHeartbeats 4000000 in
set_option maxRecDepth 100000 in
theorem c_X8_letter (l : Launch) (G : Gx) (M : Mem) (L : MemL) (k0 : Nat) (a1 : Int32) (hk0 : kd k0 = 20) {z : Int32} (h : f_X8_letter M k0 a1 = some z) : Met l yX8_letter (.code yX8_letter cX8_letter 2 (Option.some Jvm.ClassFile.FieldType.int) :: UW) rm_X8_letter (va_Pc [.ref (ad G k0), .int a1] (PreG G true M L)) (Qi G z M L) 0 0 (gA G) := by
  refine r_in (by decide) (fun p e s m args below meth c S hr d ha ls hl => ?_) (Nat.le_of_ble_eq_true rfl)
  have S : Sx G true p s m args meth c cX8_letter 2 RX8 := S
  have hl : lv_has ls 2 [(0, .ref (ad G k0)), (1, .int a1)] := hl
  unfold f_X8_letter at h
  refine lv_iload_n S.1 S.2.1 dX8_letter_0 rfl (lv_at hl 1 rfl) ?_
  obtain ⟨u1, hu1, h⟩ := bd_e h
  refine r_ri d (r_cS (As := [.int a1]) (rest := []) S d (c_X8_isLetter l G M L a1 hu1) ml_RX8_101 sm_yX8_isLetter in_RX8 co_yX8_isLetter hyS_X8_isLetter ⟨rfl, rfl⟩ ⟨by decide, by decide⟩ rfl hl rfl (Nat.le_of_ble_eq_true rfl) dX8_letter_1 ⟨Nat.zero_le _, Nat.zero_le _⟩) (fun H locs d => ?_)
  refine lv_if_eq (tgt := 16) S.1 S.2.1 dX8_letter_4 (by decide) (fun cc => ?_) (fun cc => ?_)
  · replace h := it_p cc h
    refine lv_iconst (v := (-1)) S.1 S.2.1 dX8_letter_16 (by decide) ?_
    obtain rfl := Option.some.inj h
    exact r_iret S d hr rfl rfl dX8_letter_17
  · replace h := it_n cc h
    refine lv_aload_n S.1 S.2.1 dX8_letter_7 rfl (lv_at hl 0 rfl) ?_
    refine gf_20_0 S d hk0 fl_RX8_7 dX8_letter_8 ?_
    refine lv_iload_n S.1 S.2.1 dX8_letter_11 rfl (lv_at hl 1 rfl) ?_
    obtain ⟨g2, h⟩ := gd_e h
    refine r_iald S d (ksdM S (ch_20_0 hk0).1) (wc_21 (ch_20_0 hk0).1) (ch_20_0 hk0).2 g2 dX8_letter_12 ?_
    refine lv_goto (tgt := 17) S.1 S.2.1 dX8_letter_13 (by decide) ?_
    obtain rfl := Option.some.inj h
    exact r_iret S d hr rfl rfl dX8_letter_17
theorem hyV_X8_seenOf : yX8_seenOf.cls = RX8 ∧ yX8_seenOf.cls ≠ "java/lang/invoke/MethodHandle" ∧ yX8_seenOf.cls ≠ "java/lang/invoke/VarHandle" ∧ (parseMethodDescriptor yX8_seenOf.desc).map (fun d => d.parameters.length) = some 1 := by decide +kernel
abbrev rm_X8_seenOf : Room := { frames := 0, cells := 0, slots := 0, locals := 0 }
def lp_X8_seenOf_4 (fu : Nat) (M : Mem) (b0 : Nat) (b1 : Int32) (K : Int32 → Option (Int32)) : Nat → Int32 → Int32 → Option (Int32)
  | 0, _, _ => none
  | n + 1, x2, x3 =>
    (if (15 : Int32) ≤ x3 then (K x2)
    else gd (inb (((15 : Int32) * b1) + x3) 135) (
      gd (inb (1 : Int32) 4) (
      (if (M (b0 + 5) (1 : Int32).toNatClampNeg) < (M (b0 + 3) (((15 : Int32) * b1) + x3).toNatClampNeg) then some (0 : Int32)
      else some ((1 : Int32) <<< (x3 &&& 31))).bind (fun t3 : Int32 =>
      lt ((x2 ||| t3)) (fun v5 : Int32 =>
      lt (x3 + 1) (fun v6 : Int32 =>
      (lp_X8_seenOf_4 fu M b0 b1 K n v5 v6)))))))
def f_X8_seenOf (fu : Nat) (M : Mem) (k0 : Nat) (a1 : Int32) : Option (Int32) :=
  (lp_X8_seenOf_4 fu M k0 a1 (fun (v7 : Int32) =>
    some (v7)) fu (0 : Int32) (0 : Int32))
set_option maxHeartbeats 4000000 in
set_option maxRecDepth 100000 in
theorem lc_X8_seenOf_4 {p : Program} {l : Launch} {e : Env} {s : State} {m : MethodId} {args : Array Value} {below : List Frame} {meth : Method} {c : Code} {G : Gx} {M : Mem} {L : MemL} {fu : Nat} {b0 : Nat} {b1 : Int32} {z : Int32} (S : Sx G true p s m args meth c cX8_seenOf 4 RX8) (hr : meth.sig.returnType = (Option.some Jvm.ClassFile.FieldType.int)) (hb0 : kd b0 = 20) (K : Int32 → Option (Int32)) (hK : ∀ (y2 : Int32) (H : Heap) (locs : List Loc), Dy G s M L H locs → ∀ ls : Array Slot, lv_has ls 4 [(2, .int y2)] → K y2 = some z → W p l e rm_X8_seenOf s m args below meth c H locs 0 0 (MQ below (Qi G z M L) args s 0 0 (gA G)) (F0 m 46 ls [])) :
    ∀ (n : Nat) (x2 : Int32) (x3 : Int32), lp_X8_seenOf_4 fu M b0 b1 K n x2 x3 = some z → ∀ (H : Heap) (locs : List Loc), Dy G s M L H locs → ∀ ls : Array Slot, lv_has ls 4 [(0, .ref (ad G b0)), (1, .int b1), (2, .int x2), (3, .int x3)] → W p l e rm_X8_seenOf s m args below meth c H locs 0 0 (MQ below (Qi G z M L) args s 0 0 (gA G)) (F0 m 4 ls []) := by
  intro n
  induction n with
  | zero =>
    intro x2 x3 h
    have h : (none : Option (Int32)) = some z := h
    cases h
  | succ n ih =>
    intro x2 x3 h H locs d ls hl
    rw [lp_X8_seenOf_4] at h
    refine lv_iload_n S.1 S.2.1 dX8_seenOf_4 rfl (lv_at hl 3 rfl) ?_
    refine lv_bipush (v := 15) S.1 S.2.1 dX8_seenOf_5 (by decide) ?_
    refine lv_icmp_ge (tgt := 46) S.1 S.2.1 dX8_seenOf_7 (by decide) (fun cc => ?_) (fun cc => ?_)
    · replace h := it_p cc h
      exact hK _ _ _ d _ (lv_sub hl [2] rfl) h
    · replace h := it_n cc h
      refine lv_iload_n S.1 S.2.1 dX8_seenOf_10 rfl (lv_at hl 2 rfl) ?_
      refine lv_aload_n S.1 S.2.1 dX8_seenOf_11 rfl (lv_at hl 0 rfl) ?_
      refine gf_20_2 S d hb0 fl_RX8_16 dX8_seenOf_12 ?_
      refine lv_bipush (v := 15) S.1 S.2.1 dX8_seenOf_15 (by decide) ?_
      refine lv_iload_n S.1 S.2.1 dX8_seenOf_17 rfl (lv_at hl 1 rfl) ?_
      refine lv_imul S.1 S.2.1 dX8_seenOf_18 ?_
      refine lv_iload_n S.1 S.2.1 dX8_seenOf_19 rfl (lv_at hl 3 rfl) ?_
      refine lv_iadd S.1 S.2.1 dX8_seenOf_20 ?_
      obtain ⟨g1, h⟩ := gd_e h
      refine r_iald S d (ksdM S (ch_20_2 hb0).1) (wc_21 (ch_20_2 hb0).1) (ch_20_2 hb0).2 g1 dX8_seenOf_21 ?_
      refine lv_aload_n S.1 S.2.1 dX8_seenOf_22 rfl (lv_at hl 0 rfl) ?_
      refine gf_20_4 S d hb0 fl_RX8_22 dX8_seenOf_23 ?_
      refine lv_iconst (v := 1) S.1 S.2.1 dX8_seenOf_26 (by decide) ?_
      obtain ⟨g2, h⟩ := gd_e h
      refine r_iald S d (ksdM S (ch_20_4 hb0).1) (wc_21 (ch_20_4 hb0).1) (ch_20_4 hb0).2 g2 dX8_seenOf_27 ?_
      obtain ⟨t3, g4, h⟩ := bd_e h
      have Jt3 : ∀ (H : Heap) (locs : List Loc), Dy G s M L H locs → W p l e rm_X8_seenOf s m args below meth c H locs 0 0 (MQ below (Qi G z M L) args s 0 0 (gA G)) (F0 m 38 ls [.int t3, .int x2]) := by
        intro H locs d
        refine lv_ior S.1 S.2.1 dX8_seenOf_38 ?_
        obtain ⟨v5, ev5, h⟩ := lt_e h
        refine r_top ev5 ?_
        refine lv_istore_n (lv' := [(2, .int v5), (0, .ref (ad G b0)), (1, .int b1), (3, .int x3)]) S.1 S.2.1 dX8_seenOf_39 rfl hl (by decide) rfl (fun ls hl => ?_)
        obtain ⟨v6, ev6, h⟩ := lt_e h
        refine lv_iinc (v := v6) (lv' := [(3, .int v6), (2, .int v5), (0, .ref (ad G b0)), (1, .int b1)]) S.1 S.2.1 dX8_seenOf_40 hl (k := 3) rfl (by rw [ev6]; rfl) (by decide) rfl (fun ls hl => ?_)
        refine lv_goto (tgt := 4) S.1 S.2.1 dX8_seenOf_43 (by decide) ?_
        exact ih _ _ h _ _ d _ (lv_sub hl [2, 3, 1, 0] rfl)
      have h := g4
      refine lv_icmp_gt (tgt := 37) S.1 S.2.1 dX8_seenOf_28 (by decide) (fun cc => ?_) (fun cc => ?_)
      · replace h := it_p cc h
        refine lv_iconst (v := 0) S.1 S.2.1 dX8_seenOf_37 (by decide) ?_
        obtain ej := Option.some.inj h
        refine r_top ej.symm ?_
        exact Jt3 _ _ d
      · replace h := it_n cc h
        refine lv_iconst (v := 1) S.1 S.2.1 dX8_seenOf_31 (by decide) ?_
        refine lv_iload_n S.1 S.2.1 dX8_seenOf_32 rfl (lv_at hl 3 rfl) ?_
        refine lv_ishl S.1 S.2.1 dX8_seenOf_33 ?_
        refine lv_goto (tgt := 38) S.1 S.2.1 dX8_seenOf_34 (by decide) ?_
        obtain ej := Option.some.inj h
        refine r_top ej.symm ?_
        exact Jt3 _ _ d
set_option maxHeartbeats 4000000 in
set_option maxRecDepth 100000 in
theorem c_X8_seenOf (l : Launch) (G : Gx) (M : Mem) (L : MemL) (fu : Nat) (k0 : Nat) (a1 : Int32) (hk0 : kd k0 = 20) {z : Int32} (h : f_X8_seenOf fu M k0 a1 = some z) : Met l yX8_seenOf (.code yX8_seenOf cX8_seenOf 4 (Option.some Jvm.ClassFile.FieldType.int) :: UW) rm_X8_seenOf (va_Pc [.ref (ad G k0), .int a1] (PreG G true M L)) (Qi G z M L) 0 0 (gA G) := by
  refine r_in (by decide) (fun p e s m args below meth c S hr d ha ls hl => ?_) (Nat.le_of_ble_eq_true rfl)
  have S : Sx G true p s m args meth c cX8_seenOf 4 RX8 := S
  have hl : lv_has ls 4 [(0, .ref (ad G k0)), (1, .int a1)] := hl
  unfold f_X8_seenOf at h
  refine lv_iconst (v := 0) S.1 S.2.1 dX8_seenOf_0 (by decide) ?_
  refine lv_istore_n (lv' := [(2, .int (0 : Int32)), (0, .ref (ad G k0)), (1, .int a1)]) S.1 S.2.1 dX8_seenOf_1 rfl hl (by decide) rfl (fun ls hl => ?_)
  refine lv_iconst (v := 0) S.1 S.2.1 dX8_seenOf_2 (by decide) ?_
  refine lv_istore_n (lv' := [(3, .int (0 : Int32)), (2, .int (0 : Int32)), (0, .ref (ad G k0)), (1, .int a1)]) S.1 S.2.1 dX8_seenOf_3 rfl hl (by decide) rfl (fun ls hl => ?_)
  refine lc_X8_seenOf_4 S hr hk0 _ (fun v7 H locs d ls hl h => ?_) _ _ _  h _ _ d _ (lv_sub hl [2, 3, 1, 0] rfl)
  refine lv_iload_n S.1 S.2.1 dX8_seenOf_46 rfl (lv_at hl 0 rfl) ?_
  obtain rfl := Option.some.inj h
  exact r_iret S d hr rfl rfl dX8_seenOf_47
theorem hyV_X8_seen : yX8_seen.cls = RX8 ∧ yX8_seen.cls ≠ "java/lang/invoke/MethodHandle" ∧ yX8_seen.cls ≠ "java/lang/invoke/VarHandle" ∧ (parseMethodDescriptor yX8_seen.desc).map (fun d => d.parameters.length) = some 1 := by decide +kernel
abbrev rm_X8_seen : Room := { frames := 2, cells := 0, slots := 0, locals := 46 }
def f_X8_seen (fu : Nat) (M : Mem) (k0 : Nat) (a1 : Int32) : Option (Int32) :=
  (f_X8_isStrip M k0 a1).bind (fun u1 =>
  (if u1 = 0 then some ((-1 : Int32))
  else (f_X8_seenOf fu M k0 a1).bind (fun u2 =>
    some (u2))))
set_option maxHeartbeats 4000000 in
set_option maxRecDepth 100000 in
theorem c_X8_seen (l : Launch) (G : Gx) (M : Mem) (L : MemL) (fu : Nat) (k0 : Nat) (a1 : Int32) (hk0 : kd k0 = 20) {z : Int32} (h : f_X8_seen fu M k0 a1 = some z) : Met l yX8_seen (.code yX8_seen cX8_seen 2 (Option.some Jvm.ClassFile.FieldType.int) :: UW) rm_X8_seen (va_Pc [.ref (ad G k0), .int a1] (PreG G true M L)) (Qi G z M L) 0 0 (gA G) := by
  refine r_in (by decide) (fun p e s m args below meth c S hr d ha ls hl => ?_) (Nat.le_of_ble_eq_true rfl)
  have S : Sx G true p s m args meth c cX8_seen 2 RX8 := S
  have hl : lv_has ls 2 [(0, .ref (ad G k0)), (1, .int a1)] := hl
  unfold f_X8_seen at h
  refine lv_aload_n S.1 S.2.1 dX8_seen_0 rfl (lv_at hl 0 rfl) ?_
  refine lv_iload_n S.1 S.2.1 dX8_seen_1 rfl (lv_at hl 1 rfl) ?_
  obtain ⟨u1, hu1, h⟩ := bd_e h
  refine r_ri d (r_cV (As := [.int a1]) (rest := []) S d (c_X8_isStrip l G M L k0 a1 hk0 hu1) (ksdM S hk0) (wc_20 hk0) rfl ml_RX8_94 im_yX8_isStrip se_yX8_isStrip in_RX8 co_yX8_isStrip hyV_X8_isStrip ⟨rfl, rfl⟩ ⟨by decide, by decide⟩ rfl hl rfl (Nat.le_of_ble_eq_true rfl) dX8_seen_2 ⟨Nat.zero_le _, Nat.zero_le _⟩) (fun H locs d => ?_)
  refine lv_if_eq (tgt := 16) S.1 S.2.1 dX8_seen_5 (by decide) (fun cc => ?_) (fun cc => ?_)
  · replace h := it_p cc h
    refine lv_iconst (v := (-1)) S.1 S.2.1 dX8_seen_16 (by decide) ?_
    obtain rfl := Option.some.inj h
    exact r_iret S d hr rfl rfl dX8_seen_17
  · replace h := it_n cc h
    refine lv_aload_n S.1 S.2.1 dX8_seen_8 rfl (lv_at hl 0 rfl) ?_
    refine lv_iload_n S.1 S.2.1 dX8_seen_9 rfl (lv_at hl 1 rfl) ?_
    obtain ⟨u2, hu2, h⟩ := bd_e h
    refine r_ri d (r_cV (As := [.int a1]) (rest := []) S d (c_X8_seenOf l G M L fu k0 a1 hk0 hu2) (ksdM S hk0) (wc_20 hk0) rfl ml_RX8_104 im_yX8_seenOf se_yX8_seenOf in_RX8 co_yX8_seenOf hyV_X8_seenOf ⟨rfl, rfl⟩ ⟨by decide, by decide⟩ rfl hl rfl (Nat.le_of_ble_eq_true rfl) dX8_seen_10 ⟨Nat.zero_le _, Nat.zero_le _⟩) (fun H locs d => ?_)
    refine lv_goto (tgt := 17) S.1 S.2.1 dX8_seen_13 (by decide) ?_
    obtain rfl := Option.some.inj h
    exact r_iret S d hr rfl rfl dX8_seen_17
theorem hyV_X8_nearestForm : yX8_nearestForm.cls = RX8 ∧ yX8_nearestForm.cls ≠ "java/lang/invoke/MethodHandle" ∧ yX8_nearestForm.cls ≠ "java/lang/invoke/VarHandle" ∧ (parseMethodDescriptor yX8_nearestForm.desc).map (fun d => d.parameters.length) = some 1 := by decide +kernel
abbrev rm_X8_nearestForm : Room := { frames := 1, cells := 0, slots := 0, locals := 22 }
def lp_X8_nearestForm_4 (fu : Nat) (M : Mem) (b0 : Nat) (b1 : Int32) (K : Int32 → Option (Int32)) : Nat → Int32 → Int32 → Option (Int32)
  | 0, _, _ => none
  | n + 1, x2, x3 =>
    (if (26 : Int32) ≤ x3 then (K x2)
    else gd (inb x3 26) (
      (f_X8_ones fu (b1 ^^^ (M (b0 + 1) x3.toNatClampNeg))).bind (fun u2 =>
      gd (inb x2 26) (
      (f_X8_ones fu (b1 ^^^ (M (b0 + 1) x2.toNatClampNeg))).bind (fun u4 =>
      (if u4 ≤ u2 then some x2
      else some x3).bind (fun t5 : Int32 =>
      lt (x3 + 1) (fun v7 : Int32 =>
      (lp_X8_nearestForm_4 fu M b0 b1 K n t5 v7))))))))
def f_X8_nearestForm (fu : Nat) (M : Mem) (k0 : Nat) (a1 : Int32) : Option (Int32) :=
  (lp_X8_nearestForm_4 fu M k0 a1 (fun (v8 : Int32) =>
    some (v8)) fu (0 : Int32) (1 : Int32))
set_option maxHeartbeats 4000000 in
set_option maxRecDepth 100000 in
theorem lc_X8_nearestForm_4 {p : Program} {l : Launch} {e : Env} {s : State} {m : MethodId} {args : Array Value} {below : List Frame} {meth : Method} {c : Code} {G : Gx} {M : Mem} {L : MemL} {fu : Nat} {b0 : Nat} {b1 : Int32} {z : Int32} (S : Sx G true p s m args meth c cX8_nearestForm 4 RX8) (hr : meth.sig.returnType = (Option.some Jvm.ClassFile.FieldType.int)) (hb0 : kd b0 = 20) (K : Int32 → Option (Int32)) (hK : ∀ (y2 : Int32) (H : Heap) (locs : List Loc), Dy G s M L H locs → ∀ ls : Array Slot, lv_has ls 4 [(2, .int y2)] → K y2 = some z → W p l e rm_X8_nearestForm s m args below meth c H locs 0 0 (MQ below (Qi G z M L) args s 0 0 (gA G)) (F0 m 47 ls [])) :
    ∀ (n : Nat) (x2 : Int32) (x3 : Int32), lp_X8_nearestForm_4 fu M b0 b1 K n x2 x3 = some z → ∀ (H : Heap) (locs : List Loc), Dy G s M L H locs → ∀ ls : Array Slot, lv_has ls 4 [(0, .ref (ad G b0)), (1, .int b1), (2, .int x2), (3, .int x3)] → W p l e rm_X8_nearestForm s m args below meth c H locs 0 0 (MQ below (Qi G z M L) args s 0 0 (gA G)) (F0 m 4 ls []) := by
  intro n
  induction n with
  | zero =>
    intro x2 x3 h
    have h : (none : Option (Int32)) = some z := h
    cases h
  | succ n ih =>
    intro x2 x3 h H locs d ls hl
    rw [lp_X8_nearestForm_4] at h
    refine lv_iload_n S.1 S.2.1 dX8_nearestForm_4 rfl (lv_at hl 3 rfl) ?_
    refine lv_bipush (v := 26) S.1 S.2.1 dX8_nearestForm_5 (by decide) ?_
    refine lv_icmp_ge (tgt := 47) S.1 S.2.1 dX8_nearestForm_7 (by decide) (fun cc => ?_) (fun cc => ?_)
    · replace h := it_p cc h
      exact hK _ _ _ d _ (lv_sub hl [2] rfl) h
    · replace h := it_n cc h
      refine lv_iload_n S.1 S.2.1 dX8_nearestForm_10 rfl (lv_at hl 1 rfl) ?_
      refine lv_aload_n S.1 S.2.1 dX8_nearestForm_11 rfl (lv_at hl 0 rfl) ?_
      refine gf_20_0 S d hb0 fl_RX8_7 dX8_nearestForm_12 ?_
      refine lv_iload_n S.1 S.2.1 dX8_nearestForm_15 rfl (lv_at hl 3 rfl) ?_
      obtain ⟨g1, h⟩ := gd_e h
      refine r_iald S d (ksdM S (ch_20_0 hb0).1) (wc_21 (ch_20_0 hb0).1) (ch_20_0 hb0).2 g1 dX8_nearestForm_16 ?_
      refine lv_ixor S.1 S.2.1 dX8_nearestForm_17 ?_
      obtain ⟨u2, hu2, h⟩ := bd_e h
      refine r_ri d (r_cS (As := [.int (b1 ^^^ (M (b0 + 1) x3.toNatClampNeg))]) (rest := []) S d (c_X8_ones l G M L fu (b1 ^^^ (M (b0 + 1) x3.toNatClampNeg)) hu2) ml_RX8_108 sm_yX8_ones in_RX8 co_yX8_ones hyS_X8_ones ⟨rfl, rfl⟩ ⟨by decide, by decide⟩ rfl hl rfl (Nat.le_of_ble_eq_true rfl) dX8_nearestForm_18 ⟨Nat.zero_le _, Nat.zero_le _⟩) (fun H locs d => ?_)
      refine lv_iload_n S.1 S.2.1 dX8_nearestForm_21 rfl (lv_at hl 1 rfl) ?_
      refine lv_aload_n S.1 S.2.1 dX8_nearestForm_22 rfl (lv_at hl 0 rfl) ?_
      refine gf_20_0 S d hb0 fl_RX8_7 dX8_nearestForm_23 ?_
      refine lv_iload_n S.1 S.2.1 dX8_nearestForm_26 rfl (lv_at hl 2 rfl) ?_
      obtain ⟨g3, h⟩ := gd_e h
      refine r_iald S d (ksdM S (ch_20_0 hb0).1) (wc_21 (ch_20_0 hb0).1) (ch_20_0 hb0).2 g3 dX8_nearestForm_27 ?_
      refine lv_ixor S.1 S.2.1 dX8_nearestForm_28 ?_
      obtain ⟨u4, hu4, h⟩ := bd_e h
      refine r_ri d (r_cS (As := [.int (b1 ^^^ (M (b0 + 1) x2.toNatClampNeg))]) (rest := [.int u2]) S d (c_X8_ones l G M L fu (b1 ^^^ (M (b0 + 1) x2.toNatClampNeg)) hu4) ml_RX8_108 sm_yX8_ones in_RX8 co_yX8_ones hyS_X8_ones ⟨rfl, rfl⟩ ⟨by decide, by decide⟩ rfl hl rfl (Nat.le_of_ble_eq_true rfl) dX8_nearestForm_29 ⟨Nat.zero_le _, Nat.zero_le _⟩) (fun H locs d => ?_)
      obtain ⟨t5, g6, h⟩ := bd_e h
      have Jt5 : ∀ (H : Heap) (locs : List Loc), Dy G s M L H locs → W p l e rm_X8_nearestForm s m args below meth c H locs 0 0 (MQ below (Qi G z M L) args s 0 0 (gA G)) (F0 m 40 ls [.int t5]) := by
        intro H locs d
        refine lv_istore_n (lv' := [(2, .int t5), (0, .ref (ad G b0)), (1, .int b1), (3, .int x3)]) S.1 S.2.1 dX8_nearestForm_40 rfl hl (by decide) rfl (fun ls hl => ?_)
        obtain ⟨v7, ev7, h⟩ := lt_e h
        refine lv_iinc (v := v7) (lv' := [(3, .int v7), (2, .int t5), (0, .ref (ad G b0)), (1, .int b1)]) S.1 S.2.1 dX8_nearestForm_41 hl (k := 3) rfl (by rw [ev7]; rfl) (by decide) rfl (fun ls hl => ?_)
        refine lv_goto (tgt := 4) S.1 S.2.1 dX8_nearestForm_44 (by decide) ?_
        exact ih _ _ h _ _ d _ (lv_sub hl [2, 3, 1, 0] rfl)
      have h := g6
      refine lv_icmp_ge (tgt := 39) S.1 S.2.1 dX8_nearestForm_32 (by decide) (fun cc => ?_) (fun cc => ?_)
      · replace h := it_p cc h
        refine lv_iload_n S.1 S.2.1 dX8_nearestForm_39 rfl (lv_at hl 2 rfl) ?_
        obtain ej := Option.some.inj h
        refine r_top ej.symm ?_
        exact Jt5 _ _ d
      · replace h := it_n cc h
        refine lv_iload_n S.1 S.2.1 dX8_nearestForm_35 rfl (lv_at hl 3 rfl) ?_
        refine lv_goto (tgt := 40) S.1 S.2.1 dX8_nearestForm_36 (by decide) ?_
        obtain ej := Option.some.inj h
        refine r_top ej.symm ?_
        exact Jt5 _ _ d
set_option maxHeartbeats 4000000 in
set_option maxRecDepth 100000 in
theorem c_X8_nearestForm (l : Launch) (G : Gx) (M : Mem) (L : MemL) (fu : Nat) (k0 : Nat) (a1 : Int32) (hk0 : kd k0 = 20) {z : Int32} (h : f_X8_nearestForm fu M k0 a1 = some z) : Met l yX8_nearestForm (.code yX8_nearestForm cX8_nearestForm 4 (Option.some Jvm.ClassFile.FieldType.int) :: UW) rm_X8_nearestForm (va_Pc [.ref (ad G k0), .int a1] (PreG G true M L)) (Qi G z M L) 0 0 (gA G) := by
  refine r_in (by decide) (fun p e s m args below meth c S hr d ha ls hl => ?_) (Nat.le_of_ble_eq_true rfl)
  have S : Sx G true p s m args meth c cX8_nearestForm 4 RX8 := S
  have hl : lv_has ls 4 [(0, .ref (ad G k0)), (1, .int a1)] := hl
  unfold f_X8_nearestForm at h
  refine lv_iconst (v := 0) S.1 S.2.1 dX8_nearestForm_0 (by decide) ?_
  refine lv_istore_n (lv' := [(2, .int (0 : Int32)), (0, .ref (ad G k0)), (1, .int a1)]) S.1 S.2.1 dX8_nearestForm_1 rfl hl (by decide) rfl (fun ls hl => ?_)
  refine lv_iconst (v := 1) S.1 S.2.1 dX8_nearestForm_2 (by decide) ?_
  refine lv_istore_n (lv' := [(3, .int (1 : Int32)), (2, .int (0 : Int32)), (0, .ref (ad G k0)), (1, .int a1)]) S.1 S.2.1 dX8_nearestForm_3 rfl hl (by decide) rfl (fun ls hl => ?_)
  refine lc_X8_nearestForm_4 S hr hk0 _ (fun v8 H locs d ls hl h => ?_) _ _ _  h _ _ d _ (lv_sub hl [2, 3, 1, 0] rfl)
  refine lv_iload_n S.1 S.2.1 dX8_nearestForm_47 rfl (lv_at hl 0 rfl) ?_
  obtain rfl := Option.some.inj h
  exact r_iret S d hr rfl rfl dX8_nearestForm_48
theorem hyV_X8_readsAs : yX8_readsAs.cls = RX8 ∧ yX8_readsAs.cls ≠ "java/lang/invoke/MethodHandle" ∧ yX8_readsAs.cls ≠ "java/lang/invoke/VarHandle" ∧ (parseMethodDescriptor yX8_readsAs.desc).map (fun d => d.parameters.length) = some 1 := by decide +kernel
abbrev rm_X8_readsAs : Room := { frames := 2, cells := 0, slots := 0, locals := 45 }
def f_X8_readsAs (fu : Nat) (M : Mem) (k0 : Nat) (a1 : Int32) : Option (Int32) :=
  (f_X8_nearestForm fu M k0 a1).bind (fun u1 =>
  gd (inb u1 26) (
  (f_X8_ones fu (a1 ^^^ (M (k0 + 1) u1.toNatClampNeg))).bind (fun u3 =>
  gd (inb (2 : Int32) 4) (
  (if u3 ≤ (M (k0 + 5) (2 : Int32).toNatClampNeg) then some (u1)
  else some ((-4 : Int32)))))))
set_option maxHeartbeats 4000000 in
set_option maxRecDepth 100000 in
theorem c_X8_readsAs (l : Launch) (G : Gx) (M : Mem) (L : MemL) (fu : Nat) (k0 : Nat) (a1 : Int32) (hk0 : kd k0 = 20) {z : Int32} (h : f_X8_readsAs fu M k0 a1 = some z) : Met l yX8_readsAs (.code yX8_readsAs cX8_readsAs 3 (Option.some Jvm.ClassFile.FieldType.int) :: UW) rm_X8_readsAs (va_Pc [.ref (ad G k0), .int a1] (PreG G true M L)) (Qi G z M L) 0 0 (gA G) := by
  refine r_in (by decide) (fun p e s m args below meth c S hr d ha ls hl => ?_) (Nat.le_of_ble_eq_true rfl)
  have S : Sx G true p s m args meth c cX8_readsAs 3 RX8 := S
  have hl : lv_has ls 3 [(0, .ref (ad G k0)), (1, .int a1)] := hl
  unfold f_X8_readsAs at h
  refine lv_aload_n S.1 S.2.1 dX8_readsAs_0 rfl (lv_at hl 0 rfl) ?_
  refine lv_iload_n S.1 S.2.1 dX8_readsAs_1 rfl (lv_at hl 1 rfl) ?_
  obtain ⟨u1, hu1, h⟩ := bd_e h
  refine r_ri d (r_cV (As := [.int a1]) (rest := []) S d (c_X8_nearestForm l G M L fu k0 a1 hk0 hu1) (ksdM S hk0) (wc_20 hk0) rfl ml_RX8_111 im_yX8_nearestForm se_yX8_nearestForm in_RX8 co_yX8_nearestForm hyV_X8_nearestForm ⟨rfl, rfl⟩ ⟨by decide, by decide⟩ rfl hl rfl (Nat.le_of_ble_eq_true rfl) dX8_readsAs_2 ⟨Nat.zero_le _, Nat.zero_le _⟩) (fun H locs d => ?_)
  refine lv_istore_n (lv' := [(2, .int u1), (0, .ref (ad G k0)), (1, .int a1)]) S.1 S.2.1 dX8_readsAs_5 rfl hl (by decide) rfl (fun ls hl => ?_)
  refine lv_iload_n S.1 S.2.1 dX8_readsAs_6 rfl (lv_at hl 2 rfl) ?_
  refine lv_aload_n S.1 S.2.1 dX8_readsAs_7 rfl (lv_at hl 1 rfl) ?_
  refine gf_20_0 S d hk0 fl_RX8_7 dX8_readsAs_8 ?_
  refine lv_iload_n S.1 S.2.1 dX8_readsAs_11 rfl (lv_at hl 0 rfl) ?_
  obtain ⟨g2, h⟩ := gd_e h
  refine r_iald S d (ksdM S (ch_20_0 hk0).1) (wc_21 (ch_20_0 hk0).1) (ch_20_0 hk0).2 g2 dX8_readsAs_12 ?_
  refine lv_ixor S.1 S.2.1 dX8_readsAs_13 ?_
  obtain ⟨u3, hu3, h⟩ := bd_e h
  refine r_ri d (r_cS (As := [.int (a1 ^^^ (M (k0 + 1) u1.toNatClampNeg))]) (rest := []) S d (c_X8_ones l G M L fu (a1 ^^^ (M (k0 + 1) u1.toNatClampNeg)) hu3) ml_RX8_108 sm_yX8_ones in_RX8 co_yX8_ones hyS_X8_ones ⟨rfl, rfl⟩ ⟨by decide, by decide⟩ rfl hl rfl (Nat.le_of_ble_eq_true rfl) dX8_readsAs_14 ⟨Nat.zero_le _, Nat.zero_le _⟩) (fun H locs d => ?_)
  refine lv_aload_n S.1 S.2.1 dX8_readsAs_17 rfl (lv_at hl 1 rfl) ?_
  refine gf_20_4 S d hk0 fl_RX8_22 dX8_readsAs_18 ?_
  refine lv_iconst (v := 2) S.1 S.2.1 dX8_readsAs_21 (by decide) ?_
  obtain ⟨g4, h⟩ := gd_e h
  refine r_iald S d (ksdM S (ch_20_4 hk0).1) (wc_21 (ch_20_4 hk0).1) (ch_20_4 hk0).2 g4 dX8_readsAs_22 ?_
  refine lv_icmp_le (tgt := 31) S.1 S.2.1 dX8_readsAs_23 (by decide) (fun cc => ?_) (fun cc => ?_)
  · replace h := it_p cc h
    refine lv_iload_n S.1 S.2.1 dX8_readsAs_31 rfl (lv_at hl 0 rfl) ?_
    obtain rfl := Option.some.inj h
    exact r_iret S d hr rfl rfl dX8_readsAs_32
  · replace h := it_n cc h
    refine lv_bipush (v := (-4)) S.1 S.2.1 dX8_readsAs_26 (by decide) ?_
    refine lv_goto (tgt := 32) S.1 S.2.1 dX8_readsAs_28 (by decide) ?_
    obtain rfl := Option.some.inj h
    exact r_iret S d hr rfl rfl dX8_readsAs_32
theorem hyV_X8_reads : yX8_reads.cls = RX8 ∧ yX8_reads.cls ≠ "java/lang/invoke/MethodHandle" ∧ yX8_reads.cls ≠ "java/lang/invoke/VarHandle" ∧ (parseMethodDescriptor yX8_reads.desc).map (fun d => d.parameters.length) = some 1 := by decide +kernel
abbrev rm_X8_reads : Room := { frames := 3, cells := 0, slots := 0, locals := 67 }
def f_X8_reads (fu : Nat) (M : Mem) (k0 : Nat) (a1 : Int32) : Option (Int32) :=
  (f_X8_isStrip M k0 a1).bind (fun u1 =>
  (if u1 = 0 then some ((-1 : Int32))
  else (f_X8_seenOf fu M k0 a1).bind (fun u2 =>
    (f_X8_readsAs fu M k0 u2).bind (fun u3 =>
    some (u3)))))
set_option maxHeartbeats 4000000 in
set_option maxRecDepth 100000 in
theorem c_X8_reads (l : Launch) (G : Gx) (M : Mem) (L : MemL) (fu : Nat) (k0 : Nat) (a1 : Int32) (hk0 : kd k0 = 20) {z : Int32} (h : f_X8_reads fu M k0 a1 = some z) : Met l yX8_reads (.code yX8_reads cX8_reads 2 (Option.some Jvm.ClassFile.FieldType.int) :: UW) rm_X8_reads (va_Pc [.ref (ad G k0), .int a1] (PreG G true M L)) (Qi G z M L) 0 0 (gA G) := by
  refine r_in (by decide) (fun p e s m args below meth c S hr d ha ls hl => ?_) (Nat.le_of_ble_eq_true rfl)
  have S : Sx G true p s m args meth c cX8_reads 2 RX8 := S
  have hl : lv_has ls 2 [(0, .ref (ad G k0)), (1, .int a1)] := hl
  unfold f_X8_reads at h
  refine lv_aload_n S.1 S.2.1 dX8_reads_0 rfl (lv_at hl 0 rfl) ?_
  refine lv_iload_n S.1 S.2.1 dX8_reads_1 rfl (lv_at hl 1 rfl) ?_
  obtain ⟨u1, hu1, h⟩ := bd_e h
  refine r_ri d (r_cV (As := [.int a1]) (rest := []) S d (c_X8_isStrip l G M L k0 a1 hk0 hu1) (ksdM S hk0) (wc_20 hk0) rfl ml_RX8_94 im_yX8_isStrip se_yX8_isStrip in_RX8 co_yX8_isStrip hyV_X8_isStrip ⟨rfl, rfl⟩ ⟨by decide, by decide⟩ rfl hl rfl (Nat.le_of_ble_eq_true rfl) dX8_reads_2 ⟨Nat.zero_le _, Nat.zero_le _⟩) (fun H locs d => ?_)
  refine lv_if_eq (tgt := 20) S.1 S.2.1 dX8_reads_5 (by decide) (fun cc => ?_) (fun cc => ?_)
  · replace h := it_p cc h
    refine lv_iconst (v := (-1)) S.1 S.2.1 dX8_reads_20 (by decide) ?_
    obtain rfl := Option.some.inj h
    exact r_iret S d hr rfl rfl dX8_reads_21
  · replace h := it_n cc h
    refine lv_aload_n S.1 S.2.1 dX8_reads_8 rfl (lv_at hl 0 rfl) ?_
    refine lv_aload_n S.1 S.2.1 dX8_reads_9 rfl (lv_at hl 0 rfl) ?_
    refine lv_iload_n S.1 S.2.1 dX8_reads_10 rfl (lv_at hl 1 rfl) ?_
    obtain ⟨u2, hu2, h⟩ := bd_e h
    refine r_ri d (r_cV (As := [.int a1]) (rest := [.ref (ad G k0)]) S d (c_X8_seenOf l G M L fu k0 a1 hk0 hu2) (ksdM S hk0) (wc_20 hk0) rfl ml_RX8_104 im_yX8_seenOf se_yX8_seenOf in_RX8 co_yX8_seenOf hyV_X8_seenOf ⟨rfl, rfl⟩ ⟨by decide, by decide⟩ rfl hl rfl (Nat.le_of_ble_eq_true rfl) dX8_reads_11 ⟨Nat.zero_le _, Nat.zero_le _⟩) (fun H locs d => ?_)
    obtain ⟨u3, hu3, h⟩ := bd_e h
    refine r_ri d (r_cV (As := [.int u2]) (rest := []) S d (c_X8_readsAs l G M L fu k0 u2 hk0 hu3) (ksdM S hk0) (wc_20 hk0) rfl ml_RX8_114 im_yX8_readsAs se_yX8_readsAs in_RX8 co_yX8_readsAs hyV_X8_readsAs ⟨rfl, rfl⟩ ⟨by decide, by decide⟩ rfl hl rfl (Nat.le_of_ble_eq_true rfl) dX8_reads_14 ⟨Nat.zero_le _, Nat.zero_le _⟩) (fun H locs d => ?_)
    refine lv_goto (tgt := 21) S.1 S.2.1 dX8_reads_17 (by decide) ?_
    obtain rfl := Option.some.inj h
    exact r_iret S d hr rfl rfl dX8_reads_21
theorem hyV_X8_off : yX8_off.cls = RX8 ∧ yX8_off.cls ≠ "java/lang/invoke/MethodHandle" ∧ yX8_off.cls ≠ "java/lang/invoke/VarHandle" ∧ (parseMethodDescriptor yX8_off.desc).map (fun d => d.parameters.length) = some 1 := by decide +kernel
abbrev rm_X8_off : Room := { frames := 2, cells := 0, slots := 0, locals := 46 }
def f_X8_off (fu : Nat) (M : Mem) (k0 : Nat) (a1 : Int32) : Option (Int32) :=
  (f_X8_isStrip M k0 a1).bind (fun u1 =>
  (if u1 = 0 then some ((-1 : Int32))
  else (f_X8_seenOf fu M k0 a1).bind (fun u2 =>
    (f_X8_nearestForm fu M k0 u2).bind (fun u3 =>
    gd (inb u3 26) (
    (f_X8_ones fu (u2 ^^^ (M (k0 + 1) u3.toNatClampNeg))).bind (fun u5 =>
    some (u5)))))))
set_option maxHeartbeats 4000000 in
set_option maxRecDepth 100000 in
theorem c_X8_off (l : Launch) (G : Gx) (M : Mem) (L : MemL) (fu : Nat) (k0 : Nat) (a1 : Int32) (hk0 : kd k0 = 20) {z : Int32} (h : f_X8_off fu M k0 a1 = some z) : Met l yX8_off (.code yX8_off cX8_off 3 (Option.some Jvm.ClassFile.FieldType.int) :: UW) rm_X8_off (va_Pc [.ref (ad G k0), .int a1] (PreG G true M L)) (Qi G z M L) 0 0 (gA G) := by
  refine r_in (by decide) (fun p e s m args below meth c S hr d ha ls hl => ?_) (Nat.le_of_ble_eq_true rfl)
  have S : Sx G true p s m args meth c cX8_off 3 RX8 := S
  have hl : lv_has ls 3 [(0, .ref (ad G k0)), (1, .int a1)] := hl
  unfold f_X8_off at h
  refine lv_aload_n S.1 S.2.1 dX8_off_0 rfl (lv_at hl 0 rfl) ?_
  refine lv_iload_n S.1 S.2.1 dX8_off_1 rfl (lv_at hl 1 rfl) ?_
  obtain ⟨u1, hu1, h⟩ := bd_e h
  refine r_ri d (r_cV (As := [.int a1]) (rest := []) S d (c_X8_isStrip l G M L k0 a1 hk0 hu1) (ksdM S hk0) (wc_20 hk0) rfl ml_RX8_94 im_yX8_isStrip se_yX8_isStrip in_RX8 co_yX8_isStrip hyV_X8_isStrip ⟨rfl, rfl⟩ ⟨by decide, by decide⟩ rfl hl rfl (Nat.le_of_ble_eq_true rfl) dX8_off_2 ⟨Nat.zero_le _, Nat.zero_le _⟩) (fun H locs d => ?_)
  refine lv_if_ne (tgt := 10) S.1 S.2.1 dX8_off_5 (by decide) (fun cc => ?_) (fun cc => ?_)
  · replace h := it_n cc h
    refine lv_aload_n S.1 S.2.1 dX8_off_10 rfl (lv_at hl 0 rfl) ?_
    refine lv_iload_n S.1 S.2.1 dX8_off_11 rfl (lv_at hl 1 rfl) ?_
    obtain ⟨u2, hu2, h⟩ := bd_e h
    refine r_ri d (r_cV (As := [.int a1]) (rest := []) S d (c_X8_seenOf l G M L fu k0 a1 hk0 hu2) (ksdM S hk0) (wc_20 hk0) rfl ml_RX8_104 im_yX8_seenOf se_yX8_seenOf in_RX8 co_yX8_seenOf hyV_X8_seenOf ⟨rfl, rfl⟩ ⟨by decide, by decide⟩ rfl hl rfl (Nat.le_of_ble_eq_true rfl) dX8_off_12 ⟨Nat.zero_le _, Nat.zero_le _⟩) (fun H locs d => ?_)
    refine lv_istore_n (lv' := [(2, .int u2), (0, .ref (ad G k0)), (1, .int a1)]) S.1 S.2.1 dX8_off_15 rfl hl (by decide) rfl (fun ls hl => ?_)
    refine lv_iload_n S.1 S.2.1 dX8_off_16 rfl (lv_at hl 0 rfl) ?_
    refine lv_aload_n S.1 S.2.1 dX8_off_17 rfl (lv_at hl 1 rfl) ?_
    refine gf_20_0 S d hk0 fl_RX8_7 dX8_off_18 ?_
    refine lv_aload_n S.1 S.2.1 dX8_off_21 rfl (lv_at hl 1 rfl) ?_
    refine lv_iload_n S.1 S.2.1 dX8_off_22 rfl (lv_at hl 0 rfl) ?_
    obtain ⟨u3, hu3, h⟩ := bd_e h
    refine r_ri d (r_cV (As := [.int u2]) (rest := [.ref (ad G (k0 + 1)), .int u2]) S d (c_X8_nearestForm l G M L fu k0 u2 hk0 hu3) (ksdM S hk0) (wc_20 hk0) rfl ml_RX8_111 im_yX8_nearestForm se_yX8_nearestForm in_RX8 co_yX8_nearestForm hyV_X8_nearestForm ⟨rfl, rfl⟩ ⟨by decide, by decide⟩ rfl hl rfl (Nat.le_of_ble_eq_true rfl) dX8_off_23 ⟨Nat.zero_le _, Nat.zero_le _⟩) (fun H locs d => ?_)
    obtain ⟨g4, h⟩ := gd_e h
    refine r_iald S d (ksdM S (ch_20_0 hk0).1) (wc_21 (ch_20_0 hk0).1) (ch_20_0 hk0).2 g4 dX8_off_26 ?_
    refine lv_ixor S.1 S.2.1 dX8_off_27 ?_
    obtain ⟨u5, hu5, h⟩ := bd_e h
    refine r_ri d (r_cS (As := [.int (u2 ^^^ (M (k0 + 1) u3.toNatClampNeg))]) (rest := []) S d (c_X8_ones l G M L fu (u2 ^^^ (M (k0 + 1) u3.toNatClampNeg)) hu5) ml_RX8_108 sm_yX8_ones in_RX8 co_yX8_ones hyS_X8_ones ⟨rfl, rfl⟩ ⟨by decide, by decide⟩ rfl hl rfl (Nat.le_of_ble_eq_true rfl) dX8_off_28 ⟨Nat.zero_le _, Nat.zero_le _⟩) (fun H locs d => ?_)
    obtain rfl := Option.some.inj h
    exact r_iret S d hr rfl rfl dX8_off_31
  · replace h := it_p cc h
    refine lv_iconst (v := (-1)) S.1 S.2.1 dX8_off_8 (by decide) ?_
    obtain rfl := Option.some.inj h
    exact r_iret S d hr rfl rfl dX8_off_9
theorem hyV_X8_hasGrown : yX8_hasGrown.cls = RX8 ∧ yX8_hasGrown.cls ≠ "java/lang/invoke/MethodHandle" ∧ yX8_hasGrown.cls ≠ "java/lang/invoke/VarHandle" ∧ (parseMethodDescriptor yX8_hasGrown.desc).map (fun d => d.parameters.length) = some 2 := by decide +kernel
abbrev rm_X8_hasGrown : Room := { frames := 1, cells := 0, slots := 0, locals := 21 }
def lp_X8_hasGrown_5 (fu : Nat) (M : Mem) (b0 : Nat) (b1 : Int32) (b2 : Int32) (K : Int32 → Option (Int32)) : Nat → Int32 → Int32 → Option (Int32)
  | 0, _, _ => none
  | n + 1, x3, x4 =>
    (if (15 : Int32) ≤ x4 then (K x3)
    else (if x3 = 0 then some (0 : Int32)
      else (f_X8_has b2 x4).bind (fun u3 =>
        (if u3 = 0 then some (1 : Int32)
        else gd (inb (((15 : Int32) * b1) + x4) 135) (
          (if (M (b0 + 3) (((15 : Int32) * b1) + x4).toNatClampNeg) ≤ (2 : Int32) then some (0 : Int32)
          else some (1 : Int32)))))).bind (fun t1 : Int32 =>
      lt (x4 + 1) (fun v5 : Int32 =>
      (lp_X8_hasGrown_5 fu M b0 b1 b2 K n t1 v5))))
def f_X8_hasGrown (fu : Nat) (M : Mem) (k0 : Nat) (a1 : Int32) (a2 : Int32) : Option (Int32) :=
  (lp_X8_hasGrown_5 fu M k0 a1 a2 (fun (v6 : Int32) =>
    gd (isZ v6) (
    some (v6))) fu (1 : Int32) (0 : Int32))
set_option maxHeartbeats 4000000 in
set_option maxRecDepth 100000 in
theorem lc_X8_hasGrown_5 {p : Program} {l : Launch} {e : Env} {s : State} {m : MethodId} {args : Array Value} {below : List Frame} {meth : Method} {c : Code} {G : Gx} {M : Mem} {L : MemL} {fu : Nat} {b0 : Nat} {b1 : Int32} {b2 : Int32} {z : Int32} (S : Sx G true p s m args meth c cX8_hasGrown 5 RX8) (hr : meth.sig.returnType = (Option.some Jvm.ClassFile.FieldType.boolean)) (hb0 : kd b0 = 20) (K : Int32 → Option (Int32)) (hK : ∀ (y3 : Int32) (H : Heap) (locs : List Loc), Dy G s M L H locs → ∀ ls : Array Slot, lv_has ls 5 [(3, .int y3)] → K y3 = some z → W p l e rm_X8_hasGrown s m args below meth c H locs 0 0 (MQ below (Qi G z M L) args s 0 0 (gA G)) (F0 m 53 ls [])) :
    ∀ (n : Nat) (x3 : Int32) (x4 : Int32), lp_X8_hasGrown_5 fu M b0 b1 b2 K n x3 x4 = some z → ∀ (H : Heap) (locs : List Loc), Dy G s M L H locs → ∀ ls : Array Slot, lv_has ls 5 [(0, .ref (ad G b0)), (1, .int b1), (2, .int b2), (3, .int x3), (4, .int x4)] → W p l e rm_X8_hasGrown s m args below meth c H locs 0 0 (MQ below (Qi G z M L) args s 0 0 (gA G)) (F0 m 5 ls []) := by
  intro n
  induction n with
  | zero =>
    intro x3 x4 h
    have h : (none : Option (Int32)) = some z := h
    cases h
  | succ n ih =>
    intro x3 x4 h H locs d ls hl
    rw [lp_X8_hasGrown_5] at h
    refine lv_iload S.1 S.2.1 dX8_hasGrown_5 (lv_at hl 4 rfl) ?_
    refine lv_bipush (v := 15) S.1 S.2.1 dX8_hasGrown_7 (by decide) ?_
    refine lv_icmp_ge (tgt := 53) S.1 S.2.1 dX8_hasGrown_9 (by decide) (fun cc => ?_) (fun cc => ?_)
    · replace h := it_p cc h
      exact hK _ _ _ d _ (lv_sub hl [3] rfl) h
    · replace h := it_n cc h
      refine lv_iload_n S.1 S.2.1 dX8_hasGrown_12 rfl (lv_at hl 3 rfl) ?_
      obtain ⟨t1, g2, h⟩ := bd_e h
      have Jt1 : ∀ (H : Heap) (locs : List Loc), Dy G s M L H locs → W p l e rm_X8_hasGrown s m args below meth c H locs 0 0 (MQ below (Qi G z M L) args s 0 0 (gA G)) (F0 m 46 ls [.int t1]) := by
        intro H locs d
        refine lv_istore_n (lv' := [(3, .int t1), (0, .ref (ad G b0)), (1, .int b1), (2, .int b2), (4, .int x4)]) S.1 S.2.1 dX8_hasGrown_46 rfl hl (by decide) rfl (fun ls hl => ?_)
        obtain ⟨v5, ev5, h⟩ := lt_e h
        refine lv_iinc (v := v5) (lv' := [(4, .int v5), (3, .int t1), (0, .ref (ad G b0)), (1, .int b1), (2, .int b2)]) S.1 S.2.1 dX8_hasGrown_47 hl (k := 4) rfl (by rw [ev5]; rfl) (by decide) rfl (fun ls hl => ?_)
        refine lv_goto (tgt := 5) S.1 S.2.1 dX8_hasGrown_50 (by decide) ?_
        exact ih _ _ h _ _ d _ (lv_sub hl [2, 3, 4, 1, 0] rfl)
      have h := g2
      refine lv_if_eq (tgt := 45) S.1 S.2.1 dX8_hasGrown_13 (by decide) (fun cc => ?_) (fun cc => ?_)
      · replace h := it_p cc h
        refine lv_iconst (v := 0) S.1 S.2.1 dX8_hasGrown_45 (by decide) ?_
        obtain ej := Option.some.inj h
        refine r_top ej.symm ?_
        exact Jt1 _ _ d
      · replace h := it_n cc h
        refine lv_iload_n S.1 S.2.1 dX8_hasGrown_16 rfl (lv_at hl 2 rfl) ?_
        refine lv_iload S.1 S.2.1 dX8_hasGrown_17 (lv_at hl 4 rfl) ?_
        obtain ⟨u3, hu3, h⟩ := bd_e h
        refine r_ri d (r_cS (As := [.int b2, .int x4]) (rest := []) S d (c_X8_has l G M L b2 x4 hu3) ml_RX8_117 sm_yX8_has in_RX8 co_yX8_has hyS_X8_has ⟨rfl, rfl⟩ ⟨by decide, by decide⟩ rfl hl rfl (Nat.le_of_ble_eq_true rfl) dX8_hasGrown_19 ⟨Nat.zero_le _, Nat.zero_le _⟩) (fun H locs d => ?_)
        refine lv_if_eq (tgt := 41) S.1 S.2.1 dX8_hasGrown_22 (by decide) (fun cc => ?_) (fun cc => ?_)
        · replace h := it_p cc h
          refine lv_iconst (v := 1) S.1 S.2.1 dX8_hasGrown_41 (by decide) ?_
          refine lv_goto (tgt := 46) S.1 S.2.1 dX8_hasGrown_42 (by decide) ?_
          obtain ej := Option.some.inj h
          refine r_top ej.symm ?_
          exact Jt1 _ _ d
        · replace h := it_n cc h
          refine lv_aload_n S.1 S.2.1 dX8_hasGrown_25 rfl (lv_at hl 0 rfl) ?_
          refine gf_20_2 S d hb0 fl_RX8_16 dX8_hasGrown_26 ?_
          refine lv_bipush (v := 15) S.1 S.2.1 dX8_hasGrown_29 (by decide) ?_
          refine lv_iload_n S.1 S.2.1 dX8_hasGrown_31 rfl (lv_at hl 1 rfl) ?_
          refine lv_imul S.1 S.2.1 dX8_hasGrown_32 ?_
          refine lv_iload S.1 S.2.1 dX8_hasGrown_33 (lv_at hl 4 rfl) ?_
          refine lv_iadd S.1 S.2.1 dX8_hasGrown_35 ?_
          obtain ⟨g4, h⟩ := gd_e h
          refine r_iald S d (ksdM S (ch_20_2 hb0).1) (wc_21 (ch_20_2 hb0).1) (ch_20_2 hb0).2 g4 dX8_hasGrown_36 ?_
          refine lv_iconst (v := 2) S.1 S.2.1 dX8_hasGrown_37 (by decide) ?_
          refine lv_icmp_le (tgt := 45) S.1 S.2.1 dX8_hasGrown_38 (by decide) (fun cc => ?_) (fun cc => ?_)
          · replace h := it_p cc h
            refine lv_iconst (v := 0) S.1 S.2.1 dX8_hasGrown_45 (by decide) ?_
            obtain ej := Option.some.inj h
            refine r_top ej.symm ?_
            exact Jt1 _ _ d
          · replace h := it_n cc h
            refine lv_iconst (v := 1) S.1 S.2.1 dX8_hasGrown_41 (by decide) ?_
            refine lv_goto (tgt := 46) S.1 S.2.1 dX8_hasGrown_42 (by decide) ?_
            obtain ej := Option.some.inj h
            refine r_top ej.symm ?_
            exact Jt1 _ _ d
set_option maxHeartbeats 4000000 in
set_option maxRecDepth 100000 in
theorem c_X8_hasGrown (l : Launch) (G : Gx) (M : Mem) (L : MemL) (fu : Nat) (k0 : Nat) (a1 : Int32) (a2 : Int32) (hk0 : kd k0 = 20) {z : Int32} (h : f_X8_hasGrown fu M k0 a1 a2 = some z) : Met l yX8_hasGrown (.code yX8_hasGrown cX8_hasGrown 5 (Option.some Jvm.ClassFile.FieldType.boolean) :: UW) rm_X8_hasGrown (va_Pc [.ref (ad G k0), .int a1, .int a2] (PreG G true M L)) (Qi G z M L) 0 0 (gA G) := by
  refine r_in (by decide) (fun p e s m args below meth c S hr d ha ls hl => ?_) (Nat.le_of_ble_eq_true rfl)
  have S : Sx G true p s m args meth c cX8_hasGrown 5 RX8 := S
  have hl : lv_has ls 5 [(0, .ref (ad G k0)), (1, .int a1), (2, .int a2)] := hl
  unfold f_X8_hasGrown at h
  refine lv_iconst (v := 1) S.1 S.2.1 dX8_hasGrown_0 (by decide) ?_
  refine lv_istore_n (lv' := [(3, .int (1 : Int32)), (0, .ref (ad G k0)), (1, .int a1), (2, .int a2)]) S.1 S.2.1 dX8_hasGrown_1 rfl hl (by decide) rfl (fun ls hl => ?_)
  refine lv_iconst (v := 0) S.1 S.2.1 dX8_hasGrown_2 (by decide) ?_
  refine lv_istore (lv' := [(4, .int (0 : Int32)), (3, .int (1 : Int32)), (0, .ref (ad G k0)), (1, .int a1), (2, .int a2)]) S.1 S.2.1 dX8_hasGrown_3 hl (by decide) rfl (fun ls hl => ?_)
  refine lc_X8_hasGrown_5 S hr hk0 _ (fun v6 H locs d ls hl h => ?_) _ _ _  h _ _ d _ (lv_sub hl [2, 3, 4, 1, 0] rfl)
  refine lv_iload_n S.1 S.2.1 dX8_hasGrown_53 rfl (lv_at hl 0 rfl) ?_
  obtain ⟨gz, h⟩ := gd_e h
  obtain rfl := Option.some.inj h
  exact r_iret S d hr (isZ_nar gz) rfl dX8_hasGrown_54
theorem hyV_X8_mowSet : yX8_mowSet.cls = RX8 ∧ yX8_mowSet.cls ≠ "java/lang/invoke/MethodHandle" ∧ yX8_mowSet.cls ≠ "java/lang/invoke/VarHandle" ∧ (parseMethodDescriptor yX8_mowSet.desc).map (fun d => d.parameters.length) = some 2 := by decide +kernel
abbrev rm_X8_mowSet : Room := { frames := 1, cells := 0, slots := 0, locals := 21 }
def lp_X8_mowSet_5 (fu : Nat) (b0 : Nat) (b1 : Int32) (b2 : Int32) (K : Int32 → Mem → Option (Int32 × Mem)) : Nat → Int32 → Int32 → Mem → Option (Int32 × Mem)
  | 0, _, _, _ => none
  | n + 1, x3, x4, Mx =>
    (if (15 : Int32) ≤ x4 then (K x3 Mx)
    else lt ((((15 : Int32) * b1) + x4)) (fun v1 : Int32 =>
      (f_X8_has b2 x4).bind (fun u2 =>
      (if u2 = 0 then lt (x4 + 1) (fun v10 : Int32 =>
        (lp_X8_mowSet_5 fu b0 b1 b2 K n x3 v10 Mx))
      else gd (inb v1 135) (
        (if (Mx (b0 + 3) v1.toNatClampNeg) ≤ (2 : Int32) then lt (x4 + 1) (fun v9 : Int32 =>
          (lp_X8_mowSet_5 fu b0 b1 b2 K n x3 v9 Mx))
        else gd (inb v1 135) (
          lt ((x3 + (Mx (b0 + 3) v1.toNatClampNeg))) (fun v5 : Int32 =>
          gd (inb v1 135) (
          lt (up Mx (b0 + 3) v1.toNatClampNeg (0 : Int32)) (fun M7 : Mem =>
          lt (x4 + 1) (fun v8 : Int32 =>
          (lp_X8_mowSet_5 fu b0 b1 b2 K n v5 v8 M7))))))))))))
def f_X8_mowSet (fu : Nat) (M : Mem) (k0 : Nat) (a1 : Int32) (a2 : Int32) : Option (Int32 × Mem) :=
  (lp_X8_mowSet_5 fu k0 a1 a2 (fun (v11 : Int32) (M12 : Mem) =>
    gd (inb a1 9) (
    gd (inb (M12 (k0 + 2) a1.toNatClampNeg) 6) (
    gd (inb (M12 (k0 + 2) a1.toNatClampNeg) 6) (
    lt (up M12 (k0 + 4) (M12 (k0 + 2) a1.toNatClampNeg).toNatClampNeg ((M12 (k0 + 4) (M12 (k0 + 2) a1.toNatClampNeg).toNatClampNeg) + v11)) (fun M16 : Mem =>
    some (v11, M16)))))) fu (0 : Int32) (0 : Int32) M)
set_option maxHeartbeats 4000000 in
set_option maxRecDepth 100000 in
theorem lc_X8_mowSet_5 {p : Program} {l : Launch} {e : Env} {s : State} {m : MethodId} {args : Array Value} {below : List Frame} {meth : Method} {c : Code} {G : Gx} {L : MemL} {fu : Nat} {b0 : Nat} {b1 : Int32} {b2 : Int32} {z : Int32 × Mem} (S : Sx G true p s m args meth c cX8_mowSet 6 RX8) (hr : meth.sig.returnType = (Option.some Jvm.ClassFile.FieldType.int)) (hb0 : kd b0 = 20) (K : Int32 → Mem → Option (Int32 × Mem)) (hK : ∀ (y3 : Int32) (My : Mem) (H : Heap) (locs : List Loc), Dy G s My L H locs → ∀ ls : Array Slot, lv_has ls 6 [(0, .ref (ad G b0)), (1, .int b1), (3, .int y3)] → K y3 My = some z → W p l e rm_X8_mowSet s m args below meth c H locs 0 0 (MQ below (Qi G z.1 z.2 L) args s 0 0 (gA G)) (F0 m 65 ls [])) :
    ∀ (n : Nat) (x3 : Int32) (x4 : Int32) (Mx : Mem), lp_X8_mowSet_5 fu b0 b1 b2 K n x3 x4 Mx = some z → ∀ (H : Heap) (locs : List Loc), Dy G s Mx L H locs → ∀ ls : Array Slot, lv_has ls 6 [(0, .ref (ad G b0)), (1, .int b1), (2, .int b2), (3, .int x3), (4, .int x4)] → W p l e rm_X8_mowSet s m args below meth c H locs 0 0 (MQ below (Qi G z.1 z.2 L) args s 0 0 (gA G)) (F0 m 5 ls []) := by
  intro n
  induction n with
  | zero =>
    intro x3 x4 Mx h
    have h : (none : Option (Int32 × Mem)) = some z := h
    cases h
  | succ n ih =>
    intro x3 x4 Mx h H locs d ls hl
    rw [lp_X8_mowSet_5] at h
    refine lv_iload S.1 S.2.1 dX8_mowSet_5 (lv_at hl 4 rfl) ?_
    refine lv_bipush (v := 15) S.1 S.2.1 dX8_mowSet_7 (by decide) ?_
    refine lv_icmp_ge (tgt := 65) S.1 S.2.1 dX8_mowSet_9 (by decide) (fun cc => ?_) (fun cc => ?_)
    · replace h := it_p cc h
      exact hK _ _ _ _ d _ (lv_sub hl [0, 1, 3] rfl) h
    · replace h := it_n cc h
      refine lv_bipush (v := 15) S.1 S.2.1 dX8_mowSet_12 (by decide) ?_
      refine lv_iload_n S.1 S.2.1 dX8_mowSet_14 rfl (lv_at hl 1 rfl) ?_
      refine lv_imul S.1 S.2.1 dX8_mowSet_15 ?_
      refine lv_iload S.1 S.2.1 dX8_mowSet_16 (lv_at hl 4 rfl) ?_
      refine lv_iadd S.1 S.2.1 dX8_mowSet_18 ?_
      obtain ⟨v1, ev1, h⟩ := lt_e h
      refine r_top ev1 ?_
      refine lv_istore (lv' := [(5, .int v1), (0, .ref (ad G b0)), (1, .int b1), (2, .int b2), (3, .int x3), (4, .int x4)]) S.1 S.2.1 dX8_mowSet_19 hl (by decide) rfl (fun ls hl => ?_)
      refine lv_iload_n S.1 S.2.1 dX8_mowSet_21 rfl (lv_at hl 3 rfl) ?_
      refine lv_iload S.1 S.2.1 dX8_mowSet_22 (lv_at hl 5 rfl) ?_
      obtain ⟨u2, hu2, h⟩ := bd_e h
      refine r_ri d (r_cS (As := [.int b2, .int x4]) (rest := []) S d (c_X8_has l G Mx L b2 x4 hu2) ml_RX8_117 sm_yX8_has in_RX8 co_yX8_has hyS_X8_has ⟨rfl, rfl⟩ ⟨by decide, by decide⟩ rfl hl rfl (Nat.le_of_ble_eq_true rfl) dX8_mowSet_24 ⟨Nat.zero_le _, Nat.zero_le _⟩) (fun H locs d => ?_)
      refine lv_if_eq (tgt := 59) S.1 S.2.1 dX8_mowSet_27 (by decide) (fun cc => ?_) (fun cc => ?_)
      · replace h := it_p cc h
        obtain ⟨v10, ev10, h⟩ := lt_e h
        refine lv_iinc (v := v10) (lv' := [(4, .int v10), (5, .int v1), (0, .ref (ad G b0)), (1, .int b1), (2, .int b2), (3, .int x3)]) S.1 S.2.1 dX8_mowSet_59 hl (k := 5) rfl (by rw [ev10]; rfl) (by decide) rfl (fun ls hl => ?_)
        refine lv_goto (tgt := 5) S.1 S.2.1 dX8_mowSet_62 (by decide) ?_
        exact ih _ _ _ h _ _ d _ (lv_sub hl [2, 3, 4, 5, 0] rfl)
      · replace h := it_n cc h
        refine lv_aload_n S.1 S.2.1 dX8_mowSet_30 rfl (lv_at hl 1 rfl) ?_
        refine gf_20_2 S d hb0 fl_RX8_16 dX8_mowSet_31 ?_
        refine lv_iload S.1 S.2.1 dX8_mowSet_34 (lv_at hl 0 rfl) ?_
        obtain ⟨g3, h⟩ := gd_e h
        refine r_iald S d (ksdM S (ch_20_2 hb0).1) (wc_21 (ch_20_2 hb0).1) (ch_20_2 hb0).2 g3 dX8_mowSet_36 ?_
        refine lv_iconst (v := 2) S.1 S.2.1 dX8_mowSet_37 (by decide) ?_
        refine lv_icmp_le (tgt := 59) S.1 S.2.1 dX8_mowSet_38 (by decide) (fun cc => ?_) (fun cc => ?_)
        · replace h := it_p cc h
          obtain ⟨v9, ev9, h⟩ := lt_e h
          refine lv_iinc (v := v9) (lv' := [(4, .int v9), (5, .int v1), (0, .ref (ad G b0)), (1, .int b1), (2, .int b2), (3, .int x3)]) S.1 S.2.1 dX8_mowSet_59 hl (k := 5) rfl (by rw [ev9]; rfl) (by decide) rfl (fun ls hl => ?_)
          refine lv_goto (tgt := 5) S.1 S.2.1 dX8_mowSet_62 (by decide) ?_
          exact ih _ _ _ h _ _ d _ (lv_sub hl [2, 3, 4, 5, 0] rfl)
        · replace h := it_n cc h
          refine lv_iload_n S.1 S.2.1 dX8_mowSet_41 rfl (lv_at hl 4 rfl) ?_
          refine lv_aload_n S.1 S.2.1 dX8_mowSet_42 rfl (lv_at hl 1 rfl) ?_
          refine gf_20_2 S d hb0 fl_RX8_16 dX8_mowSet_43 ?_
          refine lv_iload S.1 S.2.1 dX8_mowSet_46 (lv_at hl 0 rfl) ?_
          obtain ⟨g4, h⟩ := gd_e h
          refine r_iald S d (ksdM S (ch_20_2 hb0).1) (wc_21 (ch_20_2 hb0).1) (ch_20_2 hb0).2 g4 dX8_mowSet_48 ?_
          refine lv_iadd S.1 S.2.1 dX8_mowSet_49 ?_
          obtain ⟨v5, ev5, h⟩ := lt_e h
          refine r_top ev5 ?_
          refine lv_istore_n (lv' := [(3, .int v5), (5, .int v1), (0, .ref (ad G b0)), (1, .int b1), (2, .int b2), (4, .int x4)]) S.1 S.2.1 dX8_mowSet_50 rfl hl (by decide) rfl (fun ls hl => ?_)
          refine lv_aload_n S.1 S.2.1 dX8_mowSet_51 rfl (lv_at hl 2 rfl) ?_
          refine gf_20_2 S d hb0 fl_RX8_16 dX8_mowSet_52 ?_
          refine lv_iload S.1 S.2.1 dX8_mowSet_55 (lv_at hl 1 rfl) ?_
          refine lv_iconst (v := 0) S.1 S.2.1 dX8_mowSet_57 (by decide) ?_
          obtain ⟨g6, h⟩ := gd_e h
          obtain ⟨M7, eM7, h⟩ := lt_e h
          refine r_iast S d eM7 (ksdM S (ch_20_2 hb0).1) (fun _ => wc_21 (ch_20_2 hb0).1) (ch_20_2 hb0).2 g6 dX8_mowSet_58 (fun H locs d => ?_)
          obtain ⟨v8, ev8, h⟩ := lt_e h
          refine lv_iinc (v := v8) (lv' := [(4, .int v8), (3, .int v5), (5, .int v1), (0, .ref (ad G b0)), (1, .int b1), (2, .int b2)]) S.1 S.2.1 dX8_mowSet_59 hl (k := 5) rfl (by rw [ev8]; rfl) (by decide) rfl (fun ls hl => ?_)
          refine lv_goto (tgt := 5) S.1 S.2.1 dX8_mowSet_62 (by decide) ?_
          exact ih _ _ _ h _ _ d _ (lv_sub hl [3, 4, 5, 1, 0] rfl)
set_option maxHeartbeats 4000000 in
set_option maxRecDepth 100000 in
theorem c_X8_mowSet (l : Launch) (G : Gx) (M : Mem) (L : MemL) (fu : Nat) (k0 : Nat) (a1 : Int32) (a2 : Int32) (hk0 : kd k0 = 20) {z : Int32 × Mem} (h : f_X8_mowSet fu M k0 a1 a2 = some z) : Met l yX8_mowSet (.code yX8_mowSet cX8_mowSet 6 (Option.some Jvm.ClassFile.FieldType.int) :: UW) rm_X8_mowSet (va_Pc [.ref (ad G k0), .int a1, .int a2] (PreG G true M L)) (Qi G z.1 z.2 L) 0 0 (gA G) := by
  refine r_in (by decide) (fun p e s m args below meth c S hr d ha ls hl => ?_) (Nat.le_of_ble_eq_true rfl)
  have S : Sx G true p s m args meth c cX8_mowSet 6 RX8 := S
  have hl : lv_has ls 6 [(0, .ref (ad G k0)), (1, .int a1), (2, .int a2)] := hl
  unfold f_X8_mowSet at h
  refine lv_iconst (v := 0) S.1 S.2.1 dX8_mowSet_0 (by decide) ?_
  refine lv_istore_n (lv' := [(3, .int (0 : Int32)), (0, .ref (ad G k0)), (1, .int a1), (2, .int a2)]) S.1 S.2.1 dX8_mowSet_1 rfl hl (by decide) rfl (fun ls hl => ?_)
  refine lv_iconst (v := 0) S.1 S.2.1 dX8_mowSet_2 (by decide) ?_
  refine lv_istore (lv' := [(4, .int (0 : Int32)), (3, .int (0 : Int32)), (0, .ref (ad G k0)), (1, .int a1), (2, .int a2)]) S.1 S.2.1 dX8_mowSet_3 hl (by decide) rfl (fun ls hl => ?_)
  refine lc_X8_mowSet_5 S hr hk0 _ (fun v11 M12 H locs d ls hl h => ?_) _ _ _ _  h _ _ d _ (lv_sub hl [2, 3, 4, 1, 0] rfl)
  refine lv_aload_n S.1 S.2.1 dX8_mowSet_65 rfl (lv_at hl 0 rfl) ?_
  refine gf_20_3 S d hk0 fl_RX8_19 dX8_mowSet_66 ?_
  refine lv_aload_n S.1 S.2.1 dX8_mowSet_69 rfl (lv_at hl 0 rfl) ?_
  refine gf_20_1 S d hk0 fl_RX8_13 dX8_mowSet_70 ?_
  refine lv_iload_n S.1 S.2.1 dX8_mowSet_73 rfl (lv_at hl 1 rfl) ?_
  obtain ⟨g13, h⟩ := gd_e h
  refine r_iald S d (ksdM S (ch_20_1 hk0).1) (wc_21 (ch_20_1 hk0).1) (ch_20_1 hk0).2 g13 dX8_mowSet_74 ?_
  refine lv_dup2_11 S.1 S.2.1 dX8_mowSet_75 rfl rfl ?_
  obtain ⟨g14, h⟩ := gd_e h
  refine r_iald S d (ksdM S (ch_20_3 hk0).1) (wc_21 (ch_20_3 hk0).1) (ch_20_3 hk0).2 g14 dX8_mowSet_76 ?_
  refine lv_iload_n S.1 S.2.1 dX8_mowSet_77 rfl (lv_at hl 2 rfl) ?_
  refine lv_iadd S.1 S.2.1 dX8_mowSet_78 ?_
  obtain ⟨g15, h⟩ := gd_e h
  obtain ⟨M16, eM16, h⟩ := lt_e h
  refine r_iast S d eM16 (ksdM S (ch_20_3 hk0).1) (fun _ => wc_21 (ch_20_3 hk0).1) (ch_20_3 hk0).2 g15 dX8_mowSet_79 (fun H locs d => ?_)
  refine lv_iload_n S.1 S.2.1 dX8_mowSet_80 rfl (lv_at hl 2 rfl) ?_
  obtain rfl := Option.some.inj h
  exact r_iret S d hr rfl rfl dX8_mowSet_81
theorem hyV_X8_mow : yX8_mow.cls = RX8 ∧ yX8_mow.cls ≠ "java/lang/invoke/MethodHandle" ∧ yX8_mow.cls ≠ "java/lang/invoke/VarHandle" ∧ (parseMethodDescriptor yX8_mow.desc).map (fun d => d.parameters.length) = some 2 := by decide +kernel
abbrev rm_X8_mow : Room := { frames := 2, cells := 0, slots := 0, locals := 46 }
def f_X8_mow (fu : Nat) (M : Mem) (k0 : Nat) (a1 : Int32) (a2 : Int32) : Option (Int32 × Mem) :=
  (f_X8_isStrip M k0 a1).bind (fun u1 =>
  (if u1 = 0 then some ((-1 : Int32), M)
  else (f_X8_isLetter a2).bind (fun u2 =>
    (if u2 = 0 then some ((-1 : Int32), M)
    else gd (inb a2 26) (
      (f_X8_hasGrown fu M k0 a1 (M (k0 + 1) a2.toNatClampNeg)).bind (fun u4 =>
      (if u4 = 0 then some ((-2 : Int32), M)
      else gd (inb a2 26) (
        (f_X8_mowSet fu M k0 a1 (M (k0 + 1) a2.toNatClampNeg)).bind (fun u6 =>
        some (u6.1, u6.2))))))))))
set_option maxHeartbeats 4000000 in
set_option maxRecDepth 100000 in
theorem c_X8_mow (l : Launch) (G : Gx) (M : Mem) (L : MemL) (fu : Nat) (k0 : Nat) (a1 : Int32) (a2 : Int32) (hk0 : kd k0 = 20) {z : Int32 × Mem} (h : f_X8_mow fu M k0 a1 a2 = some z) : Met l yX8_mow (.code yX8_mow cX8_mow 3 (Option.some Jvm.ClassFile.FieldType.int) :: UW) rm_X8_mow (va_Pc [.ref (ad G k0), .int a1, .int a2] (PreG G true M L)) (Qi G z.1 z.2 L) 0 0 (gA G) := by
  refine r_in (by decide) (fun p e s m args below meth c S hr d ha ls hl => ?_) (Nat.le_of_ble_eq_true rfl)
  have S : Sx G true p s m args meth c cX8_mow 3 RX8 := S
  have hl : lv_has ls 3 [(0, .ref (ad G k0)), (1, .int a1), (2, .int a2)] := hl
  unfold f_X8_mow at h
  refine lv_aload_n S.1 S.2.1 dX8_mow_0 rfl (lv_at hl 0 rfl) ?_
  refine lv_iload_n S.1 S.2.1 dX8_mow_1 rfl (lv_at hl 1 rfl) ?_
  obtain ⟨u1, hu1, h⟩ := bd_e h
  refine r_ri d (r_cV (As := [.int a1]) (rest := []) S d (c_X8_isStrip l G M L k0 a1 hk0 hu1) (ksdM S hk0) (wc_20 hk0) rfl ml_RX8_94 im_yX8_isStrip se_yX8_isStrip in_RX8 co_yX8_isStrip hyV_X8_isStrip ⟨rfl, rfl⟩ ⟨by decide, by decide⟩ rfl hl rfl (Nat.le_of_ble_eq_true rfl) dX8_mow_2 ⟨Nat.zero_le _, Nat.zero_le _⟩) (fun H locs d => ?_)
  refine lv_if_eq (tgt := 15) S.1 S.2.1 dX8_mow_5 (by decide) (fun cc => ?_) (fun cc => ?_)
  · replace h := it_p cc h
    refine lv_iconst (v := (-1)) S.1 S.2.1 dX8_mow_15 (by decide) ?_
    obtain rfl := Option.some.inj h
    exact r_iret S d hr rfl rfl dX8_mow_16
  · replace h := it_n cc h
    refine lv_iload_n S.1 S.2.1 dX8_mow_8 rfl (lv_at hl 2 rfl) ?_
    obtain ⟨u2, hu2, h⟩ := bd_e h
    refine r_ri d (r_cS (As := [.int a2]) (rest := []) S d (c_X8_isLetter l G M L a2 hu2) ml_RX8_101 sm_yX8_isLetter in_RX8 co_yX8_isLetter hyS_X8_isLetter ⟨rfl, rfl⟩ ⟨by decide, by decide⟩ rfl hl rfl (Nat.le_of_ble_eq_true rfl) dX8_mow_9 ⟨Nat.zero_le _, Nat.zero_le _⟩) (fun H locs d => ?_)
    refine lv_if_ne (tgt := 17) S.1 S.2.1 dX8_mow_12 (by decide) (fun cc => ?_) (fun cc => ?_)
    · replace h := it_n cc h
      refine lv_aload_n S.1 S.2.1 dX8_mow_17 rfl (lv_at hl 0 rfl) ?_
      refine lv_iload_n S.1 S.2.1 dX8_mow_18 rfl (lv_at hl 1 rfl) ?_
      refine lv_aload_n S.1 S.2.1 dX8_mow_19 rfl (lv_at hl 0 rfl) ?_
      refine gf_20_0 S d hk0 fl_RX8_7 dX8_mow_20 ?_
      refine lv_iload_n S.1 S.2.1 dX8_mow_23 rfl (lv_at hl 2 rfl) ?_
      obtain ⟨g3, h⟩ := gd_e h
      refine r_iald S d (ksdM S (ch_20_0 hk0).1) (wc_21 (ch_20_0 hk0).1) (ch_20_0 hk0).2 g3 dX8_mow_24 ?_
      obtain ⟨u4, hu4, h⟩ := bd_e h
      refine r_ri d (r_cV (As := [.int a1, .int (M (k0 + 1) a2.toNatClampNeg)]) (rest := []) S d (c_X8_hasGrown l G M L fu k0 a1 (M (k0 + 1) a2.toNatClampNeg) hk0 hu4) (ksdM S hk0) (wc_20 hk0) rfl ml_RX8_121 im_yX8_hasGrown se_yX8_hasGrown in_RX8 co_yX8_hasGrown hyV_X8_hasGrown ⟨rfl, rfl⟩ ⟨by decide, by decide⟩ rfl hl rfl (Nat.le_of_ble_eq_true rfl) dX8_mow_25 ⟨Nat.zero_le _, Nat.zero_le _⟩) (fun H locs d => ?_)
      refine lv_if_eq (tgt := 45) S.1 S.2.1 dX8_mow_28 (by decide) (fun cc => ?_) (fun cc => ?_)
      · replace h := it_p cc h
        refine lv_bipush (v := (-2)) S.1 S.2.1 dX8_mow_45 (by decide) ?_
        obtain rfl := Option.some.inj h
        exact r_iret S d hr rfl rfl dX8_mow_47
      · replace h := it_n cc h
        refine lv_aload_n S.1 S.2.1 dX8_mow_31 rfl (lv_at hl 0 rfl) ?_
        refine lv_iload_n S.1 S.2.1 dX8_mow_32 rfl (lv_at hl 1 rfl) ?_
        refine lv_aload_n S.1 S.2.1 dX8_mow_33 rfl (lv_at hl 0 rfl) ?_
        refine gf_20_0 S d hk0 fl_RX8_7 dX8_mow_34 ?_
        refine lv_iload_n S.1 S.2.1 dX8_mow_37 rfl (lv_at hl 2 rfl) ?_
        obtain ⟨g5, h⟩ := gd_e h
        refine r_iald S d (ksdM S (ch_20_0 hk0).1) (wc_21 (ch_20_0 hk0).1) (ch_20_0 hk0).2 g5 dX8_mow_38 ?_
        obtain ⟨u6, hu6, h⟩ := bd_e h
        refine r_ri d (r_cV (As := [.int a1, .int (M (k0 + 1) a2.toNatClampNeg)]) (rest := []) S d (c_X8_mowSet l G M L fu k0 a1 (M (k0 + 1) a2.toNatClampNeg) hk0 hu6) (ksdM S hk0) (wc_20 hk0) rfl ml_RX8_124 im_yX8_mowSet se_yX8_mowSet in_RX8 co_yX8_mowSet hyV_X8_mowSet ⟨rfl, rfl⟩ ⟨by decide, by decide⟩ rfl hl rfl (Nat.le_of_ble_eq_true rfl) dX8_mow_39 ⟨Nat.zero_le _, Nat.zero_le _⟩) (fun H locs d => ?_)
        refine lv_goto (tgt := 47) S.1 S.2.1 dX8_mow_42 (by decide) ?_
        obtain rfl := Option.some.inj h
        exact r_iret S d hr rfl rfl dX8_mow_47
    · replace h := it_p cc h
      refine lv_iconst (v := (-1)) S.1 S.2.1 dX8_mow_15 (by decide) ?_
      obtain rfl := Option.some.inj h
      exact r_iret S d hr rfl rfl dX8_mow_16
theorem hyV_X8_cut : yX8_cut.cls = RX8 ∧ yX8_cut.cls ≠ "java/lang/invoke/MethodHandle" ∧ yX8_cut.cls ≠ "java/lang/invoke/VarHandle" ∧ (parseMethodDescriptor yX8_cut.desc).map (fun d => d.parameters.length) = some 1 := by decide +kernel
abbrev rm_X8_cut : Room := { frames := 2, cells := 0, slots := 0, locals := 46 }
def f_X8_cut (fu : Nat) (M : Mem) (k0 : Nat) (a1 : Int32) : Option (Int32 × Mem) :=
  (f_X8_isStrip M k0 a1).bind (fun u1 =>
  (if u1 = 0 then some ((-1 : Int32), M)
  else (f_X8_mowSet fu M k0 a1 (32767 : Int32)).bind (fun u2 =>
    some (u2.1, u2.2))))
set_option maxHeartbeats 4000000 in
set_option maxRecDepth 100000 in
theorem c_X8_cut (l : Launch) (G : Gx) (M : Mem) (L : MemL) (fu : Nat) (k0 : Nat) (a1 : Int32) (hk0 : kd k0 = 20) {z : Int32 × Mem} (h : f_X8_cut fu M k0 a1 = some z) : Met l yX8_cut (.code yX8_cut cX8_cut 2 (Option.some Jvm.ClassFile.FieldType.int) :: UW) rm_X8_cut (va_Pc [.ref (ad G k0), .int a1] (PreG G true M L)) (Qi G z.1 z.2 L) 0 0 (gA G) := by
  refine r_in (by decide) (fun p e s m args below meth c S hr d ha ls hl => ?_) (Nat.le_of_ble_eq_true rfl)
  have S : Sx G true p s m args meth c cX8_cut 2 RX8 := S
  have hl : lv_has ls 2 [(0, .ref (ad G k0)), (1, .int a1)] := hl
  unfold f_X8_cut at h
  refine lv_aload_n S.1 S.2.1 dX8_cut_0 rfl (lv_at hl 0 rfl) ?_
  refine lv_iload_n S.1 S.2.1 dX8_cut_1 rfl (lv_at hl 1 rfl) ?_
  obtain ⟨u1, hu1, h⟩ := bd_e h
  refine r_ri d (r_cV (As := [.int a1]) (rest := []) S d (c_X8_isStrip l G M L k0 a1 hk0 hu1) (ksdM S hk0) (wc_20 hk0) rfl ml_RX8_94 im_yX8_isStrip se_yX8_isStrip in_RX8 co_yX8_isStrip hyV_X8_isStrip ⟨rfl, rfl⟩ ⟨by decide, by decide⟩ rfl hl rfl (Nat.le_of_ble_eq_true rfl) dX8_cut_2 ⟨Nat.zero_le _, Nat.zero_le _⟩) (fun H locs d => ?_)
  refine lv_if_eq (tgt := 19) S.1 S.2.1 dX8_cut_5 (by decide) (fun cc => ?_) (fun cc => ?_)
  · replace h := it_p cc h
    refine lv_iconst (v := (-1)) S.1 S.2.1 dX8_cut_19 (by decide) ?_
    obtain rfl := Option.some.inj h
    exact r_iret S d hr rfl rfl dX8_cut_20
  · replace h := it_n cc h
    refine lv_aload_n S.1 S.2.1 dX8_cut_8 rfl (lv_at hl 0 rfl) ?_
    refine lv_iload_n S.1 S.2.1 dX8_cut_9 rfl (lv_at hl 1 rfl) ?_
    refine lv_sipush (v := 32767) S.1 S.2.1 dX8_cut_10 (by decide) ?_
    obtain ⟨u2, hu2, h⟩ := bd_e h
    refine r_ri d (r_cV (As := [.int a1, .int (32767 : Int32)]) (rest := []) S d (c_X8_mowSet l G M L fu k0 a1 (32767 : Int32) hk0 hu2) (ksdM S hk0) (wc_20 hk0) rfl ml_RX8_124 im_yX8_mowSet se_yX8_mowSet in_RX8 co_yX8_mowSet hyV_X8_mowSet ⟨rfl, rfl⟩ ⟨by decide, by decide⟩ rfl hl rfl (Nat.le_of_ble_eq_true rfl) dX8_cut_13 ⟨Nat.zero_le _, Nat.zero_le _⟩) (fun H locs d => ?_)
    refine lv_goto (tgt := 20) S.1 S.2.1 dX8_cut_16 (by decide) ?_
    obtain rfl := Option.some.inj h
    exact r_iret S d hr rfl rfl dX8_cut_20
theorem hyV_X8_fault : yX8_fault.cls = RX8 ∧ yX8_fault.cls ≠ "java/lang/invoke/MethodHandle" ∧ yX8_fault.cls ≠ "java/lang/invoke/VarHandle" ∧ (parseMethodDescriptor yX8_fault.desc).map (fun d => d.parameters.length) = some 3 := by decide +kernel
abbrev rm_X8_fault : Room := { frames := 2, cells := 0, slots := 0, locals := 46 }
def f_X8_fault (M : Mem) (k0 : Nat) (a1 : Int32) (a2 : Int32) (a3 : Int32) : Option (Int32 × Mem) :=
  (f_X8_isStrip M k0 a1).bind (fun u1 =>
  (if u1 = 0 then some ((-1 : Int32), M)
  else (f_X8_isCell a2).bind (fun u2 =>
    (if u2 = 0 then some ((-1 : Int32), M)
    else (f_X8_in ((a3).toInt64) (0 : Int64) (1 : Int64)).bind (fun u3 =>
      (if u3 = 0 then some ((-1 : Int32), M)
      else gd (inb (((15 : Int32) * a1) + a2) 135) (
        lt ((M (k0 + 3) (((15 : Int32) * a1) + a2).toNatClampNeg)) (fun v5 : Int32 =>
        (if a3 = 0 then some (0 : Int32)
        else some (9 : Int32)).bind (fun t6 : Int32 =>
        gd (inb (((15 : Int32) * a1) + a2) 135) (
        lt (up M (k0 + 3) (((15 : Int32) * a1) + a2).toNatClampNeg t6) (fun M9 : Mem =>
        some (v5, M9))))))))))))
set_option maxHeartbeats 4000000 in
set_option maxRecDepth 100000 in
theorem c_X8_fault (l : Launch) (G : Gx) (M : Mem) (L : MemL) (k0 : Nat) (a1 : Int32) (a2 : Int32) (a3 : Int32) (hk0 : kd k0 = 20) {z : Int32 × Mem} (h : f_X8_fault M k0 a1 a2 a3 = some z) : Met l yX8_fault (.code yX8_fault cX8_fault 5 (Option.some Jvm.ClassFile.FieldType.int) :: UW) rm_X8_fault (va_Pc [.ref (ad G k0), .int a1, .int a2, .int a3] (PreG G true M L)) (Qi G z.1 z.2 L) 0 0 (gA G) := by
  refine r_in (by decide) (fun p e s m args below meth c S hr d ha ls hl => ?_) (Nat.le_of_ble_eq_true rfl)
  have S : Sx G true p s m args meth c cX8_fault 5 RX8 := S
  have hl : lv_has ls 5 [(0, .ref (ad G k0)), (1, .int a1), (2, .int a2), (3, .int a3)] := hl
  unfold f_X8_fault at h
  refine lv_aload_n S.1 S.2.1 dX8_fault_0 rfl (lv_at hl 0 rfl) ?_
  refine lv_iload_n S.1 S.2.1 dX8_fault_1 rfl (lv_at hl 1 rfl) ?_
  obtain ⟨u1, hu1, h⟩ := bd_e h
  refine r_ri d (r_cV (As := [.int a1]) (rest := []) S d (c_X8_isStrip l G M L k0 a1 hk0 hu1) (ksdM S hk0) (wc_20 hk0) rfl ml_RX8_94 im_yX8_isStrip se_yX8_isStrip in_RX8 co_yX8_isStrip hyV_X8_isStrip ⟨rfl, rfl⟩ ⟨by decide, by decide⟩ rfl hl rfl (Nat.le_of_ble_eq_true rfl) dX8_fault_2 ⟨Nat.zero_le _, Nat.zero_le _⟩) (fun H locs d => ?_)
  refine lv_if_eq (tgt := 25) S.1 S.2.1 dX8_fault_5 (by decide) (fun cc => ?_) (fun cc => ?_)
  · replace h := it_p cc h
    refine lv_iconst (v := (-1)) S.1 S.2.1 dX8_fault_25 (by decide) ?_
    obtain rfl := Option.some.inj h
    exact r_iret S d hr rfl rfl dX8_fault_26
  · replace h := it_n cc h
    refine lv_iload_n S.1 S.2.1 dX8_fault_8 rfl (lv_at hl 2 rfl) ?_
    obtain ⟨u2, hu2, h⟩ := bd_e h
    refine r_ri d (r_cS (As := [.int a2]) (rest := []) S d (c_X8_isCell l G M L a2 hu2) ml_RX8_98 sm_yX8_isCell in_RX8 co_yX8_isCell hyS_X8_isCell ⟨rfl, rfl⟩ ⟨by decide, by decide⟩ rfl hl rfl (Nat.le_of_ble_eq_true rfl) dX8_fault_9 ⟨Nat.zero_le _, Nat.zero_le _⟩) (fun H locs d => ?_)
    refine lv_if_eq (tgt := 25) S.1 S.2.1 dX8_fault_12 (by decide) (fun cc => ?_) (fun cc => ?_)
    · replace h := it_p cc h
      refine lv_iconst (v := (-1)) S.1 S.2.1 dX8_fault_25 (by decide) ?_
      obtain rfl := Option.some.inj h
      exact r_iret S d hr rfl rfl dX8_fault_26
    · replace h := it_n cc h
      refine lv_iload_n S.1 S.2.1 dX8_fault_15 rfl (lv_at hl 3 rfl) ?_
      refine lv_i2l S.1 S.2.1 dX8_fault_16 rfl ?_
      refine lv_lconst (v := 0) S.1 S.2.1 dX8_fault_17 (by decide) ?_
      refine lv_lconst (v := 1) S.1 S.2.1 dX8_fault_18 (by decide) ?_
      obtain ⟨u3, hu3, h⟩ := bd_e h
      refine r_ri d (r_cS (As := [.long ((a3).toInt64), .long (0 : Int64), .long (1 : Int64)]) (rest := []) S d (c_X8_in l G M L ((a3).toInt64) (0 : Int64) (1 : Int64) hu3) ml_RX8_75 sm_yX8_in in_RX8 co_yX8_in hyS_X8_in ⟨rfl, rfl⟩ ⟨by decide, by decide⟩ rfl hl rfl (Nat.le_of_ble_eq_true rfl) dX8_fault_19 ⟨Nat.zero_le _, Nat.zero_le _⟩) (fun H locs d => ?_)
      refine lv_if_ne (tgt := 27) S.1 S.2.1 dX8_fault_22 (by decide) (fun cc => ?_) (fun cc => ?_)
      · replace h := it_n cc h
        refine lv_aload_n S.1 S.2.1 dX8_fault_27 rfl (lv_at hl 0 rfl) ?_
        refine gf_20_2 S d hk0 fl_RX8_16 dX8_fault_28 ?_
        refine lv_bipush (v := 15) S.1 S.2.1 dX8_fault_31 (by decide) ?_
        refine lv_iload_n S.1 S.2.1 dX8_fault_33 rfl (lv_at hl 1 rfl) ?_
        refine lv_imul S.1 S.2.1 dX8_fault_34 ?_
        refine lv_iload_n S.1 S.2.1 dX8_fault_35 rfl (lv_at hl 2 rfl) ?_
        refine lv_iadd S.1 S.2.1 dX8_fault_36 ?_
        obtain ⟨g4, h⟩ := gd_e h
        refine r_iald S d (ksdM S (ch_20_2 hk0).1) (wc_21 (ch_20_2 hk0).1) (ch_20_2 hk0).2 g4 dX8_fault_37 ?_
        obtain ⟨v5, ev5, h⟩ := lt_e h
        refine r_top ev5 ?_
        refine lv_istore (lv' := [(4, .int v5), (0, .ref (ad G k0)), (1, .int a1), (2, .int a2), (3, .int a3)]) S.1 S.2.1 dX8_fault_38 hl (by decide) rfl (fun ls hl => ?_)
        refine lv_aload_n S.1 S.2.1 dX8_fault_40 rfl (lv_at hl 1 rfl) ?_
        refine gf_20_2 S d hk0 fl_RX8_16 dX8_fault_41 ?_
        refine lv_bipush (v := 15) S.1 S.2.1 dX8_fault_44 (by decide) ?_
        refine lv_iload_n S.1 S.2.1 dX8_fault_46 rfl (lv_at hl 2 rfl) ?_
        refine lv_imul S.1 S.2.1 dX8_fault_47 ?_
        refine lv_iload_n S.1 S.2.1 dX8_fault_48 rfl (lv_at hl 3 rfl) ?_
        refine lv_iadd S.1 S.2.1 dX8_fault_49 ?_
        refine lv_iload_n S.1 S.2.1 dX8_fault_50 rfl (lv_at hl 4 rfl) ?_
        obtain ⟨t6, g7, h⟩ := bd_e h
        have Jt6 : ∀ (H : Heap) (locs : List Loc), Dy G s M L H locs → W p l e rm_X8_fault s m args below meth c H locs 0 0 (MQ below (Qi G z.1 z.2 L) args s 0 0 (gA G)) (F0 m 60 ls [.int t6, .int (((15 : Int32) * a1) + a2), .ref (ad G (k0 + 3))]) := by
          intro H locs d
          obtain ⟨g8, h⟩ := gd_e h
          obtain ⟨M9, eM9, h⟩ := lt_e h
          refine r_iast S d eM9 (ksdM S (ch_20_2 hk0).1) (fun _ => wc_21 (ch_20_2 hk0).1) (ch_20_2 hk0).2 g8 dX8_fault_60 (fun H locs d => ?_)
          refine lv_iload S.1 S.2.1 dX8_fault_61 (lv_at hl 0 rfl) ?_
          obtain rfl := Option.some.inj h
          exact r_iret S d hr rfl rfl dX8_fault_63
        have h := g7
        refine lv_if_ne (tgt := 58) S.1 S.2.1 dX8_fault_51 (by decide) (fun cc => ?_) (fun cc => ?_)
        · replace h := it_n cc h
          refine lv_bipush (v := 9) S.1 S.2.1 dX8_fault_58 (by decide) ?_
          obtain ej := Option.some.inj h
          refine r_top ej.symm ?_
          exact Jt6 _ _ d
        · replace h := it_p cc h
          refine lv_iconst (v := 0) S.1 S.2.1 dX8_fault_54 (by decide) ?_
          refine lv_goto (tgt := 60) S.1 S.2.1 dX8_fault_55 (by decide) ?_
          obtain ej := Option.some.inj h
          refine r_top ej.symm ?_
          exact Jt6 _ _ d
      · replace h := it_p cc h
        refine lv_iconst (v := (-1)) S.1 S.2.1 dX8_fault_25 (by decide) ?_
        obtain rfl := Option.some.inj h
        exact r_iret S d hr rfl rfl dX8_fault_26
theorem hyV_X8_goWeek : yX8_goWeek.cls = RX8 ∧ yX8_goWeek.cls ≠ "java/lang/invoke/MethodHandle" ∧ yX8_goWeek.cls ≠ "java/lang/invoke/VarHandle" ∧ (parseMethodDescriptor yX8_goWeek.desc).map (fun d => d.parameters.length) = some 0 := by decide +kernel
abbrev rm_X8_goWeek : Room := { frames := 0, cells := 0, slots := 0, locals := 0 }
def lp_X8_goWeek_2 (fu : Nat) (b0 : Nat) (K : Mem → Option (Mem)) : Nat → Int32 → Mem → Option (Mem)
  | 0, _, _ => none
  | n + 1, x1, Mx =>
    (if ((15 : Int32) * (Mx b0 7)) ≤ x1 then (K Mx)
    else gd (inb x1 135) (
      gd (inb (0 : Int32) 4) (
      lt (((Mx (b0 + 3) x1.toNatClampNeg) + (Mx (b0 + 5) (0 : Int32).toNatClampNeg))) (fun v3 : Int32 =>
      (if v3 ≤ (9 : Int32) then some v3
      else some (9 : Int32)).bind (fun t4 : Int32 =>
      gd (inb x1 135) (
      lt (up Mx (b0 + 3) x1.toNatClampNeg t4) (fun M7 : Mem =>
      lt (x1 + 1) (fun v8 : Int32 =>
      (lp_X8_goWeek_2 fu b0 K n v8 M7)))))))))
def f_X8_goWeek (fu : Nat) (M : Mem) (k0 : Nat) : Option (Mem) :=
  (lp_X8_goWeek_2 fu k0 (fun (M9 : Mem) =>
    some (M9)) fu (0 : Int32) M)
set_option maxHeartbeats 4000000 in
set_option maxRecDepth 100000 in
theorem lc_X8_goWeek_2 {p : Program} {l : Launch} {e : Env} {s : State} {m : MethodId} {args : Array Value} {below : List Frame} {meth : Method} {c : Code} {G : Gx} {L : MemL} {fu : Nat} {b0 : Nat} {z : Mem} (S : Sx G true p s m args meth c cX8_goWeek 3 RX8) (hr : meth.sig.returnType = (Option.none : Option Jvm.ClassFile.FieldType)) (hb0 : kd b0 = 20) (K : Mem → Option (Mem)) (hK : ∀ (My : Mem) (H : Heap) (locs : List Loc), Dy G s My L H locs → ∀ ls : Array Slot, lv_has ls 3 [] → K My = some z → W p l e rm_X8_goWeek s m args below meth c H locs 0 0 (MQ below (Qv G z L) args s 0 0 (gA G)) (F0 m 51 ls [])) :
    ∀ (n : Nat) (x1 : Int32) (Mx : Mem), lp_X8_goWeek_2 fu b0 K n x1 Mx = some z → ∀ (H : Heap) (locs : List Loc), Dy G s Mx L H locs → ∀ ls : Array Slot, lv_has ls 3 [(0, .ref (ad G b0)), (1, .int x1)] → W p l e rm_X8_goWeek s m args below meth c H locs 0 0 (MQ below (Qv G z L) args s 0 0 (gA G)) (F0 m 2 ls []) := by
  intro n
  induction n with
  | zero =>
    intro x1 Mx h
    have h : (none : Option (Mem)) = some z := h
    cases h
  | succ n ih =>
    intro x1 Mx h H locs d ls hl
    rw [lp_X8_goWeek_2] at h
    refine lv_iload_n S.1 S.2.1 dX8_goWeek_2 rfl (lv_at hl 1 rfl) ?_
    refine lv_bipush (v := 15) S.1 S.2.1 dX8_goWeek_3 (by decide) ?_
    refine lv_aload_n S.1 S.2.1 dX8_goWeek_5 rfl (lv_at hl 0 rfl) ?_
    refine gf_20_7 S d hb0 fl_RX8_71 dX8_goWeek_6 ?_
    refine lv_imul S.1 S.2.1 dX8_goWeek_9 ?_
    refine lv_icmp_ge (tgt := 51) S.1 S.2.1 dX8_goWeek_10 (by decide) (fun cc => ?_) (fun cc => ?_)
    · replace h := it_p cc h
      exact hK _ _ _ d _ (lv_sub hl [] rfl) h
    · replace h := it_n cc h
      refine lv_aload_n S.1 S.2.1 dX8_goWeek_13 rfl (lv_at hl 0 rfl) ?_
      refine gf_20_2 S d hb0 fl_RX8_16 dX8_goWeek_14 ?_
      refine lv_iload_n S.1 S.2.1 dX8_goWeek_17 rfl (lv_at hl 1 rfl) ?_
      obtain ⟨g1, h⟩ := gd_e h
      refine r_iald S d (ksdM S (ch_20_2 hb0).1) (wc_21 (ch_20_2 hb0).1) (ch_20_2 hb0).2 g1 dX8_goWeek_18 ?_
      refine lv_aload_n S.1 S.2.1 dX8_goWeek_19 rfl (lv_at hl 0 rfl) ?_
      refine gf_20_4 S d hb0 fl_RX8_22 dX8_goWeek_20 ?_
      refine lv_iconst (v := 0) S.1 S.2.1 dX8_goWeek_23 (by decide) ?_
      obtain ⟨g2, h⟩ := gd_e h
      refine r_iald S d (ksdM S (ch_20_4 hb0).1) (wc_21 (ch_20_4 hb0).1) (ch_20_4 hb0).2 g2 dX8_goWeek_24 ?_
      refine lv_iadd S.1 S.2.1 dX8_goWeek_25 ?_
      obtain ⟨v3, ev3, h⟩ := lt_e h
      refine r_top ev3 ?_
      refine lv_istore_n (lv' := [(2, .int v3), (0, .ref (ad G b0)), (1, .int x1)]) S.1 S.2.1 dX8_goWeek_26 rfl hl (by decide) rfl (fun ls hl => ?_)
      refine lv_aload_n S.1 S.2.1 dX8_goWeek_27 rfl (lv_at hl 1 rfl) ?_
      refine gf_20_2 S d hb0 fl_RX8_16 dX8_goWeek_28 ?_
      refine lv_iload_n S.1 S.2.1 dX8_goWeek_31 rfl (lv_at hl 2 rfl) ?_
      refine lv_iload_n S.1 S.2.1 dX8_goWeek_32 rfl (lv_at hl 0 rfl) ?_
      refine lv_bipush (v := 9) S.1 S.2.1 dX8_goWeek_33 (by decide) ?_
      obtain ⟨t4, g5, h⟩ := bd_e h
      have Jt4 : ∀ (H : Heap) (locs : List Loc), Dy G s Mx L H locs → W p l e rm_X8_goWeek s m args below meth c H locs 0 0 (MQ below (Qv G z L) args s 0 0 (gA G)) (F0 m 44 ls [.int t4, .int x1, .ref (ad G (b0 + 3))]) := by
        intro H locs d
        obtain ⟨g6, h⟩ := gd_e h
        obtain ⟨M7, eM7, h⟩ := lt_e h
        refine r_iast S d eM7 (ksdM S (ch_20_2 hb0).1) (fun _ => wc_21 (ch_20_2 hb0).1) (ch_20_2 hb0).2 g6 dX8_goWeek_44 (fun H locs d => ?_)
        obtain ⟨v8, ev8, h⟩ := lt_e h
        refine lv_iinc (v := v8) (lv' := [(1, .int v8), (2, .int v3), (0, .ref (ad G b0))]) S.1 S.2.1 dX8_goWeek_45 hl (k := 2) rfl (by rw [ev8]; rfl) (by decide) rfl (fun ls hl => ?_)
        refine lv_goto (tgt := 2) S.1 S.2.1 dX8_goWeek_48 (by decide) ?_
        exact ih _ _ h _ _ d _ (lv_sub hl [2, 0] rfl)
      have h := g5
      refine lv_icmp_le (tgt := 43) S.1 S.2.1 dX8_goWeek_35 (by decide) (fun cc => ?_) (fun cc => ?_)
      · replace h := it_p cc h
        refine lv_iload_n S.1 S.2.1 dX8_goWeek_43 rfl (lv_at hl 0 rfl) ?_
        obtain ej := Option.some.inj h
        refine r_top ej.symm ?_
        exact Jt4 _ _ d
      · replace h := it_n cc h
        refine lv_bipush (v := 9) S.1 S.2.1 dX8_goWeek_38 (by decide) ?_
        refine lv_goto (tgt := 44) S.1 S.2.1 dX8_goWeek_40 (by decide) ?_
        obtain ej := Option.some.inj h
        refine r_top ej.symm ?_
        exact Jt4 _ _ d
set_option maxHeartbeats 4000000 in
set_option maxRecDepth 100000 in
theorem c_X8_goWeek (l : Launch) (G : Gx) (M : Mem) (L : MemL) (fu : Nat) (k0 : Nat) (hk0 : kd k0 = 20) {z : Mem} (h : f_X8_goWeek fu M k0 = some z) : Met l yX8_goWeek (.code yX8_goWeek cX8_goWeek 3 (Option.none : Option Jvm.ClassFile.FieldType) :: UW) rm_X8_goWeek (va_Pc [.ref (ad G k0)] (PreG G true M L)) (Qv G z L) 0 0 (gA G) := by
  refine r_in (by decide) (fun p e s m args below meth c S hr d ha ls hl => ?_) (Nat.le_of_ble_eq_true rfl)
  have S : Sx G true p s m args meth c cX8_goWeek 3 RX8 := S
  have hl : lv_has ls 3 [(0, .ref (ad G k0))] := hl
  unfold f_X8_goWeek at h
  refine lv_iconst (v := 0) S.1 S.2.1 dX8_goWeek_0 (by decide) ?_
  refine lv_istore_n (lv' := [(1, .int (0 : Int32)), (0, .ref (ad G k0))]) S.1 S.2.1 dX8_goWeek_1 rfl hl (by decide) rfl (fun ls hl => ?_)
  refine lc_X8_goWeek_2 S hr hk0 _ (fun M9 H locs d ls hl h => ?_) _ _ _  h _ _ d _ (lv_sub hl [1, 0] rfl)
  obtain rfl := Option.some.inj h
  exact r_vret S d hr dX8_goWeek_51
theorem hyV_X8_weeks : yX8_weeks.cls = RX8 ∧ yX8_weeks.cls ≠ "java/lang/invoke/MethodHandle" ∧ yX8_weeks.cls ≠ "java/lang/invoke/VarHandle" ∧ (parseMethodDescriptor yX8_weeks.desc).map (fun d => d.parameters.length) = some 1 := by decide +kernel
abbrev rm_X8_weeks : Room := { frames := 1, cells := 0, slots := 0, locals := 25 }
def lp_X8_weeks_16 (fu : Nat) (b0 : Nat) (b1 : Int32) (K : Mem → Option (Int32 × Mem)) : Nat → Int32 → Mem → Option (Int32 × Mem)
  | 0, _, _ => none
  | n + 1, x2, Mx =>
    (if b1 ≤ x2 then (K Mx)
    else (f_X8_goWeek fu Mx b0).bind (fun u2 =>
      lt (x2 + 1) (fun v3 : Int32 =>
      (lp_X8_weeks_16 fu b0 b1 K n v3 u2))))
def lp_X8_weeks_35 (fu : Nat) (M : Mem) (b0 : Nat) (K : Int32 → Option (Int32 × Mem)) : Nat → Int32 → Int32 → Option (Int32 × Mem)
  | 0, _, _ => none
  | n + 1, x2, x3 =>
    (if ((15 : Int32) * (M b0 7)) ≤ x3 then (K x2)
    else gd (inb x3 135) (
      (if (M (b0 + 3) x3.toNatClampNeg) = (9 : Int32) then some (1 : Int32)
      else some (0 : Int32)).bind (fun t6 : Int32 =>
      lt ((x2 + t6)) (fun v8 : Int32 =>
      lt (x3 + 1) (fun v9 : Int32 =>
      (lp_X8_weeks_35 fu M b0 K n v8 v9))))))
def f_X8_weeks (fu : Nat) (M : Mem) (k0 : Nat) (a1 : Int32) : Option (Int32 × Mem) :=
  (f_X8_in ((a1).toInt64) (1 : Int64) (30 : Int64)).bind (fun u1 =>
  (if u1 = 0 then some ((-1 : Int32), M)
  else (lp_X8_weeks_16 fu k0 a1 (fun (M4 : Mem) =>
      (lp_X8_weeks_35 fu M4 k0 (fun (v10 : Int32) =>
        some (v10, M4)) fu (0 : Int32) (0 : Int32))) fu (0 : Int32) M)))
set_option maxHeartbeats 4000000 in
set_option maxRecDepth 100000 in
theorem lc_X8_weeks_16 {p : Program} {l : Launch} {e : Env} {s : State} {m : MethodId} {args : Array Value} {below : List Frame} {meth : Method} {c : Code} {G : Gx} {L : MemL} {fu : Nat} {b0 : Nat} {b1 : Int32} {z : Int32 × Mem} (S : Sx G true p s m args meth c cX8_weeks 4 RX8) (hr : meth.sig.returnType = (Option.some Jvm.ClassFile.FieldType.int)) (hb0 : kd b0 = 20) (K : Mem → Option (Int32 × Mem)) (hK : ∀ (My : Mem) (H : Heap) (locs : List Loc), Dy G s My L H locs → ∀ ls : Array Slot, lv_has ls 4 [(0, .ref (ad G b0))] → K My = some z → W p l e rm_X8_weeks s m args below meth c H locs 0 0 (MQ below (Qi G z.1 z.2 L) args s 0 0 (gA G)) (F0 m 31 ls [])) :
    ∀ (n : Nat) (x2 : Int32) (Mx : Mem), lp_X8_weeks_16 fu b0 b1 K n x2 Mx = some z → ∀ (H : Heap) (locs : List Loc), Dy G s Mx L H locs → ∀ ls : Array Slot, lv_has ls 4 [(0, .ref (ad G b0)), (1, .int b1), (2, .int x2)] → W p l e rm_X8_weeks s m args below meth c H locs 0 0 (MQ below (Qi G z.1 z.2 L) args s 0 0 (gA G)) (F0 m 16 ls []) := by
  intro n
  induction n with
  | zero =>
    intro x2 Mx h
    have h : (none : Option (Int32 × Mem)) = some z := h
    cases h
  | succ n ih =>
    intro x2 Mx h H locs d ls hl
    rw [lp_X8_weeks_16] at h
    refine lv_iload_n S.1 S.2.1 dX8_weeks_16 rfl (lv_at hl 2 rfl) ?_
    refine lv_iload_n S.1 S.2.1 dX8_weeks_17 rfl (lv_at hl 1 rfl) ?_
    refine lv_icmp_ge (tgt := 31) S.1 S.2.1 dX8_weeks_18 (by decide) (fun cc => ?_) (fun cc => ?_)
    · replace h := it_p cc h
      exact hK _ _ _ d _ (lv_sub hl [0] rfl) h
    · replace h := it_n cc h
      refine lv_aload_n S.1 S.2.1 dX8_weeks_21 rfl (lv_at hl 0 rfl) ?_
      obtain ⟨u2, hu2, h⟩ := bd_e h
      refine r_rv d (r_cV (As := []) (rest := []) S d (c_X8_goWeek l G Mx L fu b0 hb0 hu2) (ksdM S hb0) (wc_20 hb0) rfl ml_RX8_130 im_yX8_goWeek se_yX8_goWeek in_RX8 co_yX8_goWeek hyV_X8_goWeek ⟨rfl, rfl⟩ ⟨by decide, by decide⟩ rfl hl rfl (Nat.le_of_ble_eq_true rfl) dX8_weeks_22 ⟨Nat.zero_le _, Nat.zero_le _⟩) (fun H locs d => ?_)
      obtain ⟨v3, ev3, h⟩ := lt_e h
      refine lv_iinc (v := v3) (lv' := [(2, .int v3), (0, .ref (ad G b0)), (1, .int b1)]) S.1 S.2.1 dX8_weeks_25 hl (k := 2) rfl (by rw [ev3]; rfl) (by decide) rfl (fun ls hl => ?_)
      refine lv_goto (tgt := 16) S.1 S.2.1 dX8_weeks_28 (by decide) ?_
      exact ih _ _ h _ _ d _ (lv_sub hl [1, 2, 0] rfl)
set_option maxHeartbeats 4000000 in
set_option maxRecDepth 100000 in
theorem lc_X8_weeks_35 {p : Program} {l : Launch} {e : Env} {s : State} {m : MethodId} {args : Array Value} {below : List Frame} {meth : Method} {c : Code} {G : Gx} {M : Mem} {L : MemL} {fu : Nat} {b0 : Nat} {z : Int32 × Mem} (S : Sx G true p s m args meth c cX8_weeks 4 RX8) (hr : meth.sig.returnType = (Option.some Jvm.ClassFile.FieldType.int)) (hb0 : kd b0 = 20) (K : Int32 → Option (Int32 × Mem)) (hK : ∀ (y2 : Int32) (H : Heap) (locs : List Loc), Dy G s M L H locs → ∀ ls : Array Slot, lv_has ls 4 [(2, .int y2)] → K y2 = some z → W p l e rm_X8_weeks s m args below meth c H locs 0 0 (MQ below (Qi G z.1 z.2 L) args s 0 0 (gA G)) (F0 m 71 ls [])) :
    ∀ (n : Nat) (x2 : Int32) (x3 : Int32), lp_X8_weeks_35 fu M b0 K n x2 x3 = some z → ∀ (H : Heap) (locs : List Loc), Dy G s M L H locs → ∀ ls : Array Slot, lv_has ls 4 [(0, .ref (ad G b0)), (2, .int x2), (3, .int x3)] → W p l e rm_X8_weeks s m args below meth c H locs 0 0 (MQ below (Qi G z.1 z.2 L) args s 0 0 (gA G)) (F0 m 35 ls []) := by
  intro n
  induction n with
  | zero =>
    intro x2 x3 h
    have h : (none : Option (Int32 × Mem)) = some z := h
    cases h
  | succ n ih =>
    intro x2 x3 h H locs d ls hl
    rw [lp_X8_weeks_35] at h
    refine lv_iload_n S.1 S.2.1 dX8_weeks_35 rfl (lv_at hl 2 rfl) ?_
    refine lv_bipush (v := 15) S.1 S.2.1 dX8_weeks_36 (by decide) ?_
    refine lv_aload_n S.1 S.2.1 dX8_weeks_38 rfl (lv_at hl 0 rfl) ?_
    refine gf_20_7 S d hb0 fl_RX8_71 dX8_weeks_39 ?_
    refine lv_imul S.1 S.2.1 dX8_weeks_42 ?_
    refine lv_icmp_ge (tgt := 71) S.1 S.2.1 dX8_weeks_43 (by decide) (fun cc => ?_) (fun cc => ?_)
    · replace h := it_p cc h
      exact hK _ _ _ d _ (lv_sub hl [1] rfl) h
    · replace h := it_n cc h
      refine lv_iload_n S.1 S.2.1 dX8_weeks_46 rfl (lv_at hl 1 rfl) ?_
      refine lv_aload_n S.1 S.2.1 dX8_weeks_47 rfl (lv_at hl 0 rfl) ?_
      refine gf_20_2 S d hb0 fl_RX8_16 dX8_weeks_48 ?_
      refine lv_iload_n S.1 S.2.1 dX8_weeks_51 rfl (lv_at hl 2 rfl) ?_
      obtain ⟨g5, h⟩ := gd_e h
      refine r_iald S d (ksdM S (ch_20_2 hb0).1) (wc_21 (ch_20_2 hb0).1) (ch_20_2 hb0).2 g5 dX8_weeks_52 ?_
      refine lv_bipush (v := 9) S.1 S.2.1 dX8_weeks_53 (by decide) ?_
      obtain ⟨t6, g7, h⟩ := bd_e h
      have Jt6 : ∀ (H : Heap) (locs : List Loc), Dy G s M L H locs → W p l e rm_X8_weeks s m args below meth c H locs 0 0 (MQ below (Qi G z.1 z.2 L) args s 0 0 (gA G)) (F0 m 63 ls [.int t6, .int x2]) := by
        intro H locs d
        refine lv_iadd S.1 S.2.1 dX8_weeks_63 ?_
        obtain ⟨v8, ev8, h⟩ := lt_e h
        refine r_top ev8 ?_
        refine lv_istore_n (lv' := [(2, .int v8), (0, .ref (ad G b0)), (3, .int x3)]) S.1 S.2.1 dX8_weeks_64 rfl hl (by decide) rfl (fun ls hl => ?_)
        obtain ⟨v9, ev9, h⟩ := lt_e h
        refine lv_iinc (v := v9) (lv' := [(3, .int v9), (2, .int v8), (0, .ref (ad G b0))]) S.1 S.2.1 dX8_weeks_65 hl (k := 2) rfl (by rw [ev9]; rfl) (by decide) rfl (fun ls hl => ?_)
        refine lv_goto (tgt := 35) S.1 S.2.1 dX8_weeks_68 (by decide) ?_
        exact ih _ _ h _ _ d _ (lv_sub hl [2, 1, 0] rfl)
      have h := g7
      refine lv_icmp_ne (tgt := 62) S.1 S.2.1 dX8_weeks_55 (by decide) (fun cc => ?_) (fun cc => ?_)
      · replace h := it_n cc h
        refine lv_iconst (v := 0) S.1 S.2.1 dX8_weeks_62 (by decide) ?_
        obtain ej := Option.some.inj h
        refine r_top ej.symm ?_
        exact Jt6 _ _ d
      · replace h := it_p cc h
        refine lv_iconst (v := 1) S.1 S.2.1 dX8_weeks_58 (by decide) ?_
        refine lv_goto (tgt := 63) S.1 S.2.1 dX8_weeks_59 (by decide) ?_
        obtain ej := Option.some.inj h
        refine r_top ej.symm ?_
        exact Jt6 _ _ d
set_option maxHeartbeats 4000000 in
set_option maxRecDepth 100000 in
theorem c_X8_weeks (l : Launch) (G : Gx) (M : Mem) (L : MemL) (fu : Nat) (k0 : Nat) (a1 : Int32) (hk0 : kd k0 = 20) {z : Int32 × Mem} (h : f_X8_weeks fu M k0 a1 = some z) : Met l yX8_weeks (.code yX8_weeks cX8_weeks 4 (Option.some Jvm.ClassFile.FieldType.int) :: UW) rm_X8_weeks (va_Pc [.ref (ad G k0), .int a1] (PreG G true M L)) (Qi G z.1 z.2 L) 0 0 (gA G) := by
  refine r_in (by decide) (fun p e s m args below meth c S hr d ha ls hl => ?_) (Nat.le_of_ble_eq_true rfl)
  have S : Sx G true p s m args meth c cX8_weeks 4 RX8 := S
  have hl : lv_has ls 4 [(0, .ref (ad G k0)), (1, .int a1)] := hl
  unfold f_X8_weeks at h
  refine lv_iload_n S.1 S.2.1 dX8_weeks_0 rfl (lv_at hl 1 rfl) ?_
  refine lv_i2l S.1 S.2.1 dX8_weeks_1 rfl ?_
  refine lv_lconst (v := 1) S.1 S.2.1 dX8_weeks_2 (by decide) ?_
  refine lv_ldc2 (v := 30) S.1 S.2.1 S.2.2.2.1 (S.uw cn_RX8_128) dX8_weeks_3 ?_
  obtain ⟨u1, hu1, h⟩ := bd_e h
  refine r_ri d (r_cS (As := [.long ((a1).toInt64), .long (1 : Int64), .long (30 : Int64)]) (rest := []) S d (c_X8_in l G M L ((a1).toInt64) (1 : Int64) (30 : Int64) hu1) ml_RX8_75 sm_yX8_in in_RX8 co_yX8_in hyS_X8_in ⟨rfl, rfl⟩ ⟨by decide, by decide⟩ rfl hl rfl (Nat.le_of_ble_eq_true rfl) dX8_weeks_6 ⟨Nat.zero_le _, Nat.zero_le _⟩) (fun H locs d => ?_)
  refine lv_if_ne (tgt := 14) S.1 S.2.1 dX8_weeks_9 (by decide) (fun cc => ?_) (fun cc => ?_)
  · replace h := it_n cc h
    refine lv_iconst (v := 0) S.1 S.2.1 dX8_weeks_14 (by decide) ?_
    refine lv_istore_n (lv' := [(2, .int (0 : Int32)), (0, .ref (ad G k0)), (1, .int a1)]) S.1 S.2.1 dX8_weeks_15 rfl hl (by decide) rfl (fun ls hl => ?_)
    refine lc_X8_weeks_16 S hr hk0 _ (fun M4 H locs d ls hl h => ?_) _ _ _  h _ _ d _ (lv_sub hl [1, 2, 0] rfl)
    refine lv_iconst (v := 0) S.1 S.2.1 dX8_weeks_31 (by decide) ?_
    refine lv_istore_n (lv' := [(2, .int (0 : Int32)), (0, .ref (ad G k0))]) S.1 S.2.1 dX8_weeks_32 rfl hl (by decide) rfl (fun ls hl => ?_)
    refine lv_iconst (v := 0) S.1 S.2.1 dX8_weeks_33 (by decide) ?_
    refine lv_istore_n (lv' := [(3, .int (0 : Int32)), (2, .int (0 : Int32)), (0, .ref (ad G k0))]) S.1 S.2.1 dX8_weeks_34 rfl hl (by decide) rfl (fun ls hl => ?_)
    refine lc_X8_weeks_35 S hr hk0 _ (fun v10 H locs d ls hl h => ?_) _ _ _  h _ _ d _ (lv_sub hl [2, 1, 0] rfl)
    refine lv_iload_n S.1 S.2.1 dX8_weeks_71 rfl (lv_at hl 0 rfl) ?_
    obtain rfl := Option.some.inj h
    exact r_iret S d hr rfl rfl dX8_weeks_72
  · replace h := it_p cc h
    refine lv_iconst (v := (-1)) S.1 S.2.1 dX8_weeks_12 (by decide) ?_
    obtain rfl := Option.some.inj h
    exact r_iret S d hr rfl rfl dX8_weeks_13
theorem hyV_X8_hay : yX8_hay.cls = RX8 ∧ yX8_hay.cls ≠ "java/lang/invoke/MethodHandle" ∧ yX8_hay.cls ≠ "java/lang/invoke/VarHandle" ∧ (parseMethodDescriptor yX8_hay.desc).map (fun d => d.parameters.length) = some 1 := by decide +kernel
abbrev rm_X8_hay : Room := { frames := 1, cells := 0, slots := 0, locals := 25 }
def f_X8_hay (M : Mem) (k0 : Nat) (a1 : Int32) : Option (Int32) :=
  (f_X8_in ((a1).toInt64) (0 : Int64) (5 : Int64)).bind (fun u1 =>
  (if u1 = 0 then some ((-1 : Int32))
  else gd (inb a1 6) (
    some ((M (k0 + 4) a1.toNatClampNeg)))))
set_option maxHeartbeats 4000000 in
set_option maxRecDepth 100000 in
theorem c_X8_hay (l : Launch) (G : Gx) (M : Mem) (L : MemL) (k0 : Nat) (a1 : Int32) (hk0 : kd k0 = 20) {z : Int32} (h : f_X8_hay M k0 a1 = some z) : Met l yX8_hay (.code yX8_hay cX8_hay 2 (Option.some Jvm.ClassFile.FieldType.int) :: UW) rm_X8_hay (va_Pc [.ref (ad G k0), .int a1] (PreG G true M L)) (Qi G z M L) 0 0 (gA G) := by
  refine r_in (by decide) (fun p e s m args below meth c S hr d ha ls hl => ?_) (Nat.le_of_ble_eq_true rfl)
  have S : Sx G true p s m args meth c cX8_hay 2 RX8 := S
  have hl : lv_has ls 2 [(0, .ref (ad G k0)), (1, .int a1)] := hl
  unfold f_X8_hay at h
  refine lv_iload_n S.1 S.2.1 dX8_hay_0 rfl (lv_at hl 1 rfl) ?_
  refine lv_i2l S.1 S.2.1 dX8_hay_1 rfl ?_
  refine lv_lconst (v := 0) S.1 S.2.1 dX8_hay_2 (by decide) ?_
  refine lv_ldc2 (v := 5) S.1 S.2.1 S.2.2.2.1 (S.uw cn_RX8_86) dX8_hay_3 ?_
  obtain ⟨u1, hu1, h⟩ := bd_e h
  refine r_ri d (r_cS (As := [.long ((a1).toInt64), .long (0 : Int64), .long (5 : Int64)]) (rest := []) S d (c_X8_in l G M L ((a1).toInt64) (0 : Int64) (5 : Int64) hu1) ml_RX8_75 sm_yX8_in in_RX8 co_yX8_in hyS_X8_in ⟨rfl, rfl⟩ ⟨by decide, by decide⟩ rfl hl rfl (Nat.le_of_ble_eq_true rfl) dX8_hay_6 ⟨Nat.zero_le _, Nat.zero_le _⟩) (fun H locs d => ?_)
  refine lv_if_eq (tgt := 21) S.1 S.2.1 dX8_hay_9 (by decide) (fun cc => ?_) (fun cc => ?_)
  · replace h := it_p cc h
    refine lv_iconst (v := (-1)) S.1 S.2.1 dX8_hay_21 (by decide) ?_
    obtain rfl := Option.some.inj h
    exact r_iret S d hr rfl rfl dX8_hay_22
  · replace h := it_n cc h
    refine lv_aload_n S.1 S.2.1 dX8_hay_12 rfl (lv_at hl 0 rfl) ?_
    refine gf_20_3 S d hk0 fl_RX8_19 dX8_hay_13 ?_
    refine lv_iload_n S.1 S.2.1 dX8_hay_16 rfl (lv_at hl 1 rfl) ?_
    obtain ⟨g2, h⟩ := gd_e h
    refine r_iald S d (ksdM S (ch_20_3 hk0).1) (wc_21 (ch_20_3 hk0).1) (ch_20_3 hk0).2 g2 dX8_hay_17 ?_
    refine lv_goto (tgt := 22) S.1 S.2.1 dX8_hay_18 (by decide) ?_
    obtain rfl := Option.some.inj h
    exact r_iret S d hr rfl rfl dX8_hay_22
theorem hyV_X8_type : yX8_type.cls = RX8 ∧ yX8_type.cls ≠ "java/lang/invoke/MethodHandle" ∧ yX8_type.cls ≠ "java/lang/invoke/VarHandle" ∧ (parseMethodDescriptor yX8_type.desc).map (fun d => d.parameters.length) = some 2 := by decide +kernel
abbrev rm_X8_type : Room := { frames := 1, cells := 0, slots := 0, locals := 25 }
def lp_X8_type_19 (fu : Nat) (M : Mem) (b0 : Nat) (b1 : Int64) (b3 : Int32) (K : Unit → Option (Int32 × Mem)) : Nat → Int32 → Option (Int32 × Mem)
  | 0, _ => none
  | n + 1, x4 =>
    (if x4 < 0 then (K ())
    else (f_X8_in ((b1 >>> ((((8 : Int32) * x4)).toInt64 &&& 63)) &&& (255 : Int64)) (32 : Int64) (126 : Int64)).bind (fun u3 =>
      (if u3 = 0 then some ((-1 : Int32), M)
      else lt (x4 + (-1)) (fun v4 : Int32 =>
        (lp_X8_type_19 fu M b0 b1 b3 K n v4)))))
def lp_X8_type_74 (fu : Nat) (b0 : Nat) (b1 : Int64) (K : Mem → Option (Int32 × Mem)) : Nat → Int32 → Mem → Option (Int32 × Mem)
  | 0, _, _ => none
  | n + 1, x4, Mx =>
    (if x4 < 0 then (K Mx)
    else gd (inb (Mx b0 10) 80) (
      lt (up Mx (b0 + 8) (Mx b0 10).toNatClampNeg ((((b1 >>> ((((8 : Int32) * x4)).toInt64 &&& 63)) &&& (255 : Int64))).toInt32)) (fun M7 : Mem =>
      lt (up M7 b0 10 ((M7 b0 10) + (1 : Int32))) (fun M8 : Mem =>
      lt (x4 + (-1)) (fun v9 : Int32 =>
      (lp_X8_type_74 fu b0 b1 K n v9 M8))))))
def f_X8_type (fu : Nat) (M : Mem) (k0 : Nat) (a1 : Int64) (a3 : Int32) : Option (Int32 × Mem) :=
  (f_X8_in ((a3).toInt64) (1 : Int64) (8 : Int64)).bind (fun u1 =>
  (if u1 = 0 then some ((-1 : Int32), M)
  else lt ((a3 - (1 : Int32))) (fun v2 : Int32 =>
    (lp_X8_type_19 fu M k0 a1 a3 (fun (_ : Unit) =>
      (if ((M k0 10) + a3) ≤ (80 : Int32) then lt ((a3 - (1 : Int32))) (fun v5 : Int32 =>
        (lp_X8_type_74 fu k0 a1 (fun (M10 : Mem) =>
          some ((M10 k0 10), M10)) fu v5 M))
      else some ((-3 : Int32), M))) fu v2))))
set_option maxHeartbeats 4000000 in
set_option maxRecDepth 100000 in
theorem lc_X8_type_19 {p : Program} {l : Launch} {e : Env} {s : State} {m : MethodId} {args : Array Value} {below : List Frame} {meth : Method} {c : Code} {G : Gx} {M : Mem} {L : MemL} {fu : Nat} {b0 : Nat} {b1 : Int64} {b3 : Int32} {z : Int32 × Mem} (S : Sx G true p s m args meth c cX8_type 5 RX8) (hr : meth.sig.returnType = (Option.some Jvm.ClassFile.FieldType.int)) (hb0 : kd b0 = 20) (K : Unit → Option (Int32 × Mem)) (hK : ∀ (_ : Unit) (H : Heap) (locs : List Loc), Dy G s M L H locs → ∀ ls : Array Slot, lv_has ls 5 [(0, .ref (ad G b0)), (1, .long b1), (3, .int b3)] → K () = some z → W p l e rm_X8_type s m args below meth c H locs 0 0 (MQ below (Qi G z.1 z.2 L) args s 0 0 (gA G)) (F0 m 55 ls [])) :
    ∀ (n : Nat) (x4 : Int32), lp_X8_type_19 fu M b0 b1 b3 K n x4 = some z → ∀ (H : Heap) (locs : List Loc), Dy G s M L H locs → ∀ ls : Array Slot, lv_has ls 5 [(0, .ref (ad G b0)), (1, .long b1), (3, .int b3), (4, .int x4)] → W p l e rm_X8_type s m args below meth c H locs 0 0 (MQ below (Qi G z.1 z.2 L) args s 0 0 (gA G)) (F0 m 19 ls []) := by
  intro n
  induction n with
  | zero =>
    intro x4 h
    have h : (none : Option (Int32 × Mem)) = some z := h
    cases h
  | succ n ih =>
    intro x4 h H locs d ls hl
    rw [lp_X8_type_19] at h
    refine lv_iload S.1 S.2.1 dX8_type_19 (lv_at hl 3 rfl) ?_
    refine lv_if_lt (tgt := 55) S.1 S.2.1 dX8_type_21 (by decide) (fun cc => ?_) (fun cc => ?_)
    · replace h := it_p cc h
      exact hK () _ _ d _ (lv_sub hl [0, 1, 2] rfl) h
    · replace h := it_n cc h
      refine lv_lload_n S.1 S.2.1 dX8_type_24 rfl (lv_at hl 1 rfl) ?_
      refine lv_bipush (v := 8) S.1 S.2.1 dX8_type_25 (by decide) ?_
      refine lv_iload S.1 S.2.1 dX8_type_27 (lv_at hl 3 rfl) ?_
      refine lv_imul S.1 S.2.1 dX8_type_29 ?_
      refine lv_lshr S.1 S.2.1 dX8_type_30 rfl ?_
      refine lv_ldc2 (v := 255) S.1 S.2.1 S.2.2.2.1 (S.uw cn_RX8_135) dX8_type_31 ?_
      refine lv_land S.1 S.2.1 dX8_type_34 ?_
      refine lv_ldc2 (v := 32) S.1 S.2.1 S.2.2.2.1 (S.uw cn_RX8_137) dX8_type_35 ?_
      refine lv_ldc2 (v := 126) S.1 S.2.1 S.2.2.2.1 (S.uw cn_RX8_139) dX8_type_38 ?_
      obtain ⟨u3, hu3, h⟩ := bd_e h
      refine r_ri d (r_cS (As := [.long ((b1 >>> ((((8 : Int32) * x4)).toInt64 &&& 63)) &&& (255 : Int64)), .long (32 : Int64), .long (126 : Int64)]) (rest := []) S d (c_X8_in l G M L ((b1 >>> ((((8 : Int32) * x4)).toInt64 &&& 63)) &&& (255 : Int64)) (32 : Int64) (126 : Int64) hu3) ml_RX8_75 sm_yX8_in in_RX8 co_yX8_in hyS_X8_in ⟨rfl, rfl⟩ ⟨by decide, by decide⟩ rfl hl rfl (Nat.le_of_ble_eq_true rfl) dX8_type_41 ⟨Nat.zero_le _, Nat.zero_le _⟩) (fun H locs d => ?_)
      refine lv_if_ne (tgt := 49) S.1 S.2.1 dX8_type_44 (by decide) (fun cc => ?_) (fun cc => ?_)
      · replace h := it_n cc h
        obtain ⟨v4, ev4, h⟩ := lt_e h
        refine lv_iinc (v := v4) (lv' := [(4, .int v4), (0, .ref (ad G b0)), (1, .long b1), (3, .int b3)]) S.1 S.2.1 dX8_type_49 hl (k := 3) rfl (by rw [ev4]; rfl) (by decide) rfl (fun ls hl => ?_)
        refine lv_goto (tgt := 19) S.1 S.2.1 dX8_type_52 (by decide) ?_
        exact ih _ h _ _ d _ (lv_sub hl [1, 2, 3, 0] rfl)
      · replace h := it_p cc h
        refine lv_iconst (v := (-1)) S.1 S.2.1 dX8_type_47 (by decide) ?_
        obtain rfl := Option.some.inj h
        exact r_iret S d hr rfl rfl dX8_type_48
set_option maxHeartbeats 4000000 in
set_option maxRecDepth 100000 in
theorem lc_X8_type_74 {p : Program} {l : Launch} {e : Env} {s : State} {m : MethodId} {args : Array Value} {below : List Frame} {meth : Method} {c : Code} {G : Gx} {L : MemL} {fu : Nat} {b0 : Nat} {b1 : Int64} {z : Int32 × Mem} (S : Sx G true p s m args meth c cX8_type 5 RX8) (hr : meth.sig.returnType = (Option.some Jvm.ClassFile.FieldType.int)) (hb0 : kd b0 = 20) (K : Mem → Option (Int32 × Mem)) (hK : ∀ (My : Mem) (H : Heap) (locs : List Loc), Dy G s My L H locs → ∀ ls : Array Slot, lv_has ls 5 [(0, .ref (ad G b0))] → K My = some z → W p l e rm_X8_type s m args below meth c H locs 0 0 (MQ below (Qi G z.1 z.2 L) args s 0 0 (gA G)) (F0 m 116 ls [])) :
    ∀ (n : Nat) (x4 : Int32) (Mx : Mem), lp_X8_type_74 fu b0 b1 K n x4 Mx = some z → ∀ (H : Heap) (locs : List Loc), Dy G s Mx L H locs → ∀ ls : Array Slot, lv_has ls 5 [(0, .ref (ad G b0)), (1, .long b1), (4, .int x4)] → W p l e rm_X8_type s m args below meth c H locs 0 0 (MQ below (Qi G z.1 z.2 L) args s 0 0 (gA G)) (F0 m 74 ls []) := by
  intro n
  induction n with
  | zero =>
    intro x4 Mx h
    have h : (none : Option (Int32 × Mem)) = some z := h
    cases h
  | succ n ih =>
    intro x4 Mx h H locs d ls hl
    rw [lp_X8_type_74] at h
    refine lv_iload S.1 S.2.1 dX8_type_74 (lv_at hl 2 rfl) ?_
    refine lv_if_lt (tgt := 116) S.1 S.2.1 dX8_type_76 (by decide) (fun cc => ?_) (fun cc => ?_)
    · replace h := it_p cc h
      exact hK _ _ _ d _ (lv_sub hl [0] rfl) h
    · replace h := it_n cc h
      refine lv_aload_n S.1 S.2.1 dX8_type_79 rfl (lv_at hl 0 rfl) ?_
      refine gf_20_9 S d hb0 fl_RX8_31 dX8_type_80 ?_
      refine lv_aload_n S.1 S.2.1 dX8_type_83 rfl (lv_at hl 0 rfl) ?_
      refine gf_20_10 S d hb0 fl_RX8_141 dX8_type_84 ?_
      refine lv_lload_n S.1 S.2.1 dX8_type_87 rfl (lv_at hl 1 rfl) ?_
      refine lv_bipush (v := 8) S.1 S.2.1 dX8_type_88 (by decide) ?_
      refine lv_iload S.1 S.2.1 dX8_type_90 (lv_at hl 2 rfl) ?_
      refine lv_imul S.1 S.2.1 dX8_type_92 ?_
      refine lv_lshr S.1 S.2.1 dX8_type_93 rfl ?_
      refine lv_ldc2 (v := 255) S.1 S.2.1 S.2.2.2.1 (S.uw cn_RX8_135) dX8_type_94 ?_
      refine lv_land S.1 S.2.1 dX8_type_97 ?_
      refine lv_l2i S.1 S.2.1 dX8_type_98 rfl ?_
      obtain ⟨g6, h⟩ := gd_e h
      obtain ⟨M7, eM7, h⟩ := lt_e h
      refine r_iast S d eM7 (ksdM S (ch_20_9 hb0).1) (fun _ => wc_21 (ch_20_9 hb0).1) (ch_20_9 hb0).2 g6 dX8_type_99 (fun H locs d => ?_)
      refine lv_aload_n S.1 S.2.1 dX8_type_100 rfl (lv_at hl 0 rfl) ?_
      refine lv_dup S.1 S.2.1 dX8_type_101 rfl ?_
      refine gf_20_10 S d hb0 fl_RX8_141 dX8_type_102 ?_
      refine lv_iconst (v := 1) S.1 S.2.1 dX8_type_105 (by decide) ?_
      refine lv_iadd S.1 S.2.1 dX8_type_106 ?_
      obtain ⟨M8, eM8, h⟩ := lt_e h
      refine pf_20_10 S d eM8 hb0 fl_RX8_141 dX8_type_107 (fun H locs d => ?_)
      obtain ⟨v9, ev9, h⟩ := lt_e h
      refine lv_iinc (v := v9) (lv' := [(4, .int v9), (0, .ref (ad G b0)), (1, .long b1)]) S.1 S.2.1 dX8_type_110 hl (k := 2) rfl (by rw [ev9]; rfl) (by decide) rfl (fun ls hl => ?_)
      refine lv_goto (tgt := 74) S.1 S.2.1 dX8_type_113 (by decide) ?_
      exact ih _ _ h _ _ d _ (lv_sub hl [1, 2, 0] rfl)
set_option maxHeartbeats 4000000 in
set_option maxRecDepth 100000 in
theorem c_X8_type (l : Launch) (G : Gx) (M : Mem) (L : MemL) (fu : Nat) (k0 : Nat) (a1 : Int64) (a3 : Int32) (hk0 : kd k0 = 20) {z : Int32 × Mem} (h : f_X8_type fu M k0 a1 a3 = some z) : Met l yX8_type (.code yX8_type cX8_type 5 (Option.some Jvm.ClassFile.FieldType.int) :: UW) rm_X8_type (va_Pc [.ref (ad G k0), .long a1, .int a3] (PreG G true M L)) (Qi G z.1 z.2 L) 0 0 (gA G) := by
  refine r_in (by decide) (fun p e s m args below meth c S hr d ha ls hl => ?_) (Nat.le_of_ble_eq_true rfl)
  have S : Sx G true p s m args meth c cX8_type 5 RX8 := S
  have hl : lv_has ls 5 [(0, .ref (ad G k0)), (1, .long a1), (3, .int a3)] := hl
  unfold f_X8_type at h
  refine lv_iload_n S.1 S.2.1 dX8_type_0 rfl (lv_at hl 2 rfl) ?_
  refine lv_i2l S.1 S.2.1 dX8_type_1 rfl ?_
  refine lv_lconst (v := 1) S.1 S.2.1 dX8_type_2 (by decide) ?_
  refine lv_ldc2 (v := 8) S.1 S.2.1 S.2.2.2.1 (S.uw cn_RX8_133) dX8_type_3 ?_
  obtain ⟨u1, hu1, h⟩ := bd_e h
  refine r_ri d (r_cS (As := [.long ((a3).toInt64), .long (1 : Int64), .long (8 : Int64)]) (rest := []) S d (c_X8_in l G M L ((a3).toInt64) (1 : Int64) (8 : Int64) hu1) ml_RX8_75 sm_yX8_in in_RX8 co_yX8_in hyS_X8_in ⟨rfl, rfl⟩ ⟨by decide, by decide⟩ rfl hl rfl (Nat.le_of_ble_eq_true rfl) dX8_type_6 ⟨Nat.zero_le _, Nat.zero_le _⟩) (fun H locs d => ?_)
  refine lv_if_ne (tgt := 14) S.1 S.2.1 dX8_type_9 (by decide) (fun cc => ?_) (fun cc => ?_)
  · replace h := it_n cc h
    refine lv_iload_n S.1 S.2.1 dX8_type_14 rfl (lv_at hl 2 rfl) ?_
    refine lv_iconst (v := 1) S.1 S.2.1 dX8_type_15 (by decide) ?_
    refine lv_isub S.1 S.2.1 dX8_type_16 ?_
    obtain ⟨v2, ev2, h⟩ := lt_e h
    refine r_top ev2 ?_
    refine lv_istore (lv' := [(4, .int v2), (0, .ref (ad G k0)), (1, .long a1), (3, .int a3)]) S.1 S.2.1 dX8_type_17 hl (by decide) rfl (fun ls hl => ?_)
    refine lc_X8_type_19 S hr hk0 _ (fun _ H locs d ls hl h => ?_) _ _  h _ _ d _ (lv_sub hl [1, 2, 3, 0] rfl)
    refine lv_aload_n S.1 S.2.1 dX8_type_55 rfl (lv_at hl 0 rfl) ?_
    refine gf_20_10 S d hk0 fl_RX8_141 dX8_type_56 ?_
    refine lv_iload_n S.1 S.2.1 dX8_type_59 rfl (lv_at hl 2 rfl) ?_
    refine lv_iadd S.1 S.2.1 dX8_type_60 ?_
    refine lv_bipush (v := 80) S.1 S.2.1 dX8_type_61 (by decide) ?_
    refine lv_icmp_le (tgt := 69) S.1 S.2.1 dX8_type_63 (by decide) (fun cc => ?_) (fun cc => ?_)
    · replace h := it_p cc h
      refine lv_iload_n S.1 S.2.1 dX8_type_69 rfl (lv_at hl 2 rfl) ?_
      refine lv_iconst (v := 1) S.1 S.2.1 dX8_type_70 (by decide) ?_
      refine lv_isub S.1 S.2.1 dX8_type_71 ?_
      obtain ⟨v5, ev5, h⟩ := lt_e h
      refine r_top ev5 ?_
      refine lv_istore (lv' := [(4, .int v5), (0, .ref (ad G k0)), (1, .long a1), (3, .int a3)]) S.1 S.2.1 dX8_type_72 hl (by decide) rfl (fun ls hl => ?_)
      refine lc_X8_type_74 S hr hk0 _ (fun M10 H locs d ls hl h => ?_) _ _ _  h _ _ d _ (lv_sub hl [1, 2, 0] rfl)
      refine lv_aload_n S.1 S.2.1 dX8_type_116 rfl (lv_at hl 0 rfl) ?_
      refine gf_20_10 S d hk0 fl_RX8_141 dX8_type_117 ?_
      obtain rfl := Option.some.inj h
      exact r_iret S d hr rfl rfl dX8_type_120
    · replace h := it_n cc h
      refine lv_bipush (v := (-3)) S.1 S.2.1 dX8_type_66 (by decide) ?_
      obtain rfl := Option.some.inj h
      exact r_iret S d hr rfl rfl dX8_type_68
  · replace h := it_p cc h
    refine lv_iconst (v := (-1)) S.1 S.2.1 dX8_type_12 (by decide) ?_
    obtain rfl := Option.some.inj h
    exact r_iret S d hr rfl rfl dX8_type_13
theorem hyV_X8_nextByte : yX8_nextByte.cls = RX8 ∧ yX8_nextByte.cls ≠ "java/lang/invoke/MethodHandle" ∧ yX8_nextByte.cls ≠ "java/lang/invoke/VarHandle" ∧ (parseMethodDescriptor yX8_nextByte.desc).map (fun d => d.parameters.length) = some 0 := by decide +kernel
abbrev rm_X8_nextByte : Room := { frames := 0, cells := 0, slots := 0, locals := 0 }
def lp_X8_nextByte_0 (fu : Nat) (b0 : Nat) (K : Mem → Option (Int32 × Mem)) : Nat → Mem → Option (Int32 × Mem)
  | 0, _ => none
  | n + 1, Mx =>
    (if (Mx b0 10) ≤ (Mx b0 11) then (K Mx)
    else gd (inb (Mx b0 11) 80) (
      (if (Mx (b0 + 8) (Mx b0 11).toNatClampNeg) = (32 : Int32) then lt (up Mx b0 11 ((Mx b0 11) + (1 : Int32))) (fun M2 : Mem =>
        (lp_X8_nextByte_0 fu b0 K n M2))
      else (K Mx))))
def f_X8_nextByte (fu : Nat) (M : Mem) (k0 : Nat) : Option (Int32 × Mem) :=
  (lp_X8_nextByte_0 fu k0 (fun (M3 : Mem) =>
    (if (M3 k0 10) ≤ (M3 k0 11) then some ((-1 : Int32), M3)
    else gd (inb (M3 k0 11) 80) (
      some ((M3 (k0 + 8) (M3 k0 11).toNatClampNeg), M3)))) fu M)
set_option maxHeartbeats 4000000 in
set_option maxRecDepth 100000 in
theorem lc_X8_nextByte_0 {p : Program} {l : Launch} {e : Env} {s : State} {m : MethodId} {args : Array Value} {below : List Frame} {meth : Method} {c : Code} {G : Gx} {L : MemL} {fu : Nat} {b0 : Nat} {z : Int32 × Mem} (S : Sx G true p s m args meth c cX8_nextByte 1 RX8) (hr : meth.sig.returnType = (Option.some Jvm.ClassFile.FieldType.int)) (hb0 : kd b0 = 20) (K : Mem → Option (Int32 × Mem)) (hK : ∀ (My : Mem) (H : Heap) (locs : List Loc), Dy G s My L H locs → ∀ ls : Array Slot, lv_has ls 1 [(0, .ref (ad G b0))] → K My = some z → W p l e rm_X8_nextByte s m args below meth c H locs 0 0 (MQ below (Qi G z.1 z.2 L) args s 0 0 (gA G)) (F0 m 38 ls [])) :
    ∀ (n : Nat) (Mx : Mem), lp_X8_nextByte_0 fu b0 K n Mx = some z → ∀ (H : Heap) (locs : List Loc), Dy G s Mx L H locs → ∀ ls : Array Slot, lv_has ls 1 [(0, .ref (ad G b0))] → W p l e rm_X8_nextByte s m args below meth c H locs 0 0 (MQ below (Qi G z.1 z.2 L) args s 0 0 (gA G)) (F0 m 0 ls []) := by
  intro n
  induction n with
  | zero =>
    intro Mx h
    have h : (none : Option (Int32 × Mem)) = some z := h
    cases h
  | succ n ih =>
    intro Mx h H locs d ls hl
    rw [lp_X8_nextByte_0] at h
    refine lv_aload_n S.1 S.2.1 dX8_nextByte_0 rfl (lv_at hl 0 rfl) ?_
    refine gf_20_11 S d hb0 fl_RX8_144 dX8_nextByte_1 ?_
    refine lv_aload_n S.1 S.2.1 dX8_nextByte_4 rfl (lv_at hl 0 rfl) ?_
    refine gf_20_10 S d hb0 fl_RX8_141 dX8_nextByte_5 ?_
    refine lv_icmp_ge (tgt := 38) S.1 S.2.1 dX8_nextByte_8 (by decide) (fun cc => ?_) (fun cc => ?_)
    · replace h := it_p cc h
      exact hK _ _ _ d _ (lv_sub hl [0] rfl) h
    · replace h := it_n cc h
      refine lv_aload_n S.1 S.2.1 dX8_nextByte_11 rfl (lv_at hl 0 rfl) ?_
      refine gf_20_9 S d hb0 fl_RX8_31 dX8_nextByte_12 ?_
      refine lv_aload_n S.1 S.2.1 dX8_nextByte_15 rfl (lv_at hl 0 rfl) ?_
      refine gf_20_11 S d hb0 fl_RX8_144 dX8_nextByte_16 ?_
      obtain ⟨g1, h⟩ := gd_e h
      refine r_iald S d (ksdM S (ch_20_9 hb0).1) (wc_21 (ch_20_9 hb0).1) (ch_20_9 hb0).2 g1 dX8_nextByte_19 ?_
      refine lv_bipush (v := 32) S.1 S.2.1 dX8_nextByte_20 (by decide) ?_
      refine lv_icmp_ne (tgt := 38) S.1 S.2.1 dX8_nextByte_22 (by decide) (fun cc => ?_) (fun cc => ?_)
      · replace h := it_n cc h
        exact hK _ _ _ d _ (lv_sub hl [0] rfl) h
      · replace h := it_p cc h
        refine lv_aload_n S.1 S.2.1 dX8_nextByte_25 rfl (lv_at hl 0 rfl) ?_
        refine lv_dup S.1 S.2.1 dX8_nextByte_26 rfl ?_
        refine gf_20_11 S d hb0 fl_RX8_144 dX8_nextByte_27 ?_
        refine lv_iconst (v := 1) S.1 S.2.1 dX8_nextByte_30 (by decide) ?_
        refine lv_iadd S.1 S.2.1 dX8_nextByte_31 ?_
        obtain ⟨M2, eM2, h⟩ := lt_e h
        refine pf_20_11 S d eM2 hb0 fl_RX8_144 dX8_nextByte_32 (fun H locs d => ?_)
        refine lv_goto (tgt := 0) S.1 S.2.1 dX8_nextByte_35 (by decide) ?_
        exact ih _ h _ _ d _ (lv_sub hl [0] rfl)
set_option maxHeartbeats 4000000 in
set_option maxRecDepth 100000 in
theorem c_X8_nextByte (l : Launch) (G : Gx) (M : Mem) (L : MemL) (fu : Nat) (k0 : Nat) (hk0 : kd k0 = 20) {z : Int32 × Mem} (h : f_X8_nextByte fu M k0 = some z) : Met l yX8_nextByte (.code yX8_nextByte cX8_nextByte 1 (Option.some Jvm.ClassFile.FieldType.int) :: UW) rm_X8_nextByte (va_Pc [.ref (ad G k0)] (PreG G true M L)) (Qi G z.1 z.2 L) 0 0 (gA G) := by
  refine r_in (by decide) (fun p e s m args below meth c S hr d ha ls hl => ?_) (Nat.le_of_ble_eq_true rfl)
  have S : Sx G true p s m args meth c cX8_nextByte 1 RX8 := S
  have hl : lv_has ls 1 [(0, .ref (ad G k0))] := hl
  unfold f_X8_nextByte at h
  refine lc_X8_nextByte_0 S hr hk0 _ (fun M3 H locs d ls hl h => ?_) _ _  h _ _ d _ (lv_sub hl [0] rfl)
  refine lv_aload_n S.1 S.2.1 dX8_nextByte_38 rfl (lv_at hl 0 rfl) ?_
  refine gf_20_11 S d hk0 fl_RX8_144 dX8_nextByte_39 ?_
  refine lv_aload_n S.1 S.2.1 dX8_nextByte_42 rfl (lv_at hl 0 rfl) ?_
  refine gf_20_10 S d hk0 fl_RX8_141 dX8_nextByte_43 ?_
  refine lv_icmp_ge (tgt := 61) S.1 S.2.1 dX8_nextByte_46 (by decide) (fun cc => ?_) (fun cc => ?_)
  · replace h := it_p cc h
    refine lv_iconst (v := (-1)) S.1 S.2.1 dX8_nextByte_61 (by decide) ?_
    obtain rfl := Option.some.inj h
    exact r_iret S d hr rfl rfl dX8_nextByte_62
  · replace h := it_n cc h
    refine lv_aload_n S.1 S.2.1 dX8_nextByte_49 rfl (lv_at hl 0 rfl) ?_
    refine gf_20_9 S d hk0 fl_RX8_31 dX8_nextByte_50 ?_
    refine lv_aload_n S.1 S.2.1 dX8_nextByte_53 rfl (lv_at hl 0 rfl) ?_
    refine gf_20_11 S d hk0 fl_RX8_144 dX8_nextByte_54 ?_
    obtain ⟨g4, h⟩ := gd_e h
    refine r_iald S d (ksdM S (ch_20_9 hk0).1) (wc_21 (ch_20_9 hk0).1) (ch_20_9 hk0).2 g4 dX8_nextByte_57 ?_
    refine lv_goto (tgt := 62) S.1 S.2.1 dX8_nextByte_58 (by decide) ?_
    obtain rfl := Option.some.inj h
    exact r_iret S d hr rfl rfl dX8_nextByte_62
theorem hyV_X8_readNumber : yX8_readNumber.cls = RX8 ∧ yX8_readNumber.cls ≠ "java/lang/invoke/MethodHandle" ∧ yX8_readNumber.cls ≠ "java/lang/invoke/VarHandle" ∧ (parseMethodDescriptor yX8_readNumber.desc).map (fun d => d.parameters.length) = some 2 := by decide +kernel
abbrev rm_X8_readNumber : Room := { frames := 1, cells := 0, slots := 0, locals := 25 }
def lp_X8_readNumber_13 (fu : Nat) (b0 : Nat) (b1 : Int32) (b2 : Int32) (b3 : Int32) (K : Int32 → Mem → Option (Int32 × Mem)) : Nat → Int32 → Mem → Option (Int32 × Mem)
  | 0, _, _ => none
  | n + 1, x4, Mx =>
    (if (Mx b0 10) ≤ (Mx b0 11) then (K x4 Mx)
    else gd (inb (Mx b0 11) 80) (
      (f_X8_in (((Mx (b0 + 8) (Mx b0 11).toNatClampNeg)).toInt64) (48 : Int64) (57 : Int64)).bind (fun u4 =>
      (if u4 = 0 then (K x4 Mx)
      else (if x4 ≤ (999 : Int32) then gd (inb (Mx b0 11) 80) (
          some ((((10 : Int32) * x4) + (Mx (b0 + 8) (Mx b0 11).toNatClampNeg)) - (48 : Int32)))
        else some x4).bind (fun t5 : Int32 =>
        lt (up Mx b0 11 ((Mx b0 11) + (1 : Int32))) (fun M8 : Mem =>
        (lp_X8_readNumber_13 fu b0 b1 b2 b3 K n t5 M8)))))))
def f_X8_readNumber (fu : Nat) (M : Mem) (k0 : Nat) (a1 : Int32) (a2 : Int32) : Option (Int32 × Mem) :=
  (f_X8_nextByte fu M k0).bind (fun u1 =>
  lt ((u1.2 k0 11)) (fun v2 : Int32 =>
  (lp_X8_readNumber_13 fu k0 a1 a2 v2 (fun (v9 : Int32) (M10 : Mem) =>
    (if (M10 k0 11) = v2 then some ((-1 : Int32), M10)
    else (f_X8_in ((v9).toInt64) ((a1).toInt64) ((a2).toInt64)).bind (fun u11 =>
      (if u11 = 0 then lt (up M10 k0 11 v2) (fun M12 : Mem =>
        some ((-1 : Int32), M12))
      else some (v9, M10))))) fu (0 : Int32) u1.2)))
set_option maxHeartbeats 4000000 in
set_option maxRecDepth 100000 in
theorem lc_X8_readNumber_13 {p : Program} {l : Launch} {e : Env} {s : State} {m : MethodId} {args : Array Value} {below : List Frame} {meth : Method} {c : Code} {G : Gx} {L : MemL} {fu : Nat} {b0 : Nat} {b1 : Int32} {b2 : Int32} {b3 : Int32} {z : Int32 × Mem} (S : Sx G true p s m args meth c cX8_readNumber 5 RX8) (hr : meth.sig.returnType = (Option.some Jvm.ClassFile.FieldType.int)) (hb0 : kd b0 = 20) (K : Int32 → Mem → Option (Int32 × Mem)) (hK : ∀ (y4 : Int32) (My : Mem) (H : Heap) (locs : List Loc), Dy G s My L H locs → ∀ ls : Array Slot, lv_has ls 5 [(0, .ref (ad G b0)), (1, .int b1), (2, .int b2), (3, .int b3), (4, .int y4)] → K y4 My = some z → W p l e rm_X8_readNumber s m args below meth c H locs 0 0 (MQ below (Qi G z.1 z.2 L) args s 0 0 (gA G)) (F0 m 92 ls [])) :
    ∀ (n : Nat) (x4 : Int32) (Mx : Mem), lp_X8_readNumber_13 fu b0 b1 b2 b3 K n x4 Mx = some z → ∀ (H : Heap) (locs : List Loc), Dy G s Mx L H locs → ∀ ls : Array Slot, lv_has ls 5 [(0, .ref (ad G b0)), (1, .int b1), (2, .int b2), (3, .int b3), (4, .int x4)] → W p l e rm_X8_readNumber s m args below meth c H locs 0 0 (MQ below (Qi G z.1 z.2 L) args s 0 0 (gA G)) (F0 m 13 ls []) := by
  intro n
  induction n with
  | zero =>
    intro x4 Mx h
    have h : (none : Option (Int32 × Mem)) = some z := h
    cases h
  | succ n ih =>
    intro x4 Mx h H locs d ls hl
    rw [lp_X8_readNumber_13] at h
    refine lv_aload_n S.1 S.2.1 dX8_readNumber_13 rfl (lv_at hl 0 rfl) ?_
    refine gf_20_11 S d hb0 fl_RX8_144 dX8_readNumber_14 ?_
    refine lv_aload_n S.1 S.2.1 dX8_readNumber_17 rfl (lv_at hl 0 rfl) ?_
    refine gf_20_10 S d hb0 fl_RX8_141 dX8_readNumber_18 ?_
    refine lv_icmp_ge (tgt := 92) S.1 S.2.1 dX8_readNumber_21 (by decide) (fun cc => ?_) (fun cc => ?_)
    · replace h := it_p cc h
      exact hK _ _ _ _ d _ (lv_sub hl [0, 1, 2, 3, 4] rfl) h
    · replace h := it_n cc h
      refine lv_aload_n S.1 S.2.1 dX8_readNumber_24 rfl (lv_at hl 0 rfl) ?_
      refine gf_20_9 S d hb0 fl_RX8_31 dX8_readNumber_25 ?_
      refine lv_aload_n S.1 S.2.1 dX8_readNumber_28 rfl (lv_at hl 0 rfl) ?_
      refine gf_20_11 S d hb0 fl_RX8_144 dX8_readNumber_29 ?_
      obtain ⟨g3, h⟩ := gd_e h
      refine r_iald S d (ksdM S (ch_20_9 hb0).1) (wc_21 (ch_20_9 hb0).1) (ch_20_9 hb0).2 g3 dX8_readNumber_32 ?_
      refine lv_i2l S.1 S.2.1 dX8_readNumber_33 rfl ?_
      refine lv_ldc2 (v := 48) S.1 S.2.1 S.2.2.2.1 (S.uw cn_RX8_151) dX8_readNumber_34 ?_
      refine lv_ldc2 (v := 57) S.1 S.2.1 S.2.2.2.1 (S.uw cn_RX8_153) dX8_readNumber_37 ?_
      obtain ⟨u4, hu4, h⟩ := bd_e h
      refine r_ri d (r_cS (As := [.long (((Mx (b0 + 8) (Mx b0 11).toNatClampNeg)).toInt64), .long (48 : Int64), .long (57 : Int64)]) (rest := []) S d (c_X8_in l G Mx L (((Mx (b0 + 8) (Mx b0 11).toNatClampNeg)).toInt64) (48 : Int64) (57 : Int64) hu4) ml_RX8_75 sm_yX8_in in_RX8 co_yX8_in hyS_X8_in ⟨rfl, rfl⟩ ⟨by decide, by decide⟩ rfl hl rfl (Nat.le_of_ble_eq_true rfl) dX8_readNumber_40 ⟨Nat.zero_le _, Nat.zero_le _⟩) (fun H locs d => ?_)
      refine lv_if_eq (tgt := 92) S.1 S.2.1 dX8_readNumber_43 (by decide) (fun cc => ?_) (fun cc => ?_)
      · replace h := it_p cc h
        exact hK _ _ _ _ d _ (lv_sub hl [0, 1, 2, 3, 4] rfl) h
      · replace h := it_n cc h
        refine lv_iload S.1 S.2.1 dX8_readNumber_46 (lv_at hl 4 rfl) ?_
        refine lv_sipush (v := 999) S.1 S.2.1 dX8_readNumber_48 (by decide) ?_
        obtain ⟨t5, g6, h⟩ := bd_e h
        have Jt5 : ∀ (H : Heap) (locs : List Loc), Dy G s Mx L H locs → W p l e rm_X8_readNumber s m args below meth c H locs 0 0 (MQ below (Qi G z.1 z.2 L) args s 0 0 (gA G)) (F0 m 77 ls [.int t5]) := by
          intro H locs d
          refine lv_istore (lv' := [(4, .int t5), (0, .ref (ad G b0)), (1, .int b1), (2, .int b2), (3, .int b3)]) S.1 S.2.1 dX8_readNumber_77 hl (by decide) rfl (fun ls hl => ?_)
          refine lv_aload_n S.1 S.2.1 dX8_readNumber_79 rfl (lv_at hl 1 rfl) ?_
          refine lv_dup S.1 S.2.1 dX8_readNumber_80 rfl ?_
          refine gf_20_11 S d hb0 fl_RX8_144 dX8_readNumber_81 ?_
          refine lv_iconst (v := 1) S.1 S.2.1 dX8_readNumber_84 (by decide) ?_
          refine lv_iadd S.1 S.2.1 dX8_readNumber_85 ?_
          obtain ⟨M8, eM8, h⟩ := lt_e h
          refine pf_20_11 S d eM8 hb0 fl_RX8_144 dX8_readNumber_86 (fun H locs d => ?_)
          refine lv_goto (tgt := 13) S.1 S.2.1 dX8_readNumber_89 (by decide) ?_
          exact ih _ _ h _ _ d _ (lv_sub hl [1, 2, 3, 4, 0] rfl)
        have h := g6
        refine lv_icmp_le (tgt := 59) S.1 S.2.1 dX8_readNumber_51 (by decide) (fun cc => ?_) (fun cc => ?_)
        · replace h := it_p cc h
          refine lv_bipush (v := 10) S.1 S.2.1 dX8_readNumber_59 (by decide) ?_
          refine lv_iload S.1 S.2.1 dX8_readNumber_61 (lv_at hl 4 rfl) ?_
          refine lv_imul S.1 S.2.1 dX8_readNumber_63 ?_
          refine lv_aload_n S.1 S.2.1 dX8_readNumber_64 rfl (lv_at hl 0 rfl) ?_
          refine gf_20_9 S d hb0 fl_RX8_31 dX8_readNumber_65 ?_
          refine lv_aload_n S.1 S.2.1 dX8_readNumber_68 rfl (lv_at hl 0 rfl) ?_
          refine gf_20_11 S d hb0 fl_RX8_144 dX8_readNumber_69 ?_
          obtain ⟨g7, h⟩ := gd_e h
          refine r_iald S d (ksdM S (ch_20_9 hb0).1) (wc_21 (ch_20_9 hb0).1) (ch_20_9 hb0).2 g7 dX8_readNumber_72 ?_
          refine lv_iadd S.1 S.2.1 dX8_readNumber_73 ?_
          refine lv_bipush (v := 48) S.1 S.2.1 dX8_readNumber_74 (by decide) ?_
          refine lv_isub S.1 S.2.1 dX8_readNumber_76 ?_
          obtain ej := Option.some.inj h
          refine r_top ej.symm ?_
          exact Jt5 _ _ d
        · replace h := it_n cc h
          refine lv_iload S.1 S.2.1 dX8_readNumber_54 (lv_at hl 4 rfl) ?_
          refine lv_goto (tgt := 77) S.1 S.2.1 dX8_readNumber_56 (by decide) ?_
          obtain ej := Option.some.inj h
          refine r_top ej.symm ?_
          exact Jt5 _ _ d
set_option maxHeartbeats 4000000 in
set_option maxRecDepth 100000 in
theorem c_X8_readNumber (l : Launch) (G : Gx) (M : Mem) (L : MemL) (fu : Nat) (k0 : Nat) (a1 : Int32) (a2 : Int32) (hk0 : kd k0 = 20) {z : Int32 × Mem} (h : f_X8_readNumber fu M k0 a1 a2 = some z) : Met l yX8_readNumber (.code yX8_readNumber cX8_readNumber 5 (Option.some Jvm.ClassFile.FieldType.int) :: UW) rm_X8_readNumber (va_Pc [.ref (ad G k0), .int a1, .int a2] (PreG G true M L)) (Qi G z.1 z.2 L) 0 0 (gA G) := by
  refine r_in (by decide) (fun p e s m args below meth c S hr d ha ls hl => ?_) (Nat.le_of_ble_eq_true rfl)
  have S : Sx G true p s m args meth c cX8_readNumber 5 RX8 := S
  have hl : lv_has ls 5 [(0, .ref (ad G k0)), (1, .int a1), (2, .int a2)] := hl
  unfold f_X8_readNumber at h
  refine lv_aload_n S.1 S.2.1 dX8_readNumber_0 rfl (lv_at hl 0 rfl) ?_
  obtain ⟨u1, hu1, h⟩ := bd_e h
  refine r_ri d (r_cV (As := []) (rest := []) S d (c_X8_nextByte l G M L fu k0 hk0 hu1) (ksdM S hk0) (wc_20 hk0) rfl ml_RX8_147 im_yX8_nextByte se_yX8_nextByte in_RX8 co_yX8_nextByte hyV_X8_nextByte ⟨rfl, rfl⟩ ⟨by decide, by decide⟩ rfl hl rfl (Nat.le_of_ble_eq_true rfl) dX8_readNumber_1 ⟨Nat.zero_le _, Nat.zero_le _⟩) (fun H locs d => ?_)
  refine lv_pop S.1 S.2.1 dX8_readNumber_4 rfl ?_
  refine lv_aload_n S.1 S.2.1 dX8_readNumber_5 rfl (lv_at hl 0 rfl) ?_
  refine gf_20_11 S d hk0 fl_RX8_144 dX8_readNumber_6 ?_
  obtain ⟨v2, ev2, h⟩ := lt_e h
  refine r_top ev2 ?_
  refine lv_istore_n (lv' := [(3, .int v2), (0, .ref (ad G k0)), (1, .int a1), (2, .int a2)]) S.1 S.2.1 dX8_readNumber_9 rfl hl (by decide) rfl (fun ls hl => ?_)
  refine lv_iconst (v := 0) S.1 S.2.1 dX8_readNumber_10 (by decide) ?_
  refine lv_istore (lv' := [(4, .int (0 : Int32)), (3, .int v2), (0, .ref (ad G k0)), (1, .int a1), (2, .int a2)]) S.1 S.2.1 dX8_readNumber_11 hl (by decide) rfl (fun ls hl => ?_)
  refine lc_X8_readNumber_13 S hr hk0 _ (fun v9 M10 H locs d ls hl h => ?_) _ _ _  h _ _ d _ (lv_sub hl [2, 3, 4, 1, 0] rfl)
  refine lv_aload_n S.1 S.2.1 dX8_readNumber_92 rfl (lv_at hl 0 rfl) ?_
  refine gf_20_11 S d hk0 fl_RX8_144 dX8_readNumber_93 ?_
  refine lv_iload_n S.1 S.2.1 dX8_readNumber_96 rfl (lv_at hl 3 rfl) ?_
  refine lv_icmp_ne (tgt := 102) S.1 S.2.1 dX8_readNumber_97 (by decide) (fun cc => ?_) (fun cc => ?_)
  · replace h := it_n cc h
    refine lv_iload S.1 S.2.1 dX8_readNumber_102 (lv_at hl 4 rfl) ?_
    refine lv_i2l S.1 S.2.1 dX8_readNumber_104 rfl ?_
    refine lv_iload_n S.1 S.2.1 dX8_readNumber_105 rfl (lv_at hl 1 rfl) ?_
    refine lv_i2l S.1 S.2.1 dX8_readNumber_106 rfl ?_
    refine lv_iload_n S.1 S.2.1 dX8_readNumber_107 rfl (lv_at hl 2 rfl) ?_
    refine lv_i2l S.1 S.2.1 dX8_readNumber_108 rfl ?_
    obtain ⟨u11, hu11, h⟩ := bd_e h
    refine r_ri d (r_cS (As := [.long ((v9).toInt64), .long ((a1).toInt64), .long ((a2).toInt64)]) (rest := []) S d (c_X8_in l G M10 L ((v9).toInt64) ((a1).toInt64) ((a2).toInt64) hu11) ml_RX8_75 sm_yX8_in in_RX8 co_yX8_in hyS_X8_in ⟨rfl, rfl⟩ ⟨by decide, by decide⟩ rfl hl rfl (Nat.le_of_ble_eq_true rfl) dX8_readNumber_109 ⟨Nat.zero_le _, Nat.zero_le _⟩) (fun H locs d => ?_)
    refine lv_if_ne (tgt := 122) S.1 S.2.1 dX8_readNumber_112 (by decide) (fun cc => ?_) (fun cc => ?_)
    · replace h := it_n cc h
      refine lv_iload S.1 S.2.1 dX8_readNumber_122 (lv_at hl 4 rfl) ?_
      obtain rfl := Option.some.inj h
      exact r_iret S d hr rfl rfl dX8_readNumber_124
    · replace h := it_p cc h
      refine lv_aload_n S.1 S.2.1 dX8_readNumber_115 rfl (lv_at hl 0 rfl) ?_
      refine lv_iload_n S.1 S.2.1 dX8_readNumber_116 rfl (lv_at hl 3 rfl) ?_
      obtain ⟨M12, eM12, h⟩ := lt_e h
      refine pf_20_11 S d eM12 hk0 fl_RX8_144 dX8_readNumber_117 (fun H locs d => ?_)
      refine lv_iconst (v := (-1)) S.1 S.2.1 dX8_readNumber_120 (by decide) ?_
      obtain rfl := Option.some.inj h
      exact r_iret S d hr rfl rfl dX8_readNumber_121
  · replace h := it_p cc h
    refine lv_iconst (v := (-1)) S.1 S.2.1 dX8_readNumber_100 (by decide) ?_
    obtain rfl := Option.some.inj h
    exact r_iret S d hr rfl rfl dX8_readNumber_101
theorem hyV_X8_strips : yX8_strips.cls = RX8 ∧ yX8_strips.cls ≠ "java/lang/invoke/MethodHandle" ∧ yX8_strips.cls ≠ "java/lang/invoke/VarHandle" ∧ (parseMethodDescriptor yX8_strips.desc).map (fun d => d.parameters.length) = some 0 := by decide +kernel
abbrev rm_X8_strips : Room := { frames := 1, cells := 0, slots := 0, locals := 25 }
def lp_X8_strips_10 (fu : Nat) (b0 : Nat) (K : Mem → Option (Int32 × Mem)) : Nat → Mem → Option (Int32 × Mem)
  | 0, _ => none
  | n + 1, Mx =>
    (if (9 : Int32) ≤ (Mx b0 12) then (K Mx)
    else (f_X8_nextByte fu Mx b0).bind (fun u3 =>
      (f_X8_in ((u3.1).toInt64) (48 : Int64) (53 : Int64)).bind (fun u4 =>
      (if u4 = 0 then (K u3.2)
      else (f_X8_nextByte fu u3.2 b0).bind (fun u5 =>
        gd (inb (u3.2 b0 12) 40) (
        lt (up u5.2 (b0 + 9) (u3.2 b0 12).toNatClampNeg (u5.1 - (48 : Int32))) (fun M7 : Mem =>
        lt (up M7 b0 12 ((M7 b0 12) + (1 : Int32))) (fun M8 : Mem =>
        lt (up M8 b0 11 ((M8 b0 11) + (1 : Int32))) (fun M9 : Mem =>
        (lp_X8_strips_10 fu b0 K n M9))))))))))
def lp_X8_strips_119 (fu : Nat) (b0 : Nat) (K : Mem → Option (Int32 × Mem)) : Nat → Int32 → Mem → Option (Int32 × Mem)
  | 0, _, _ => none
  | n + 1, x2, Mx =>
    (if (Mx b0 12) ≤ x2 then (K Mx)
    else gd (inb x2 40) (
      (f_X8_addStrip fu Mx b0 (Mx (b0 + 9) x2.toNatClampNeg)).bind (fun u17 =>
      lt (x2 + 1) (fun v18 : Int32 =>
      (lp_X8_strips_119 fu b0 K n v18 u17)))))
def f_X8_strips (fu : Nat) (M : Mem) (k0 : Nat) : Option (Int32 × Mem) :=
  lt (up M k0 11 (0 : Int32)) (fun M1 : Mem =>
  lt (up M1 k0 12 (0 : Int32)) (fun M2 : Mem =>
  (lp_X8_strips_10 fu k0 (fun (M10 : Mem) =>
    (if (M10 k0 12) ≤ 0 then lt (up M10 k0 10 (0 : Int32)) (fun M20 : Mem =>
      (if (0 : Int32) = 0 then some (((-20 : Int32) - (M20 k0 11)), M20)
      else lt (up M20 k0 7 (0 : Int32)) (fun M21 : Mem =>
        (lp_X8_strips_119 fu k0 (fun (M22 : Mem) =>
          some ((M22 k0 7), M22)) fu (0 : Int32) M21))))
    else (f_X8_nextByte fu M10 k0).bind (fun u11 =>
      (if 0 ≤ u11.1 then some (0 : Int32)
      else some (1 : Int32)).bind (fun t12 : Int32 =>
      lt (up u11.2 k0 10 (0 : Int32)) (fun M14 : Mem =>
      (if t12 = 0 then some (((-20 : Int32) - (M14 k0 11)), M14)
      else lt (up M14 k0 7 (0 : Int32)) (fun M15 : Mem =>
        (lp_X8_strips_119 fu k0 (fun (M19 : Mem) =>
          some ((M19 k0 7), M19)) fu (0 : Int32) M15)))))))) fu M2)))
set_option maxHeartbeats 4000000 in
set_option maxRecDepth 100000 in
theorem lc_X8_strips_10 {p : Program} {l : Launch} {e : Env} {s : State} {m : MethodId} {args : Array Value} {below : List Frame} {meth : Method} {c : Code} {G : Gx} {L : MemL} {fu : Nat} {b0 : Nat} {z : Int32 × Mem} (S : Sx G true p s m args meth c cX8_strips 3 RX8) (hr : meth.sig.returnType = (Option.some Jvm.ClassFile.FieldType.int)) (hb0 : kd b0 = 20) (K : Mem → Option (Int32 × Mem)) (hK : ∀ (My : Mem) (H : Heap) (locs : List Loc), Dy G s My L H locs → ∀ ls : Array Slot, lv_has ls 3 [(0, .ref (ad G b0))] → K My = some z → W p l e rm_X8_strips s m args below meth c H locs 0 0 (MQ below (Qi G z.1 z.2 L) args s 0 0 (gA G)) (F0 m 75 ls [])) :
    ∀ (n : Nat) (Mx : Mem), lp_X8_strips_10 fu b0 K n Mx = some z → ∀ (H : Heap) (locs : List Loc), Dy G s Mx L H locs → ∀ ls : Array Slot, lv_has ls 3 [(0, .ref (ad G b0))] → W p l e rm_X8_strips s m args below meth c H locs 0 0 (MQ below (Qi G z.1 z.2 L) args s 0 0 (gA G)) (F0 m 10 ls []) := by
  intro n
  induction n with
  | zero =>
    intro Mx h
    have h : (none : Option (Int32 × Mem)) = some z := h
    cases h
  | succ n ih =>
    intro Mx h H locs d ls hl
    rw [lp_X8_strips_10] at h
    refine lv_aload_n S.1 S.2.1 dX8_strips_10 rfl (lv_at hl 0 rfl) ?_
    refine gf_20_12 S d hb0 fl_RX8_155 dX8_strips_11 ?_
    refine lv_bipush (v := 9) S.1 S.2.1 dX8_strips_14 (by decide) ?_
    refine lv_icmp_ge (tgt := 75) S.1 S.2.1 dX8_strips_16 (by decide) (fun cc => ?_) (fun cc => ?_)
    · replace h := it_p cc h
      exact hK _ _ _ d _ (lv_sub hl [0] rfl) h
    · replace h := it_n cc h
      refine lv_aload_n S.1 S.2.1 dX8_strips_19 rfl (lv_at hl 0 rfl) ?_
      obtain ⟨u3, hu3, h⟩ := bd_e h
      refine r_ri d (r_cV (As := []) (rest := []) S d (c_X8_nextByte l G Mx L fu b0 hb0 hu3) (ksdM S hb0) (wc_20 hb0) rfl ml_RX8_147 im_yX8_nextByte se_yX8_nextByte in_RX8 co_yX8_nextByte hyV_X8_nextByte ⟨rfl, rfl⟩ ⟨by decide, by decide⟩ rfl hl rfl (Nat.le_of_ble_eq_true rfl) dX8_strips_20 ⟨Nat.zero_le _, Nat.zero_le _⟩) (fun H locs d => ?_)
      refine lv_i2l S.1 S.2.1 dX8_strips_23 rfl ?_
      refine lv_ldc2 (v := 48) S.1 S.2.1 S.2.2.2.1 (S.uw cn_RX8_151) dX8_strips_24 ?_
      refine lv_ldc2 (v := 53) S.1 S.2.1 S.2.2.2.1 (S.uw cn_RX8_158) dX8_strips_27 ?_
      obtain ⟨u4, hu4, h⟩ := bd_e h
      refine r_ri d (r_cS (As := [.long ((u3.1).toInt64), .long (48 : Int64), .long (53 : Int64)]) (rest := []) S d (c_X8_in l G u3.2 L ((u3.1).toInt64) (48 : Int64) (53 : Int64) hu4) ml_RX8_75 sm_yX8_in in_RX8 co_yX8_in hyS_X8_in ⟨rfl, rfl⟩ ⟨by decide, by decide⟩ rfl hl rfl (Nat.le_of_ble_eq_true rfl) dX8_strips_30 ⟨Nat.zero_le _, Nat.zero_le _⟩) (fun H locs d => ?_)
      refine lv_if_eq (tgt := 75) S.1 S.2.1 dX8_strips_33 (by decide) (fun cc => ?_) (fun cc => ?_)
      · replace h := it_p cc h
        exact hK _ _ _ d _ (lv_sub hl [0] rfl) h
      · replace h := it_n cc h
        refine lv_aload_n S.1 S.2.1 dX8_strips_36 rfl (lv_at hl 0 rfl) ?_
        refine gf_20_13 S d hb0 fl_RX8_34 dX8_strips_37 ?_
        refine lv_aload_n S.1 S.2.1 dX8_strips_40 rfl (lv_at hl 0 rfl) ?_
        refine gf_20_12 S d hb0 fl_RX8_155 dX8_strips_41 ?_
        refine lv_aload_n S.1 S.2.1 dX8_strips_44 rfl (lv_at hl 0 rfl) ?_
        obtain ⟨u5, hu5, h⟩ := bd_e h
        refine r_ri d (r_cV (As := []) (rest := [.int (u3.2 b0 12), .ref (ad G (b0 + 9))]) S d (c_X8_nextByte l G u3.2 L fu b0 hb0 hu5) (ksdM S hb0) (wc_20 hb0) rfl ml_RX8_147 im_yX8_nextByte se_yX8_nextByte in_RX8 co_yX8_nextByte hyV_X8_nextByte ⟨rfl, rfl⟩ ⟨by decide, by decide⟩ rfl hl rfl (Nat.le_of_ble_eq_true rfl) dX8_strips_45 ⟨Nat.zero_le _, Nat.zero_le _⟩) (fun H locs d => ?_)
        refine lv_bipush (v := 48) S.1 S.2.1 dX8_strips_48 (by decide) ?_
        refine lv_isub S.1 S.2.1 dX8_strips_50 ?_
        obtain ⟨g6, h⟩ := gd_e h
        obtain ⟨M7, eM7, h⟩ := lt_e h
        refine r_iast S d eM7 (ksdM S (ch_20_13 hb0).1) (fun _ => wc_21 (ch_20_13 hb0).1) (ch_20_13 hb0).2 g6 dX8_strips_51 (fun H locs d => ?_)
        refine lv_aload_n S.1 S.2.1 dX8_strips_52 rfl (lv_at hl 0 rfl) ?_
        refine lv_dup S.1 S.2.1 dX8_strips_53 rfl ?_
        refine gf_20_12 S d hb0 fl_RX8_155 dX8_strips_54 ?_
        refine lv_iconst (v := 1) S.1 S.2.1 dX8_strips_57 (by decide) ?_
        refine lv_iadd S.1 S.2.1 dX8_strips_58 ?_
        obtain ⟨M8, eM8, h⟩ := lt_e h
        refine pf_20_12 S d eM8 hb0 fl_RX8_155 dX8_strips_59 (fun H locs d => ?_)
        refine lv_aload_n S.1 S.2.1 dX8_strips_62 rfl (lv_at hl 0 rfl) ?_
        refine lv_dup S.1 S.2.1 dX8_strips_63 rfl ?_
        refine gf_20_11 S d hb0 fl_RX8_144 dX8_strips_64 ?_
        refine lv_iconst (v := 1) S.1 S.2.1 dX8_strips_67 (by decide) ?_
        refine lv_iadd S.1 S.2.1 dX8_strips_68 ?_
        obtain ⟨M9, eM9, h⟩ := lt_e h
        refine pf_20_11 S d eM9 hb0 fl_RX8_144 dX8_strips_69 (fun H locs d => ?_)
        refine lv_goto (tgt := 10) S.1 S.2.1 dX8_strips_72 (by decide) ?_
        exact ih _ h _ _ d _ (lv_sub hl [0] rfl)
set_option maxHeartbeats 4000000 in
set_option maxRecDepth 100000 in
theorem lc_X8_strips_119 {p : Program} {l : Launch} {e : Env} {s : State} {m : MethodId} {args : Array Value} {below : List Frame} {meth : Method} {c : Code} {G : Gx} {L : MemL} {fu : Nat} {b0 : Nat} {z : Int32 × Mem} (S : Sx G true p s m args meth c cX8_strips 3 RX8) (hr : meth.sig.returnType = (Option.some Jvm.ClassFile.FieldType.int)) (hb0 : kd b0 = 20) (K : Mem → Option (Int32 × Mem)) (hK : ∀ (My : Mem) (H : Heap) (locs : List Loc), Dy G s My L H locs → ∀ ls : Array Slot, lv_has ls 3 [(0, .ref (ad G b0))] → K My = some z → W p l e rm_X8_strips s m args below meth c H locs 0 0 (MQ below (Qi G z.1 z.2 L) args s 0 0 (gA G)) (F0 m 143 ls [])) :
    ∀ (n : Nat) (x2 : Int32) (Mx : Mem), lp_X8_strips_119 fu b0 K n x2 Mx = some z → ∀ (H : Heap) (locs : List Loc), Dy G s Mx L H locs → ∀ ls : Array Slot, lv_has ls 3 [(0, .ref (ad G b0)), (2, .int x2)] → W p l e rm_X8_strips s m args below meth c H locs 0 0 (MQ below (Qi G z.1 z.2 L) args s 0 0 (gA G)) (F0 m 119 ls []) := by
  intro n
  induction n with
  | zero =>
    intro x2 Mx h
    have h : (none : Option (Int32 × Mem)) = some z := h
    cases h
  | succ n ih =>
    intro x2 Mx h H locs d ls hl
    rw [lp_X8_strips_119] at h
    refine lv_iload_n S.1 S.2.1 dX8_strips_119 rfl (lv_at hl 1 rfl) ?_
    refine lv_aload_n S.1 S.2.1 dX8_strips_120 rfl (lv_at hl 0 rfl) ?_
    refine gf_20_12 S d hb0 fl_RX8_155 dX8_strips_121 ?_
    refine lv_icmp_ge (tgt := 143) S.1 S.2.1 dX8_strips_124 (by decide) (fun cc => ?_) (fun cc => ?_)
    · replace h := it_p cc h
      exact hK _ _ _ d _ (lv_sub hl [0] rfl) h
    · replace h := it_n cc h
      refine lv_aload_n S.1 S.2.1 dX8_strips_127 rfl (lv_at hl 0 rfl) ?_
      refine lv_aload_n S.1 S.2.1 dX8_strips_128 rfl (lv_at hl 0 rfl) ?_
      refine gf_20_13 S d hb0 fl_RX8_34 dX8_strips_129 ?_
      refine lv_iload_n S.1 S.2.1 dX8_strips_132 rfl (lv_at hl 1 rfl) ?_
      obtain ⟨g16, h⟩ := gd_e h
      refine r_iald S d (ksdM S (ch_20_13 hb0).1) (wc_21 (ch_20_13 hb0).1) (ch_20_13 hb0).2 g16 dX8_strips_133 ?_
      obtain ⟨u17, hu17, h⟩ := bd_e h
      refine r_rv d (r_cV (As := [.int (Mx (b0 + 9) x2.toNatClampNeg)]) (rest := []) S d (c_X8_addStrip l G Mx L fu b0 (Mx (b0 + 9) x2.toNatClampNeg) hb0 hu17) (ksdM S hb0) (wc_20 hb0) rfl ml_RX8_88 im_yX8_addStrip se_yX8_addStrip in_RX8 co_yX8_addStrip hyV_X8_addStrip ⟨rfl, rfl⟩ ⟨by decide, by decide⟩ rfl hl rfl (Nat.le_of_ble_eq_true rfl) dX8_strips_134 ⟨Nat.zero_le _, Nat.zero_le _⟩) (fun H locs d => ?_)
      obtain ⟨v18, ev18, h⟩ := lt_e h
      refine lv_iinc (v := v18) (lv' := [(2, .int v18), (0, .ref (ad G b0))]) S.1 S.2.1 dX8_strips_137 hl (k := 1) rfl (by rw [ev18]; rfl) (by decide) rfl (fun ls hl => ?_)
      refine lv_goto (tgt := 119) S.1 S.2.1 dX8_strips_140 (by decide) ?_
      exact ih _ _ h _ _ d _ (lv_sub hl [1, 0] rfl)
set_option maxHeartbeats 4000000 in
set_option maxRecDepth 100000 in
theorem c_X8_strips (l : Launch) (G : Gx) (M : Mem) (L : MemL) (fu : Nat) (k0 : Nat) (hk0 : kd k0 = 20) {z : Int32 × Mem} (h : f_X8_strips fu M k0 = some z) : Met l yX8_strips (.code yX8_strips cX8_strips 3 (Option.some Jvm.ClassFile.FieldType.int) :: UW) rm_X8_strips (va_Pc [.ref (ad G k0)] (PreG G true M L)) (Qi G z.1 z.2 L) 0 0 (gA G) := by
  refine r_in (by decide) (fun p e s m args below meth c S hr d ha ls hl => ?_) (Nat.le_of_ble_eq_true rfl)
  have S : Sx G true p s m args meth c cX8_strips 3 RX8 := S
  have hl : lv_has ls 3 [(0, .ref (ad G k0))] := hl
  unfold f_X8_strips at h
  refine lv_aload_n S.1 S.2.1 dX8_strips_0 rfl (lv_at hl 0 rfl) ?_
  refine lv_iconst (v := 0) S.1 S.2.1 dX8_strips_1 (by decide) ?_
  obtain ⟨M1, eM1, h⟩ := lt_e h
  refine pf_20_11 S d eM1 hk0 fl_RX8_144 dX8_strips_2 (fun H locs d => ?_)
  refine lv_aload_n S.1 S.2.1 dX8_strips_5 rfl (lv_at hl 0 rfl) ?_
  refine lv_iconst (v := 0) S.1 S.2.1 dX8_strips_6 (by decide) ?_
  obtain ⟨M2, eM2, h⟩ := lt_e h
  refine pf_20_12 S d eM2 hk0 fl_RX8_155 dX8_strips_7 (fun H locs d => ?_)
  refine lc_X8_strips_10 S hr hk0 _ (fun M10 H locs d ls hl h => ?_) _ _  h _ _ d _ (lv_sub hl [0] rfl)
  refine lv_aload_n S.1 S.2.1 dX8_strips_75 rfl (lv_at hl 0 rfl) ?_
  refine gf_20_12 S d hk0 fl_RX8_155 dX8_strips_76 ?_
  refine lv_if_le (tgt := 93) S.1 S.2.1 dX8_strips_79 (by decide) (fun cc => ?_) (fun cc => ?_)
  · replace h := it_p cc h
    refine lv_iconst (v := 0) S.1 S.2.1 dX8_strips_93 (by decide) ?_
    refine lv_istore_n (lv' := [(1, .int (0 : Int32)), (0, .ref (ad G k0))]) S.1 S.2.1 dX8_strips_94 rfl hl (by decide) rfl (fun ls hl => ?_)
    refine lv_aload_n S.1 S.2.1 dX8_strips_95 rfl (lv_at hl 1 rfl) ?_
    refine lv_iconst (v := 0) S.1 S.2.1 dX8_strips_96 (by decide) ?_
    obtain ⟨M20, eM20, h⟩ := lt_e h
    refine pf_20_10 S d eM20 hk0 fl_RX8_141 dX8_strips_97 (fun H locs d => ?_)
    refine lv_iload_n S.1 S.2.1 dX8_strips_100 rfl (lv_at hl 0 rfl) ?_
    refine lv_if_ne (tgt := 112) S.1 S.2.1 dX8_strips_101 (by decide) (fun cc => ?_) (fun cc => ?_)
    · replace h := it_n cc h
      refine lv_aload_n S.1 S.2.1 dX8_strips_112 rfl (lv_at hl 1 rfl) ?_
      refine lv_iconst (v := 0) S.1 S.2.1 dX8_strips_113 (by decide) ?_
      obtain ⟨M21, eM21, h⟩ := lt_e h
      refine pf_20_7 S d eM21 hk0 fl_RX8_71 dX8_strips_114 (fun H locs d => ?_)
      refine lv_iconst (v := 0) S.1 S.2.1 dX8_strips_117 (by decide) ?_
      refine lv_istore_n (lv' := [(2, .int (0 : Int32)), (1, .int (0 : Int32)), (0, .ref (ad G k0))]) S.1 S.2.1 dX8_strips_118 rfl hl (by decide) rfl (fun ls hl => ?_)
      refine lc_X8_strips_119 S hr hk0 _ (fun M22 H locs d ls hl h => ?_) _ _ _  h _ _ d _ (lv_sub hl [2, 0] rfl)
      refine lv_aload_n S.1 S.2.1 dX8_strips_143 rfl (lv_at hl 0 rfl) ?_
      refine gf_20_7 S d hk0 fl_RX8_71 dX8_strips_144 ?_
      obtain rfl := Option.some.inj h
      exact r_iret S d hr rfl rfl dX8_strips_147
    · replace h := it_p cc h
      refine lv_bipush (v := (-20)) S.1 S.2.1 dX8_strips_104 (by decide) ?_
      refine lv_aload_n S.1 S.2.1 dX8_strips_106 rfl (lv_at hl 1 rfl) ?_
      refine gf_20_11 S d hk0 fl_RX8_144 dX8_strips_107 ?_
      refine lv_isub S.1 S.2.1 dX8_strips_110 ?_
      obtain rfl := Option.some.inj h
      exact r_iret S d hr rfl rfl dX8_strips_111
  · replace h := it_n cc h
    refine lv_aload_n S.1 S.2.1 dX8_strips_82 rfl (lv_at hl 0 rfl) ?_
    obtain ⟨u11, hu11, h⟩ := bd_e h
    refine r_ri d (r_cV (As := []) (rest := []) S d (c_X8_nextByte l G M10 L fu k0 hk0 hu11) (ksdM S hk0) (wc_20 hk0) rfl ml_RX8_147 im_yX8_nextByte se_yX8_nextByte in_RX8 co_yX8_nextByte hyV_X8_nextByte ⟨rfl, rfl⟩ ⟨by decide, by decide⟩ rfl hl rfl (Nat.le_of_ble_eq_true rfl) dX8_strips_83 ⟨Nat.zero_le _, Nat.zero_le _⟩) (fun H locs d => ?_)
    obtain ⟨t12, g13, h⟩ := bd_e h
    have Jt12 : ∀ (H : Heap) (locs : List Loc), Dy G s u11.2 L H locs → W p l e rm_X8_strips s m args below meth c H locs 0 0 (MQ below (Qi G z.1 z.2 L) args s 0 0 (gA G)) (F0 m 94 ls [.int t12]) := by
      intro H locs d
      refine lv_istore_n (lv' := [(1, .int t12), (0, .ref (ad G k0))]) S.1 S.2.1 dX8_strips_94 rfl hl (by decide) rfl (fun ls hl => ?_)
      refine lv_aload_n S.1 S.2.1 dX8_strips_95 rfl (lv_at hl 1 rfl) ?_
      refine lv_iconst (v := 0) S.1 S.2.1 dX8_strips_96 (by decide) ?_
      obtain ⟨M14, eM14, h⟩ := lt_e h
      refine pf_20_10 S d eM14 hk0 fl_RX8_141 dX8_strips_97 (fun H locs d => ?_)
      refine lv_iload_n S.1 S.2.1 dX8_strips_100 rfl (lv_at hl 0 rfl) ?_
      refine lv_if_ne (tgt := 112) S.1 S.2.1 dX8_strips_101 (by decide) (fun cc => ?_) (fun cc => ?_)
      · replace h := it_n cc h
        refine lv_aload_n S.1 S.2.1 dX8_strips_112 rfl (lv_at hl 1 rfl) ?_
        refine lv_iconst (v := 0) S.1 S.2.1 dX8_strips_113 (by decide) ?_
        obtain ⟨M15, eM15, h⟩ := lt_e h
        refine pf_20_7 S d eM15 hk0 fl_RX8_71 dX8_strips_114 (fun H locs d => ?_)
        refine lv_iconst (v := 0) S.1 S.2.1 dX8_strips_117 (by decide) ?_
        refine lv_istore_n (lv' := [(2, .int (0 : Int32)), (1, .int t12), (0, .ref (ad G k0))]) S.1 S.2.1 dX8_strips_118 rfl hl (by decide) rfl (fun ls hl => ?_)
        refine lc_X8_strips_119 S hr hk0 _ (fun M19 H locs d ls hl h => ?_) _ _ _  h _ _ d _ (lv_sub hl [2, 0] rfl)
        refine lv_aload_n S.1 S.2.1 dX8_strips_143 rfl (lv_at hl 0 rfl) ?_
        refine gf_20_7 S d hk0 fl_RX8_71 dX8_strips_144 ?_
        obtain rfl := Option.some.inj h
        exact r_iret S d hr rfl rfl dX8_strips_147
      · replace h := it_p cc h
        refine lv_bipush (v := (-20)) S.1 S.2.1 dX8_strips_104 (by decide) ?_
        refine lv_aload_n S.1 S.2.1 dX8_strips_106 rfl (lv_at hl 1 rfl) ?_
        refine gf_20_11 S d hk0 fl_RX8_144 dX8_strips_107 ?_
        refine lv_isub S.1 S.2.1 dX8_strips_110 ?_
        obtain rfl := Option.some.inj h
        exact r_iret S d hr rfl rfl dX8_strips_111
    have h := g13
    refine lv_if_ge (tgt := 93) S.1 S.2.1 dX8_strips_86 (by decide) (fun cc => ?_) (fun cc => ?_)
    · replace h := it_p cc h
      refine lv_iconst (v := 0) S.1 S.2.1 dX8_strips_93 (by decide) ?_
      obtain ej := Option.some.inj h
      refine r_top ej.symm ?_
      exact Jt12 _ _ d
    · replace h := it_n cc h
      refine lv_iconst (v := 1) S.1 S.2.1 dX8_strips_89 (by decide) ?_
      refine lv_goto (tgt := 94) S.1 S.2.1 dX8_strips_90 (by decide) ?_
      obtain ej := Option.some.inj h
      refine r_top ej.symm ?_
      exact Jt12 _ _ d
theorem hyV_X8_readWord : yX8_readWord.cls = RX8 ∧ yX8_readWord.cls ≠ "java/lang/invoke/MethodHandle" ∧ yX8_readWord.cls ≠ "java/lang/invoke/VarHandle" ∧ (parseMethodDescriptor yX8_readWord.desc).map (fun d => d.parameters.length) = some 1 := by decide +kernel
abbrev rm_X8_readWord : Room := { frames := 2, cells := 0, slots := 0, locals := 49 }
def lp_X8_readWord_2 (fu : Nat) (b0 : Nat) (b1 : Int32) (K : Int32 → Mem → Option (Int32 × Mem)) : Nat → Int32 → Mem → Option (Int32 × Mem)
  | 0, _, _ => none
  | n + 1, x2, Mx =>
    (if (6 : Int32) ≤ x2 then (K x2 Mx)
    else (f_X8_nextByte fu Mx b0).bind (fun u1 =>
      (f_X8_in ((u1.1).toInt64) (97 : Int64) (122 : Int64)).bind (fun u2 =>
      (if u2 = 0 then (K x2 u1.2)
      else (f_X8_nextByte fu u1.2 b0).bind (fun u3 =>
        gd (inb ((b1 + (2 : Int32)) + x2) 40) (
        lt (up u3.2 (b0 + 9) ((b1 + (2 : Int32)) + x2).toNatClampNeg (u3.1 - (97 : Int32))) (fun M5 : Mem =>
        lt (x2 + 1) (fun v6 : Int32 =>
        lt (up M5 b0 11 ((M5 b0 11) + (1 : Int32))) (fun M7 : Mem =>
        (lp_X8_readWord_2 fu b0 b1 K n v6 M7))))))))))
def f_X8_readWord (fu : Nat) (M : Mem) (k0 : Nat) (a1 : Int32) : Option (Int32 × Mem) :=
  (lp_X8_readWord_2 fu k0 a1 (fun (v8 : Int32) (M9 : Mem) =>
    gd (inb a1 40) (
    lt (up M9 (k0 + 9) a1.toNatClampNeg v8) (fun M11 : Mem =>
    gd (inb (a1 + (1 : Int32)) 40) (
    lt (up M11 (k0 + 9) (a1 + (1 : Int32)).toNatClampNeg (10 : Int32)) (fun M13 : Mem =>
    (if v8 = 0 then some ((0 : Int32), M13)
    else (f_X8_nextByte fu M13 k0).bind (fun u14 =>
      (if u14.1 = (58 : Int32) then lt (up u14.2 k0 11 ((u14.2 k0 11) + (1 : Int32))) (fun M15 : Mem =>
        (f_X8_readNumber fu M15 k0 (0 : Int32) (99 : Int32)).bind (fun u16 =>
        gd (inb (a1 + (1 : Int32)) 40) (
        lt (up u16.2 (k0 + 9) (a1 + (1 : Int32)).toNatClampNeg u16.1) (fun M18 : Mem =>
        gd (inb (a1 + (1 : Int32)) 40) (
        (if (M18 (k0 + 9) (a1 + (1 : Int32)).toNatClampNeg) < 0 then some ((0 : Int32), M18)
        else some ((1 : Int32), M18)))))))
      else gd (inb (a1 + (1 : Int32)) 40) (
        (if (u14.2 (k0 + 9) (a1 + (1 : Int32)).toNatClampNeg) < 0 then some ((0 : Int32), u14.2)
        else some ((1 : Int32), u14.2))))))))))) fu (0 : Int32) M)
set_option maxHeartbeats 4000000 in
set_option maxRecDepth 100000 in
theorem lc_X8_readWord_2 {p : Program} {l : Launch} {e : Env} {s : State} {m : MethodId} {args : Array Value} {below : List Frame} {meth : Method} {c : Code} {G : Gx} {L : MemL} {fu : Nat} {b0 : Nat} {b1 : Int32} {z : Int32 × Mem} (S : Sx G true p s m args meth c cX8_readWord 3 RX8) (hr : meth.sig.returnType = (Option.some Jvm.ClassFile.FieldType.boolean)) (hb0 : kd b0 = 20) (K : Int32 → Mem → Option (Int32 × Mem)) (hK : ∀ (y2 : Int32) (My : Mem) (H : Heap) (locs : List Loc), Dy G s My L H locs → ∀ ls : Array Slot, lv_has ls 3 [(0, .ref (ad G b0)), (1, .int b1), (2, .int y2)] → K y2 My = some z → W p l e rm_X8_readWord s m args below meth c H locs 0 0 (MQ below (Qi G z.1 z.2 L) args s 0 0 (gA G)) (F0 m 58 ls [])) :
    ∀ (n : Nat) (x2 : Int32) (Mx : Mem), lp_X8_readWord_2 fu b0 b1 K n x2 Mx = some z → ∀ (H : Heap) (locs : List Loc), Dy G s Mx L H locs → ∀ ls : Array Slot, lv_has ls 3 [(0, .ref (ad G b0)), (1, .int b1), (2, .int x2)] → W p l e rm_X8_readWord s m args below meth c H locs 0 0 (MQ below (Qi G z.1 z.2 L) args s 0 0 (gA G)) (F0 m 2 ls []) := by
  intro n
  induction n with
  | zero =>
    intro x2 Mx h
    have h : (none : Option (Int32 × Mem)) = some z := h
    cases h
  | succ n ih =>
    intro x2 Mx h H locs d ls hl
    rw [lp_X8_readWord_2] at h
    refine lv_iload_n S.1 S.2.1 dX8_readWord_2 rfl (lv_at hl 2 rfl) ?_
    refine lv_bipush (v := 6) S.1 S.2.1 dX8_readWord_3 (by decide) ?_
    refine lv_icmp_ge (tgt := 58) S.1 S.2.1 dX8_readWord_5 (by decide) (fun cc => ?_) (fun cc => ?_)
    · replace h := it_p cc h
      exact hK _ _ _ _ d _ (lv_sub hl [0, 1, 2] rfl) h
    · replace h := it_n cc h
      refine lv_aload_n S.1 S.2.1 dX8_readWord_8 rfl (lv_at hl 0 rfl) ?_
      obtain ⟨u1, hu1, h⟩ := bd_e h
      refine r_ri d (r_cV (As := []) (rest := []) S d (c_X8_nextByte l G Mx L fu b0 hb0 hu1) (ksdM S hb0) (wc_20 hb0) rfl ml_RX8_147 im_yX8_nextByte se_yX8_nextByte in_RX8 co_yX8_nextByte hyV_X8_nextByte ⟨rfl, rfl⟩ ⟨by decide, by decide⟩ rfl hl rfl (Nat.le_of_ble_eq_true rfl) dX8_readWord_9 ⟨Nat.zero_le _, Nat.zero_le _⟩) (fun H locs d => ?_)
      refine lv_i2l S.1 S.2.1 dX8_readWord_12 rfl ?_
      refine lv_ldc2 (v := 97) S.1 S.2.1 S.2.2.2.1 (S.uw cn_RX8_160) dX8_readWord_13 ?_
      refine lv_ldc2 (v := 122) S.1 S.2.1 S.2.2.2.1 (S.uw cn_RX8_162) dX8_readWord_16 ?_
      obtain ⟨u2, hu2, h⟩ := bd_e h
      refine r_ri d (r_cS (As := [.long ((u1.1).toInt64), .long (97 : Int64), .long (122 : Int64)]) (rest := []) S d (c_X8_in l G u1.2 L ((u1.1).toInt64) (97 : Int64) (122 : Int64) hu2) ml_RX8_75 sm_yX8_in in_RX8 co_yX8_in hyS_X8_in ⟨rfl, rfl⟩ ⟨by decide, by decide⟩ rfl hl rfl (Nat.le_of_ble_eq_true rfl) dX8_readWord_19 ⟨Nat.zero_le _, Nat.zero_le _⟩) (fun H locs d => ?_)
      refine lv_if_eq (tgt := 58) S.1 S.2.1 dX8_readWord_22 (by decide) (fun cc => ?_) (fun cc => ?_)
      · replace h := it_p cc h
        exact hK _ _ _ _ d _ (lv_sub hl [0, 1, 2] rfl) h
      · replace h := it_n cc h
        refine lv_aload_n S.1 S.2.1 dX8_readWord_25 rfl (lv_at hl 0 rfl) ?_
        refine gf_20_13 S d hb0 fl_RX8_34 dX8_readWord_26 ?_
        refine lv_iload_n S.1 S.2.1 dX8_readWord_29 rfl (lv_at hl 1 rfl) ?_
        refine lv_iconst (v := 2) S.1 S.2.1 dX8_readWord_30 (by decide) ?_
        refine lv_iadd S.1 S.2.1 dX8_readWord_31 ?_
        refine lv_iload_n S.1 S.2.1 dX8_readWord_32 rfl (lv_at hl 2 rfl) ?_
        refine lv_iadd S.1 S.2.1 dX8_readWord_33 ?_
        refine lv_aload_n S.1 S.2.1 dX8_readWord_34 rfl (lv_at hl 0 rfl) ?_
        obtain ⟨u3, hu3, h⟩ := bd_e h
        refine r_ri d (r_cV (As := []) (rest := [.int ((b1 + (2 : Int32)) + x2), .ref (ad G (b0 + 9))]) S d (c_X8_nextByte l G u1.2 L fu b0 hb0 hu3) (ksdM S hb0) (wc_20 hb0) rfl ml_RX8_147 im_yX8_nextByte se_yX8_nextByte in_RX8 co_yX8_nextByte hyV_X8_nextByte ⟨rfl, rfl⟩ ⟨by decide, by decide⟩ rfl hl rfl (Nat.le_of_ble_eq_true rfl) dX8_readWord_35 ⟨Nat.zero_le _, Nat.zero_le _⟩) (fun H locs d => ?_)
        refine lv_bipush (v := 97) S.1 S.2.1 dX8_readWord_38 (by decide) ?_
        refine lv_isub S.1 S.2.1 dX8_readWord_40 ?_
        obtain ⟨g4, h⟩ := gd_e h
        obtain ⟨M5, eM5, h⟩ := lt_e h
        refine r_iast S d eM5 (ksdM S (ch_20_13 hb0).1) (fun _ => wc_21 (ch_20_13 hb0).1) (ch_20_13 hb0).2 g4 dX8_readWord_41 (fun H locs d => ?_)
        obtain ⟨v6, ev6, h⟩ := lt_e h
        refine lv_iinc (v := v6) (lv' := [(2, .int v6), (0, .ref (ad G b0)), (1, .int b1)]) S.1 S.2.1 dX8_readWord_42 hl (k := 2) rfl (by rw [ev6]; rfl) (by decide) rfl (fun ls hl => ?_)
        refine lv_aload_n S.1 S.2.1 dX8_readWord_45 rfl (lv_at hl 1 rfl) ?_
        refine lv_dup S.1 S.2.1 dX8_readWord_46 rfl ?_
        refine gf_20_11 S d hb0 fl_RX8_144 dX8_readWord_47 ?_
        refine lv_iconst (v := 1) S.1 S.2.1 dX8_readWord_50 (by decide) ?_
        refine lv_iadd S.1 S.2.1 dX8_readWord_51 ?_
        obtain ⟨M7, eM7, h⟩ := lt_e h
        refine pf_20_11 S d eM7 hb0 fl_RX8_144 dX8_readWord_52 (fun H locs d => ?_)
        refine lv_goto (tgt := 2) S.1 S.2.1 dX8_readWord_55 (by decide) ?_
        exact ih _ _ h _ _ d _ (lv_sub hl [1, 2, 0] rfl)
set_option maxHeartbeats 4000000 in
set_option maxRecDepth 100000 in
theorem c_X8_readWord (l : Launch) (G : Gx) (M : Mem) (L : MemL) (fu : Nat) (k0 : Nat) (a1 : Int32) (hk0 : kd k0 = 20) {z : Int32 × Mem} (h : f_X8_readWord fu M k0 a1 = some z) : Met l yX8_readWord (.code yX8_readWord cX8_readWord 3 (Option.some Jvm.ClassFile.FieldType.boolean) :: UW) rm_X8_readWord (va_Pc [.ref (ad G k0), .int a1] (PreG G true M L)) (Qi G z.1 z.2 L) 0 0 (gA G) := by
  refine r_in (by decide) (fun p e s m args below meth c S hr d ha ls hl => ?_) (Nat.le_of_ble_eq_true rfl)
  have S : Sx G true p s m args meth c cX8_readWord 3 RX8 := S
  have hl : lv_has ls 3 [(0, .ref (ad G k0)), (1, .int a1)] := hl
  unfold f_X8_readWord at h
  refine lv_iconst (v := 0) S.1 S.2.1 dX8_readWord_0 (by decide) ?_
  refine lv_istore_n (lv' := [(2, .int (0 : Int32)), (0, .ref (ad G k0)), (1, .int a1)]) S.1 S.2.1 dX8_readWord_1 rfl hl (by decide) rfl (fun ls hl => ?_)
  refine lc_X8_readWord_2 S hr hk0 _ (fun v8 M9 H locs d ls hl h => ?_) _ _ _  h _ _ d _ (lv_sub hl [1, 2, 0] rfl)
  refine lv_aload_n S.1 S.2.1 dX8_readWord_58 rfl (lv_at hl 0 rfl) ?_
  refine gf_20_13 S d hk0 fl_RX8_34 dX8_readWord_59 ?_
  refine lv_iload_n S.1 S.2.1 dX8_readWord_62 rfl (lv_at hl 1 rfl) ?_
  refine lv_iload_n S.1 S.2.1 dX8_readWord_63 rfl (lv_at hl 2 rfl) ?_
  obtain ⟨g10, h⟩ := gd_e h
  obtain ⟨M11, eM11, h⟩ := lt_e h
  refine r_iast S d eM11 (ksdM S (ch_20_13 hk0).1) (fun _ => wc_21 (ch_20_13 hk0).1) (ch_20_13 hk0).2 g10 dX8_readWord_64 (fun H locs d => ?_)
  refine lv_aload_n S.1 S.2.1 dX8_readWord_65 rfl (lv_at hl 0 rfl) ?_
  refine gf_20_13 S d hk0 fl_RX8_34 dX8_readWord_66 ?_
  refine lv_iload_n S.1 S.2.1 dX8_readWord_69 rfl (lv_at hl 1 rfl) ?_
  refine lv_iconst (v := 1) S.1 S.2.1 dX8_readWord_70 (by decide) ?_
  refine lv_iadd S.1 S.2.1 dX8_readWord_71 ?_
  refine lv_bipush (v := 10) S.1 S.2.1 dX8_readWord_72 (by decide) ?_
  obtain ⟨g12, h⟩ := gd_e h
  obtain ⟨M13, eM13, h⟩ := lt_e h
  refine r_iast S d eM13 (ksdM S (ch_20_13 hk0).1) (fun _ => wc_21 (ch_20_13 hk0).1) (ch_20_13 hk0).2 g12 dX8_readWord_74 (fun H locs d => ?_)
  refine lv_iload_n S.1 S.2.1 dX8_readWord_75 rfl (lv_at hl 2 rfl) ?_
  refine lv_if_ne (tgt := 81) S.1 S.2.1 dX8_readWord_76 (by decide) (fun cc => ?_) (fun cc => ?_)
  · replace h := it_n cc h
    refine lv_aload_n S.1 S.2.1 dX8_readWord_81 rfl (lv_at hl 0 rfl) ?_
    obtain ⟨u14, hu14, h⟩ := bd_e h
    refine r_ri d (r_cV (As := []) (rest := []) S d (c_X8_nextByte l G M13 L fu k0 hk0 hu14) (ksdM S hk0) (wc_20 hk0) rfl ml_RX8_147 im_yX8_nextByte se_yX8_nextByte in_RX8 co_yX8_nextByte hyV_X8_nextByte ⟨rfl, rfl⟩ ⟨by decide, by decide⟩ rfl hl rfl (Nat.le_of_ble_eq_true rfl) dX8_readWord_82 ⟨Nat.zero_le _, Nat.zero_le _⟩) (fun H locs d => ?_)
    refine lv_bipush (v := 58) S.1 S.2.1 dX8_readWord_85 (by decide) ?_
    refine lv_icmp_ne (tgt := 115) S.1 S.2.1 dX8_readWord_87 (by decide) (fun cc => ?_) (fun cc => ?_)
    · replace h := it_n cc h
      refine lv_aload_n S.1 S.2.1 dX8_readWord_115 rfl (lv_at hl 0 rfl) ?_
      refine gf_20_13 S d hk0 fl_RX8_34 dX8_readWord_116 ?_
      refine lv_iload_n S.1 S.2.1 dX8_readWord_119 rfl (lv_at hl 1 rfl) ?_
      refine lv_iconst (v := 1) S.1 S.2.1 dX8_readWord_120 (by decide) ?_
      refine lv_iadd S.1 S.2.1 dX8_readWord_121 ?_
      obtain ⟨g20, h⟩ := gd_e h
      refine r_iald S d (ksdM S (ch_20_13 hk0).1) (wc_21 (ch_20_13 hk0).1) (ch_20_13 hk0).2 g20 dX8_readWord_122 ?_
      refine lv_if_lt (tgt := 130) S.1 S.2.1 dX8_readWord_123 (by decide) (fun cc => ?_) (fun cc => ?_)
      · replace h := it_p cc h
        refine lv_iconst (v := 0) S.1 S.2.1 dX8_readWord_130 (by decide) ?_
        obtain rfl := Option.some.inj h
        exact r_iret S d hr rfl rfl dX8_readWord_131
      · replace h := it_n cc h
        refine lv_iconst (v := 1) S.1 S.2.1 dX8_readWord_126 (by decide) ?_
        refine lv_goto (tgt := 131) S.1 S.2.1 dX8_readWord_127 (by decide) ?_
        obtain rfl := Option.some.inj h
        exact r_iret S d hr rfl rfl dX8_readWord_131
    · replace h := it_p cc h
      refine lv_aload_n S.1 S.2.1 dX8_readWord_90 rfl (lv_at hl 0 rfl) ?_
      refine lv_dup S.1 S.2.1 dX8_readWord_91 rfl ?_
      refine gf_20_11 S d hk0 fl_RX8_144 dX8_readWord_92 ?_
      refine lv_iconst (v := 1) S.1 S.2.1 dX8_readWord_95 (by decide) ?_
      refine lv_iadd S.1 S.2.1 dX8_readWord_96 ?_
      obtain ⟨M15, eM15, h⟩ := lt_e h
      refine pf_20_11 S d eM15 hk0 fl_RX8_144 dX8_readWord_97 (fun H locs d => ?_)
      refine lv_aload_n S.1 S.2.1 dX8_readWord_100 rfl (lv_at hl 0 rfl) ?_
      refine gf_20_13 S d hk0 fl_RX8_34 dX8_readWord_101 ?_
      refine lv_iload_n S.1 S.2.1 dX8_readWord_104 rfl (lv_at hl 1 rfl) ?_
      refine lv_iconst (v := 1) S.1 S.2.1 dX8_readWord_105 (by decide) ?_
      refine lv_iadd S.1 S.2.1 dX8_readWord_106 ?_
      refine lv_aload_n S.1 S.2.1 dX8_readWord_107 rfl (lv_at hl 0 rfl) ?_
      refine lv_iconst (v := 0) S.1 S.2.1 dX8_readWord_108 (by decide) ?_
      refine lv_bipush (v := 99) S.1 S.2.1 dX8_readWord_109 (by decide) ?_
      obtain ⟨u16, hu16, h⟩ := bd_e h
      refine r_ri d (r_cV (As := [.int (0 : Int32), .int (99 : Int32)]) (rest := [.int (a1 + (1 : Int32)), .ref (ad G (k0 + 9))]) S d (c_X8_readNumber l G M15 L fu k0 (0 : Int32) (99 : Int32) hk0 hu16) (ksdM S hk0) (wc_20 hk0) rfl ml_RX8_164 im_yX8_readNumber se_yX8_readNumber in_RX8 co_yX8_readNumber hyV_X8_readNumber ⟨rfl, rfl⟩ ⟨by decide, by decide⟩ rfl hl rfl (Nat.le_of_ble_eq_true rfl) dX8_readWord_111 ⟨Nat.zero_le _, Nat.zero_le _⟩) (fun H locs d => ?_)
      obtain ⟨g17, h⟩ := gd_e h
      obtain ⟨M18, eM18, h⟩ := lt_e h
      refine r_iast S d eM18 (ksdM S (ch_20_13 hk0).1) (fun _ => wc_21 (ch_20_13 hk0).1) (ch_20_13 hk0).2 g17 dX8_readWord_114 (fun H locs d => ?_)
      refine lv_aload_n S.1 S.2.1 dX8_readWord_115 rfl (lv_at hl 0 rfl) ?_
      refine gf_20_13 S d hk0 fl_RX8_34 dX8_readWord_116 ?_
      refine lv_iload_n S.1 S.2.1 dX8_readWord_119 rfl (lv_at hl 1 rfl) ?_
      refine lv_iconst (v := 1) S.1 S.2.1 dX8_readWord_120 (by decide) ?_
      refine lv_iadd S.1 S.2.1 dX8_readWord_121 ?_
      obtain ⟨g19, h⟩ := gd_e h
      refine r_iald S d (ksdM S (ch_20_13 hk0).1) (wc_21 (ch_20_13 hk0).1) (ch_20_13 hk0).2 g19 dX8_readWord_122 ?_
      refine lv_if_lt (tgt := 130) S.1 S.2.1 dX8_readWord_123 (by decide) (fun cc => ?_) (fun cc => ?_)
      · replace h := it_p cc h
        refine lv_iconst (v := 0) S.1 S.2.1 dX8_readWord_130 (by decide) ?_
        obtain rfl := Option.some.inj h
        exact r_iret S d hr rfl rfl dX8_readWord_131
      · replace h := it_n cc h
        refine lv_iconst (v := 1) S.1 S.2.1 dX8_readWord_126 (by decide) ?_
        refine lv_goto (tgt := 131) S.1 S.2.1 dX8_readWord_127 (by decide) ?_
        obtain rfl := Option.some.inj h
        exact r_iret S d hr rfl rfl dX8_readWord_131
  · replace h := it_p cc h
    refine lv_iconst (v := 0) S.1 S.2.1 dX8_readWord_79 (by decide) ?_
    obtain rfl := Option.some.inj h
    exact r_iret S d hr rfl rfl dX8_readWord_80
theorem hyV_X8_readWords : yX8_readWords.cls = RX8 ∧ yX8_readWords.cls ≠ "java/lang/invoke/MethodHandle" ∧ yX8_readWords.cls ≠ "java/lang/invoke/VarHandle" ∧ (parseMethodDescriptor yX8_readWords.desc).map (fun d => d.parameters.length) = some 0 := by decide +kernel
abbrev rm_X8_readWords : Room := { frames := 3, cells := 0, slots := 0, locals := 71 }
def lp_X8_readWords_7 (fu : Nat) (b0 : Nat) (K : Mem → Option (Int32 × Mem)) : Nat → Int32 → Mem → Option (Int32 × Mem)
  | 0, _, _ => none
  | n + 1, x1, Mx =>
    (if (4 : Int32) ≤ x1 then (K Mx)
    else (f_X8_readWord fu Mx b0 ((8 : Int32) * x1)).bind (fun u2 =>
      (if u2.1 = 0 then some ((0 : Int32), u2.2)
      else lt (up u2.2 b0 12 (x1 + (1 : Int32))) (fun M3 : Mem =>
        (f_X8_nextByte fu M3 b0).bind (fun u4 =>
        lt (u4.1) (fun v5 : Int32 =>
        (if 0 ≤ v5 then (if v5 = (44 : Int32) then (if x1 = (3 : Int32) then some ((0 : Int32), u4.2)
            else lt (up u4.2 b0 11 ((u4.2 b0 11) + (1 : Int32))) (fun M6 : Mem =>
              lt (x1 + 1) (fun v7 : Int32 =>
              (lp_X8_readWords_7 fu b0 K n v7 M6))))
          else some ((0 : Int32), u4.2))
        else some ((1 : Int32), u4.2))))))))
def f_X8_readWords (fu : Nat) (M : Mem) (k0 : Nat) : Option (Int32 × Mem) :=
  lt (up M k0 11 (0 : Int32)) (fun M1 : Mem =>
  (lp_X8_readWords_7 fu k0 (fun (M8 : Mem) =>
    some ((0 : Int32), M8)) fu (0 : Int32) M1))
set_option maxHeartbeats 4000000 in
set_option maxRecDepth 100000 in
theorem lc_X8_readWords_7 {p : Program} {l : Launch} {e : Env} {s : State} {m : MethodId} {args : Array Value} {below : List Frame} {meth : Method} {c : Code} {G : Gx} {L : MemL} {fu : Nat} {b0 : Nat} {z : Int32 × Mem} (S : Sx G true p s m args meth c cX8_readWords 3 RX8) (hr : meth.sig.returnType = (Option.some Jvm.ClassFile.FieldType.boolean)) (hb0 : kd b0 = 20) (K : Mem → Option (Int32 × Mem)) (hK : ∀ (My : Mem) (H : Heap) (locs : List Loc), Dy G s My L H locs → ∀ ls : Array Slot, lv_has ls 3 [] → K My = some z → W p l e rm_X8_readWords s m args below meth c H locs 0 0 (MQ below (Qi G z.1 z.2 L) args s 0 0 (gA G)) (F0 m 72 ls [])) :
    ∀ (n : Nat) (x1 : Int32) (Mx : Mem), lp_X8_readWords_7 fu b0 K n x1 Mx = some z → ∀ (H : Heap) (locs : List Loc), Dy G s Mx L H locs → ∀ ls : Array Slot, lv_has ls 3 [(0, .ref (ad G b0)), (1, .int x1)] → W p l e rm_X8_readWords s m args below meth c H locs 0 0 (MQ below (Qi G z.1 z.2 L) args s 0 0 (gA G)) (F0 m 7 ls []) := by
  intro n
  induction n with
  | zero =>
    intro x1 Mx h
    have h : (none : Option (Int32 × Mem)) = some z := h
    cases h
  | succ n ih =>
    intro x1 Mx h H locs d ls hl
    rw [lp_X8_readWords_7] at h
    refine lv_iload_n S.1 S.2.1 dX8_readWords_7 rfl (lv_at hl 1 rfl) ?_
    refine lv_iconst (v := 4) S.1 S.2.1 dX8_readWords_8 (by decide) ?_
    refine lv_icmp_ge (tgt := 72) S.1 S.2.1 dX8_readWords_9 (by decide) (fun cc => ?_) (fun cc => ?_)
    · replace h := it_p cc h
      exact hK _ _ _ d _ (lv_sub hl [] rfl) h
    · replace h := it_n cc h
      refine lv_aload_n S.1 S.2.1 dX8_readWords_12 rfl (lv_at hl 0 rfl) ?_
      refine lv_bipush (v := 8) S.1 S.2.1 dX8_readWords_13 (by decide) ?_
      refine lv_iload_n S.1 S.2.1 dX8_readWords_15 rfl (lv_at hl 1 rfl) ?_
      refine lv_imul S.1 S.2.1 dX8_readWords_16 ?_
      obtain ⟨u2, hu2, h⟩ := bd_e h
      refine r_ri d (r_cV (As := [.int ((8 : Int32) * x1)]) (rest := []) S d (c_X8_readWord l G Mx L fu b0 ((8 : Int32) * x1) hb0 hu2) (ksdM S hb0) (wc_20 hb0) rfl ml_RX8_167 im_yX8_readWord se_yX8_readWord in_RX8 co_yX8_readWord hyV_X8_readWord ⟨rfl, rfl⟩ ⟨by decide, by decide⟩ rfl hl rfl (Nat.le_of_ble_eq_true rfl) dX8_readWords_17 ⟨Nat.zero_le _, Nat.zero_le _⟩) (fun H locs d => ?_)
      refine lv_if_ne (tgt := 25) S.1 S.2.1 dX8_readWords_20 (by decide) (fun cc => ?_) (fun cc => ?_)
      · replace h := it_n cc h
        refine lv_aload_n S.1 S.2.1 dX8_readWords_25 rfl (lv_at hl 0 rfl) ?_
        refine lv_iload_n S.1 S.2.1 dX8_readWords_26 rfl (lv_at hl 1 rfl) ?_
        refine lv_iconst (v := 1) S.1 S.2.1 dX8_readWords_27 (by decide) ?_
        refine lv_iadd S.1 S.2.1 dX8_readWords_28 ?_
        obtain ⟨M3, eM3, h⟩ := lt_e h
        refine pf_20_12 S d eM3 hb0 fl_RX8_155 dX8_readWords_29 (fun H locs d => ?_)
        refine lv_aload_n S.1 S.2.1 dX8_readWords_32 rfl (lv_at hl 0 rfl) ?_
        obtain ⟨u4, hu4, h⟩ := bd_e h
        refine r_ri d (r_cV (As := []) (rest := []) S d (c_X8_nextByte l G M3 L fu b0 hb0 hu4) (ksdM S hb0) (wc_20 hb0) rfl ml_RX8_147 im_yX8_nextByte se_yX8_nextByte in_RX8 co_yX8_nextByte hyV_X8_nextByte ⟨rfl, rfl⟩ ⟨by decide, by decide⟩ rfl hl rfl (Nat.le_of_ble_eq_true rfl) dX8_readWords_33 ⟨Nat.zero_le _, Nat.zero_le _⟩) (fun H locs d => ?_)
        obtain ⟨v5, ev5, h⟩ := lt_e h
        refine r_top ev5 ?_
        refine lv_istore_n (lv' := [(2, .int v5), (0, .ref (ad G b0)), (1, .int x1)]) S.1 S.2.1 dX8_readWords_36 rfl hl (by decide) rfl (fun ls hl => ?_)
        refine lv_iload_n S.1 S.2.1 dX8_readWords_37 rfl (lv_at hl 0 rfl) ?_
        refine lv_if_ge (tgt := 43) S.1 S.2.1 dX8_readWords_38 (by decide) (fun cc => ?_) (fun cc => ?_)
        · replace h := it_p cc h
          refine lv_iload_n S.1 S.2.1 dX8_readWords_43 rfl (lv_at hl 0 rfl) ?_
          refine lv_bipush (v := 44) S.1 S.2.1 dX8_readWords_44 (by decide) ?_
          refine lv_icmp_ne (tgt := 54) S.1 S.2.1 dX8_readWords_46 (by decide) (fun cc => ?_) (fun cc => ?_)
          · replace h := it_n cc h
            refine lv_iconst (v := 0) S.1 S.2.1 dX8_readWords_54 (by decide) ?_
            obtain rfl := Option.some.inj h
            exact r_iret S d hr rfl rfl dX8_readWords_55
          · replace h := it_p cc h
            refine lv_iload_n S.1 S.2.1 dX8_readWords_49 rfl (lv_at hl 2 rfl) ?_
            refine lv_iconst (v := 3) S.1 S.2.1 dX8_readWords_50 (by decide) ?_
            refine lv_icmp_ne (tgt := 56) S.1 S.2.1 dX8_readWords_51 (by decide) (fun cc => ?_) (fun cc => ?_)
            · replace h := it_n cc h
              refine lv_aload_n S.1 S.2.1 dX8_readWords_56 rfl (lv_at hl 1 rfl) ?_
              refine lv_dup S.1 S.2.1 dX8_readWords_57 rfl ?_
              refine gf_20_11 S d hb0 fl_RX8_144 dX8_readWords_58 ?_
              refine lv_iconst (v := 1) S.1 S.2.1 dX8_readWords_61 (by decide) ?_
              refine lv_iadd S.1 S.2.1 dX8_readWords_62 ?_
              obtain ⟨M6, eM6, h⟩ := lt_e h
              refine pf_20_11 S d eM6 hb0 fl_RX8_144 dX8_readWords_63 (fun H locs d => ?_)
              obtain ⟨v7, ev7, h⟩ := lt_e h
              refine lv_iinc (v := v7) (lv' := [(1, .int v7), (2, .int v5), (0, .ref (ad G b0))]) S.1 S.2.1 dX8_readWords_66 hl (k := 2) rfl (by rw [ev7]; rfl) (by decide) rfl (fun ls hl => ?_)
              refine lv_goto (tgt := 7) S.1 S.2.1 dX8_readWords_69 (by decide) ?_
              exact ih _ _ h _ _ d _ (lv_sub hl [2, 0] rfl)
            · replace h := it_p cc h
              refine lv_iconst (v := 0) S.1 S.2.1 dX8_readWords_54 (by decide) ?_
              obtain rfl := Option.some.inj h
              exact r_iret S d hr rfl rfl dX8_readWords_55
        · replace h := it_n cc h
          refine lv_iconst (v := 1) S.1 S.2.1 dX8_readWords_41 (by decide) ?_
          obtain rfl := Option.some.inj h
          exact r_iret S d hr rfl rfl dX8_readWords_42
      · replace h := it_p cc h
        refine lv_iconst (v := 0) S.1 S.2.1 dX8_readWords_23 (by decide) ?_
        obtain rfl := Option.some.inj h
        exact r_iret S d hr rfl rfl dX8_readWords_24
set_option maxHeartbeats 4000000 in
set_option maxRecDepth 100000 in
theorem c_X8_readWords (l : Launch) (G : Gx) (M : Mem) (L : MemL) (fu : Nat) (k0 : Nat) (hk0 : kd k0 = 20) {z : Int32 × Mem} (h : f_X8_readWords fu M k0 = some z) : Met l yX8_readWords (.code yX8_readWords cX8_readWords 3 (Option.some Jvm.ClassFile.FieldType.boolean) :: UW) rm_X8_readWords (va_Pc [.ref (ad G k0)] (PreG G true M L)) (Qi G z.1 z.2 L) 0 0 (gA G) := by
  refine r_in (by decide) (fun p e s m args below meth c S hr d ha ls hl => ?_) (Nat.le_of_ble_eq_true rfl)
  have S : Sx G true p s m args meth c cX8_readWords 3 RX8 := S
  have hl : lv_has ls 3 [(0, .ref (ad G k0))] := hl
  unfold f_X8_readWords at h
  refine lv_aload_n S.1 S.2.1 dX8_readWords_0 rfl (lv_at hl 0 rfl) ?_
  refine lv_iconst (v := 0) S.1 S.2.1 dX8_readWords_1 (by decide) ?_
  obtain ⟨M1, eM1, h⟩ := lt_e h
  refine pf_20_11 S d eM1 hk0 fl_RX8_144 dX8_readWords_2 (fun H locs d => ?_)
  refine lv_iconst (v := 0) S.1 S.2.1 dX8_readWords_5 (by decide) ?_
  refine lv_istore_n (lv' := [(1, .int (0 : Int32)), (0, .ref (ad G k0))]) S.1 S.2.1 dX8_readWords_6 rfl hl (by decide) rfl (fun ls hl => ?_)
  refine lc_X8_readWords_7 S hr hk0 _ (fun M8 H locs d ls hl h => ?_) _ _ _  h _ _ d _ (lv_sub hl [1, 0] rfl)
  refine lv_iconst (v := 0) S.1 S.2.1 dX8_readWords_72 (by decide) ?_
  obtain rfl := Option.some.inj h
  exact r_iret S d hr rfl rfl dX8_readWords_73
theorem hyV_X8_words : yX8_words.cls = RX8 ∧ yX8_words.cls ≠ "java/lang/invoke/MethodHandle" ∧ yX8_words.cls ≠ "java/lang/invoke/VarHandle" ∧ (parseMethodDescriptor yX8_words.desc).map (fun d => d.parameters.length) = some 0 := by decide +kernel
abbrev rm_X8_words : Room := { frames := 4, cells := 0, slots := 0, locals := 93 }
def lp_X8_words_41 (fu : Nat) (b0 : Nat) (K : Mem → Option (Int32 × Mem)) : Nat → Int32 → Mem → Option (Int32 × Mem)
  | 0, _, _ => none
  | n + 1, x2, Mx =>
    (if ((8 : Int32) * (Mx b0 12)) ≤ x2 then (K Mx)
    else gd (inb x2 40) (
      gd (inb (((8 : Int32) * (Mx b0 8)) + x2) 80) (
      lt (up Mx (b0 + 7) (((8 : Int32) * (Mx b0 8)) + x2).toNatClampNeg (Mx (b0 + 9) x2.toNatClampNeg)) (fun M6 : Mem =>
      lt (x2 + 1) (fun v7 : Int32 =>
      (lp_X8_words_41 fu b0 K n v7 M6))))))
def f_X8_words (fu : Nat) (M : Mem) (k0 : Nat) : Option (Int32 × Mem) :=
  (f_X8_readWords fu M k0).bind (fun u1 =>
  lt (u1.1) (fun v2 : Int32 =>
  lt (up u1.2 k0 10 (0 : Int32)) (fun M3 : Mem =>
  (if v2 = 0 then some (((-20 : Int32) - (M3 k0 11)), M3)
  else (if ((M3 k0 8) + (M3 k0 12)) ≤ (10 : Int32) then (lp_X8_words_41 fu k0 (fun (M8 : Mem) =>
        lt (up M8 k0 8 ((M8 k0 8) + (M8 k0 12))) (fun M9 : Mem =>
        some ((M9 k0 12), M9))) fu (0 : Int32) M3)
    else some ((-3 : Int32), M3))))))
set_option maxHeartbeats 4000000 in
set_option maxRecDepth 100000 in
theorem lc_X8_words_41 {p : Program} {l : Launch} {e : Env} {s : State} {m : MethodId} {args : Array Value} {below : List Frame} {meth : Method} {c : Code} {G : Gx} {L : MemL} {fu : Nat} {b0 : Nat} {z : Int32 × Mem} (S : Sx G true p s m args meth c cX8_words 3 RX8) (hr : meth.sig.returnType = (Option.some Jvm.ClassFile.FieldType.int)) (hb0 : kd b0 = 20) (K : Mem → Option (Int32 × Mem)) (hK : ∀ (My : Mem) (H : Heap) (locs : List Loc), Dy G s My L H locs → ∀ ls : Array Slot, lv_has ls 3 [(0, .ref (ad G b0))] → K My = some z → W p l e rm_X8_words s m args below meth c H locs 0 0 (MQ below (Qi G z.1 z.2 L) args s 0 0 (gA G)) (F0 m 78 ls [])) :
    ∀ (n : Nat) (x2 : Int32) (Mx : Mem), lp_X8_words_41 fu b0 K n x2 Mx = some z → ∀ (H : Heap) (locs : List Loc), Dy G s Mx L H locs → ∀ ls : Array Slot, lv_has ls 3 [(0, .ref (ad G b0)), (2, .int x2)] → W p l e rm_X8_words s m args below meth c H locs 0 0 (MQ below (Qi G z.1 z.2 L) args s 0 0 (gA G)) (F0 m 41 ls []) := by
  intro n
  induction n with
  | zero =>
    intro x2 Mx h
    have h : (none : Option (Int32 × Mem)) = some z := h
    cases h
  | succ n ih =>
    intro x2 Mx h H locs d ls hl
    rw [lp_X8_words_41] at h
    refine lv_iload_n S.1 S.2.1 dX8_words_41 rfl (lv_at hl 1 rfl) ?_
    refine lv_bipush (v := 8) S.1 S.2.1 dX8_words_42 (by decide) ?_
    refine lv_aload_n S.1 S.2.1 dX8_words_44 rfl (lv_at hl 0 rfl) ?_
    refine gf_20_12 S d hb0 fl_RX8_155 dX8_words_45 ?_
    refine lv_imul S.1 S.2.1 dX8_words_48 ?_
    refine lv_icmp_ge (tgt := 78) S.1 S.2.1 dX8_words_49 (by decide) (fun cc => ?_) (fun cc => ?_)
    · replace h := it_p cc h
      exact hK _ _ _ d _ (lv_sub hl [0] rfl) h
    · replace h := it_n cc h
      refine lv_aload_n S.1 S.2.1 dX8_words_52 rfl (lv_at hl 0 rfl) ?_
      refine gf_20_6 S d hb0 fl_RX8_28 dX8_words_53 ?_
      refine lv_bipush (v := 8) S.1 S.2.1 dX8_words_56 (by decide) ?_
      refine lv_aload_n S.1 S.2.1 dX8_words_58 rfl (lv_at hl 0 rfl) ?_
      refine gf_20_8 S d hb0 fl_RX8_83 dX8_words_59 ?_
      refine lv_imul S.1 S.2.1 dX8_words_62 ?_
      refine lv_iload_n S.1 S.2.1 dX8_words_63 rfl (lv_at hl 1 rfl) ?_
      refine lv_iadd S.1 S.2.1 dX8_words_64 ?_
      refine lv_aload_n S.1 S.2.1 dX8_words_65 rfl (lv_at hl 0 rfl) ?_
      refine gf_20_13 S d hb0 fl_RX8_34 dX8_words_66 ?_
      refine lv_iload_n S.1 S.2.1 dX8_words_69 rfl (lv_at hl 1 rfl) ?_
      obtain ⟨g4, h⟩ := gd_e h
      refine r_iald S d (ksdM S (ch_20_13 hb0).1) (wc_21 (ch_20_13 hb0).1) (ch_20_13 hb0).2 g4 dX8_words_70 ?_
      obtain ⟨g5, h⟩ := gd_e h
      obtain ⟨M6, eM6, h⟩ := lt_e h
      refine r_iast S d eM6 (ksdM S (ch_20_6 hb0).1) (fun _ => wc_21 (ch_20_6 hb0).1) (ch_20_6 hb0).2 g5 dX8_words_71 (fun H locs d => ?_)
      obtain ⟨v7, ev7, h⟩ := lt_e h
      refine lv_iinc (v := v7) (lv' := [(2, .int v7), (0, .ref (ad G b0))]) S.1 S.2.1 dX8_words_72 hl (k := 1) rfl (by rw [ev7]; rfl) (by decide) rfl (fun ls hl => ?_)
      refine lv_goto (tgt := 41) S.1 S.2.1 dX8_words_75 (by decide) ?_
      exact ih _ _ h _ _ d _ (lv_sub hl [1, 0] rfl)
set_option maxHeartbeats 4000000 in
set_option maxRecDepth 100000 in
theorem c_X8_words (l : Launch) (G : Gx) (M : Mem) (L : MemL) (fu : Nat) (k0 : Nat) (hk0 : kd k0 = 20) {z : Int32 × Mem} (h : f_X8_words fu M k0 = some z) : Met l yX8_words (.code yX8_words cX8_words 3 (Option.some Jvm.ClassFile.FieldType.int) :: UW) rm_X8_words (va_Pc [.ref (ad G k0)] (PreG G true M L)) (Qi G z.1 z.2 L) 0 0 (gA G) := by
  refine r_in (by decide) (fun p e s m args below meth c S hr d ha ls hl => ?_) (Nat.le_of_ble_eq_true rfl)
  have S : Sx G true p s m args meth c cX8_words 3 RX8 := S
  have hl : lv_has ls 3 [(0, .ref (ad G k0))] := hl
  unfold f_X8_words at h
  refine lv_aload_n S.1 S.2.1 dX8_words_0 rfl (lv_at hl 0 rfl) ?_
  obtain ⟨u1, hu1, h⟩ := bd_e h
  refine r_ri d (r_cV (As := []) (rest := []) S d (c_X8_readWords l G M L fu k0 hk0 hu1) (ksdM S hk0) (wc_20 hk0) rfl ml_RX8_170 im_yX8_readWords se_yX8_readWords in_RX8 co_yX8_readWords hyV_X8_readWords ⟨rfl, rfl⟩ ⟨by decide, by decide⟩ rfl hl rfl (Nat.le_of_ble_eq_true rfl) dX8_words_1 ⟨Nat.zero_le _, Nat.zero_le _⟩) (fun H locs d => ?_)
  obtain ⟨v2, ev2, h⟩ := lt_e h
  refine r_top ev2 ?_
  refine lv_istore_n (lv' := [(1, .int v2), (0, .ref (ad G k0))]) S.1 S.2.1 dX8_words_4 rfl hl (by decide) rfl (fun ls hl => ?_)
  refine lv_aload_n S.1 S.2.1 dX8_words_5 rfl (lv_at hl 1 rfl) ?_
  refine lv_iconst (v := 0) S.1 S.2.1 dX8_words_6 (by decide) ?_
  obtain ⟨M3, eM3, h⟩ := lt_e h
  refine pf_20_10 S d eM3 hk0 fl_RX8_141 dX8_words_7 (fun H locs d => ?_)
  refine lv_iload_n S.1 S.2.1 dX8_words_10 rfl (lv_at hl 0 rfl) ?_
  refine lv_if_ne (tgt := 22) S.1 S.2.1 dX8_words_11 (by decide) (fun cc => ?_) (fun cc => ?_)
  · replace h := it_n cc h
    refine lv_aload_n S.1 S.2.1 dX8_words_22 rfl (lv_at hl 1 rfl) ?_
    refine gf_20_8 S d hk0 fl_RX8_83 dX8_words_23 ?_
    refine lv_aload_n S.1 S.2.1 dX8_words_26 rfl (lv_at hl 1 rfl) ?_
    refine gf_20_12 S d hk0 fl_RX8_155 dX8_words_27 ?_
    refine lv_iadd S.1 S.2.1 dX8_words_30 ?_
    refine lv_bipush (v := 10) S.1 S.2.1 dX8_words_31 (by decide) ?_
    refine lv_icmp_le (tgt := 39) S.1 S.2.1 dX8_words_33 (by decide) (fun cc => ?_) (fun cc => ?_)
    · replace h := it_p cc h
      refine lv_iconst (v := 0) S.1 S.2.1 dX8_words_39 (by decide) ?_
      refine lv_istore_n (lv' := [(2, .int (0 : Int32)), (1, .int v2), (0, .ref (ad G k0))]) S.1 S.2.1 dX8_words_40 rfl hl (by decide) rfl (fun ls hl => ?_)
      refine lc_X8_words_41 S hr hk0 _ (fun M8 H locs d ls hl h => ?_) _ _ _  h _ _ d _ (lv_sub hl [2, 0] rfl)
      refine lv_aload_n S.1 S.2.1 dX8_words_78 rfl (lv_at hl 0 rfl) ?_
      refine lv_dup S.1 S.2.1 dX8_words_79 rfl ?_
      refine gf_20_8 S d hk0 fl_RX8_83 dX8_words_80 ?_
      refine lv_aload_n S.1 S.2.1 dX8_words_83 rfl (lv_at hl 0 rfl) ?_
      refine gf_20_12 S d hk0 fl_RX8_155 dX8_words_84 ?_
      refine lv_iadd S.1 S.2.1 dX8_words_87 ?_
      obtain ⟨M9, eM9, h⟩ := lt_e h
      refine pf_20_8 S d eM9 hk0 fl_RX8_83 dX8_words_88 (fun H locs d => ?_)
      refine lv_aload_n S.1 S.2.1 dX8_words_91 rfl (lv_at hl 0 rfl) ?_
      refine gf_20_12 S d hk0 fl_RX8_155 dX8_words_92 ?_
      obtain rfl := Option.some.inj h
      exact r_iret S d hr rfl rfl dX8_words_95
    · replace h := it_n cc h
      refine lv_bipush (v := (-3)) S.1 S.2.1 dX8_words_36 (by decide) ?_
      obtain rfl := Option.some.inj h
      exact r_iret S d hr rfl rfl dX8_words_38
  · replace h := it_p cc h
    refine lv_bipush (v := (-20)) S.1 S.2.1 dX8_words_14 (by decide) ?_
    refine lv_aload_n S.1 S.2.1 dX8_words_16 rfl (lv_at hl 1 rfl) ?_
    refine gf_20_11 S d hk0 fl_RX8_144 dX8_words_17 ?_
    refine lv_isub S.1 S.2.1 dX8_words_20 ?_
    obtain rfl := Option.some.inj h
    exact r_iret S d hr rfl rfl dX8_words_21
