theorem hyS_X7_isBelow : yX7_isBelow.cls ≠ "java/lang/invoke/MethodHandle" ∧ yX7_isBelow.cls ≠ "java/lang/invoke/VarHandle" ∧ (parseMethodDescriptor yX7_isBelow.desc).map (fun d => d.parameters.length) = some 2 := by decide +kernel
abbrev rm_X7_isBelow : Room := { frames := 0, cells := 0, slots := 0, locals := 0 }
def f_X7_isBelow (a0 : Int32) (a1 : Int32) : Option (Int32) :=
  (if a0 < 0 then some ((0 : Int32))
  else (if a1 ≤ a0 then some ((0 : Int32))
    else some ((1 : Int32))))
set_option maxHeartbeats 4000000 in
set_option maxRecDepth 100000 in
theorem c_X7_isBelow (l : Launch) (G : Gx) (M : Mem) (L : MemL) (a0 : Int32) (a1 : Int32) {z : Int32} (h : f_X7_isBelow a0 a1 = some z) : Met l yX7_isBelow (.code yX7_isBelow cX7_isBelow 2 (Option.some Jvm.ClassFile.FieldType.boolean) :: UW) rm_X7_isBelow (va_Pc [.int a0, .int a1] (PreG G false M L)) (Qi G z M L) 0 0 (gA G) := by
  refine r_in (by decide) (fun p e s m args below meth c S hr d ha ls hl => ?_) (Nat.le_of_ble_eq_true rfl)
  have S : Sx G false p s m args meth c cX7_isBelow 2 RX7 := S
  have hl : lv_has ls 2 [(0, .int a0), (1, .int a1)] := hl
  unfold f_X7_isBelow at h
  refine lv_iload_n S.1 S.2.1 dX7_isBelow_0 rfl (lv_at hl 0 rfl) ?_
  refine lv_if_lt (tgt := 13) S.1 S.2.1 dX7_isBelow_1 (by decide) (fun cc => ?_) (fun cc => ?_)
  · replace h := it_p cc h
    refine lv_iconst (v := 0) S.1 S.2.1 dX7_isBelow_13 (by decide) ?_
    obtain rfl := Option.some.inj h
    exact r_iret S d hr rfl rfl dX7_isBelow_14
  · replace h := it_n cc h
    refine lv_iload_n S.1 S.2.1 dX7_isBelow_4 rfl (lv_at hl 0 rfl) ?_
    refine lv_iload_n S.1 S.2.1 dX7_isBelow_5 rfl (lv_at hl 1 rfl) ?_
    refine lv_icmp_ge (tgt := 13) S.1 S.2.1 dX7_isBelow_6 (by decide) (fun cc => ?_) (fun cc => ?_)
    · replace h := it_p cc h
      refine lv_iconst (v := 0) S.1 S.2.1 dX7_isBelow_13 (by decide) ?_
      obtain rfl := Option.some.inj h
      exact r_iret S d hr rfl rfl dX7_isBelow_14
    · replace h := it_n cc h
      refine lv_iconst (v := 1) S.1 S.2.1 dX7_isBelow_9 (by decide) ?_
      refine lv_goto (tgt := 14) S.1 S.2.1 dX7_isBelow_10 (by decide) ?_
      obtain rfl := Option.some.inj h
      exact r_iret S d hr rfl rfl dX7_isBelow_14
theorem hyS_J7_fill_53178 : yJ7_fill_53178.cls ≠ "java/lang/invoke/MethodHandle" ∧ yJ7_fill_53178.cls ≠ "java/lang/invoke/VarHandle" ∧ (parseMethodDescriptor yJ7_fill_53178.desc).map (fun d => d.parameters.length) = some 2 := by decide +kernel
abbrev rm_J7_fill_53178 : Room := { frames := 0, cells := 0, slots := 0, locals := 0 }
def lp_J7_fill_53178_5 (fu : Nat) (b0 : Nat) (b1 : Int32) (b3 : Int32) (K : Mem → Option (Mem)) : Nat → Int32 → Mem → Option (Mem)
  | 0, _, _ => none
  | n + 1, x2, Mx =>
    (if b3 ≤ x2 then (K Mx)
    else gd (inb x2 (ln b0)) (
      lt (up Mx b0 x2.toNatClampNeg b1) (fun M3 : Mem =>
      lt (x2 + 1) (fun v4 : Int32 =>
      (lp_J7_fill_53178_5 fu b0 b1 b3 K n v4 M3)))))
def f_J7_fill_53178 (fu : Nat) (M : Mem) (k0 : Nat) (a1 : Int32) : Option (Mem) :=
  lt ((Int32.ofNat (ln k0))) (fun v1 : Int32 =>
  (lp_J7_fill_53178_5 fu k0 a1 v1 (fun (M5 : Mem) =>
    some (M5)) fu (0 : Int32) M))
set_option maxHeartbeats 4000000 in
set_option maxRecDepth 100000 in
theorem lc_J7_fill_53178_5 {p : Program} {l : Launch} {e : Env} {s : State} {m : MethodId} {args : Array Value} {below : List Frame} {meth : Method} {c : Code} {G : Gx} {L : MemL} {fu : Nat} {b0 : Nat} {b1 : Int32} {b3 : Int32} {z : Mem} (S : Sx G false p s m args meth c cJ7_fill_53178 4 RJ7) (hr : meth.sig.returnType = (Option.none : Option Jvm.ClassFile.FieldType)) (hb0 : kd b0 = 10) (K : Mem → Option (Mem)) (hK : ∀ (My : Mem) (H : Heap) (locs : List Loc), Dy G s My L H locs → ∀ ls : Array Slot, lv_has ls 4 [] → K My = some z → W p l e rm_J7_fill_53178 s m args below meth c H locs 0 0 (MQ below (Qv G z L) args s 0 0 (gA G)) (F0 m 20 ls [])) :
    ∀ (n : Nat) (x2 : Int32) (Mx : Mem), lp_J7_fill_53178_5 fu b0 b1 b3 K n x2 Mx = some z → ∀ (H : Heap) (locs : List Loc), Dy G s Mx L H locs → ∀ ls : Array Slot, lv_has ls 4 [(0, .ref (ad G b0)), (1, .int b1), (2, .int x2), (3, .int b3)] → W p l e rm_J7_fill_53178 s m args below meth c H locs 0 0 (MQ below (Qv G z L) args s 0 0 (gA G)) (F0 m 5 ls []) := by
  intro n
  induction n with
  | zero =>
    intro x2 Mx h
    have h : (none : Option (Mem)) = some z := h
    cases h
  | succ n ih =>
    intro x2 Mx h H locs d ls hl
    rw [lp_J7_fill_53178_5] at h
    refine lv_iload_n S.1 S.2.1 dJ7_fill_53178_5 rfl (lv_at hl 2 rfl) ?_
    refine lv_iload_n S.1 S.2.1 dJ7_fill_53178_6 rfl (lv_at hl 3 rfl) ?_
    refine lv_icmp_ge (tgt := 20) S.1 S.2.1 dJ7_fill_53178_7 (by decide) (fun cc => ?_) (fun cc => ?_)
    · replace h := it_p cc h
      exact hK _ _ _ d _ (lv_sub hl [] rfl) h
    · replace h := it_n cc h
      refine lv_aload_n S.1 S.2.1 dJ7_fill_53178_10 rfl (lv_at hl 0 rfl) ?_
      refine lv_iload_n S.1 S.2.1 dJ7_fill_53178_11 rfl (lv_at hl 2 rfl) ?_
      refine lv_iload_n S.1 S.2.1 dJ7_fill_53178_12 rfl (lv_at hl 1 rfl) ?_
      obtain ⟨g2, h⟩ := gd_e h
      obtain ⟨M3, eM3, h⟩ := lt_e h
      refine r_iast S d eM3 (ksdC S hb0) (fun _ => wc_10 hb0) rfl g2 dJ7_fill_53178_13 (fun H locs d => ?_)
      obtain ⟨v4, ev4, h⟩ := lt_e h
      refine lv_iinc (v := v4) (lv' := [(2, .int v4), (0, .ref (ad G b0)), (1, .int b1), (3, .int b3)]) S.1 S.2.1 dJ7_fill_53178_14 hl (k := 2) rfl (by rw [ev4]; rfl) (by decide) rfl (fun ls hl => ?_)
      refine lv_goto (tgt := 5) S.1 S.2.1 dJ7_fill_53178_17 (by decide) ?_
      exact ih _ _ h _ _ d _ (lv_sub hl [1, 2, 0, 3] rfl)
set_option maxHeartbeats 4000000 in
set_option maxRecDepth 100000 in
theorem c_J7_fill_53178 (l : Launch) (G : Gx) (M : Mem) (L : MemL) (fu : Nat) (k0 : Nat) (a1 : Int32) (hk0 : kd k0 = 10) {z : Mem} (h : f_J7_fill_53178 fu M k0 a1 = some z) : Met l yJ7_fill_53178 (.code yJ7_fill_53178 cJ7_fill_53178 4 (Option.none : Option Jvm.ClassFile.FieldType) :: UW) rm_J7_fill_53178 (va_Pc [.ref (ad G k0), .int a1] (PreG G false M L)) (Qv G z L) 0 0 (gA G) := by
  refine r_in (by decide) (fun p e s m args below meth c S hr d ha ls hl => ?_) (Nat.le_of_ble_eq_true rfl)
  have S : Sx G false p s m args meth c cJ7_fill_53178 4 RJ7 := S
  have hl : lv_has ls 4 [(0, .ref (ad G k0)), (1, .int a1)] := hl
  unfold f_J7_fill_53178 at h
  refine lv_iconst (v := 0) S.1 S.2.1 dJ7_fill_53178_0 (by decide) ?_
  refine lv_istore_n (lv' := [(2, .int (0 : Int32)), (0, .ref (ad G k0)), (1, .int a1)]) S.1 S.2.1 dJ7_fill_53178_1 rfl hl (by decide) rfl (fun ls hl => ?_)
  refine lv_aload_n S.1 S.2.1 dJ7_fill_53178_2 rfl (lv_at hl 1 rfl) ?_
  refine r_alen S d (ksdC S hk0) (wc_10 hk0) rfl (v := Int32.ofNat (ln k0)) rfl dJ7_fill_53178_3 ?_
  obtain ⟨v1, ev1, h⟩ := lt_e h
  refine r_top ev1 ?_
  refine lv_istore_n (lv' := [(3, .int v1), (2, .int (0 : Int32)), (0, .ref (ad G k0)), (1, .int a1)]) S.1 S.2.1 dJ7_fill_53178_4 rfl hl (by decide) rfl (fun ls hl => ?_)
  refine lc_J7_fill_53178_5 S hr hk0 _ (fun M5 H locs d ls hl h => ?_) _ _ _  h _ _ d _ (lv_sub hl [2, 3, 1, 0] rfl)
  obtain rfl := Option.some.inj h
  exact r_vret S d hr dJ7_fill_53178_20
theorem hyV_X4_begin : yX4_begin.cls = RX4 ∧ yX4_begin.cls ≠ "java/lang/invoke/MethodHandle" ∧ yX4_begin.cls ≠ "java/lang/invoke/VarHandle" ∧ (parseMethodDescriptor yX4_begin.desc).map (fun d => d.parameters.length) = some 1 := by decide +kernel
abbrev rm_X4_begin : Room := { frames := 1, cells := 0, slots := 0, locals := 23 }
def f_X4_begin (fu : Nat) (M : Mem) (k0 : Nat) (a1 : Int32) : Option (Mem) :=
  lt (up M k0 0 a1) (fun M1 : Mem =>
  (f_J7_fill_53178 fu M1 (k0 + 1) (5 : Int32)).bind (fun u2 =>
  some (u2)))
set_option maxHeartbeats 4000000 in
set_option maxRecDepth 100000 in
theorem c_X4_begin (l : Launch) (G : Gx) (M : Mem) (L : MemL) (fu : Nat) (k0 : Nat) (a1 : Int32) (hk0 : kd k0 = 2) {z : Mem} (h : f_X4_begin fu M k0 a1 = some z) : Met l yX4_begin (.code yX4_begin cX4_begin 2 (Option.none : Option Jvm.ClassFile.FieldType) :: UW) rm_X4_begin (va_Pc [.ref (ad G k0), .int a1] (PreG G false M L)) (Qv G z L) 0 0 (gA G) := by
  refine r_in (by decide) (fun p e s m args below meth c S hr d ha ls hl => ?_) (Nat.le_of_ble_eq_true rfl)
  have S : Sx G false p s m args meth c cX4_begin 2 RX4 := S
  have hl : lv_has ls 2 [(0, .ref (ad G k0)), (1, .int a1)] := hl
  unfold f_X4_begin at h
  refine lv_aload_n S.1 S.2.1 dX4_begin_0 rfl (lv_at hl 0 rfl) ?_
  refine lv_iload_n S.1 S.2.1 dX4_begin_1 rfl (lv_at hl 1 rfl) ?_
  obtain ⟨M1, eM1, h⟩ := lt_e h
  refine pf_2_0 S d eM1 hk0 fl_RX4_9 dX4_begin_2 (fun H locs d => ?_)
  refine lv_aload_n S.1 S.2.1 dX4_begin_5 rfl (lv_at hl 0 rfl) ?_
  refine gf_2_1 S d hk0 fl_RX4_15 dX4_begin_6 ?_
  refine lv_iconst (v := 5) S.1 S.2.1 dX4_begin_9 (by decide) ?_
  obtain ⟨u2, hu2, h⟩ := bd_e h
  refine r_rv d (r_cS (As := [.ref (ad G (k0 + 1)), .int (5 : Int32)]) (rest := []) S d (c_J7_fill_53178 l G M1 L fu (k0 + 1) (5 : Int32) (ch_2_1 hk0).1 hu2) ml_RX4_19 sm_yJ7_fill_53178 in_RJ7 co_yJ7_fill_53178 hyS_J7_fill_53178 ⟨rfl, rfl⟩ ⟨by decide, by decide⟩ rfl hl rfl (Nat.le_of_ble_eq_true rfl) dX4_begin_10 ⟨Nat.zero_le _, Nat.zero_le _⟩) (fun H locs d => ?_)
  obtain rfl := Option.some.inj h
  exact r_vret S d hr dX4_begin_13
theorem hyV_X0_addStrip : yX0_addStrip.cls = RX0 ∧ yX0_addStrip.cls ≠ "java/lang/invoke/MethodHandle" ∧ yX0_addStrip.cls ≠ "java/lang/invoke/VarHandle" ∧ (parseMethodDescriptor yX0_addStrip.desc).map (fun d => d.parameters.length) = some 1 := by decide +kernel
abbrev rm_X0_addStrip : Room := { frames := 2, cells := 0, slots := 0, locals := 44 }
def f_X0_addStrip (fu : Nat) (M : Mem) (k0 : Nat) (a1 : Int32) : Option (Mem) :=
  (if (9 : Int32) ≤ (M k0 2) then some (M)
  else gd (inb (M k0 2) 9) (
    (f_X4_begin fu M ((k0 + 2) + 4 + 2 * (M k0 2).toNatClampNeg) a1).bind (fun u2 =>
    lt (up u2 k0 2 ((u2 k0 2) + (1 : Int32))) (fun M3 : Mem =>
    some (M3)))))
set_option maxHeartbeats 4000000 in
set_option maxRecDepth 100000 in
theorem c_X0_addStrip (l : Launch) (G : Gx) (M : Mem) (L : MemL) (fu : Nat) (k0 : Nat) (a1 : Int32) (hk0 : kd k0 = 1) {z : Mem} (h : f_X0_addStrip fu M k0 a1 = some z) : Met l yX0_addStrip (.code yX0_addStrip cX0_addStrip 2 (Option.none : Option Jvm.ClassFile.FieldType) :: UW) rm_X0_addStrip (va_Pc [.ref (ad G k0), .int a1] (PreG G false M L)) (Qv G z L) 0 0 (gA G) := by
  refine r_in (by decide) (fun p e s m args below meth c S hr d ha ls hl => ?_) (Nat.le_of_ble_eq_true rfl)
  have S : Sx G false p s m args meth c cX0_addStrip 2 RX0 := S
  have hl : lv_has ls 2 [(0, .ref (ad G k0)), (1, .int a1)] := hl
  unfold f_X0_addStrip at h
  refine lv_aload_n S.1 S.2.1 dX0_addStrip_0 rfl (lv_at hl 0 rfl) ?_
  refine gf_1_2 S d hk0 fl_RX0_24 dX0_addStrip_1 ?_
  refine lv_bipush (v := 9) S.1 S.2.1 dX0_addStrip_4 (by decide) ?_
  refine lv_icmp_ge (tgt := 32) S.1 S.2.1 dX0_addStrip_6 (by decide) (fun cc => ?_) (fun cc => ?_)
  · replace h := it_p cc h
    obtain rfl := Option.some.inj h
    exact r_vret S d hr dX0_addStrip_32
  · replace h := it_n cc h
    refine lv_aload_n S.1 S.2.1 dX0_addStrip_9 rfl (lv_at hl 0 rfl) ?_
    refine gf_1_1 S d hk0 fl_RX0_20 dX0_addStrip_10 ?_
    refine lv_aload_n S.1 S.2.1 dX0_addStrip_13 rfl (lv_at hl 0 rfl) ?_
    refine gf_1_2 S d hk0 fl_RX0_24 dX0_addStrip_14 ?_
    obtain ⟨g1, h⟩ := gd_e h
    refine r_aald S d (ksdC S (ch_1_1 hk0).1) (wc_13 (ch_1_1 hk0).1) rfl rfl g1 (if_pos (inb_lt g1)) dX0_addStrip_17 ?_
    refine lv_iload_n S.1 S.2.1 dX0_addStrip_18 rfl (lv_at hl 1 rfl) ?_
    obtain ⟨u2, hu2, h⟩ := bd_e h
    refine r_rv d (r_cV (As := [.int a1]) (rest := []) S d (c_X4_begin l G M L fu ((k0 + 2) + 4 + 2 * (M k0 2).toNatClampNeg) a1 (ca_13 (ch_1_1 hk0).1 (inb_lt g1)).1 hu2) (ksdC S (ca_13 (ch_1_1 hk0).1 (inb_lt g1)).1) (wc_2 (ca_13 (ch_1_1 hk0).1 (inb_lt g1)).1) rfl ml_RX0_58 im_yX4_begin se_yX4_begin in_RX4 co_yX4_begin hyV_X4_begin ⟨rfl, rfl⟩ ⟨by decide, by decide⟩ rfl hl rfl (Nat.le_of_ble_eq_true rfl) dX0_addStrip_19 ⟨Nat.zero_le _, Nat.zero_le _⟩) (fun H locs d => ?_)
    refine lv_aload_n S.1 S.2.1 dX0_addStrip_22 rfl (lv_at hl 0 rfl) ?_
    refine lv_dup S.1 S.2.1 dX0_addStrip_23 rfl ?_
    refine gf_1_2 S d hk0 fl_RX0_24 dX0_addStrip_24 ?_
    refine lv_iconst (v := 1) S.1 S.2.1 dX0_addStrip_27 (by decide) ?_
    refine lv_iadd S.1 S.2.1 dX0_addStrip_28 ?_
    obtain ⟨M3, eM3, h⟩ := lt_e h
    refine pf_1_2 S d eM3 hk0 fl_RX0_24 dX0_addStrip_29 (fun H locs d => ?_)
    obtain rfl := Option.some.inj h
    exact r_vret S d hr dX0_addStrip_32
theorem hyV_X7_strip : yX7_strip.cls = RX7 ∧ yX7_strip.cls ≠ "java/lang/invoke/MethodHandle" ∧ yX7_strip.cls ≠ "java/lang/invoke/VarHandle" ∧ (parseMethodDescriptor yX7_strip.desc).map (fun d => d.parameters.length) = some 1 := by decide +kernel
abbrev rm_X7_strip : Room := { frames := 3, cells := 0, slots := 0, locals := 65 }
def f_X7_strip (fu : Nat) (M : Mem) (k0 : Nat) (a1 : Int32) : Option (Int32 × Mem) :=
  (f_X7_isBelow a1 (6 : Int32)).bind (fun u1 =>
  (if u1 = 0 then some ((-1 : Int32), M)
  else (if (M (k0 + 1) 2) < (9 : Int32) then (f_X0_addStrip fu M (k0 + 1) a1).bind (fun u2 =>
      some (((u2 (k0 + 1) 2) - (1 : Int32)), u2))
    else some ((-3 : Int32), M))))
set_option maxHeartbeats 4000000 in
set_option maxRecDepth 100000 in
theorem c_X7_strip (l : Launch) (G : Gx) (M : Mem) (L : MemL) (fu : Nat) (k0 : Nat) (a1 : Int32) (hk0 : kd k0 = 0) {z : Int32 × Mem} (h : f_X7_strip fu M k0 a1 = some z) : Met l yX7_strip (.code yX7_strip cX7_strip 2 (Option.some Jvm.ClassFile.FieldType.int) :: UW) rm_X7_strip (va_Pc [.ref (ad G k0), .int a1] (PreG G false M L)) (Qi G z.1 z.2 L) 0 0 (gA G) := by
  refine r_in (by decide) (fun p e s m args below meth c S hr d ha ls hl => ?_) (Nat.le_of_ble_eq_true rfl)
  have S : Sx G false p s m args meth c cX7_strip 2 RX7 := S
  have hl : lv_has ls 2 [(0, .ref (ad G k0)), (1, .int a1)] := hl
  unfold f_X7_strip at h
  refine lv_iload_n S.1 S.2.1 dX7_strip_0 rfl (lv_at hl 1 rfl) ?_
  refine lv_bipush (v := 6) S.1 S.2.1 dX7_strip_1 (by decide) ?_
  obtain ⟨u1, hu1, h⟩ := bd_e h
  refine r_ri d (r_cS (As := [.int a1, .int (6 : Int32)]) (rest := []) S d (c_X7_isBelow l G M L a1 (6 : Int32) hu1) ml_RX7_51 sm_yX7_isBelow in_RX7 co_yX7_isBelow hyS_X7_isBelow ⟨rfl, rfl⟩ ⟨by decide, by decide⟩ rfl hl rfl (Nat.le_of_ble_eq_true rfl) dX7_strip_3 ⟨Nat.zero_le _, Nat.zero_le _⟩) (fun H locs d => ?_)
  refine lv_if_ne (tgt := 11) S.1 S.2.1 dX7_strip_6 (by decide) (fun cc => ?_) (fun cc => ?_)
  · replace h := it_n cc h
    refine lv_aload_n S.1 S.2.1 dX7_strip_11 rfl (lv_at hl 0 rfl) ?_
    refine gf_0_0 S d hk0 fl_RX7_12 dX7_strip_12 ?_
    refine gf_1_2 S d (ch_0_0 hk0).1 fl_RX7_55 dX7_strip_15 ?_
    refine lv_bipush (v := 9) S.1 S.2.1 dX7_strip_18 (by decide) ?_
    refine lv_icmp_lt (tgt := 26) S.1 S.2.1 dX7_strip_20 (by decide) (fun cc => ?_) (fun cc => ?_)
    · replace h := it_p cc h
      refine lv_aload_n S.1 S.2.1 dX7_strip_26 rfl (lv_at hl 0 rfl) ?_
      refine gf_0_0 S d hk0 fl_RX7_12 dX7_strip_27 ?_
      refine lv_iload_n S.1 S.2.1 dX7_strip_30 rfl (lv_at hl 1 rfl) ?_
      obtain ⟨u2, hu2, h⟩ := bd_e h
      refine r_rv d (r_cV (As := [.int a1]) (rest := []) S d (c_X0_addStrip l G M L fu (k0 + 1) a1 (ch_0_0 hk0).1 hu2) (ksdC S (ch_0_0 hk0).1) (wc_1 (ch_0_0 hk0).1) rfl ml_RX7_59 im_yX0_addStrip se_yX0_addStrip in_RX0 co_yX0_addStrip hyV_X0_addStrip ⟨rfl, rfl⟩ ⟨by decide, by decide⟩ rfl hl rfl (Nat.le_of_ble_eq_true rfl) dX7_strip_31 ⟨Nat.zero_le _, Nat.zero_le _⟩) (fun H locs d => ?_)
      refine lv_aload_n S.1 S.2.1 dX7_strip_34 rfl (lv_at hl 0 rfl) ?_
      refine gf_0_0 S d hk0 fl_RX7_12 dX7_strip_35 ?_
      refine gf_1_2 S d (ch_0_0 hk0).1 fl_RX7_55 dX7_strip_38 ?_
      refine lv_iconst (v := 1) S.1 S.2.1 dX7_strip_41 (by decide) ?_
      refine lv_isub S.1 S.2.1 dX7_strip_42 ?_
      obtain rfl := Option.some.inj h
      exact r_iret S d hr rfl rfl dX7_strip_43
    · replace h := it_n cc h
      refine lv_bipush (v := (-3)) S.1 S.2.1 dX7_strip_23 (by decide) ?_
      obtain rfl := Option.some.inj h
      exact r_iret S d hr rfl rfl dX7_strip_25
  · replace h := it_p cc h
    refine lv_iconst (v := (-1)) S.1 S.2.1 dX7_strip_9 (by decide) ?_
    obtain rfl := Option.some.inj h
    exact r_iret S d hr rfl rfl dX7_strip_10
theorem hyV_X7_set : yX7_set.cls = RX7 ∧ yX7_set.cls ≠ "java/lang/invoke/MethodHandle" ∧ yX7_set.cls ≠ "java/lang/invoke/VarHandle" ∧ (parseMethodDescriptor yX7_set.desc).map (fun d => d.parameters.length) = some 2 := by decide +kernel
abbrev rm_X7_set : Room := { frames := 1, cells := 0, slots := 0, locals := 21 }
def f_X7_set (M : Mem) (k0 : Nat) (a1 : Int32) (a2 : Int32) : Option (Int32 × Mem) :=
  (f_X7_isBelow a1 (4 : Int32)).bind (fun u2 =>
  (if u2 = 0 then some ((-1 : Int32), M)
  else (if a2 < 0 then some ((-1 : Int32), M)
    else gd (inb a1 4) (
      (if a2 ≤ (vHi a1.toNatClampNeg) then gd (inb a1 4) (
        lt ((M ((k0 + 1) + 1) a1.toNatClampNeg)) (fun v6 : Int32 =>
        gd (inb a1 4) (
        lt (up M ((k0 + 1) + 1) a1.toNatClampNeg a2) (fun M8 : Mem =>
        some (v6, M8)))))
      else some ((-1 : Int32), M))))))
set_option maxHeartbeats 4000000 in
set_option maxRecDepth 100000 in
theorem c_X7_set (l : Launch) (G : Gx) (M : Mem) (L : MemL) (k0 : Nat) (a1 : Int32) (a2 : Int32) (hk0 : kd k0 = 0) {z : Int32 × Mem} (h : f_X7_set M k0 a1 a2 = some z) : Met l yX7_set (.code yX7_set cX7_set 4 (Option.some Jvm.ClassFile.FieldType.int) :: UW) rm_X7_set (va_Pc [.ref (ad G k0), .int a1, .int a2] (PreG G false M L)) (Qi G z.1 z.2 L) 0 0 (gA G) := by
  refine r_in (by decide) (fun p e s m args below meth c S hr d ha ls hl => ?_) (Nat.le_of_ble_eq_true rfl)
  have S : Sx G false p s m args meth c cX7_set 4 RX7 := S
  have hl : lv_has ls 4 [(0, .ref (ad G k0)), (1, .int a1), (2, .int a2)] := hl
  unfold f_X7_set at h
  refine lv_iload_n S.1 S.2.1 dX7_set_0 rfl (lv_at hl 1 rfl) ?_
  refine r_gst S d S.2.2.2.2.2.2.2.1.2.1 (Or.inl (S.uw fl_RX7_63)) dX7_set_1 (fun t1 ht1 => ?_)
  refine r_tlen S d ht1 (v := 4) rfl dX7_set_4 ?_
  obtain ⟨u2, hu2, h⟩ := bd_e h
  refine r_ri d (r_cS (As := [.int a1, .int (4 : Int32)]) (rest := []) S d (c_X7_isBelow l G M L a1 (4 : Int32) hu2) ml_RX7_51 sm_yX7_isBelow in_RX7 co_yX7_isBelow hyS_X7_isBelow ⟨rfl, rfl⟩ ⟨by decide, by decide⟩ rfl hl rfl (Nat.le_of_ble_eq_true rfl) dX7_set_5 ⟨Nat.zero_le _, Nat.zero_le _⟩) (fun H locs d => ?_)
  refine lv_if_eq (tgt := 24) S.1 S.2.1 dX7_set_8 (by decide) (fun cc => ?_) (fun cc => ?_)
  · replace h := it_p cc h
    refine lv_iconst (v := (-1)) S.1 S.2.1 dX7_set_24 (by decide) ?_
    obtain rfl := Option.some.inj h
    exact r_iret S d hr rfl rfl dX7_set_25
  · replace h := it_n cc h
    refine lv_iload_n S.1 S.2.1 dX7_set_11 rfl (lv_at hl 2 rfl) ?_
    refine lv_if_lt (tgt := 24) S.1 S.2.1 dX7_set_12 (by decide) (fun cc => ?_) (fun cc => ?_)
    · replace h := it_p cc h
      refine lv_iconst (v := (-1)) S.1 S.2.1 dX7_set_24 (by decide) ?_
      obtain rfl := Option.some.inj h
      exact r_iret S d hr rfl rfl dX7_set_25
    · replace h := it_n cc h
      refine lv_iload_n S.1 S.2.1 dX7_set_15 rfl (lv_at hl 2 rfl) ?_
      refine r_gst S d S.2.2.2.2.2.2.2.1.2.1 (Or.inl (S.uw fl_RX7_63)) dX7_set_16 (fun t3 ht3 => ?_)
      refine lv_iload_n S.1 S.2.1 dX7_set_19 rfl (lv_at hl 1 rfl) ?_
      obtain ⟨g4, h⟩ := gd_e h
      refine r_tald S d ht3 g4 dX7_set_20 ?_
      refine lv_icmp_le (tgt := 26) S.1 S.2.1 dX7_set_21 (by decide) (fun cc => ?_) (fun cc => ?_)
      · replace h := it_p cc h
        refine lv_aload_n S.1 S.2.1 dX7_set_26 rfl (lv_at hl 0 rfl) ?_
        refine gf_0_0 S d hk0 fl_RX7_12 dX7_set_27 ?_
        refine gf_1_0 S d (ch_0_0 hk0).1 fl_RX7_67 dX7_set_30 ?_
        refine lv_iload_n S.1 S.2.1 dX7_set_33 rfl (lv_at hl 1 rfl) ?_
        obtain ⟨g5, h⟩ := gd_e h
        refine r_iald S d (ksdC S (ch_1_0 (ch_0_0 hk0).1).1) (wc_10 (ch_1_0 (ch_0_0 hk0).1).1) (ch_1_0 (ch_0_0 hk0).1).2 g5 dX7_set_34 ?_
        obtain ⟨v6, ev6, h⟩ := lt_e h
        refine r_top ev6 ?_
        refine lv_istore_n (lv' := [(3, .int v6), (0, .ref (ad G k0)), (1, .int a1), (2, .int a2)]) S.1 S.2.1 dX7_set_35 rfl hl (by decide) rfl (fun ls hl => ?_)
        refine lv_aload_n S.1 S.2.1 dX7_set_36 rfl (lv_at hl 1 rfl) ?_
        refine gf_0_0 S d hk0 fl_RX7_12 dX7_set_37 ?_
        refine gf_1_0 S d (ch_0_0 hk0).1 fl_RX7_67 dX7_set_40 ?_
        refine lv_iload_n S.1 S.2.1 dX7_set_43 rfl (lv_at hl 2 rfl) ?_
        refine lv_iload_n S.1 S.2.1 dX7_set_44 rfl (lv_at hl 3 rfl) ?_
        obtain ⟨g7, h⟩ := gd_e h
        obtain ⟨M8, eM8, h⟩ := lt_e h
        refine r_iast S d eM8 (ksdC S (ch_1_0 (ch_0_0 hk0).1).1) (fun _ => wc_10 (ch_1_0 (ch_0_0 hk0).1).1) (ch_1_0 (ch_0_0 hk0).1).2 g7 dX7_set_45 (fun H locs d => ?_)
        refine lv_iload_n S.1 S.2.1 dX7_set_46 rfl (lv_at hl 0 rfl) ?_
        obtain rfl := Option.some.inj h
        exact r_iret S d hr rfl rfl dX7_set_47
      · replace h := it_n cc h
        refine lv_iconst (v := (-1)) S.1 S.2.1 dX7_set_24 (by decide) ?_
        obtain rfl := Option.some.inj h
        exact r_iret S d hr rfl rfl dX7_set_25
theorem hyV_X7_isStrip : yX7_isStrip.cls = RX7 ∧ yX7_isStrip.cls ≠ "java/lang/invoke/MethodHandle" ∧ yX7_isStrip.cls ≠ "java/lang/invoke/VarHandle" ∧ (parseMethodDescriptor yX7_isStrip.desc).map (fun d => d.parameters.length) = some 1 := by decide +kernel
abbrev rm_X7_isStrip : Room := { frames := 1, cells := 0, slots := 0, locals := 21 }
def f_X7_isStrip (M : Mem) (k0 : Nat) (a1 : Int32) : Option (Int32) :=
  (f_X7_isBelow a1 (M (k0 + 1) 2)).bind (fun u1 =>
  gd (isZ u1) (
  some (u1)))
set_option maxHeartbeats 4000000 in
set_option maxRecDepth 100000 in
theorem c_X7_isStrip (l : Launch) (G : Gx) (M : Mem) (L : MemL) (k0 : Nat) (a1 : Int32) (hk0 : kd k0 = 0) {z : Int32} (h : f_X7_isStrip M k0 a1 = some z) : Met l yX7_isStrip (.code yX7_isStrip cX7_isStrip 2 (Option.some Jvm.ClassFile.FieldType.boolean) :: UW) rm_X7_isStrip (va_Pc [.ref (ad G k0), .int a1] (PreG G false M L)) (Qi G z M L) 0 0 (gA G) := by
  refine r_in (by decide) (fun p e s m args below meth c S hr d ha ls hl => ?_) (Nat.le_of_ble_eq_true rfl)
  have S : Sx G false p s m args meth c cX7_isStrip 2 RX7 := S
  have hl : lv_has ls 2 [(0, .ref (ad G k0)), (1, .int a1)] := hl
  unfold f_X7_isStrip at h
  refine lv_iload_n S.1 S.2.1 dX7_isStrip_0 rfl (lv_at hl 1 rfl) ?_
  refine lv_aload_n S.1 S.2.1 dX7_isStrip_1 rfl (lv_at hl 0 rfl) ?_
  refine gf_0_0 S d hk0 fl_RX7_12 dX7_isStrip_2 ?_
  refine gf_1_2 S d (ch_0_0 hk0).1 fl_RX7_55 dX7_isStrip_5 ?_
  obtain ⟨u1, hu1, h⟩ := bd_e h
  refine r_ri d (r_cS (As := [.int a1, .int (M (k0 + 1) 2)]) (rest := []) S d (c_X7_isBelow l G M L a1 (M (k0 + 1) 2) hu1) ml_RX7_51 sm_yX7_isBelow in_RX7 co_yX7_isBelow hyS_X7_isBelow ⟨rfl, rfl⟩ ⟨by decide, by decide⟩ rfl hl rfl (Nat.le_of_ble_eq_true rfl) dX7_isStrip_8 ⟨Nat.zero_le _, Nat.zero_le _⟩) (fun H locs d => ?_)
  obtain ⟨gz, h⟩ := gd_e h
  obtain rfl := Option.some.inj h
  exact r_iret S d hr (isZ_nar gz) rfl dX7_isStrip_11
theorem hyV_X7_grass : yX7_grass.cls = RX7 ∧ yX7_grass.cls ≠ "java/lang/invoke/MethodHandle" ∧ yX7_grass.cls ≠ "java/lang/invoke/VarHandle" ∧ (parseMethodDescriptor yX7_grass.desc).map (fun d => d.parameters.length) = some 2 := by decide +kernel
abbrev rm_X7_grass : Room := { frames := 2, cells := 0, slots := 0, locals := 42 }
def f_X7_grass (M : Mem) (k0 : Nat) (a1 : Int32) (a2 : Int32) : Option (Int32) :=
  (f_X7_isStrip M k0 a1).bind (fun u1 =>
  (if u1 = 0 then some ((-1 : Int32))
  else (f_X7_isBelow a2 (15 : Int32)).bind (fun u2 =>
    (if u2 = 0 then some ((-1 : Int32))
    else gd (inb a1 9) (
      gd (inb a2 15) (
      some ((M ((((k0 + 1) + 2) + 4 + 2 * a1.toNatClampNeg) + 1) a2.toNatClampNeg))))))))
set_option maxHeartbeats 4000000 in
set_option maxRecDepth 100000 in
theorem c_X7_grass (l : Launch) (G : Gx) (M : Mem) (L : MemL) (k0 : Nat) (a1 : Int32) (a2 : Int32) (hk0 : kd k0 = 0) {z : Int32} (h : f_X7_grass M k0 a1 a2 = some z) : Met l yX7_grass (.code yX7_grass cX7_grass 3 (Option.some Jvm.ClassFile.FieldType.int) :: UW) rm_X7_grass (va_Pc [.ref (ad G k0), .int a1, .int a2] (PreG G false M L)) (Qi G z M L) 0 0 (gA G) := by
  refine r_in (by decide) (fun p e s m args below meth c S hr d ha ls hl => ?_) (Nat.le_of_ble_eq_true rfl)
  have S : Sx G false p s m args meth c cX7_grass 3 RX7 := S
  have hl : lv_has ls 3 [(0, .ref (ad G k0)), (1, .int a1), (2, .int a2)] := hl
  unfold f_X7_grass at h
  refine lv_aload_n S.1 S.2.1 dX7_grass_0 rfl (lv_at hl 0 rfl) ?_
  refine lv_iload_n S.1 S.2.1 dX7_grass_1 rfl (lv_at hl 1 rfl) ?_
  obtain ⟨u1, hu1, h⟩ := bd_e h
  refine r_ri d (r_cV (As := [.int a1]) (rest := []) S d (c_X7_isStrip l G M L k0 a1 hk0 hu1) (ksdC S hk0) (wc_0 hk0) rfl ml_RX7_70 im_yX7_isStrip se_yX7_isStrip in_RX7 co_yX7_isStrip hyV_X7_isStrip ⟨rfl, rfl⟩ ⟨by decide, by decide⟩ rfl hl rfl (Nat.le_of_ble_eq_true rfl) dX7_grass_2 ⟨Nat.zero_le _, Nat.zero_le _⟩) (fun H locs d => ?_)
  refine lv_if_eq (tgt := 34) S.1 S.2.1 dX7_grass_5 (by decide) (fun cc => ?_) (fun cc => ?_)
  · replace h := it_p cc h
    refine lv_iconst (v := (-1)) S.1 S.2.1 dX7_grass_34 (by decide) ?_
    obtain rfl := Option.some.inj h
    exact r_iret S d hr rfl rfl dX7_grass_35
  · replace h := it_n cc h
    refine lv_iload_n S.1 S.2.1 dX7_grass_8 rfl (lv_at hl 2 rfl) ?_
    refine lv_bipush (v := 15) S.1 S.2.1 dX7_grass_9 (by decide) ?_
    obtain ⟨u2, hu2, h⟩ := bd_e h
    refine r_ri d (r_cS (As := [.int a2, .int (15 : Int32)]) (rest := []) S d (c_X7_isBelow l G M L a2 (15 : Int32) hu2) ml_RX7_51 sm_yX7_isBelow in_RX7 co_yX7_isBelow hyS_X7_isBelow ⟨rfl, rfl⟩ ⟨by decide, by decide⟩ rfl hl rfl (Nat.le_of_ble_eq_true rfl) dX7_grass_11 ⟨Nat.zero_le _, Nat.zero_le _⟩) (fun H locs d => ?_)
    refine lv_if_eq (tgt := 34) S.1 S.2.1 dX7_grass_14 (by decide) (fun cc => ?_) (fun cc => ?_)
    · replace h := it_p cc h
      refine lv_iconst (v := (-1)) S.1 S.2.1 dX7_grass_34 (by decide) ?_
      obtain rfl := Option.some.inj h
      exact r_iret S d hr rfl rfl dX7_grass_35
    · replace h := it_n cc h
      refine lv_aload_n S.1 S.2.1 dX7_grass_17 rfl (lv_at hl 0 rfl) ?_
      refine gf_0_0 S d hk0 fl_RX7_12 dX7_grass_18 ?_
      refine gf_1_1 S d (ch_0_0 hk0).1 fl_RX7_74 dX7_grass_21 ?_
      refine lv_iload_n S.1 S.2.1 dX7_grass_24 rfl (lv_at hl 1 rfl) ?_
      obtain ⟨g3, h⟩ := gd_e h
      refine r_aald S d (ksdC S (ch_1_1 (ch_0_0 hk0).1).1) (wc_13 (ch_1_1 (ch_0_0 hk0).1).1) rfl rfl g3 (if_pos (inb_lt g3)) dX7_grass_25 ?_
      refine gf_2_1 S d (ca_13 (ch_1_1 (ch_0_0 hk0).1).1 (inb_lt g3)).1 fl_RX7_78 dX7_grass_26 ?_
      refine lv_iload_n S.1 S.2.1 dX7_grass_29 rfl (lv_at hl 2 rfl) ?_
      obtain ⟨g4, h⟩ := gd_e h
      refine r_iald S d (ksdC S (ch_2_1 (ca_13 (ch_1_1 (ch_0_0 hk0).1).1 (inb_lt g3)).1).1) (wc_10 (ch_2_1 (ca_13 (ch_1_1 (ch_0_0 hk0).1).1 (inb_lt g3)).1).1) (ch_2_1 (ca_13 (ch_1_1 (ch_0_0 hk0).1).1 (inb_lt g3)).1).2 g4 dX7_grass_30 ?_
      refine lv_goto (tgt := 35) S.1 S.2.1 dX7_grass_31 (by decide) ?_
      obtain rfl := Option.some.inj h
      exact r_iret S d hr rfl rfl dX7_grass_35
theorem hyV_X7_letter : yX7_letter.cls = RX7 ∧ yX7_letter.cls ≠ "java/lang/invoke/MethodHandle" ∧ yX7_letter.cls ≠ "java/lang/invoke/VarHandle" ∧ (parseMethodDescriptor yX7_letter.desc).map (fun d => d.parameters.length) = some 1 := by decide +kernel
abbrev rm_X7_letter : Room := { frames := 1, cells := 0, slots := 0, locals := 21 }
def f_X7_letter (M : Mem) (k0 : Nat) (a1 : Int32) : Option (Int32) :=
  (f_X7_isBelow a1 (26 : Int32)).bind (fun u1 =>
  (if u1 = 0 then some ((-1 : Int32))
  else gd (inb a1 26) (
    some ((v26 a1.toNatClampNeg)))))
set_option maxHeartbeats 4000000 in
set_option maxRecDepth 100000 in
theorem c_X7_letter (l : Launch) (G : Gx) (M : Mem) (L : MemL) (k0 : Nat) (a1 : Int32) (hk0 : kd k0 = 0) {z : Int32} (h : f_X7_letter M k0 a1 = some z) : Met l yX7_letter (.code yX7_letter cX7_letter 2 (Option.some Jvm.ClassFile.FieldType.int) :: UW) rm_X7_letter (va_Pc [.ref (ad G k0), .int a1] (PreG G false M L)) (Qi G z M L) 0 0 (gA G) := by
  refine r_in (by decide) (fun p e s m args below meth c S hr d ha ls hl => ?_) (Nat.le_of_ble_eq_true rfl)
  have S : Sx G false p s m args meth c cX7_letter 2 RX7 := S
  have hl : lv_has ls 2 [(0, .ref (ad G k0)), (1, .int a1)] := hl
  unfold f_X7_letter at h
  refine lv_iload_n S.1 S.2.1 dX7_letter_0 rfl (lv_at hl 1 rfl) ?_
  refine lv_bipush (v := 26) S.1 S.2.1 dX7_letter_1 (by decide) ?_
  obtain ⟨u1, hu1, h⟩ := bd_e h
  refine r_ri d (r_cS (As := [.int a1, .int (26 : Int32)]) (rest := []) S d (c_X7_isBelow l G M L a1 (26 : Int32) hu1) ml_RX7_51 sm_yX7_isBelow in_RX7 co_yX7_isBelow hyS_X7_isBelow ⟨rfl, rfl⟩ ⟨by decide, by decide⟩ rfl hl rfl (Nat.le_of_ble_eq_true rfl) dX7_letter_3 ⟨Nat.zero_le _, Nat.zero_le _⟩) (fun H locs d => ?_)
  refine lv_if_eq (tgt := 17) S.1 S.2.1 dX7_letter_6 (by decide) (fun cc => ?_) (fun cc => ?_)
  · replace h := it_p cc h
    refine lv_iconst (v := (-1)) S.1 S.2.1 dX7_letter_17 (by decide) ?_
    obtain rfl := Option.some.inj h
    exact r_iret S d hr rfl rfl dX7_letter_18
  · replace h := it_n cc h
    refine r_gst S d S.2.2.2.2.2.2.2.1.1 (Or.inl (S.uw fl_RX7_83)) dX7_letter_9 (fun t2 ht2 => ?_)
    refine lv_iload_n S.1 S.2.1 dX7_letter_12 rfl (lv_at hl 1 rfl) ?_
    obtain ⟨g3, h⟩ := gd_e h
    refine r_tald S d ht2 g3 dX7_letter_13 ?_
    refine lv_goto (tgt := 18) S.1 S.2.1 dX7_letter_14 (by decide) ?_
    obtain rfl := Option.some.inj h
    exact r_iret S d hr rfl rfl dX7_letter_18
theorem hyV_X4_cellsUpTo : yX4_cellsUpTo.cls = RX4 ∧ yX4_cellsUpTo.cls ≠ "java/lang/invoke/MethodHandle" ∧ yX4_cellsUpTo.cls ≠ "java/lang/invoke/VarHandle" ∧ (parseMethodDescriptor yX4_cellsUpTo.desc).map (fun d => d.parameters.length) = some 1 := by decide +kernel
abbrev rm_X4_cellsUpTo : Room := { frames := 0, cells := 0, slots := 0, locals := 0 }
def lp_X4_cellsUpTo_4 (fu : Nat) (M : Mem) (b0 : Nat) (b1 : Int32) (K : Int32 → Option (Int32)) : Nat → Int32 → Int32 → Option (Int32)
  | 0, _, _ => none
  | n + 1, x2, x3 =>
    (if (15 : Int32) ≤ x3 then (K x2)
    else gd (inb x3 15) (
      (if b1 < (M (b0 + 1) x3.toNatClampNeg) then lt (x3 + 1) (fun v4 : Int32 =>
        (lp_X4_cellsUpTo_4 fu M b0 b1 K n x2 v4))
      else lt ((x2 ||| ((1 : Int32) <<< (x3 &&& 31)))) (fun v2 : Int32 =>
        lt (x3 + 1) (fun v3 : Int32 =>
        (lp_X4_cellsUpTo_4 fu M b0 b1 K n v2 v3))))))
def f_X4_cellsUpTo (fu : Nat) (M : Mem) (k0 : Nat) (a1 : Int32) : Option (Int32) :=
  (lp_X4_cellsUpTo_4 fu M k0 a1 (fun (v5 : Int32) =>
    some (v5)) fu (0 : Int32) (0 : Int32))
set_option maxHeartbeats 4000000 in
set_option maxRecDepth 100000 in
theorem lc_X4_cellsUpTo_4 {p : Program} {l : Launch} {e : Env} {s : State} {m : MethodId} {args : Array Value} {below : List Frame} {meth : Method} {c : Code} {G : Gx} {M : Mem} {L : MemL} {fu : Nat} {b0 : Nat} {b1 : Int32} {z : Int32} (S : Sx G false p s m args meth c cX4_cellsUpTo 4 RX4) (hr : meth.sig.returnType = (Option.some Jvm.ClassFile.FieldType.int)) (hb0 : kd b0 = 2) (K : Int32 → Option (Int32)) (hK : ∀ (y2 : Int32) (H : Heap) (locs : List Loc), Dy G s M L H locs → ∀ ls : Array Slot, lv_has ls 4 [(2, .int y2)] → K y2 = some z → W p l e rm_X4_cellsUpTo s m args below meth c H locs 0 0 (MQ below (Qi G z M L) args s 0 0 (gA G)) (F0 m 32 ls [])) :
    ∀ (n : Nat) (x2 : Int32) (x3 : Int32), lp_X4_cellsUpTo_4 fu M b0 b1 K n x2 x3 = some z → ∀ (H : Heap) (locs : List Loc), Dy G s M L H locs → ∀ ls : Array Slot, lv_has ls 4 [(0, .ref (ad G b0)), (1, .int b1), (2, .int x2), (3, .int x3)] → W p l e rm_X4_cellsUpTo s m args below meth c H locs 0 0 (MQ below (Qi G z M L) args s 0 0 (gA G)) (F0 m 4 ls []) := by
  intro n
  induction n with
  | zero =>
    intro x2 x3 h
    have h : (none : Option (Int32)) = some z := h
    cases h
  | succ n ih =>
    intro x2 x3 h H locs d ls hl
    rw [lp_X4_cellsUpTo_4] at h
    refine lv_iload_n S.1 S.2.1 dX4_cellsUpTo_4 rfl (lv_at hl 3 rfl) ?_
    refine lv_bipush (v := 15) S.1 S.2.1 dX4_cellsUpTo_5 (by decide) ?_
    refine lv_icmp_ge (tgt := 32) S.1 S.2.1 dX4_cellsUpTo_7 (by decide) (fun cc => ?_) (fun cc => ?_)
    · replace h := it_p cc h
      exact hK _ _ _ d _ (lv_sub hl [2] rfl) h
    · replace h := it_n cc h
      refine lv_aload_n S.1 S.2.1 dX4_cellsUpTo_10 rfl (lv_at hl 0 rfl) ?_
      refine gf_2_1 S d hb0 fl_RX4_15 dX4_cellsUpTo_11 ?_
      refine lv_iload_n S.1 S.2.1 dX4_cellsUpTo_14 rfl (lv_at hl 3 rfl) ?_
      obtain ⟨g1, h⟩ := gd_e h
      refine r_iald S d (ksdC S (ch_2_1 hb0).1) (wc_10 (ch_2_1 hb0).1) (ch_2_1 hb0).2 g1 dX4_cellsUpTo_15 ?_
      refine lv_iload_n S.1 S.2.1 dX4_cellsUpTo_16 rfl (lv_at hl 1 rfl) ?_
      refine lv_icmp_gt (tgt := 26) S.1 S.2.1 dX4_cellsUpTo_17 (by decide) (fun cc => ?_) (fun cc => ?_)
      · replace h := it_p cc h
        obtain ⟨v4, ev4, h⟩ := lt_e h
        refine lv_iinc (v := v4) (lv' := [(3, .int v4), (0, .ref (ad G b0)), (1, .int b1), (2, .int x2)]) S.1 S.2.1 dX4_cellsUpTo_26 hl (k := 3) rfl (by rw [ev4]; rfl) (by decide) rfl (fun ls hl => ?_)
        refine lv_goto (tgt := 4) S.1 S.2.1 dX4_cellsUpTo_29 (by decide) ?_
        exact ih _ _ h _ _ d _ (lv_sub hl [1, 2, 3, 0] rfl)
      · replace h := it_n cc h
        refine lv_iload_n S.1 S.2.1 dX4_cellsUpTo_20 rfl (lv_at hl 2 rfl) ?_
        refine lv_iconst (v := 1) S.1 S.2.1 dX4_cellsUpTo_21 (by decide) ?_
        refine lv_iload_n S.1 S.2.1 dX4_cellsUpTo_22 rfl (lv_at hl 3 rfl) ?_
        refine lv_ishl S.1 S.2.1 dX4_cellsUpTo_23 ?_
        refine lv_ior S.1 S.2.1 dX4_cellsUpTo_24 ?_
        obtain ⟨v2, ev2, h⟩ := lt_e h
        refine r_top ev2 ?_
        refine lv_istore_n (lv' := [(2, .int v2), (0, .ref (ad G b0)), (1, .int b1), (3, .int x3)]) S.1 S.2.1 dX4_cellsUpTo_25 rfl hl (by decide) rfl (fun ls hl => ?_)
        obtain ⟨v3, ev3, h⟩ := lt_e h
        refine lv_iinc (v := v3) (lv' := [(3, .int v3), (2, .int v2), (0, .ref (ad G b0)), (1, .int b1)]) S.1 S.2.1 dX4_cellsUpTo_26 hl (k := 3) rfl (by rw [ev3]; rfl) (by decide) rfl (fun ls hl => ?_)
        refine lv_goto (tgt := 4) S.1 S.2.1 dX4_cellsUpTo_29 (by decide) ?_
        exact ih _ _ h _ _ d _ (lv_sub hl [2, 3, 1, 0] rfl)
set_option maxHeartbeats 4000000 in
set_option maxRecDepth 100000 in
theorem c_X4_cellsUpTo (l : Launch) (G : Gx) (M : Mem) (L : MemL) (fu : Nat) (k0 : Nat) (a1 : Int32) (hk0 : kd k0 = 2) {z : Int32} (h : f_X4_cellsUpTo fu M k0 a1 = some z) : Met l yX4_cellsUpTo (.code yX4_cellsUpTo cX4_cellsUpTo 4 (Option.some Jvm.ClassFile.FieldType.int) :: UW) rm_X4_cellsUpTo (va_Pc [.ref (ad G k0), .int a1] (PreG G false M L)) (Qi G z M L) 0 0 (gA G) := by
  refine r_in (by decide) (fun p e s m args below meth c S hr d ha ls hl => ?_) (Nat.le_of_ble_eq_true rfl)
  have S : Sx G false p s m args meth c cX4_cellsUpTo 4 RX4 := S
  have hl : lv_has ls 4 [(0, .ref (ad G k0)), (1, .int a1)] := hl
  unfold f_X4_cellsUpTo at h
  refine lv_iconst (v := 0) S.1 S.2.1 dX4_cellsUpTo_0 (by decide) ?_
  refine lv_istore_n (lv' := [(2, .int (0 : Int32)), (0, .ref (ad G k0)), (1, .int a1)]) S.1 S.2.1 dX4_cellsUpTo_1 rfl hl (by decide) rfl (fun ls hl => ?_)
  refine lv_iconst (v := 0) S.1 S.2.1 dX4_cellsUpTo_2 (by decide) ?_
  refine lv_istore_n (lv' := [(3, .int (0 : Int32)), (2, .int (0 : Int32)), (0, .ref (ad G k0)), (1, .int a1)]) S.1 S.2.1 dX4_cellsUpTo_3 rfl hl (by decide) rfl (fun ls hl => ?_)
  refine lc_X4_cellsUpTo_4 S hr hk0 _ (fun v5 H locs d ls hl h => ?_) _ _ _  h _ _ d _ (lv_sub hl [2, 3, 1, 0] rfl)
  refine lv_iload_n S.1 S.2.1 dX4_cellsUpTo_32 rfl (lv_at hl 0 rfl) ?_
  obtain rfl := Option.some.inj h
  exact r_iret S d hr rfl rfl dX4_cellsUpTo_33
theorem hyV_X0_seenCells : yX0_seenCells.cls = RX0 ∧ yX0_seenCells.cls ≠ "java/lang/invoke/MethodHandle" ∧ yX0_seenCells.cls ≠ "java/lang/invoke/VarHandle" ∧ (parseMethodDescriptor yX0_seenCells.desc).map (fun d => d.parameters.length) = some 1 := by decide +kernel
abbrev rm_X0_seenCells : Room := { frames := 1, cells := 0, slots := 0, locals := 23 }
def f_X0_seenCells (fu : Nat) (M : Mem) (k0 : Nat) (a1 : Int32) : Option (Int32) :=
  gd (inb a1 9) (
  gd (inb (1 : Int32) 4) (
  (f_X4_cellsUpTo fu M ((k0 + 2) + 4 + 2 * a1.toNatClampNeg) (M (k0 + 1) (1 : Int32).toNatClampNeg)).bind (fun u3 =>
  some (u3))))
set_option maxHeartbeats 4000000 in
set_option maxRecDepth 100000 in
theorem c_X0_seenCells (l : Launch) (G : Gx) (M : Mem) (L : MemL) (fu : Nat) (k0 : Nat) (a1 : Int32) (hk0 : kd k0 = 1) {z : Int32} (h : f_X0_seenCells fu M k0 a1 = some z) : Met l yX0_seenCells (.code yX0_seenCells cX0_seenCells 2 (Option.some Jvm.ClassFile.FieldType.int) :: UW) rm_X0_seenCells (va_Pc [.ref (ad G k0), .int a1] (PreG G false M L)) (Qi G z M L) 0 0 (gA G) := by
  refine r_in (by decide) (fun p e s m args below meth c S hr d ha ls hl => ?_) (Nat.le_of_ble_eq_true rfl)
  have S : Sx G false p s m args meth c cX0_seenCells 2 RX0 := S
  have hl : lv_has ls 2 [(0, .ref (ad G k0)), (1, .int a1)] := hl
  unfold f_X0_seenCells at h
  refine lv_aload_n S.1 S.2.1 dX0_seenCells_0 rfl (lv_at hl 0 rfl) ?_
  refine gf_1_1 S d hk0 fl_RX0_20 dX0_seenCells_1 ?_
  refine lv_iload_n S.1 S.2.1 dX0_seenCells_4 rfl (lv_at hl 1 rfl) ?_
  obtain ⟨g1, h⟩ := gd_e h
  refine r_aald S d (ksdC S (ch_1_1 hk0).1) (wc_13 (ch_1_1 hk0).1) rfl rfl g1 (if_pos (inb_lt g1)) dX0_seenCells_5 ?_
  refine lv_aload_n S.1 S.2.1 dX0_seenCells_6 rfl (lv_at hl 0 rfl) ?_
  refine gf_1_0 S d hk0 fl_RX0_13 dX0_seenCells_7 ?_
  refine lv_iconst (v := 1) S.1 S.2.1 dX0_seenCells_10 (by decide) ?_
  obtain ⟨g2, h⟩ := gd_e h
  refine r_iald S d (ksdC S (ch_1_0 hk0).1) (wc_10 (ch_1_0 hk0).1) (ch_1_0 hk0).2 g2 dX0_seenCells_11 ?_
  obtain ⟨u3, hu3, h⟩ := bd_e h
  refine r_ri d (r_cV (As := [.int (M (k0 + 1) (1 : Int32).toNatClampNeg)]) (rest := []) S d (c_X4_cellsUpTo l G M L fu ((k0 + 2) + 4 + 2 * a1.toNatClampNeg) (M (k0 + 1) (1 : Int32).toNatClampNeg) (ca_13 (ch_1_1 hk0).1 (inb_lt g1)).1 hu3) (ksdC S (ca_13 (ch_1_1 hk0).1 (inb_lt g1)).1) (wc_2 (ca_13 (ch_1_1 hk0).1 (inb_lt g1)).1) rfl ml_RX0_83 im_yX4_cellsUpTo se_yX4_cellsUpTo in_RX4 co_yX4_cellsUpTo hyV_X4_cellsUpTo ⟨rfl, rfl⟩ ⟨by decide, by decide⟩ rfl hl rfl (Nat.le_of_ble_eq_true rfl) dX0_seenCells_12 ⟨Nat.zero_le _, Nat.zero_le _⟩) (fun H locs d => ?_)
  obtain rfl := Option.some.inj h
  exact r_iret S d hr rfl rfl dX0_seenCells_15
theorem hyV_X7_seen : yX7_seen.cls = RX7 ∧ yX7_seen.cls ≠ "java/lang/invoke/MethodHandle" ∧ yX7_seen.cls ≠ "java/lang/invoke/VarHandle" ∧ (parseMethodDescriptor yX7_seen.desc).map (fun d => d.parameters.length) = some 1 := by decide +kernel
abbrev rm_X7_seen : Room := { frames := 2, cells := 0, slots := 0, locals := 44 }
def f_X7_seen (fu : Nat) (M : Mem) (k0 : Nat) (a1 : Int32) : Option (Int32) :=
  (f_X7_isStrip M k0 a1).bind (fun u1 =>
  (if u1 = 0 then some ((-1 : Int32))
  else (f_X0_seenCells fu M (k0 + 1) a1).bind (fun u2 =>
    some (u2))))
set_option maxHeartbeats 4000000 in
set_option maxRecDepth 100000 in
theorem c_X7_seen (l : Launch) (G : Gx) (M : Mem) (L : MemL) (fu : Nat) (k0 : Nat) (a1 : Int32) (hk0 : kd k0 = 0) {z : Int32} (h : f_X7_seen fu M k0 a1 = some z) : Met l yX7_seen (.code yX7_seen cX7_seen 2 (Option.some Jvm.ClassFile.FieldType.int) :: UW) rm_X7_seen (va_Pc [.ref (ad G k0), .int a1] (PreG G false M L)) (Qi G z M L) 0 0 (gA G) := by
  refine r_in (by decide) (fun p e s m args below meth c S hr d ha ls hl => ?_) (Nat.le_of_ble_eq_true rfl)
  have S : Sx G false p s m args meth c cX7_seen 2 RX7 := S
  have hl : lv_has ls 2 [(0, .ref (ad G k0)), (1, .int a1)] := hl
  unfold f_X7_seen at h
  refine lv_aload_n S.1 S.2.1 dX7_seen_0 rfl (lv_at hl 0 rfl) ?_
  refine lv_iload_n S.1 S.2.1 dX7_seen_1 rfl (lv_at hl 1 rfl) ?_
  obtain ⟨u1, hu1, h⟩ := bd_e h
  refine r_ri d (r_cV (As := [.int a1]) (rest := []) S d (c_X7_isStrip l G M L k0 a1 hk0 hu1) (ksdC S hk0) (wc_0 hk0) rfl ml_RX7_70 im_yX7_isStrip se_yX7_isStrip in_RX7 co_yX7_isStrip hyV_X7_isStrip ⟨rfl, rfl⟩ ⟨by decide, by decide⟩ rfl hl rfl (Nat.le_of_ble_eq_true rfl) dX7_seen_2 ⟨Nat.zero_le _, Nat.zero_le _⟩) (fun H locs d => ?_)
  refine lv_if_eq (tgt := 19) S.1 S.2.1 dX7_seen_5 (by decide) (fun cc => ?_) (fun cc => ?_)
  · replace h := it_p cc h
    refine lv_iconst (v := (-1)) S.1 S.2.1 dX7_seen_19 (by decide) ?_
    obtain rfl := Option.some.inj h
    exact r_iret S d hr rfl rfl dX7_seen_20
  · replace h := it_n cc h
    refine lv_aload_n S.1 S.2.1 dX7_seen_8 rfl (lv_at hl 0 rfl) ?_
    refine gf_0_0 S d hk0 fl_RX7_12 dX7_seen_9 ?_
    refine lv_iload_n S.1 S.2.1 dX7_seen_12 rfl (lv_at hl 1 rfl) ?_
    obtain ⟨u2, hu2, h⟩ := bd_e h
    refine r_ri d (r_cV (As := [.int a1]) (rest := []) S d (c_X0_seenCells l G M L fu (k0 + 1) a1 (ch_0_0 hk0).1 hu2) (ksdC S (ch_0_0 hk0).1) (wc_1 (ch_0_0 hk0).1) rfl ml_RX7_86 im_yX0_seenCells se_yX0_seenCells in_RX0 co_yX0_seenCells hyV_X0_seenCells ⟨rfl, rfl⟩ ⟨by decide, by decide⟩ rfl hl rfl (Nat.le_of_ble_eq_true rfl) dX7_seen_13 ⟨Nat.zero_le _, Nat.zero_le _⟩) (fun H locs d => ?_)
    refine lv_goto (tgt := 20) S.1 S.2.1 dX7_seen_16 (by decide) ?_
    obtain rfl := Option.some.inj h
    exact r_iret S d hr rfl rfl dX7_seen_20
theorem hyS_J6_bitCount_0f7a4 : yJ6_bitCount_0f7a4.cls ≠ "java/lang/invoke/MethodHandle" ∧ yJ6_bitCount_0f7a4.cls ≠ "java/lang/invoke/VarHandle" ∧ (parseMethodDescriptor yJ6_bitCount_0f7a4.desc).map (fun d => d.parameters.length) = some 1 := by decide +kernel
abbrev rm_J6_bitCount_0f7a4 : Room := { frames := 0, cells := 0, slots := 0, locals := 0 }
def f_J6_bitCount_0f7a4 (a0 : Int32) : Option (Int32) :=
  lt ((a0 - (((a0).toUInt32 >>> (((1 : Int32)).toUInt32 &&& Int32.toUInt32 31)).toInt32 &&& (1431655765 : Int32)))) (fun v1 : Int32 =>
  lt (((v1 &&& (858993459 : Int32)) + (((v1).toUInt32 >>> (((2 : Int32)).toUInt32 &&& Int32.toUInt32 31)).toInt32 &&& (858993459 : Int32)))) (fun v2 : Int32 =>
  lt (((v2 + ((v2).toUInt32 >>> (((4 : Int32)).toUInt32 &&& Int32.toUInt32 31)).toInt32) &&& (252645135 : Int32))) (fun v3 : Int32 =>
  lt ((v3 + ((v3).toUInt32 >>> (((8 : Int32)).toUInt32 &&& Int32.toUInt32 31)).toInt32)) (fun v4 : Int32 =>
  lt ((v4 + ((v4).toUInt32 >>> (((16 : Int32)).toUInt32 &&& Int32.toUInt32 31)).toInt32)) (fun v5 : Int32 =>
  some ((v5 &&& (63 : Int32))))))))
set_option maxHeartbeats 4000000 in
set_option maxRecDepth 100000 in
theorem c_J6_bitCount_0f7a4 (l : Launch) (G : Gx) (M : Mem) (L : MemL) (a0 : Int32) {z : Int32} (h : f_J6_bitCount_0f7a4 a0 = some z) : Met l yJ6_bitCount_0f7a4 (.code yJ6_bitCount_0f7a4 cJ6_bitCount_0f7a4 1 (Option.some Jvm.ClassFile.FieldType.int) :: UW) rm_J6_bitCount_0f7a4 (va_Pc [.int a0] (PreG G false M L)) (Qi G z M L) 0 0 (gA G) := by
  refine r_in (by decide) (fun p e s m args below meth c S hr d ha ls hl => ?_) (Nat.le_of_ble_eq_true rfl)
  have S : Sx G false p s m args meth c cJ6_bitCount_0f7a4 1 RJ6 := S
  have hl : lv_has ls 1 [(0, .int a0)] := hl
  unfold f_J6_bitCount_0f7a4 at h
  refine lv_iload_n S.1 S.2.1 dJ6_bitCount_0f7a4_0 rfl (lv_at hl 0 rfl) ?_
  refine lv_iload_n S.1 S.2.1 dJ6_bitCount_0f7a4_1 rfl (lv_at hl 0 rfl) ?_
  refine lv_iconst (v := 1) S.1 S.2.1 dJ6_bitCount_0f7a4_2 (by decide) ?_
  refine lv_iushr S.1 S.2.1 dJ6_bitCount_0f7a4_3 rfl ?_
  refine lv_ldcw (v := 1431655765) S.1 S.2.1 S.2.2.2.1 (S.uw ck_RJ6_265) dJ6_bitCount_0f7a4_4 ?_
  refine lv_iand S.1 S.2.1 dJ6_bitCount_0f7a4_7 ?_
  refine lv_isub S.1 S.2.1 dJ6_bitCount_0f7a4_8 ?_
  obtain ⟨v1, ev1, h⟩ := lt_e h
  refine r_top ev1 ?_
  refine lv_istore_n (lv' := [(0, .int v1)]) S.1 S.2.1 dJ6_bitCount_0f7a4_9 rfl hl (by decide) rfl (fun ls hl => ?_)
  refine lv_iload_n S.1 S.2.1 dJ6_bitCount_0f7a4_10 rfl (lv_at hl 0 rfl) ?_
  refine lv_ldcw (v := 858993459) S.1 S.2.1 S.2.2.2.1 (S.uw ck_RJ6_266) dJ6_bitCount_0f7a4_11 ?_
  refine lv_iand S.1 S.2.1 dJ6_bitCount_0f7a4_14 ?_
  refine lv_iload_n S.1 S.2.1 dJ6_bitCount_0f7a4_15 rfl (lv_at hl 0 rfl) ?_
  refine lv_iconst (v := 2) S.1 S.2.1 dJ6_bitCount_0f7a4_16 (by decide) ?_
  refine lv_iushr S.1 S.2.1 dJ6_bitCount_0f7a4_17 rfl ?_
  refine lv_ldcw (v := 858993459) S.1 S.2.1 S.2.2.2.1 (S.uw ck_RJ6_266) dJ6_bitCount_0f7a4_18 ?_
  refine lv_iand S.1 S.2.1 dJ6_bitCount_0f7a4_21 ?_
  refine lv_iadd S.1 S.2.1 dJ6_bitCount_0f7a4_22 ?_
  obtain ⟨v2, ev2, h⟩ := lt_e h
  refine r_top ev2 ?_
  refine lv_istore_n (lv' := [(0, .int v2)]) S.1 S.2.1 dJ6_bitCount_0f7a4_23 rfl hl (by decide) rfl (fun ls hl => ?_)
  refine lv_iload_n S.1 S.2.1 dJ6_bitCount_0f7a4_24 rfl (lv_at hl 0 rfl) ?_
  refine lv_iload_n S.1 S.2.1 dJ6_bitCount_0f7a4_25 rfl (lv_at hl 0 rfl) ?_
  refine lv_iconst (v := 4) S.1 S.2.1 dJ6_bitCount_0f7a4_26 (by decide) ?_
  refine lv_iushr S.1 S.2.1 dJ6_bitCount_0f7a4_27 rfl ?_
  refine lv_iadd S.1 S.2.1 dJ6_bitCount_0f7a4_28 ?_
  refine lv_ldcw (v := 252645135) S.1 S.2.1 S.2.2.2.1 (S.uw ck_RJ6_267) dJ6_bitCount_0f7a4_29 ?_
  refine lv_iand S.1 S.2.1 dJ6_bitCount_0f7a4_32 ?_
  obtain ⟨v3, ev3, h⟩ := lt_e h
  refine r_top ev3 ?_
  refine lv_istore_n (lv' := [(0, .int v3)]) S.1 S.2.1 dJ6_bitCount_0f7a4_33 rfl hl (by decide) rfl (fun ls hl => ?_)
  refine lv_iload_n S.1 S.2.1 dJ6_bitCount_0f7a4_34 rfl (lv_at hl 0 rfl) ?_
  refine lv_iload_n S.1 S.2.1 dJ6_bitCount_0f7a4_35 rfl (lv_at hl 0 rfl) ?_
  refine lv_bipush (v := 8) S.1 S.2.1 dJ6_bitCount_0f7a4_36 (by decide) ?_
  refine lv_iushr S.1 S.2.1 dJ6_bitCount_0f7a4_38 rfl ?_
  refine lv_iadd S.1 S.2.1 dJ6_bitCount_0f7a4_39 ?_
  obtain ⟨v4, ev4, h⟩ := lt_e h
  refine r_top ev4 ?_
  refine lv_istore_n (lv' := [(0, .int v4)]) S.1 S.2.1 dJ6_bitCount_0f7a4_40 rfl hl (by decide) rfl (fun ls hl => ?_)
  refine lv_iload_n S.1 S.2.1 dJ6_bitCount_0f7a4_41 rfl (lv_at hl 0 rfl) ?_
  refine lv_iload_n S.1 S.2.1 dJ6_bitCount_0f7a4_42 rfl (lv_at hl 0 rfl) ?_
  refine lv_bipush (v := 16) S.1 S.2.1 dJ6_bitCount_0f7a4_43 (by decide) ?_
  refine lv_iushr S.1 S.2.1 dJ6_bitCount_0f7a4_45 rfl ?_
  refine lv_iadd S.1 S.2.1 dJ6_bitCount_0f7a4_46 ?_
  obtain ⟨v5, ev5, h⟩ := lt_e h
  refine r_top ev5 ?_
  refine lv_istore_n (lv' := [(0, .int v5)]) S.1 S.2.1 dJ6_bitCount_0f7a4_47 rfl hl (by decide) rfl (fun ls hl => ?_)
  refine lv_iload_n S.1 S.2.1 dJ6_bitCount_0f7a4_48 rfl (lv_at hl 0 rfl) ?_
  refine lv_bipush (v := 63) S.1 S.2.1 dJ6_bitCount_0f7a4_49 (by decide) ?_
  refine lv_iand S.1 S.2.1 dJ6_bitCount_0f7a4_51 ?_
  obtain rfl := Option.some.inj h
  exact r_iret S d hr rfl rfl dJ6_bitCount_0f7a4_52
theorem hyS_X7_closestKey : yX7_closestKey.cls ≠ "java/lang/invoke/MethodHandle" ∧ yX7_closestKey.cls ≠ "java/lang/invoke/VarHandle" ∧ (parseMethodDescriptor yX7_closestKey.desc).map (fun d => d.parameters.length) = some 1 := by decide +kernel
abbrev rm_X7_closestKey : Room := { frames := 1, cells := 0, slots := 0, locals := 21 }
def lp_X7_closestKey_6 (fu : Nat) (M : Mem) (b0 : Int32) (K : Int32 → Option (Int32)) : Nat → Int32 → Int32 → Option (Int32)
  | 0, _, _ => none
  | n + 1, x1, x2 =>
    (if (26 : Int32) ≤ x2 then (K x1)
    else gd (inb x2 26) (
      (f_J6_bitCount_0f7a4 (b0 ^^^ (v26 x2.toNatClampNeg))).bind (fun u3 =>
      lt ((if (((32 : Int32) * u3) + x2) < x1 then (((32 : Int32) * u3) + x2) else x1)) (fun v4 : Int32 =>
      lt (x2 + 1) (fun v5 : Int32 =>
      (lp_X7_closestKey_6 fu M b0 K n v4 v5))))))
def f_X7_closestKey (fu : Nat) (M : Mem) (a0 : Int32) : Option (Int32) :=
  (lp_X7_closestKey_6 fu M a0 (fun (v6 : Int32) =>
    some (v6)) fu (512 : Int32) (0 : Int32))
set_option maxHeartbeats 4000000 in
set_option maxRecDepth 100000 in
theorem lc_X7_closestKey_6 {p : Program} {l : Launch} {e : Env} {s : State} {m : MethodId} {args : Array Value} {below : List Frame} {meth : Method} {c : Code} {G : Gx} {M : Mem} {L : MemL} {fu : Nat} {b0 : Int32} {z : Int32} (S : Sx G false p s m args meth c cX7_closestKey 3 RX7) (hr : meth.sig.returnType = (Option.some Jvm.ClassFile.FieldType.int))  (K : Int32 → Option (Int32)) (hK : ∀ (y1 : Int32) (H : Heap) (locs : List Loc), Dy G s M L H locs → ∀ ls : Array Slot, lv_has ls 3 [(1, .int y1)] → K y1 = some z → W p l e rm_X7_closestKey s m args below meth c H locs 0 0 (MQ below (Qi G z M L) args s 0 0 (gA G)) (F0 m 38 ls [])) :
    ∀ (n : Nat) (x1 : Int32) (x2 : Int32), lp_X7_closestKey_6 fu M b0 K n x1 x2 = some z → ∀ (H : Heap) (locs : List Loc), Dy G s M L H locs → ∀ ls : Array Slot, lv_has ls 3 [(0, .int b0), (1, .int x1), (2, .int x2)] → W p l e rm_X7_closestKey s m args below meth c H locs 0 0 (MQ below (Qi G z M L) args s 0 0 (gA G)) (F0 m 6 ls []) := by
  intro n
  induction n with
  | zero =>
    intro x1 x2 h
    have h : (none : Option (Int32)) = some z := h
    cases h
  | succ n ih =>
    intro x1 x2 h H locs d ls hl
    rw [lp_X7_closestKey_6] at h
    refine lv_iload_n S.1 S.2.1 dX7_closestKey_6 rfl (lv_at hl 2 rfl) ?_
    refine lv_bipush (v := 26) S.1 S.2.1 dX7_closestKey_7 (by decide) ?_
    refine lv_icmp_ge (tgt := 38) S.1 S.2.1 dX7_closestKey_9 (by decide) (fun cc => ?_) (fun cc => ?_)
    · replace h := it_p cc h
      exact hK _ _ _ d _ (lv_sub hl [1] rfl) h
    · replace h := it_n cc h
      refine lv_iload_n S.1 S.2.1 dX7_closestKey_12 rfl (lv_at hl 1 rfl) ?_
      refine lv_bipush (v := 32) S.1 S.2.1 dX7_closestKey_13 (by decide) ?_
      refine lv_iload_n S.1 S.2.1 dX7_closestKey_15 rfl (lv_at hl 0 rfl) ?_
      refine r_gst S d S.2.2.2.2.2.2.2.1.1 (Or.inl (S.uw fl_RX7_83)) dX7_closestKey_16 (fun t1 ht1 => ?_)
      refine lv_iload_n S.1 S.2.1 dX7_closestKey_19 rfl (lv_at hl 2 rfl) ?_
      obtain ⟨g2, h⟩ := gd_e h
      refine r_tald S d ht1 g2 dX7_closestKey_20 ?_
      refine lv_ixor S.1 S.2.1 dX7_closestKey_21 ?_
      obtain ⟨u3, hu3, h⟩ := bd_e h
      refine r_ri d (r_cS (As := [.int (b0 ^^^ (v26 x2.toNatClampNeg))]) (rest := [.int (32 : Int32), .int x1]) S d (c_J6_bitCount_0f7a4 l G M L (b0 ^^^ (v26 x2.toNatClampNeg)) hu3) ml_RX7_217 sm_yJ6_bitCount_0f7a4 in_RJ6 co_yJ6_bitCount_0f7a4 hyS_J6_bitCount_0f7a4 ⟨rfl, rfl⟩ ⟨by decide, by decide⟩ rfl hl rfl (Nat.le_of_ble_eq_true rfl) dX7_closestKey_22 ⟨Nat.zero_le _, Nat.zero_le _⟩) (fun H locs d => ?_)
      refine lv_imul S.1 S.2.1 dX7_closestKey_25 ?_
      refine lv_iload_n S.1 S.2.1 dX7_closestKey_26 rfl (lv_at hl 2 rfl) ?_
      refine lv_iadd S.1 S.2.1 dX7_closestKey_27 ?_
      refine r_min S hl ml_RX7_255 ⟨by decide, Nat.le_of_ble_eq_true rfl⟩ ⟨Nat.zero_le _, Nat.zero_le _⟩ dX7_closestKey_28 ?_
      obtain ⟨v4, ev4, h⟩ := lt_e h
      refine r_top ev4 ?_
      refine lv_istore_n (lv' := [(1, .int v4), (0, .int b0), (2, .int x2)]) S.1 S.2.1 dX7_closestKey_31 rfl hl (by decide) rfl (fun ls hl => ?_)
      obtain ⟨v5, ev5, h⟩ := lt_e h
      refine lv_iinc (v := v5) (lv' := [(2, .int v5), (1, .int v4), (0, .int b0)]) S.1 S.2.1 dX7_closestKey_32 hl (k := 2) rfl (by rw [ev5]; rfl) (by decide) rfl (fun ls hl => ?_)
      refine lv_goto (tgt := 6) S.1 S.2.1 dX7_closestKey_35 (by decide) ?_
      exact ih _ _ h _ _ d _ (lv_sub hl [2, 1, 0] rfl)
set_option maxHeartbeats 4000000 in
set_option maxRecDepth 100000 in
theorem c_X7_closestKey (l : Launch) (G : Gx) (M : Mem) (L : MemL) (fu : Nat) (a0 : Int32) {z : Int32} (h : f_X7_closestKey fu M a0 = some z) : Met l yX7_closestKey (.code yX7_closestKey cX7_closestKey 3 (Option.some Jvm.ClassFile.FieldType.int) :: UW) rm_X7_closestKey (va_Pc [.int a0] (PreG G false M L)) (Qi G z M L) 0 0 (gA G) := by
  refine r_in (by decide) (fun p e s m args below meth c S hr d ha ls hl => ?_) (Nat.le_of_ble_eq_true rfl)
  have S : Sx G false p s m args meth c cX7_closestKey 3 RX7 := S
  have hl : lv_has ls 3 [(0, .int a0)] := hl
  unfold f_X7_closestKey at h
  refine lv_sipush (v := 512) S.1 S.2.1 dX7_closestKey_0 (by decide) ?_
  refine lv_istore_n (lv' := [(1, .int (512 : Int32)), (0, .int a0)]) S.1 S.2.1 dX7_closestKey_3 rfl hl (by decide) rfl (fun ls hl => ?_)
  refine lv_iconst (v := 0) S.1 S.2.1 dX7_closestKey_4 (by decide) ?_
  refine lv_istore_n (lv' := [(2, .int (0 : Int32)), (1, .int (512 : Int32)), (0, .int a0)]) S.1 S.2.1 dX7_closestKey_5 rfl hl (by decide) rfl (fun ls hl => ?_)
  refine lc_X7_closestKey_6 S hr  _ (fun v6 H locs d ls hl h => ?_) _ _ _  h _ _ d _ (lv_sub hl [2, 1, 0] rfl)
  refine lv_iload_n S.1 S.2.1 dX7_closestKey_38 rfl (lv_at hl 0 rfl) ?_
  obtain rfl := Option.some.inj h
  exact r_iret S d hr rfl rfl dX7_closestKey_39
theorem hyV_X0_letterSeenAs : yX0_letterSeenAs.cls = RX0 ∧ yX0_letterSeenAs.cls ≠ "java/lang/invoke/MethodHandle" ∧ yX0_letterSeenAs.cls ≠ "java/lang/invoke/VarHandle" ∧ (parseMethodDescriptor yX0_letterSeenAs.desc).map (fun d => d.parameters.length) = some 1 := by decide +kernel
abbrev rm_X0_letterSeenAs : Room := { frames := 2, cells := 0, slots := 0, locals := 43 }
def f_X0_letterSeenAs (fu : Nat) (M : Mem) (k0 : Nat) (a1 : Int32) : Option (Int32) :=
  (f_X7_closestKey fu M a1).bind (fun u1 =>
  gd (decide (¬ (32 : Int32) = 0)) (
  gd (inb (2 : Int32) 4) (
  (if (u1 / (32 : Int32)) ≤ (M (k0 + 1) (2 : Int32).toNatClampNeg) then gd (decide (¬ (32 : Int32) = 0)) (
    some ((u1 - u1 / (32 : Int32) * (32 : Int32))))
  else some ((-4 : Int32))))))
set_option maxHeartbeats 4000000 in
set_option maxRecDepth 100000 in
theorem c_X0_letterSeenAs (l : Launch) (G : Gx) (M : Mem) (L : MemL) (fu : Nat) (k0 : Nat) (a1 : Int32) (hk0 : kd k0 = 1) {z : Int32} (h : f_X0_letterSeenAs fu M k0 a1 = some z) : Met l yX0_letterSeenAs (.code yX0_letterSeenAs cX0_letterSeenAs 3 (Option.some Jvm.ClassFile.FieldType.int) :: UW) rm_X0_letterSeenAs (va_Pc [.ref (ad G k0), .int a1] (PreG G false M L)) (Qi G z M L) 0 0 (gA G) := by
  refine r_in (by decide) (fun p e s m args below meth c S hr d ha ls hl => ?_) (Nat.le_of_ble_eq_true rfl)
  have S : Sx G false p s m args meth c cX0_letterSeenAs 3 RX0 := S
  have hl : lv_has ls 3 [(0, .ref (ad G k0)), (1, .int a1)] := hl
  unfold f_X0_letterSeenAs at h
  refine lv_iload_n S.1 S.2.1 dX0_letterSeenAs_0 rfl (lv_at hl 1 rfl) ?_
  obtain ⟨u1, hu1, h⟩ := bd_e h
  refine r_ri d (r_cSN (As := [.int a1]) (rest := []) S d (c_X7_closestKey l G M L fu a1 hu1) (nv_RX0_92 S.2.2.2.2.2.2.2.1.2.2.2) sm_yX7_closestKey in_RX7 co_yX7_closestKey hyS_X7_closestKey ⟨rfl, rfl⟩ ⟨by decide, by decide⟩ rfl hl rfl (Nat.le_of_ble_eq_true rfl) dX0_letterSeenAs_1 ⟨Nat.zero_le _, Nat.zero_le _⟩) (fun H locs d => ?_)
  refine lv_istore_n (lv' := [(2, .int u1), (0, .ref (ad G k0)), (1, .int a1)]) S.1 S.2.1 dX0_letterSeenAs_4 rfl hl (by decide) rfl (fun ls hl => ?_)
  refine lv_iload_n S.1 S.2.1 dX0_letterSeenAs_5 rfl (lv_at hl 0 rfl) ?_
  refine lv_bipush (v := 32) S.1 S.2.1 dX0_letterSeenAs_6 (by decide) ?_
  obtain ⟨g2, h⟩ := gd_e h
  refine lv_idiv S.1 S.2.1 dX0_letterSeenAs_8 (of_decide_eq_true g2) ?_
  refine lv_aload_n S.1 S.2.1 dX0_letterSeenAs_9 rfl (lv_at hl 1 rfl) ?_
  refine gf_1_0 S d hk0 fl_RX0_13 dX0_letterSeenAs_10 ?_
  refine lv_iconst (v := 2) S.1 S.2.1 dX0_letterSeenAs_13 (by decide) ?_
  obtain ⟨g3, h⟩ := gd_e h
  refine r_iald S d (ksdC S (ch_1_0 hk0).1) (wc_10 (ch_1_0 hk0).1) (ch_1_0 hk0).2 g3 dX0_letterSeenAs_14 ?_
  refine lv_icmp_le (tgt := 23) S.1 S.2.1 dX0_letterSeenAs_15 (by decide) (fun cc => ?_) (fun cc => ?_)
  · replace h := it_p cc h
    refine lv_iload_n S.1 S.2.1 dX0_letterSeenAs_23 rfl (lv_at hl 0 rfl) ?_
    refine lv_bipush (v := 32) S.1 S.2.1 dX0_letterSeenAs_24 (by decide) ?_
    obtain ⟨g4, h⟩ := gd_e h
    refine lv_irem S.1 S.2.1 dX0_letterSeenAs_26 (of_decide_eq_true g4) ?_
    obtain rfl := Option.some.inj h
    exact r_iret S d hr rfl rfl dX0_letterSeenAs_27
  · replace h := it_n cc h
    refine lv_bipush (v := (-4)) S.1 S.2.1 dX0_letterSeenAs_18 (by decide) ?_
    refine lv_goto (tgt := 27) S.1 S.2.1 dX0_letterSeenAs_20 (by decide) ?_
    obtain rfl := Option.some.inj h
    exact r_iret S d hr rfl rfl dX0_letterSeenAs_27
theorem hyV_X0_letterOn : yX0_letterOn.cls = RX0 ∧ yX0_letterOn.cls ≠ "java/lang/invoke/MethodHandle" ∧ yX0_letterOn.cls ≠ "java/lang/invoke/VarHandle" ∧ (parseMethodDescriptor yX0_letterOn.desc).map (fun d => d.parameters.length) = some 1 := by decide +kernel
abbrev rm_X0_letterOn : Room := { frames := 3, cells := 0, slots := 0, locals := 65 }
def f_X0_letterOn (fu : Nat) (M : Mem) (k0 : Nat) (a1 : Int32) : Option (Int32) :=
  (f_X0_seenCells fu M k0 a1).bind (fun u1 =>
  (f_X0_letterSeenAs fu M k0 u1).bind (fun u2 =>
  some (u2)))
set_option maxHeartbeats 4000000 in
set_option maxRecDepth 100000 in
theorem c_X0_letterOn (l : Launch) (G : Gx) (M : Mem) (L : MemL) (fu : Nat) (k0 : Nat) (a1 : Int32) (hk0 : kd k0 = 1) {z : Int32} (h : f_X0_letterOn fu M k0 a1 = some z) : Met l yX0_letterOn (.code yX0_letterOn cX0_letterOn 2 (Option.some Jvm.ClassFile.FieldType.int) :: UW) rm_X0_letterOn (va_Pc [.ref (ad G k0), .int a1] (PreG G false M L)) (Qi G z M L) 0 0 (gA G) := by
  refine r_in (by decide) (fun p e s m args below meth c S hr d ha ls hl => ?_) (Nat.le_of_ble_eq_true rfl)
  have S : Sx G false p s m args meth c cX0_letterOn 2 RX0 := S
  have hl : lv_has ls 2 [(0, .ref (ad G k0)), (1, .int a1)] := hl
  unfold f_X0_letterOn at h
  refine lv_aload_n S.1 S.2.1 dX0_letterOn_0 rfl (lv_at hl 0 rfl) ?_
  refine lv_aload_n S.1 S.2.1 dX0_letterOn_1 rfl (lv_at hl 0 rfl) ?_
  refine lv_iload_n S.1 S.2.1 dX0_letterOn_2 rfl (lv_at hl 1 rfl) ?_
  obtain ⟨u1, hu1, h⟩ := bd_e h
  refine r_ri d (r_cV (As := [.int a1]) (rest := [.ref (ad G k0)]) S d (c_X0_seenCells l G M L fu k0 a1 hk0 hu1) (ksdC S hk0) (wc_1 hk0) rfl ml_RX0_86 im_yX0_seenCells se_yX0_seenCells in_RX0 co_yX0_seenCells hyV_X0_seenCells ⟨rfl, rfl⟩ ⟨by decide, by decide⟩ rfl hl rfl (Nat.le_of_ble_eq_true rfl) dX0_letterOn_3 ⟨Nat.zero_le _, Nat.zero_le _⟩) (fun H locs d => ?_)
  obtain ⟨u2, hu2, h⟩ := bd_e h
  refine r_ri d (r_cV (As := [.int u1]) (rest := []) S d (c_X0_letterSeenAs l G M L fu k0 u1 hk0 hu2) (ksdC S hk0) (wc_1 hk0) rfl ml_RX0_89 im_yX0_letterSeenAs se_yX0_letterSeenAs in_RX0 co_yX0_letterSeenAs hyV_X0_letterSeenAs ⟨rfl, rfl⟩ ⟨by decide, by decide⟩ rfl hl rfl (Nat.le_of_ble_eq_true rfl) dX0_letterOn_6 ⟨Nat.zero_le _, Nat.zero_le _⟩) (fun H locs d => ?_)
  obtain rfl := Option.some.inj h
  exact r_iret S d hr rfl rfl dX0_letterOn_9
theorem hyV_X7_reads : yX7_reads.cls = RX7 ∧ yX7_reads.cls ≠ "java/lang/invoke/MethodHandle" ∧ yX7_reads.cls ≠ "java/lang/invoke/VarHandle" ∧ (parseMethodDescriptor yX7_reads.desc).map (fun d => d.parameters.length) = some 1 := by decide +kernel
abbrev rm_X7_reads : Room := { frames := 4, cells := 0, slots := 0, locals := 86 }
def f_X7_reads (fu : Nat) (M : Mem) (k0 : Nat) (a1 : Int32) : Option (Int32) :=
  (f_X7_isStrip M k0 a1).bind (fun u1 =>
  (if u1 = 0 then some ((-1 : Int32))
  else (f_X0_letterOn fu M (k0 + 1) a1).bind (fun u2 =>
    some (u2))))
set_option maxHeartbeats 4000000 in
set_option maxRecDepth 100000 in
theorem c_X7_reads (l : Launch) (G : Gx) (M : Mem) (L : MemL) (fu : Nat) (k0 : Nat) (a1 : Int32) (hk0 : kd k0 = 0) {z : Int32} (h : f_X7_reads fu M k0 a1 = some z) : Met l yX7_reads (.code yX7_reads cX7_reads 2 (Option.some Jvm.ClassFile.FieldType.int) :: UW) rm_X7_reads (va_Pc [.ref (ad G k0), .int a1] (PreG G false M L)) (Qi G z M L) 0 0 (gA G) := by
  refine r_in (by decide) (fun p e s m args below meth c S hr d ha ls hl => ?_) (Nat.le_of_ble_eq_true rfl)
  have S : Sx G false p s m args meth c cX7_reads 2 RX7 := S
  have hl : lv_has ls 2 [(0, .ref (ad G k0)), (1, .int a1)] := hl
  unfold f_X7_reads at h
  refine lv_aload_n S.1 S.2.1 dX7_reads_0 rfl (lv_at hl 0 rfl) ?_
  refine lv_iload_n S.1 S.2.1 dX7_reads_1 rfl (lv_at hl 1 rfl) ?_
  obtain ⟨u1, hu1, h⟩ := bd_e h
  refine r_ri d (r_cV (As := [.int a1]) (rest := []) S d (c_X7_isStrip l G M L k0 a1 hk0 hu1) (ksdC S hk0) (wc_0 hk0) rfl ml_RX7_70 im_yX7_isStrip se_yX7_isStrip in_RX7 co_yX7_isStrip hyV_X7_isStrip ⟨rfl, rfl⟩ ⟨by decide, by decide⟩ rfl hl rfl (Nat.le_of_ble_eq_true rfl) dX7_reads_2 ⟨Nat.zero_le _, Nat.zero_le _⟩) (fun H locs d => ?_)
  refine lv_if_eq (tgt := 19) S.1 S.2.1 dX7_reads_5 (by decide) (fun cc => ?_) (fun cc => ?_)
  · replace h := it_p cc h
    refine lv_iconst (v := (-1)) S.1 S.2.1 dX7_reads_19 (by decide) ?_
    obtain rfl := Option.some.inj h
    exact r_iret S d hr rfl rfl dX7_reads_20
  · replace h := it_n cc h
    refine lv_aload_n S.1 S.2.1 dX7_reads_8 rfl (lv_at hl 0 rfl) ?_
    refine gf_0_0 S d hk0 fl_RX7_12 dX7_reads_9 ?_
    refine lv_iload_n S.1 S.2.1 dX7_reads_12 rfl (lv_at hl 1 rfl) ?_
    obtain ⟨u2, hu2, h⟩ := bd_e h
    refine r_ri d (r_cV (As := [.int a1]) (rest := []) S d (c_X0_letterOn l G M L fu (k0 + 1) a1 (ch_0_0 hk0).1 hu2) (ksdC S (ch_0_0 hk0).1) (wc_1 (ch_0_0 hk0).1) rfl ml_RX7_90 im_yX0_letterOn se_yX0_letterOn in_RX0 co_yX0_letterOn hyV_X0_letterOn ⟨rfl, rfl⟩ ⟨by decide, by decide⟩ rfl hl rfl (Nat.le_of_ble_eq_true rfl) dX7_reads_13 ⟨Nat.zero_le _, Nat.zero_le _⟩) (fun H locs d => ?_)
    refine lv_goto (tgt := 20) S.1 S.2.1 dX7_reads_16 (by decide) ?_
    obtain rfl := Option.some.inj h
    exact r_iret S d hr rfl rfl dX7_reads_20
theorem hyV_X7_off : yX7_off.cls = RX7 ∧ yX7_off.cls ≠ "java/lang/invoke/MethodHandle" ∧ yX7_off.cls ≠ "java/lang/invoke/VarHandle" ∧ (parseMethodDescriptor yX7_off.desc).map (fun d => d.parameters.length) = some 1 := by decide +kernel
abbrev rm_X7_off : Room := { frames := 2, cells := 0, slots := 0, locals := 44 }
def f_X7_off (fu : Nat) (M : Mem) (k0 : Nat) (a1 : Int32) : Option (Int32) :=
  (f_X7_isStrip M k0 a1).bind (fun u1 =>
  (if u1 = 0 then some ((-1 : Int32))
  else (f_X0_seenCells fu M (k0 + 1) a1).bind (fun u2 =>
    (f_X7_closestKey fu M u2).bind (fun u3 =>
    gd (decide (¬ (32 : Int32) = 0)) (
    some ((u3 / (32 : Int32))))))))
set_option maxHeartbeats 4000000 in
set_option maxRecDepth 100000 in
theorem c_X7_off (l : Launch) (G : Gx) (M : Mem) (L : MemL) (fu : Nat) (k0 : Nat) (a1 : Int32) (hk0 : kd k0 = 0) {z : Int32} (h : f_X7_off fu M k0 a1 = some z) : Met l yX7_off (.code yX7_off cX7_off 2 (Option.some Jvm.ClassFile.FieldType.int) :: UW) rm_X7_off (va_Pc [.ref (ad G k0), .int a1] (PreG G false M L)) (Qi G z M L) 0 0 (gA G) := by
  refine r_in (by decide) (fun p e s m args below meth c S hr d ha ls hl => ?_) (Nat.le_of_ble_eq_true rfl)
  have S : Sx G false p s m args meth c cX7_off 2 RX7 := S
  have hl : lv_has ls 2 [(0, .ref (ad G k0)), (1, .int a1)] := hl
  unfold f_X7_off at h
  refine lv_aload_n S.1 S.2.1 dX7_off_0 rfl (lv_at hl 0 rfl) ?_
  refine lv_iload_n S.1 S.2.1 dX7_off_1 rfl (lv_at hl 1 rfl) ?_
  obtain ⟨u1, hu1, h⟩ := bd_e h
  refine r_ri d (r_cV (As := [.int a1]) (rest := []) S d (c_X7_isStrip l G M L k0 a1 hk0 hu1) (ksdC S hk0) (wc_0 hk0) rfl ml_RX7_70 im_yX7_isStrip se_yX7_isStrip in_RX7 co_yX7_isStrip hyV_X7_isStrip ⟨rfl, rfl⟩ ⟨by decide, by decide⟩ rfl hl rfl (Nat.le_of_ble_eq_true rfl) dX7_off_2 ⟨Nat.zero_le _, Nat.zero_le _⟩) (fun H locs d => ?_)
  refine lv_if_eq (tgt := 25) S.1 S.2.1 dX7_off_5 (by decide) (fun cc => ?_) (fun cc => ?_)
  · replace h := it_p cc h
    refine lv_iconst (v := (-1)) S.1 S.2.1 dX7_off_25 (by decide) ?_
    obtain rfl := Option.some.inj h
    exact r_iret S d hr rfl rfl dX7_off_26
  · replace h := it_n cc h
    refine lv_aload_n S.1 S.2.1 dX7_off_8 rfl (lv_at hl 0 rfl) ?_
    refine gf_0_0 S d hk0 fl_RX7_12 dX7_off_9 ?_
    refine lv_iload_n S.1 S.2.1 dX7_off_12 rfl (lv_at hl 1 rfl) ?_
    obtain ⟨u2, hu2, h⟩ := bd_e h
    refine r_ri d (r_cV (As := [.int a1]) (rest := []) S d (c_X0_seenCells l G M L fu (k0 + 1) a1 (ch_0_0 hk0).1 hu2) (ksdC S (ch_0_0 hk0).1) (wc_1 (ch_0_0 hk0).1) rfl ml_RX7_86 im_yX0_seenCells se_yX0_seenCells in_RX0 co_yX0_seenCells hyV_X0_seenCells ⟨rfl, rfl⟩ ⟨by decide, by decide⟩ rfl hl rfl (Nat.le_of_ble_eq_true rfl) dX7_off_13 ⟨Nat.zero_le _, Nat.zero_le _⟩) (fun H locs d => ?_)
    obtain ⟨u3, hu3, h⟩ := bd_e h
    refine r_ri d (r_cS (As := [.int u2]) (rest := []) S d (c_X7_closestKey l G M L fu u2 hu3) ml_RX7_93 sm_yX7_closestKey in_RX7 co_yX7_closestKey hyS_X7_closestKey ⟨rfl, rfl⟩ ⟨by decide, by decide⟩ rfl hl rfl (Nat.le_of_ble_eq_true rfl) dX7_off_16 ⟨Nat.zero_le _, Nat.zero_le _⟩) (fun H locs d => ?_)
    refine lv_bipush (v := 32) S.1 S.2.1 dX7_off_19 (by decide) ?_
    obtain ⟨g4, h⟩ := gd_e h
    refine lv_idiv S.1 S.2.1 dX7_off_21 (of_decide_eq_true g4) ?_
    refine lv_goto (tgt := 26) S.1 S.2.1 dX7_off_22 (by decide) ?_
    obtain rfl := Option.some.inj h
    exact r_iret S d hr rfl rfl dX7_off_26
theorem hyV_X4_grownCells : yX4_grownCells.cls = RX4 ∧ yX4_grownCells.cls ≠ "java/lang/invoke/MethodHandle" ∧ yX4_grownCells.cls ≠ "java/lang/invoke/VarHandle" ∧ (parseMethodDescriptor yX4_grownCells.desc).map (fun d => d.parameters.length) = some 0 := by decide +kernel
abbrev rm_X4_grownCells : Room := { frames := 1, cells := 0, slots := 0, locals := 23 }
def f_X4_grownCells (fu : Nat) (M : Mem) (k0 : Nat) : Option (Int32) :=
  (f_X4_cellsUpTo fu M k0 (2 : Int32)).bind (fun u1 =>
  some (((32767 : Int32) &&& (u1 ^^^ (-1 : Int32)))))
set_option maxHeartbeats 4000000 in
set_option maxRecDepth 100000 in
theorem c_X4_grownCells (l : Launch) (G : Gx) (M : Mem) (L : MemL) (fu : Nat) (k0 : Nat) (hk0 : kd k0 = 2) {z : Int32} (h : f_X4_grownCells fu M k0 = some z) : Met l yX4_grownCells (.code yX4_grownCells cX4_grownCells 1 (Option.some Jvm.ClassFile.FieldType.int) :: UW) rm_X4_grownCells (va_Pc [.ref (ad G k0)] (PreG G false M L)) (Qi G z M L) 0 0 (gA G) := by
  refine r_in (by decide) (fun p e s m args below meth c S hr d ha ls hl => ?_) (Nat.le_of_ble_eq_true rfl)
  have S : Sx G false p s m args meth c cX4_grownCells 1 RX4 := S
  have hl : lv_has ls 1 [(0, .ref (ad G k0))] := hl
  unfold f_X4_grownCells at h
  refine lv_sipush (v := 32767) S.1 S.2.1 dX4_grownCells_0 (by decide) ?_
  refine lv_aload_n S.1 S.2.1 dX4_grownCells_3 rfl (lv_at hl 0 rfl) ?_
  refine lv_iconst (v := 2) S.1 S.2.1 dX4_grownCells_4 (by decide) ?_
  obtain ⟨u1, hu1, h⟩ := bd_e h
  refine r_ri d (r_cV (As := [.int (2 : Int32)]) (rest := [.int (32767 : Int32)]) S d (c_X4_cellsUpTo l G M L fu k0 (2 : Int32) hk0 hu1) (ksdC S hk0) (wc_2 hk0) rfl ml_RX4_31 im_yX4_cellsUpTo se_yX4_cellsUpTo in_RX4 co_yX4_cellsUpTo hyV_X4_cellsUpTo ⟨rfl, rfl⟩ ⟨by decide, by decide⟩ rfl hl rfl (Nat.le_of_ble_eq_true rfl) dX4_grownCells_5 ⟨Nat.zero_le _, Nat.zero_le _⟩) (fun H locs d => ?_)
  refine lv_iconst (v := (-1)) S.1 S.2.1 dX4_grownCells_8 (by decide) ?_
  refine lv_ixor S.1 S.2.1 dX4_grownCells_9 ?_
  refine lv_iand S.1 S.2.1 dX4_grownCells_10 ?_
  obtain rfl := Option.some.inj h
  exact r_iret S d hr rfl rfl dX4_grownCells_11
theorem hyV_X4_hasGrown : yX4_hasGrown.cls = RX4 ∧ yX4_hasGrown.cls ≠ "java/lang/invoke/MethodHandle" ∧ yX4_hasGrown.cls ≠ "java/lang/invoke/VarHandle" ∧ (parseMethodDescriptor yX4_hasGrown.desc).map (fun d => d.parameters.length) = some 1 := by decide +kernel
abbrev rm_X4_hasGrown : Room := { frames := 2, cells := 0, slots := 0, locals := 43 }
def f_X4_hasGrown (fu : Nat) (M : Mem) (k0 : Nat) (a1 : Int32) : Option (Int32) :=
  (f_X4_grownCells fu M k0).bind (fun u1 =>
  (if (a1 &&& (u1 ^^^ (-1 : Int32))) = 0 then some ((1 : Int32))
  else some ((0 : Int32))))
set_option maxHeartbeats 4000000 in
set_option maxRecDepth 100000 in
theorem c_X4_hasGrown (l : Launch) (G : Gx) (M : Mem) (L : MemL) (fu : Nat) (k0 : Nat) (a1 : Int32) (hk0 : kd k0 = 2) {z : Int32} (h : f_X4_hasGrown fu M k0 a1 = some z) : Met l yX4_hasGrown (.code yX4_hasGrown cX4_hasGrown 2 (Option.some Jvm.ClassFile.FieldType.boolean) :: UW) rm_X4_hasGrown (va_Pc [.ref (ad G k0), .int a1] (PreG G false M L)) (Qi G z M L) 0 0 (gA G) := by
  refine r_in (by decide) (fun p e s m args below meth c S hr d ha ls hl => ?_) (Nat.le_of_ble_eq_true rfl)
  have S : Sx G false p s m args meth c cX4_hasGrown 2 RX4 := S
  have hl : lv_has ls 2 [(0, .ref (ad G k0)), (1, .int a1)] := hl
  unfold f_X4_hasGrown at h
  refine lv_iload_n S.1 S.2.1 dX4_hasGrown_0 rfl (lv_at hl 1 rfl) ?_
  refine lv_aload_n S.1 S.2.1 dX4_hasGrown_1 rfl (lv_at hl 0 rfl) ?_
  obtain ⟨u1, hu1, h⟩ := bd_e h
  refine r_ri d (r_cV (As := []) (rest := [.int a1]) S d (c_X4_grownCells l G M L fu k0 hk0 hu1) (ksdC S hk0) (wc_2 hk0) rfl ml_RX4_35 im_yX4_grownCells se_yX4_grownCells in_RX4 co_yX4_grownCells hyV_X4_grownCells ⟨rfl, rfl⟩ ⟨by decide, by decide⟩ rfl hl rfl (Nat.le_of_ble_eq_true rfl) dX4_hasGrown_2 ⟨Nat.zero_le _, Nat.zero_le _⟩) (fun H locs d => ?_)
  refine lv_iconst (v := (-1)) S.1 S.2.1 dX4_hasGrown_5 (by decide) ?_
  refine lv_ixor S.1 S.2.1 dX4_hasGrown_6 ?_
  refine lv_iand S.1 S.2.1 dX4_hasGrown_7 ?_
  refine lv_if_ne (tgt := 15) S.1 S.2.1 dX4_hasGrown_8 (by decide) (fun cc => ?_) (fun cc => ?_)
  · replace h := it_n cc h
    refine lv_iconst (v := 0) S.1 S.2.1 dX4_hasGrown_15 (by decide) ?_
    obtain rfl := Option.some.inj h
    exact r_iret S d hr rfl rfl dX4_hasGrown_16
  · replace h := it_p cc h
    refine lv_iconst (v := 1) S.1 S.2.1 dX4_hasGrown_11 (by decide) ?_
    refine lv_goto (tgt := 16) S.1 S.2.1 dX4_hasGrown_12 (by decide) ?_
    obtain rfl := Option.some.inj h
    exact r_iret S d hr rfl rfl dX4_hasGrown_16
theorem hyV_X4_grassOf : yX4_grassOf.cls = RX4 ∧ yX4_grassOf.cls ≠ "java/lang/invoke/MethodHandle" ∧ yX4_grassOf.cls ≠ "java/lang/invoke/VarHandle" ∧ (parseMethodDescriptor yX4_grassOf.desc).map (fun d => d.parameters.length) = some 1 := by decide +kernel
abbrev rm_X4_grassOf : Room := { frames := 0, cells := 0, slots := 0, locals := 0 }
def lp_X4_grassOf_4 (fu : Nat) (M : Mem) (b0 : Nat) (b1 : Int32) (K : Int32 → Option (Int32)) : Nat → Int32 → Int32 → Option (Int32)
  | 0, _, _ => none
  | n + 1, x2, x3 =>
    (if (15 : Int32) ≤ x3 then (K x2)
    else (if ((b1 >>> (x3 &&& 31)) &&& (1 : Int32)) = (1 : Int32) then gd (inb x3 15) (
        lt ((x2 + (M (b0 + 1) x3.toNatClampNeg))) (fun v2 : Int32 =>
        lt (x3 + 1) (fun v3 : Int32 =>
        (lp_X4_grassOf_4 fu M b0 b1 K n v2 v3))))
      else lt (x3 + 1) (fun v4 : Int32 =>
        (lp_X4_grassOf_4 fu M b0 b1 K n x2 v4))))
def f_X4_grassOf (fu : Nat) (M : Mem) (k0 : Nat) (a1 : Int32) : Option (Int32) :=
  (lp_X4_grassOf_4 fu M k0 a1 (fun (v5 : Int32) =>
    some (v5)) fu (0 : Int32) (0 : Int32))
set_option maxHeartbeats 4000000 in
set_option maxRecDepth 100000 in
theorem lc_X4_grassOf_4 {p : Program} {l : Launch} {e : Env} {s : State} {m : MethodId} {args : Array Value} {below : List Frame} {meth : Method} {c : Code} {G : Gx} {M : Mem} {L : MemL} {fu : Nat} {b0 : Nat} {b1 : Int32} {z : Int32} (S : Sx G false p s m args meth c cX4_grassOf 4 RX4) (hr : meth.sig.returnType = (Option.some Jvm.ClassFile.FieldType.int)) (hb0 : kd b0 = 2) (K : Int32 → Option (Int32)) (hK : ∀ (y2 : Int32) (H : Heap) (locs : List Loc), Dy G s M L H locs → ∀ ls : Array Slot, lv_has ls 4 [(2, .int y2)] → K y2 = some z → W p l e rm_X4_grassOf s m args below meth c H locs 0 0 (MQ below (Qi G z M L) args s 0 0 (gA G)) (F0 m 34 ls [])) :
    ∀ (n : Nat) (x2 : Int32) (x3 : Int32), lp_X4_grassOf_4 fu M b0 b1 K n x2 x3 = some z → ∀ (H : Heap) (locs : List Loc), Dy G s M L H locs → ∀ ls : Array Slot, lv_has ls 4 [(0, .ref (ad G b0)), (1, .int b1), (2, .int x2), (3, .int x3)] → W p l e rm_X4_grassOf s m args below meth c H locs 0 0 (MQ below (Qi G z M L) args s 0 0 (gA G)) (F0 m 4 ls []) := by
  intro n
  induction n with
  | zero =>
    intro x2 x3 h
    have h : (none : Option (Int32)) = some z := h
    cases h
  | succ n ih =>
    intro x2 x3 h H locs d ls hl
    rw [lp_X4_grassOf_4] at h
    refine lv_iload_n S.1 S.2.1 dX4_grassOf_4 rfl (lv_at hl 3 rfl) ?_
    refine lv_bipush (v := 15) S.1 S.2.1 dX4_grassOf_5 (by decide) ?_
    refine lv_icmp_ge (tgt := 34) S.1 S.2.1 dX4_grassOf_7 (by decide) (fun cc => ?_) (fun cc => ?_)
    · replace h := it_p cc h
      exact hK _ _ _ d _ (lv_sub hl [2] rfl) h
    · replace h := it_n cc h
      refine lv_iload_n S.1 S.2.1 dX4_grassOf_10 rfl (lv_at hl 1 rfl) ?_
      refine lv_iload_n S.1 S.2.1 dX4_grassOf_11 rfl (lv_at hl 3 rfl) ?_
      refine lv_ishr S.1 S.2.1 dX4_grassOf_12 ?_
      refine lv_iconst (v := 1) S.1 S.2.1 dX4_grassOf_13 (by decide) ?_
      refine lv_iand S.1 S.2.1 dX4_grassOf_14 ?_
      refine lv_iconst (v := 1) S.1 S.2.1 dX4_grassOf_15 (by decide) ?_
      refine lv_icmp_ne (tgt := 28) S.1 S.2.1 dX4_grassOf_16 (by decide) (fun cc => ?_) (fun cc => ?_)
      · replace h := it_n cc h
        obtain ⟨v4, ev4, h⟩ := lt_e h
        refine lv_iinc (v := v4) (lv' := [(3, .int v4), (0, .ref (ad G b0)), (1, .int b1), (2, .int x2)]) S.1 S.2.1 dX4_grassOf_28 hl (k := 3) rfl (by rw [ev4]; rfl) (by decide) rfl (fun ls hl => ?_)
        refine lv_goto (tgt := 4) S.1 S.2.1 dX4_grassOf_31 (by decide) ?_
        exact ih _ _ h _ _ d _ (lv_sub hl [1, 2, 3, 0] rfl)
      · replace h := it_p cc h
        refine lv_iload_n S.1 S.2.1 dX4_grassOf_19 rfl (lv_at hl 2 rfl) ?_
        refine lv_aload_n S.1 S.2.1 dX4_grassOf_20 rfl (lv_at hl 0 rfl) ?_
        refine gf_2_1 S d hb0 fl_RX4_15 dX4_grassOf_21 ?_
        refine lv_iload_n S.1 S.2.1 dX4_grassOf_24 rfl (lv_at hl 3 rfl) ?_
        obtain ⟨g1, h⟩ := gd_e h
        refine r_iald S d (ksdC S (ch_2_1 hb0).1) (wc_10 (ch_2_1 hb0).1) (ch_2_1 hb0).2 g1 dX4_grassOf_25 ?_
        refine lv_iadd S.1 S.2.1 dX4_grassOf_26 ?_
        obtain ⟨v2, ev2, h⟩ := lt_e h
        refine r_top ev2 ?_
        refine lv_istore_n (lv' := [(2, .int v2), (0, .ref (ad G b0)), (1, .int b1), (3, .int x3)]) S.1 S.2.1 dX4_grassOf_27 rfl hl (by decide) rfl (fun ls hl => ?_)
        obtain ⟨v3, ev3, h⟩ := lt_e h
        refine lv_iinc (v := v3) (lv' := [(3, .int v3), (2, .int v2), (0, .ref (ad G b0)), (1, .int b1)]) S.1 S.2.1 dX4_grassOf_28 hl (k := 3) rfl (by rw [ev3]; rfl) (by decide) rfl (fun ls hl => ?_)
        refine lv_goto (tgt := 4) S.1 S.2.1 dX4_grassOf_31 (by decide) ?_
        exact ih _ _ h _ _ d _ (lv_sub hl [2, 3, 1, 0] rfl)
set_option maxHeartbeats 4000000 in
set_option maxRecDepth 100000 in
theorem c_X4_grassOf (l : Launch) (G : Gx) (M : Mem) (L : MemL) (fu : Nat) (k0 : Nat) (a1 : Int32) (hk0 : kd k0 = 2) {z : Int32} (h : f_X4_grassOf fu M k0 a1 = some z) : Met l yX4_grassOf (.code yX4_grassOf cX4_grassOf 4 (Option.some Jvm.ClassFile.FieldType.int) :: UW) rm_X4_grassOf (va_Pc [.ref (ad G k0), .int a1] (PreG G false M L)) (Qi G z M L) 0 0 (gA G) := by
  refine r_in (by decide) (fun p e s m args below meth c S hr d ha ls hl => ?_) (Nat.le_of_ble_eq_true rfl)
  have S : Sx G false p s m args meth c cX4_grassOf 4 RX4 := S
  have hl : lv_has ls 4 [(0, .ref (ad G k0)), (1, .int a1)] := hl
  unfold f_X4_grassOf at h
  refine lv_iconst (v := 0) S.1 S.2.1 dX4_grassOf_0 (by decide) ?_
  refine lv_istore_n (lv' := [(2, .int (0 : Int32)), (0, .ref (ad G k0)), (1, .int a1)]) S.1 S.2.1 dX4_grassOf_1 rfl hl (by decide) rfl (fun ls hl => ?_)
  refine lv_iconst (v := 0) S.1 S.2.1 dX4_grassOf_2 (by decide) ?_
  refine lv_istore_n (lv' := [(3, .int (0 : Int32)), (2, .int (0 : Int32)), (0, .ref (ad G k0)), (1, .int a1)]) S.1 S.2.1 dX4_grassOf_3 rfl hl (by decide) rfl (fun ls hl => ?_)
  refine lc_X4_grassOf_4 S hr hk0 _ (fun v5 H locs d ls hl h => ?_) _ _ _  h _ _ d _ (lv_sub hl [2, 3, 1, 0] rfl)
  refine lv_iload_n S.1 S.2.1 dX4_grassOf_34 rfl (lv_at hl 0 rfl) ?_
  obtain rfl := Option.some.inj h
  exact r_iret S d hr rfl rfl dX4_grassOf_35
theorem hyV_X4_cutDown : yX4_cutDown.cls = RX4 ∧ yX4_cutDown.cls ≠ "java/lang/invoke/MethodHandle" ∧ yX4_cutDown.cls ≠ "java/lang/invoke/VarHandle" ∧ (parseMethodDescriptor yX4_cutDown.desc).map (fun d => d.parameters.length) = some 1 := by decide +kernel
abbrev rm_X4_cutDown : Room := { frames := 0, cells := 0, slots := 0, locals := 0 }
def lp_X4_cutDown_2 (fu : Nat) (b0 : Nat) (b1 : Int32) (K : Mem → Option (Mem)) : Nat → Int32 → Mem → Option (Mem)
  | 0, _, _ => none
  | n + 1, x2, Mx =>
    (if (15 : Int32) ≤ x2 then (K Mx)
    else (if ((b1 >>> (x2 &&& 31)) &&& (1 : Int32)) = (1 : Int32) then gd (inb x2 15) (
        lt (up Mx (b0 + 1) x2.toNatClampNeg (0 : Int32)) (fun M2 : Mem =>
        lt (x2 + 1) (fun v3 : Int32 =>
        (lp_X4_cutDown_2 fu b0 b1 K n v3 M2))))
      else lt (x2 + 1) (fun v4 : Int32 =>
        (lp_X4_cutDown_2 fu b0 b1 K n v4 Mx))))
def f_X4_cutDown (fu : Nat) (M : Mem) (k0 : Nat) (a1 : Int32) : Option (Mem) :=
  (lp_X4_cutDown_2 fu k0 a1 (fun (M5 : Mem) =>
    some (M5)) fu (0 : Int32) M)
set_option maxHeartbeats 4000000 in
set_option maxRecDepth 100000 in
theorem lc_X4_cutDown_2 {p : Program} {l : Launch} {e : Env} {s : State} {m : MethodId} {args : Array Value} {below : List Frame} {meth : Method} {c : Code} {G : Gx} {L : MemL} {fu : Nat} {b0 : Nat} {b1 : Int32} {z : Mem} (S : Sx G false p s m args meth c cX4_cutDown 3 RX4) (hr : meth.sig.returnType = (Option.none : Option Jvm.ClassFile.FieldType)) (hb0 : kd b0 = 2) (K : Mem → Option (Mem)) (hK : ∀ (My : Mem) (H : Heap) (locs : List Loc), Dy G s My L H locs → ∀ ls : Array Slot, lv_has ls 3 [] → K My = some z → W p l e rm_X4_cutDown s m args below meth c H locs 0 0 (MQ below (Qv G z L) args s 0 0 (gA G)) (F0 m 30 ls [])) :
    ∀ (n : Nat) (x2 : Int32) (Mx : Mem), lp_X4_cutDown_2 fu b0 b1 K n x2 Mx = some z → ∀ (H : Heap) (locs : List Loc), Dy G s Mx L H locs → ∀ ls : Array Slot, lv_has ls 3 [(0, .ref (ad G b0)), (1, .int b1), (2, .int x2)] → W p l e rm_X4_cutDown s m args below meth c H locs 0 0 (MQ below (Qv G z L) args s 0 0 (gA G)) (F0 m 2 ls []) := by
  intro n
  induction n with
  | zero =>
    intro x2 Mx h
    have h : (none : Option (Mem)) = some z := h
    cases h
  | succ n ih =>
    intro x2 Mx h H locs d ls hl
    rw [lp_X4_cutDown_2] at h
    refine lv_iload_n S.1 S.2.1 dX4_cutDown_2 rfl (lv_at hl 2 rfl) ?_
    refine lv_bipush (v := 15) S.1 S.2.1 dX4_cutDown_3 (by decide) ?_
    refine lv_icmp_ge (tgt := 30) S.1 S.2.1 dX4_cutDown_5 (by decide) (fun cc => ?_) (fun cc => ?_)
    · replace h := it_p cc h
      exact hK _ _ _ d _ (lv_sub hl [] rfl) h
    · replace h := it_n cc h
      refine lv_iload_n S.1 S.2.1 dX4_cutDown_8 rfl (lv_at hl 1 rfl) ?_
      refine lv_iload_n S.1 S.2.1 dX4_cutDown_9 rfl (lv_at hl 2 rfl) ?_
      refine lv_ishr S.1 S.2.1 dX4_cutDown_10 ?_
      refine lv_iconst (v := 1) S.1 S.2.1 dX4_cutDown_11 (by decide) ?_
      refine lv_iand S.1 S.2.1 dX4_cutDown_12 ?_
      refine lv_iconst (v := 1) S.1 S.2.1 dX4_cutDown_13 (by decide) ?_
      refine lv_icmp_ne (tgt := 24) S.1 S.2.1 dX4_cutDown_14 (by decide) (fun cc => ?_) (fun cc => ?_)
      · replace h := it_n cc h
        obtain ⟨v4, ev4, h⟩ := lt_e h
        refine lv_iinc (v := v4) (lv' := [(2, .int v4), (0, .ref (ad G b0)), (1, .int b1)]) S.1 S.2.1 dX4_cutDown_24 hl (k := 2) rfl (by rw [ev4]; rfl) (by decide) rfl (fun ls hl => ?_)
        refine lv_goto (tgt := 2) S.1 S.2.1 dX4_cutDown_27 (by decide) ?_
        exact ih _ _ h _ _ d _ (lv_sub hl [1, 2, 0] rfl)
      · replace h := it_p cc h
        refine lv_aload_n S.1 S.2.1 dX4_cutDown_17 rfl (lv_at hl 0 rfl) ?_
        refine gf_2_1 S d hb0 fl_RX4_15 dX4_cutDown_18 ?_
        refine lv_iload_n S.1 S.2.1 dX4_cutDown_21 rfl (lv_at hl 2 rfl) ?_
        refine lv_iconst (v := 0) S.1 S.2.1 dX4_cutDown_22 (by decide) ?_
        obtain ⟨g1, h⟩ := gd_e h
        obtain ⟨M2, eM2, h⟩ := lt_e h
        refine r_iast S d eM2 (ksdC S (ch_2_1 hb0).1) (fun _ => wc_10 (ch_2_1 hb0).1) (ch_2_1 hb0).2 g1 dX4_cutDown_23 (fun H locs d => ?_)
        obtain ⟨v3, ev3, h⟩ := lt_e h
        refine lv_iinc (v := v3) (lv' := [(2, .int v3), (0, .ref (ad G b0)), (1, .int b1)]) S.1 S.2.1 dX4_cutDown_24 hl (k := 2) rfl (by rw [ev3]; rfl) (by decide) rfl (fun ls hl => ?_)
        refine lv_goto (tgt := 2) S.1 S.2.1 dX4_cutDown_27 (by decide) ?_
        exact ih _ _ h _ _ d _ (lv_sub hl [1, 2, 0] rfl)
set_option maxHeartbeats 4000000 in
set_option maxRecDepth 100000 in
theorem c_X4_cutDown (l : Launch) (G : Gx) (M : Mem) (L : MemL) (fu : Nat) (k0 : Nat) (a1 : Int32) (hk0 : kd k0 = 2) {z : Mem} (h : f_X4_cutDown fu M k0 a1 = some z) : Met l yX4_cutDown (.code yX4_cutDown cX4_cutDown 3 (Option.none : Option Jvm.ClassFile.FieldType) :: UW) rm_X4_cutDown (va_Pc [.ref (ad G k0), .int a1] (PreG G false M L)) (Qv G z L) 0 0 (gA G) := by
  refine r_in (by decide) (fun p e s m args below meth c S hr d ha ls hl => ?_) (Nat.le_of_ble_eq_true rfl)
  have S : Sx G false p s m args meth c cX4_cutDown 3 RX4 := S
  have hl : lv_has ls 3 [(0, .ref (ad G k0)), (1, .int a1)] := hl
  unfold f_X4_cutDown at h
  refine lv_iconst (v := 0) S.1 S.2.1 dX4_cutDown_0 (by decide) ?_
  refine lv_istore_n (lv' := [(2, .int (0 : Int32)), (0, .ref (ad G k0)), (1, .int a1)]) S.1 S.2.1 dX4_cutDown_1 rfl hl (by decide) rfl (fun ls hl => ?_)
  refine lc_X4_cutDown_2 S hr hk0 _ (fun M5 H locs d ls hl h => ?_) _ _ _  h _ _ d _ (lv_sub hl [1, 2, 0] rfl)
  obtain rfl := Option.some.inj h
  exact r_vret S d hr dX4_cutDown_30
theorem hyV_X0_harvest : yX0_harvest.cls = RX0 ∧ yX0_harvest.cls ≠ "java/lang/invoke/MethodHandle" ∧ yX0_harvest.cls ≠ "java/lang/invoke/VarHandle" ∧ (parseMethodDescriptor yX0_harvest.desc).map (fun d => d.parameters.length) = some 2 := by decide +kernel
abbrev rm_X0_harvest : Room := { frames := 1, cells := 0, slots := 0, locals := 23 }
def f_X0_harvest (fu : Nat) (M : Mem) (k0 : Nat) (a1 : Int32) (a2 : Int32) : Option (Int32 × Mem) :=
  gd (inb a1 9) (
  (f_X4_grassOf fu M ((k0 + 2) + 4 + 2 * a1.toNatClampNeg) a2).bind (fun u2 =>
  gd (inb a1 9) (
  (f_X4_cutDown fu M ((k0 + 2) + 4 + 2 * a1.toNatClampNeg) a2).bind (fun u4 =>
  gd (inb a1 9) (
  gd (inb (u4 ((k0 + 2) + 4 + 2 * a1.toNatClampNeg) 0) 6) (
  gd (inb (u4 ((k0 + 2) + 4 + 2 * a1.toNatClampNeg) 0) 6) (
  lt (up u4 (k0 + 5) (u4 ((k0 + 2) + 4 + 2 * a1.toNatClampNeg) 0).toNatClampNeg ((u4 (k0 + 5) (u4 ((k0 + 2) + 4 + 2 * a1.toNatClampNeg) 0).toNatClampNeg) + u2)) (fun M8 : Mem =>
  some (u2, M8)))))))))
set_option maxHeartbeats 4000000 in
set_option maxRecDepth 100000 in
theorem c_X0_harvest (l : Launch) (G : Gx) (M : Mem) (L : MemL) (fu : Nat) (k0 : Nat) (a1 : Int32) (a2 : Int32) (hk0 : kd k0 = 1) {z : Int32 × Mem} (h : f_X0_harvest fu M k0 a1 a2 = some z) : Met l yX0_harvest (.code yX0_harvest cX0_harvest 4 (Option.some Jvm.ClassFile.FieldType.int) :: UW) rm_X0_harvest (va_Pc [.ref (ad G k0), .int a1, .int a2] (PreG G false M L)) (Qi G z.1 z.2 L) 0 0 (gA G) := by
  refine r_in (by decide) (fun p e s m args below meth c S hr d ha ls hl => ?_) (Nat.le_of_ble_eq_true rfl)
  have S : Sx G false p s m args meth c cX0_harvest 4 RX0 := S
  have hl : lv_has ls 4 [(0, .ref (ad G k0)), (1, .int a1), (2, .int a2)] := hl
  unfold f_X0_harvest at h
  refine lv_aload_n S.1 S.2.1 dX0_harvest_0 rfl (lv_at hl 0 rfl) ?_
  refine gf_1_1 S d hk0 fl_RX0_20 dX0_harvest_1 ?_
  refine lv_iload_n S.1 S.2.1 dX0_harvest_4 rfl (lv_at hl 1 rfl) ?_
  obtain ⟨g1, h⟩ := gd_e h
  refine r_aald S d (ksdC S (ch_1_1 hk0).1) (wc_13 (ch_1_1 hk0).1) rfl rfl g1 (if_pos (inb_lt g1)) dX0_harvest_5 ?_
  refine lv_iload_n S.1 S.2.1 dX0_harvest_6 rfl (lv_at hl 2 rfl) ?_
  obtain ⟨u2, hu2, h⟩ := bd_e h
  refine r_ri d (r_cV (As := [.int a2]) (rest := []) S d (c_X4_grassOf l G M L fu ((k0 + 2) + 4 + 2 * a1.toNatClampNeg) a2 (ca_13 (ch_1_1 hk0).1 (inb_lt g1)).1 hu2) (ksdC S (ca_13 (ch_1_1 hk0).1 (inb_lt g1)).1) (wc_2 (ca_13 (ch_1_1 hk0).1 (inb_lt g1)).1) rfl ml_RX0_74 im_yX4_grassOf se_yX4_grassOf in_RX4 co_yX4_grassOf hyV_X4_grassOf ⟨rfl, rfl⟩ ⟨by decide, by decide⟩ rfl hl rfl (Nat.le_of_ble_eq_true rfl) dX0_harvest_7 ⟨Nat.zero_le _, Nat.zero_le _⟩) (fun H locs d => ?_)
  refine lv_istore_n (lv' := [(3, .int u2), (0, .ref (ad G k0)), (1, .int a1), (2, .int a2)]) S.1 S.2.1 dX0_harvest_10 rfl hl (by decide) rfl (fun ls hl => ?_)
  refine lv_aload_n S.1 S.2.1 dX0_harvest_11 rfl (lv_at hl 1 rfl) ?_
  refine gf_1_1 S d hk0 fl_RX0_20 dX0_harvest_12 ?_
  refine lv_iload_n S.1 S.2.1 dX0_harvest_15 rfl (lv_at hl 2 rfl) ?_
  obtain ⟨g3, h⟩ := gd_e h
  refine r_aald S d (ksdC S (ch_1_1 hk0).1) (wc_13 (ch_1_1 hk0).1) rfl rfl g3 (if_pos (inb_lt g3)) dX0_harvest_16 ?_
  refine lv_iload_n S.1 S.2.1 dX0_harvest_17 rfl (lv_at hl 3 rfl) ?_
  obtain ⟨u4, hu4, h⟩ := bd_e h
  refine r_rv d (r_cV (As := [.int a2]) (rest := []) S d (c_X4_cutDown l G M L fu ((k0 + 2) + 4 + 2 * a1.toNatClampNeg) a2 (ca_13 (ch_1_1 hk0).1 (inb_lt g3)).1 hu4) (ksdC S (ca_13 (ch_1_1 hk0).1 (inb_lt g3)).1) (wc_2 (ca_13 (ch_1_1 hk0).1 (inb_lt g3)).1) rfl ml_RX0_77 im_yX4_cutDown se_yX4_cutDown in_RX4 co_yX4_cutDown hyV_X4_cutDown ⟨rfl, rfl⟩ ⟨by decide, by decide⟩ rfl hl rfl (Nat.le_of_ble_eq_true rfl) dX0_harvest_18 ⟨Nat.zero_le _, Nat.zero_le _⟩) (fun H locs d => ?_)
  refine lv_aload_n S.1 S.2.1 dX0_harvest_21 rfl (lv_at hl 1 rfl) ?_
  refine gf_1_6 S d hk0 fl_RX0_40 dX0_harvest_22 ?_
  refine lv_aload_n S.1 S.2.1 dX0_harvest_25 rfl (lv_at hl 1 rfl) ?_
  refine gf_1_1 S d hk0 fl_RX0_20 dX0_harvest_26 ?_
  refine lv_iload_n S.1 S.2.1 dX0_harvest_29 rfl (lv_at hl 2 rfl) ?_
  obtain ⟨g5, h⟩ := gd_e h
  refine r_aald S d (ksdC S (ch_1_1 hk0).1) (wc_13 (ch_1_1 hk0).1) rfl rfl g5 (if_pos (inb_lt g5)) dX0_harvest_30 ?_
  refine gf_2_0 S d (ca_13 (ch_1_1 hk0).1 (inb_lt g5)).1 fl_RX0_80 dX0_harvest_31 ?_
  refine lv_dup2_11 S.1 S.2.1 dX0_harvest_34 rfl rfl ?_
  obtain ⟨g6, h⟩ := gd_e h
  refine r_iald S d (ksdC S (ch_1_6 hk0).1) (wc_10 (ch_1_6 hk0).1) (ch_1_6 hk0).2 g6 dX0_harvest_35 ?_
  refine lv_iload_n S.1 S.2.1 dX0_harvest_36 rfl (lv_at hl 0 rfl) ?_
  refine lv_iadd S.1 S.2.1 dX0_harvest_37 ?_
  obtain ⟨g7, h⟩ := gd_e h
  obtain ⟨M8, eM8, h⟩ := lt_e h
  refine r_iast S d eM8 (ksdC S (ch_1_6 hk0).1) (fun _ => wc_10 (ch_1_6 hk0).1) (ch_1_6 hk0).2 g7 dX0_harvest_38 (fun H locs d => ?_)
  refine lv_iload_n S.1 S.2.1 dX0_harvest_39 rfl (lv_at hl 0 rfl) ?_
  obtain rfl := Option.some.inj h
  exact r_iret S d hr rfl rfl dX0_harvest_40
theorem hyV_X7_mow : yX7_mow.cls = RX7 ∧ yX7_mow.cls ≠ "java/lang/invoke/MethodHandle" ∧ yX7_mow.cls ≠ "java/lang/invoke/VarHandle" ∧ (parseMethodDescriptor yX7_mow.desc).map (fun d => d.parameters.length) = some 2 := by decide +kernel
abbrev rm_X7_mow : Room := { frames := 3, cells := 0, slots := 0, locals := 64 }
def f_X7_mow (fu : Nat) (M : Mem) (k0 : Nat) (a1 : Int32) (a2 : Int32) : Option (Int32 × Mem) :=
  (f_X7_isStrip M k0 a1).bind (fun u1 =>
  (if u1 = 0 then some ((-1 : Int32), M)
  else (f_X7_isBelow a2 (26 : Int32)).bind (fun u2 =>
    (if u2 = 0 then some ((-1 : Int32), M)
    else gd (inb a1 9) (
      gd (inb a2 26) (
      (f_X4_hasGrown fu M (((k0 + 1) + 2) + 4 + 2 * a1.toNatClampNeg) (v26 a2.toNatClampNeg)).bind (fun u6 =>
      (if u6 = 0 then some ((-2 : Int32), M)
      else gd (inb a2 26) (
        (f_X0_harvest fu M (k0 + 1) a1 (v26 a2.toNatClampNeg)).bind (fun u9 =>
        some (u9.1, u9.2)))))))))))
set_option maxHeartbeats 4000000 in
set_option maxRecDepth 100000 in
theorem c_X7_mow (l : Launch) (G : Gx) (M : Mem) (L : MemL) (fu : Nat) (k0 : Nat) (a1 : Int32) (a2 : Int32) (hk0 : kd k0 = 0) {z : Int32 × Mem} (h : f_X7_mow fu M k0 a1 a2 = some z) : Met l yX7_mow (.code yX7_mow cX7_mow 3 (Option.some Jvm.ClassFile.FieldType.int) :: UW) rm_X7_mow (va_Pc [.ref (ad G k0), .int a1, .int a2] (PreG G false M L)) (Qi G z.1 z.2 L) 0 0 (gA G) := by
  refine r_in (by decide) (fun p e s m args below meth c S hr d ha ls hl => ?_) (Nat.le_of_ble_eq_true rfl)
  have S : Sx G false p s m args meth c cX7_mow 3 RX7 := S
  have hl : lv_has ls 3 [(0, .ref (ad G k0)), (1, .int a1), (2, .int a2)] := hl
  unfold f_X7_mow at h
  refine lv_aload_n S.1 S.2.1 dX7_mow_0 rfl (lv_at hl 0 rfl) ?_
  refine lv_iload_n S.1 S.2.1 dX7_mow_1 rfl (lv_at hl 1 rfl) ?_
  obtain ⟨u1, hu1, h⟩ := bd_e h
  refine r_ri d (r_cV (As := [.int a1]) (rest := []) S d (c_X7_isStrip l G M L k0 a1 hk0 hu1) (ksdC S hk0) (wc_0 hk0) rfl ml_RX7_70 im_yX7_isStrip se_yX7_isStrip in_RX7 co_yX7_isStrip hyV_X7_isStrip ⟨rfl, rfl⟩ ⟨by decide, by decide⟩ rfl hl rfl (Nat.le_of_ble_eq_true rfl) dX7_mow_2 ⟨Nat.zero_le _, Nat.zero_le _⟩) (fun H locs d => ?_)
  refine lv_if_eq (tgt := 17) S.1 S.2.1 dX7_mow_5 (by decide) (fun cc => ?_) (fun cc => ?_)
  · replace h := it_p cc h
    refine lv_iconst (v := (-1)) S.1 S.2.1 dX7_mow_17 (by decide) ?_
    obtain rfl := Option.some.inj h
    exact r_iret S d hr rfl rfl dX7_mow_18
  · replace h := it_n cc h
    refine lv_iload_n S.1 S.2.1 dX7_mow_8 rfl (lv_at hl 2 rfl) ?_
    refine lv_bipush (v := 26) S.1 S.2.1 dX7_mow_9 (by decide) ?_
    obtain ⟨u2, hu2, h⟩ := bd_e h
    refine r_ri d (r_cS (As := [.int a2, .int (26 : Int32)]) (rest := []) S d (c_X7_isBelow l G M L a2 (26 : Int32) hu2) ml_RX7_51 sm_yX7_isBelow in_RX7 co_yX7_isBelow hyS_X7_isBelow ⟨rfl, rfl⟩ ⟨by decide, by decide⟩ rfl hl rfl (Nat.le_of_ble_eq_true rfl) dX7_mow_11 ⟨Nat.zero_le _, Nat.zero_le _⟩) (fun H locs d => ?_)
    refine lv_if_ne (tgt := 19) S.1 S.2.1 dX7_mow_14 (by decide) (fun cc => ?_) (fun cc => ?_)
    · replace h := it_n cc h
      refine lv_aload_n S.1 S.2.1 dX7_mow_19 rfl (lv_at hl 0 rfl) ?_
      refine gf_0_0 S d hk0 fl_RX7_12 dX7_mow_20 ?_
      refine gf_1_1 S d (ch_0_0 hk0).1 fl_RX7_74 dX7_mow_23 ?_
      refine lv_iload_n S.1 S.2.1 dX7_mow_26 rfl (lv_at hl 1 rfl) ?_
      obtain ⟨g3, h⟩ := gd_e h
      refine r_aald S d (ksdC S (ch_1_1 (ch_0_0 hk0).1).1) (wc_13 (ch_1_1 (ch_0_0 hk0).1).1) rfl rfl g3 (if_pos (inb_lt g3)) dX7_mow_27 ?_
      refine r_gst S d S.2.2.2.2.2.2.2.1.1 (Or.inl (S.uw fl_RX7_83)) dX7_mow_28 (fun t4 ht4 => ?_)
      refine lv_iload_n S.1 S.2.1 dX7_mow_31 rfl (lv_at hl 2 rfl) ?_
      obtain ⟨g5, h⟩ := gd_e h
      refine r_tald S d ht4 g5 dX7_mow_32 ?_
      obtain ⟨u6, hu6, h⟩ := bd_e h
      refine r_ri d (r_cV (As := [.int (v26 a2.toNatClampNeg)]) (rest := []) S d (c_X4_hasGrown l G M L fu (((k0 + 1) + 2) + 4 + 2 * a1.toNatClampNeg) (v26 a2.toNatClampNeg) (ca_13 (ch_1_1 (ch_0_0 hk0).1).1 (inb_lt g3)).1 hu6) (ksdC S (ca_13 (ch_1_1 (ch_0_0 hk0).1).1 (inb_lt g3)).1) (wc_2 (ca_13 (ch_1_1 (ch_0_0 hk0).1).1 (inb_lt g3)).1) rfl ml_RX7_96 im_yX4_hasGrown se_yX4_hasGrown in_RX4 co_yX4_hasGrown hyV_X4_hasGrown ⟨rfl, rfl⟩ ⟨by decide, by decide⟩ rfl hl rfl (Nat.le_of_ble_eq_true rfl) dX7_mow_33 ⟨Nat.zero_le _, Nat.zero_le _⟩) (fun H locs d => ?_)
      refine lv_if_eq (tgt := 55) S.1 S.2.1 dX7_mow_36 (by decide) (fun cc => ?_) (fun cc => ?_)
      · replace h := it_p cc h
        refine lv_bipush (v := (-2)) S.1 S.2.1 dX7_mow_55 (by decide) ?_
        obtain rfl := Option.some.inj h
        exact r_iret S d hr rfl rfl dX7_mow_57
      · replace h := it_n cc h
        refine lv_aload_n S.1 S.2.1 dX7_mow_39 rfl (lv_at hl 0 rfl) ?_
        refine gf_0_0 S d hk0 fl_RX7_12 dX7_mow_40 ?_
        refine lv_iload_n S.1 S.2.1 dX7_mow_43 rfl (lv_at hl 1 rfl) ?_
        refine r_gst S d S.2.2.2.2.2.2.2.1.1 (Or.inl (S.uw fl_RX7_83)) dX7_mow_44 (fun t7 ht7 => ?_)
        refine lv_iload_n S.1 S.2.1 dX7_mow_47 rfl (lv_at hl 2 rfl) ?_
        obtain ⟨g8, h⟩ := gd_e h
        refine r_tald S d ht7 g8 dX7_mow_48 ?_
        obtain ⟨u9, hu9, h⟩ := bd_e h
        refine r_ri d (r_cV (As := [.int a1, .int (v26 a2.toNatClampNeg)]) (rest := []) S d (c_X0_harvest l G M L fu (k0 + 1) a1 (v26 a2.toNatClampNeg) (ch_0_0 hk0).1 hu9) (ksdC S (ch_0_0 hk0).1) (wc_1 (ch_0_0 hk0).1) rfl ml_RX7_99 im_yX0_harvest se_yX0_harvest in_RX0 co_yX0_harvest hyV_X0_harvest ⟨rfl, rfl⟩ ⟨by decide, by decide⟩ rfl hl rfl (Nat.le_of_ble_eq_true rfl) dX7_mow_49 ⟨Nat.zero_le _, Nat.zero_le _⟩) (fun H locs d => ?_)
        refine lv_goto (tgt := 57) S.1 S.2.1 dX7_mow_52 (by decide) ?_
        obtain rfl := Option.some.inj h
        exact r_iret S d hr rfl rfl dX7_mow_57
    · replace h := it_p cc h
      refine lv_iconst (v := (-1)) S.1 S.2.1 dX7_mow_17 (by decide) ?_
      obtain rfl := Option.some.inj h
      exact r_iret S d hr rfl rfl dX7_mow_18
theorem hyV_X7_cut : yX7_cut.cls = RX7 ∧ yX7_cut.cls ≠ "java/lang/invoke/MethodHandle" ∧ yX7_cut.cls ≠ "java/lang/invoke/VarHandle" ∧ (parseMethodDescriptor yX7_cut.desc).map (fun d => d.parameters.length) = some 1 := by decide +kernel
abbrev rm_X7_cut : Room := { frames := 2, cells := 0, slots := 0, locals := 46 }
def f_X7_cut (fu : Nat) (M : Mem) (k0 : Nat) (a1 : Int32) : Option (Int32 × Mem) :=
  (f_X7_isStrip M k0 a1).bind (fun u1 =>
  (if u1 = 0 then some ((-1 : Int32), M)
  else gd (inb a1 9) (
    (f_X4_grownCells fu M (((k0 + 1) + 2) + 4 + 2 * a1.toNatClampNeg)).bind (fun u3 =>
    (f_X0_harvest fu M (k0 + 1) a1 u3).bind (fun u4 =>
    some (u4.1, u4.2))))))
set_option maxHeartbeats 4000000 in
set_option maxRecDepth 100000 in
theorem c_X7_cut (l : Launch) (G : Gx) (M : Mem) (L : MemL) (fu : Nat) (k0 : Nat) (a1 : Int32) (hk0 : kd k0 = 0) {z : Int32 × Mem} (h : f_X7_cut fu M k0 a1 = some z) : Met l yX7_cut (.code yX7_cut cX7_cut 2 (Option.some Jvm.ClassFile.FieldType.int) :: UW) rm_X7_cut (va_Pc [.ref (ad G k0), .int a1] (PreG G false M L)) (Qi G z.1 z.2 L) 0 0 (gA G) := by
  refine r_in (by decide) (fun p e s m args below meth c S hr d ha ls hl => ?_) (Nat.le_of_ble_eq_true rfl)
  have S : Sx G false p s m args meth c cX7_cut 2 RX7 := S
  have hl : lv_has ls 2 [(0, .ref (ad G k0)), (1, .int a1)] := hl
  unfold f_X7_cut at h
  refine lv_aload_n S.1 S.2.1 dX7_cut_0 rfl (lv_at hl 0 rfl) ?_
  refine lv_iload_n S.1 S.2.1 dX7_cut_1 rfl (lv_at hl 1 rfl) ?_
  obtain ⟨u1, hu1, h⟩ := bd_e h
  refine r_ri d (r_cV (As := [.int a1]) (rest := []) S d (c_X7_isStrip l G M L k0 a1 hk0 hu1) (ksdC S hk0) (wc_0 hk0) rfl ml_RX7_70 im_yX7_isStrip se_yX7_isStrip in_RX7 co_yX7_isStrip hyV_X7_isStrip ⟨rfl, rfl⟩ ⟨by decide, by decide⟩ rfl hl rfl (Nat.le_of_ble_eq_true rfl) dX7_cut_2 ⟨Nat.zero_le _, Nat.zero_le _⟩) (fun H locs d => ?_)
  refine lv_if_eq (tgt := 31) S.1 S.2.1 dX7_cut_5 (by decide) (fun cc => ?_) (fun cc => ?_)
  · replace h := it_p cc h
    refine lv_iconst (v := (-1)) S.1 S.2.1 dX7_cut_31 (by decide) ?_
    obtain rfl := Option.some.inj h
    exact r_iret S d hr rfl rfl dX7_cut_32
  · replace h := it_n cc h
    refine lv_aload_n S.1 S.2.1 dX7_cut_8 rfl (lv_at hl 0 rfl) ?_
    refine gf_0_0 S d hk0 fl_RX7_12 dX7_cut_9 ?_
    refine lv_iload_n S.1 S.2.1 dX7_cut_12 rfl (lv_at hl 1 rfl) ?_
    refine lv_aload_n S.1 S.2.1 dX7_cut_13 rfl (lv_at hl 0 rfl) ?_
    refine gf_0_0 S d hk0 fl_RX7_12 dX7_cut_14 ?_
    refine gf_1_1 S d (ch_0_0 hk0).1 fl_RX7_74 dX7_cut_17 ?_
    refine lv_iload_n S.1 S.2.1 dX7_cut_20 rfl (lv_at hl 1 rfl) ?_
    obtain ⟨g2, h⟩ := gd_e h
    refine r_aald S d (ksdC S (ch_1_1 (ch_0_0 hk0).1).1) (wc_13 (ch_1_1 (ch_0_0 hk0).1).1) rfl rfl g2 (if_pos (inb_lt g2)) dX7_cut_21 ?_
    obtain ⟨u3, hu3, h⟩ := bd_e h
    refine r_ri d (r_cV (As := []) (rest := [.int a1, .ref (ad G (k0 + 1))]) S d (c_X4_grownCells l G M L fu (((k0 + 1) + 2) + 4 + 2 * a1.toNatClampNeg) (ca_13 (ch_1_1 (ch_0_0 hk0).1).1 (inb_lt g2)).1 hu3) (ksdC S (ca_13 (ch_1_1 (ch_0_0 hk0).1).1 (inb_lt g2)).1) (wc_2 (ca_13 (ch_1_1 (ch_0_0 hk0).1).1 (inb_lt g2)).1) rfl ml_RX7_103 im_yX4_grownCells se_yX4_grownCells in_RX4 co_yX4_grownCells hyV_X4_grownCells ⟨rfl, rfl⟩ ⟨by decide, by decide⟩ rfl hl rfl (Nat.le_of_ble_eq_true rfl) dX7_cut_22 ⟨Nat.zero_le _, Nat.zero_le _⟩) (fun H locs d => ?_)
    obtain ⟨u4, hu4, h⟩ := bd_e h
    refine r_ri d (r_cV (As := [.int a1, .int u3]) (rest := []) S d (c_X0_harvest l G M L fu (k0 + 1) a1 u3 (ch_0_0 hk0).1 hu4) (ksdC S (ch_0_0 hk0).1) (wc_1 (ch_0_0 hk0).1) rfl ml_RX7_99 im_yX0_harvest se_yX0_harvest in_RX0 co_yX0_harvest hyV_X0_harvest ⟨rfl, rfl⟩ ⟨by decide, by decide⟩ rfl hl rfl (Nat.le_of_ble_eq_true rfl) dX7_cut_25 ⟨Nat.zero_le _, Nat.zero_le _⟩) (fun H locs d => ?_)
    refine lv_goto (tgt := 32) S.1 S.2.1 dX7_cut_28 (by decide) ?_
    obtain rfl := Option.some.inj h
    exact r_iret S d hr rfl rfl dX7_cut_32
theorem hyV_X7_fault : yX7_fault.cls = RX7 ∧ yX7_fault.cls ≠ "java/lang/invoke/MethodHandle" ∧ yX7_fault.cls ≠ "java/lang/invoke/VarHandle" ∧ (parseMethodDescriptor yX7_fault.desc).map (fun d => d.parameters.length) = some 3 := by decide +kernel
abbrev rm_X7_fault : Room := { frames := 2, cells := 0, slots := 0, locals := 42 }
def f_X7_fault (M : Mem) (k0 : Nat) (a1 : Int32) (a2 : Int32) (a3 : Int32) : Option (Int32 × Mem) :=
  (f_X7_isStrip M k0 a1).bind (fun u1 =>
  (if u1 = 0 then some ((-1 : Int32), M)
  else (f_X7_isBelow a2 (15 : Int32)).bind (fun u2 =>
    (if u2 = 0 then some ((-1 : Int32), M)
    else (f_X7_isBelow a3 (2 : Int32)).bind (fun u3 =>
      (if u3 = 0 then some ((-1 : Int32), M)
      else gd (inb a1 9) (
        lt (((((k0 + 1) + 2) + 4 + 2 * a1.toNatClampNeg) + 1)) (fun r5 : Nat =>
        gd (inb a2 15) (
        lt ((M r5 a2.toNatClampNeg)) (fun v7 : Int32 =>
        (if a3 = 0 then some (0 : Int32)
        else some (9 : Int32)).bind (fun t8 : Int32 =>
        gd (inb a2 15) (
        lt (up M r5 a2.toNatClampNeg t8) (fun M11 : Mem =>
        some (v7, M11))))))))))))))
set_option maxHeartbeats 4000000 in
set_option maxRecDepth 100000 in
theorem c_X7_fault (l : Launch) (G : Gx) (M : Mem) (L : MemL) (k0 : Nat) (a1 : Int32) (a2 : Int32) (a3 : Int32) (hk0 : kd k0 = 0) {z : Int32 × Mem} (h : f_X7_fault M k0 a1 a2 a3 = some z) : Met l yX7_fault (.code yX7_fault cX7_fault 6 (Option.some Jvm.ClassFile.FieldType.int) :: UW) rm_X7_fault (va_Pc [.ref (ad G k0), .int a1, .int a2, .int a3] (PreG G false M L)) (Qi G z.1 z.2 L) 0 0 (gA G) := by
  refine r_in (by decide) (fun p e s m args below meth c S hr d ha ls hl => ?_) (Nat.le_of_ble_eq_true rfl)
  have S : Sx G false p s m args meth c cX7_fault 6 RX7 := S
  have hl : lv_has ls 6 [(0, .ref (ad G k0)), (1, .int a1), (2, .int a2), (3, .int a3)] := hl
  unfold f_X7_fault at h
  refine lv_aload_n S.1 S.2.1 dX7_fault_0 rfl (lv_at hl 0 rfl) ?_
  refine lv_iload_n S.1 S.2.1 dX7_fault_1 rfl (lv_at hl 1 rfl) ?_
  obtain ⟨u1, hu1, h⟩ := bd_e h
  refine r_ri d (r_cV (As := [.int a1]) (rest := []) S d (c_X7_isStrip l G M L k0 a1 hk0 hu1) (ksdC S hk0) (wc_0 hk0) rfl ml_RX7_70 im_yX7_isStrip se_yX7_isStrip in_RX7 co_yX7_isStrip hyV_X7_isStrip ⟨rfl, rfl⟩ ⟨by decide, by decide⟩ rfl hl rfl (Nat.le_of_ble_eq_true rfl) dX7_fault_2 ⟨Nat.zero_le _, Nat.zero_le _⟩) (fun H locs d => ?_)
  refine lv_if_eq (tgt := 25) S.1 S.2.1 dX7_fault_5 (by decide) (fun cc => ?_) (fun cc => ?_)
  · replace h := it_p cc h
    refine lv_iconst (v := (-1)) S.1 S.2.1 dX7_fault_25 (by decide) ?_
    obtain rfl := Option.some.inj h
    exact r_iret S d hr rfl rfl dX7_fault_26
  · replace h := it_n cc h
    refine lv_iload_n S.1 S.2.1 dX7_fault_8 rfl (lv_at hl 2 rfl) ?_
    refine lv_bipush (v := 15) S.1 S.2.1 dX7_fault_9 (by decide) ?_
    obtain ⟨u2, hu2, h⟩ := bd_e h
    refine r_ri d (r_cS (As := [.int a2, .int (15 : Int32)]) (rest := []) S d (c_X7_isBelow l G M L a2 (15 : Int32) hu2) ml_RX7_51 sm_yX7_isBelow in_RX7 co_yX7_isBelow hyS_X7_isBelow ⟨rfl, rfl⟩ ⟨by decide, by decide⟩ rfl hl rfl (Nat.le_of_ble_eq_true rfl) dX7_fault_11 ⟨Nat.zero_le _, Nat.zero_le _⟩) (fun H locs d => ?_)
    refine lv_if_eq (tgt := 25) S.1 S.2.1 dX7_fault_14 (by decide) (fun cc => ?_) (fun cc => ?_)
    · replace h := it_p cc h
      refine lv_iconst (v := (-1)) S.1 S.2.1 dX7_fault_25 (by decide) ?_
      obtain rfl := Option.some.inj h
      exact r_iret S d hr rfl rfl dX7_fault_26
    · replace h := it_n cc h
      refine lv_iload_n S.1 S.2.1 dX7_fault_17 rfl (lv_at hl 3 rfl) ?_
      refine lv_iconst (v := 2) S.1 S.2.1 dX7_fault_18 (by decide) ?_
      obtain ⟨u3, hu3, h⟩ := bd_e h
      refine r_ri d (r_cS (As := [.int a3, .int (2 : Int32)]) (rest := []) S d (c_X7_isBelow l G M L a3 (2 : Int32) hu3) ml_RX7_51 sm_yX7_isBelow in_RX7 co_yX7_isBelow hyS_X7_isBelow ⟨rfl, rfl⟩ ⟨by decide, by decide⟩ rfl hl rfl (Nat.le_of_ble_eq_true rfl) dX7_fault_19 ⟨Nat.zero_le _, Nat.zero_le _⟩) (fun H locs d => ?_)
      refine lv_if_ne (tgt := 27) S.1 S.2.1 dX7_fault_22 (by decide) (fun cc => ?_) (fun cc => ?_)
      · replace h := it_n cc h
        refine lv_aload_n S.1 S.2.1 dX7_fault_27 rfl (lv_at hl 0 rfl) ?_
        refine gf_0_0 S d hk0 fl_RX7_12 dX7_fault_28 ?_
        refine gf_1_1 S d (ch_0_0 hk0).1 fl_RX7_74 dX7_fault_31 ?_
        refine lv_iload_n S.1 S.2.1 dX7_fault_34 rfl (lv_at hl 1 rfl) ?_
        obtain ⟨g4, h⟩ := gd_e h
        refine r_aald S d (ksdC S (ch_1_1 (ch_0_0 hk0).1).1) (wc_13 (ch_1_1 (ch_0_0 hk0).1).1) rfl rfl g4 (if_pos (inb_lt g4)) dX7_fault_35 ?_
        refine gf_2_1 S d (ca_13 (ch_1_1 (ch_0_0 hk0).1).1 (inb_lt g4)).1 fl_RX7_78 dX7_fault_36 ?_
        obtain ⟨r5, er5, h⟩ := lt_e h
        refine r_topr er5 ?_
        have hkr5 : kd r5 = 10 := by rw [er5]; exact (ch_2_1 (ca_13 (ch_1_1 (ch_0_0 hk0).1).1 (inb_lt g4)).1).1
        have hnr5 : ln r5 = 15 := by rw [er5]; exact (ch_2_1 (ca_13 (ch_1_1 (ch_0_0 hk0).1).1 (inb_lt g4)).1).2
        refine lv_astore (lv' := [(4, .ref (ad G r5)), (0, .ref (ad G k0)), (1, .int a1), (2, .int a2), (3, .int a3)]) S.1 S.2.1 dX7_fault_39 hl (by decide) rfl (fun ls hl => ?_)
        refine lv_aload S.1 S.2.1 dX7_fault_41 (lv_at hl 0 rfl) ?_
        refine lv_iload_n S.1 S.2.1 dX7_fault_43 rfl (lv_at hl 3 rfl) ?_
        obtain ⟨g6, h⟩ := gd_e h
        refine r_iald S d (ksdC S hkr5) (wc_10 hkr5) hnr5 g6 dX7_fault_44 ?_
        obtain ⟨v7, ev7, h⟩ := lt_e h
        refine r_top ev7 ?_
        refine lv_istore (lv' := [(5, .int v7), (4, .ref (ad G r5)), (0, .ref (ad G k0)), (1, .int a1), (2, .int a2), (3, .int a3)]) S.1 S.2.1 dX7_fault_45 hl (by decide) rfl (fun ls hl => ?_)
        refine lv_aload S.1 S.2.1 dX7_fault_47 (lv_at hl 1 rfl) ?_
        refine lv_iload_n S.1 S.2.1 dX7_fault_49 rfl (lv_at hl 4 rfl) ?_
        refine lv_iload_n S.1 S.2.1 dX7_fault_50 rfl (lv_at hl 5 rfl) ?_
        obtain ⟨t8, g9, h⟩ := bd_e h
        have Jt8 : ∀ (H : Heap) (locs : List Loc), Dy G s M L H locs → W p l e rm_X7_fault s m args below meth c H locs 0 0 (MQ below (Qi G z.1 z.2 L) args s 0 0 (gA G)) (F0 m 60 ls [.int t8, .int a2, .ref (ad G r5)]) := by
          intro H locs d
          obtain ⟨g10, h⟩ := gd_e h
          obtain ⟨M11, eM11, h⟩ := lt_e h
          refine r_iast S d eM11 (ksdC S hkr5) (fun _ => wc_10 hkr5) hnr5 g10 dX7_fault_60 (fun H locs d => ?_)
          refine lv_iload S.1 S.2.1 dX7_fault_61 (lv_at hl 0 rfl) ?_
          obtain rfl := Option.some.inj h
          exact r_iret S d hr rfl rfl dX7_fault_63
        have h := g9
        refine lv_if_ne (tgt := 58) S.1 S.2.1 dX7_fault_51 (by decide) (fun cc => ?_) (fun cc => ?_)
        · replace h := it_n cc h
          refine lv_bipush (v := 9) S.1 S.2.1 dX7_fault_58 (by decide) ?_
          obtain ej := Option.some.inj h
          refine r_top ej.symm ?_
          exact Jt8 _ _ d
        · replace h := it_p cc h
          refine lv_iconst (v := 0) S.1 S.2.1 dX7_fault_54 (by decide) ?_
          refine lv_goto (tgt := 60) S.1 S.2.1 dX7_fault_55 (by decide) ?_
          obtain ej := Option.some.inj h
          refine r_top ej.symm ?_
          exact Jt8 _ _ d
      · replace h := it_p cc h
        refine lv_iconst (v := (-1)) S.1 S.2.1 dX7_fault_25 (by decide) ?_
        obtain rfl := Option.some.inj h
        exact r_iret S d hr rfl rfl dX7_fault_26
theorem hyV_X4_growBy : yX4_growBy.cls = RX4 ∧ yX4_growBy.cls ≠ "java/lang/invoke/MethodHandle" ∧ yX4_growBy.cls ≠ "java/lang/invoke/VarHandle" ∧ (parseMethodDescriptor yX4_growBy.desc).map (fun d => d.parameters.length) = some 1 := by decide +kernel
abbrev rm_X4_growBy : Room := { frames := 1, cells := 0, slots := 0, locals := 21 }
def lp_X4_growBy_4 (fu : Nat) (b0 : Nat) (b1 : Int32) (K : Int32 → Mem → Option (Int32 × Mem)) : Nat → Int32 → Int32 → Mem → Option (Int32 × Mem)
  | 0, _, _, _ => none
  | n + 1, x2, x3, Mx =>
    (if (15 : Int32) ≤ x3 then (K x2 Mx)
    else gd (inb x3 15) (
      gd (inb x3 15) (
      lt (up Mx (b0 + 1) x3.toNatClampNeg (if ((Mx (b0 + 1) x3.toNatClampNeg) + b1) < (9 : Int32) then ((Mx (b0 + 1) x3.toNatClampNeg) + b1) else (9 : Int32))) (fun M3 : Mem =>
      gd (inb x3 15) (
      (if (M3 (b0 + 1) x3.toNatClampNeg) = (9 : Int32) then lt (x2 + 1) (fun v5 : Int32 =>
        lt (x3 + 1) (fun v6 : Int32 =>
        (lp_X4_growBy_4 fu b0 b1 K n v5 v6 M3)))
      else lt (x3 + 1) (fun v7 : Int32 =>
        (lp_X4_growBy_4 fu b0 b1 K n x2 v7 M3))))))))
def f_X4_growBy (fu : Nat) (M : Mem) (k0 : Nat) (a1 : Int32) : Option (Int32 × Mem) :=
  (lp_X4_growBy_4 fu k0 a1 (fun (v8 : Int32) (M9 : Mem) =>
    some (v8, M9)) fu (0 : Int32) (0 : Int32) M)
set_option maxHeartbeats 4000000 in
set_option maxRecDepth 100000 in
theorem lc_X4_growBy_4 {p : Program} {l : Launch} {e : Env} {s : State} {m : MethodId} {args : Array Value} {below : List Frame} {meth : Method} {c : Code} {G : Gx} {L : MemL} {fu : Nat} {b0 : Nat} {b1 : Int32} {z : Int32 × Mem} (S : Sx G false p s m args meth c cX4_growBy 4 RX4) (hr : meth.sig.returnType = (Option.some Jvm.ClassFile.FieldType.int)) (hb0 : kd b0 = 2) (K : Int32 → Mem → Option (Int32 × Mem)) (hK : ∀ (y2 : Int32) (My : Mem) (H : Heap) (locs : List Loc), Dy G s My L H locs → ∀ ls : Array Slot, lv_has ls 4 [(2, .int y2)] → K y2 My = some z → W p l e rm_X4_growBy s m args below meth c H locs 0 0 (MQ below (Qi G z.1 z.2 L) args s 0 0 (gA G)) (F0 m 49 ls [])) :
    ∀ (n : Nat) (x2 : Int32) (x3 : Int32) (Mx : Mem), lp_X4_growBy_4 fu b0 b1 K n x2 x3 Mx = some z → ∀ (H : Heap) (locs : List Loc), Dy G s Mx L H locs → ∀ ls : Array Slot, lv_has ls 4 [(0, .ref (ad G b0)), (1, .int b1), (2, .int x2), (3, .int x3)] → W p l e rm_X4_growBy s m args below meth c H locs 0 0 (MQ below (Qi G z.1 z.2 L) args s 0 0 (gA G)) (F0 m 4 ls []) := by
  intro n
  induction n with
  | zero =>
    intro x2 x3 Mx h
    have h : (none : Option (Int32 × Mem)) = some z := h
    cases h
  | succ n ih =>
    intro x2 x3 Mx h H locs d ls hl
    rw [lp_X4_growBy_4] at h
    refine lv_iload_n S.1 S.2.1 dX4_growBy_4 rfl (lv_at hl 3 rfl) ?_
    refine lv_bipush (v := 15) S.1 S.2.1 dX4_growBy_5 (by decide) ?_
    refine lv_icmp_ge (tgt := 49) S.1 S.2.1 dX4_growBy_7 (by decide) (fun cc => ?_) (fun cc => ?_)
    · replace h := it_p cc h
      exact hK _ _ _ _ d _ (lv_sub hl [2] rfl) h
    · replace h := it_n cc h
      refine lv_aload_n S.1 S.2.1 dX4_growBy_10 rfl (lv_at hl 0 rfl) ?_
      refine gf_2_1 S d hb0 fl_RX4_15 dX4_growBy_11 ?_
      refine lv_iload_n S.1 S.2.1 dX4_growBy_14 rfl (lv_at hl 3 rfl) ?_
      refine lv_bipush (v := 9) S.1 S.2.1 dX4_growBy_15 (by decide) ?_
      refine lv_aload_n S.1 S.2.1 dX4_growBy_17 rfl (lv_at hl 0 rfl) ?_
      refine gf_2_1 S d hb0 fl_RX4_15 dX4_growBy_18 ?_
      refine lv_iload_n S.1 S.2.1 dX4_growBy_21 rfl (lv_at hl 3 rfl) ?_
      obtain ⟨g1, h⟩ := gd_e h
      refine r_iald S d (ksdC S (ch_2_1 hb0).1) (wc_10 (ch_2_1 hb0).1) (ch_2_1 hb0).2 g1 dX4_growBy_22 ?_
      refine lv_iload_n S.1 S.2.1 dX4_growBy_23 rfl (lv_at hl 1 rfl) ?_
      refine lv_iadd S.1 S.2.1 dX4_growBy_24 ?_
      refine r_min S hl ml_RX4_39 ⟨by decide, Nat.le_of_ble_eq_true rfl⟩ ⟨Nat.zero_le _, Nat.zero_le _⟩ dX4_growBy_25 ?_
      obtain ⟨g2, h⟩ := gd_e h
      obtain ⟨M3, eM3, h⟩ := lt_e h
      refine r_iast S d eM3 (ksdC S (ch_2_1 hb0).1) (fun _ => wc_10 (ch_2_1 hb0).1) (ch_2_1 hb0).2 g2 dX4_growBy_28 (fun H locs d => ?_)
      refine lv_aload_n S.1 S.2.1 dX4_growBy_29 rfl (lv_at hl 0 rfl) ?_
      refine gf_2_1 S d hb0 fl_RX4_15 dX4_growBy_30 ?_
      refine lv_iload_n S.1 S.2.1 dX4_growBy_33 rfl (lv_at hl 3 rfl) ?_
      obtain ⟨g4, h⟩ := gd_e h
      refine r_iald S d (ksdC S (ch_2_1 hb0).1) (wc_10 (ch_2_1 hb0).1) (ch_2_1 hb0).2 g4 dX4_growBy_34 ?_
      refine lv_bipush (v := 9) S.1 S.2.1 dX4_growBy_35 (by decide) ?_
      refine lv_icmp_ne (tgt := 43) S.1 S.2.1 dX4_growBy_37 (by decide) (fun cc => ?_) (fun cc => ?_)
      · replace h := it_n cc h
        obtain ⟨v7, ev7, h⟩ := lt_e h
        refine lv_iinc (v := v7) (lv' := [(3, .int v7), (0, .ref (ad G b0)), (1, .int b1), (2, .int x2)]) S.1 S.2.1 dX4_growBy_43 hl (k := 3) rfl (by rw [ev7]; rfl) (by decide) rfl (fun ls hl => ?_)
        refine lv_goto (tgt := 4) S.1 S.2.1 dX4_growBy_46 (by decide) ?_
        exact ih _ _ _ h _ _ d _ (lv_sub hl [1, 2, 3, 0] rfl)
      · replace h := it_p cc h
        obtain ⟨v5, ev5, h⟩ := lt_e h
        refine lv_iinc (v := v5) (lv' := [(2, .int v5), (0, .ref (ad G b0)), (1, .int b1), (3, .int x3)]) S.1 S.2.1 dX4_growBy_40 hl (k := 2) rfl (by rw [ev5]; rfl) (by decide) rfl (fun ls hl => ?_)
        obtain ⟨v6, ev6, h⟩ := lt_e h
        refine lv_iinc (v := v6) (lv' := [(3, .int v6), (2, .int v5), (0, .ref (ad G b0)), (1, .int b1)]) S.1 S.2.1 dX4_growBy_43 hl (k := 3) rfl (by rw [ev6]; rfl) (by decide) rfl (fun ls hl => ?_)
        refine lv_goto (tgt := 4) S.1 S.2.1 dX4_growBy_46 (by decide) ?_
        exact ih _ _ _ h _ _ d _ (lv_sub hl [2, 3, 1, 0] rfl)
set_option maxHeartbeats 4000000 in
set_option maxRecDepth 100000 in
theorem c_X4_growBy (l : Launch) (G : Gx) (M : Mem) (L : MemL) (fu : Nat) (k0 : Nat) (a1 : Int32) (hk0 : kd k0 = 2) {z : Int32 × Mem} (h : f_X4_growBy fu M k0 a1 = some z) : Met l yX4_growBy (.code yX4_growBy cX4_growBy 4 (Option.some Jvm.ClassFile.FieldType.int) :: UW) rm_X4_growBy (va_Pc [.ref (ad G k0), .int a1] (PreG G false M L)) (Qi G z.1 z.2 L) 0 0 (gA G) := by
  refine r_in (by decide) (fun p e s m args below meth c S hr d ha ls hl => ?_) (Nat.le_of_ble_eq_true rfl)
  have S : Sx G false p s m args meth c cX4_growBy 4 RX4 := S
  have hl : lv_has ls 4 [(0, .ref (ad G k0)), (1, .int a1)] := hl
  unfold f_X4_growBy at h
  refine lv_iconst (v := 0) S.1 S.2.1 dX4_growBy_0 (by decide) ?_
  refine lv_istore_n (lv' := [(2, .int (0 : Int32)), (0, .ref (ad G k0)), (1, .int a1)]) S.1 S.2.1 dX4_growBy_1 rfl hl (by decide) rfl (fun ls hl => ?_)
  refine lv_iconst (v := 0) S.1 S.2.1 dX4_growBy_2 (by decide) ?_
  refine lv_istore_n (lv' := [(3, .int (0 : Int32)), (2, .int (0 : Int32)), (0, .ref (ad G k0)), (1, .int a1)]) S.1 S.2.1 dX4_growBy_3 rfl hl (by decide) rfl (fun ls hl => ?_)
  refine lc_X4_growBy_4 S hr hk0 _ (fun v8 M9 H locs d ls hl h => ?_) _ _ _ _  h _ _ d _ (lv_sub hl [2, 3, 1, 0] rfl)
  refine lv_iload_n S.1 S.2.1 dX4_growBy_49 rfl (lv_at hl 0 rfl) ?_
  obtain rfl := Option.some.inj h
  exact r_iret S d hr rfl rfl dX4_growBy_50
theorem hyV_X0_growFor : yX0_growFor.cls = RX0 ∧ yX0_growFor.cls ≠ "java/lang/invoke/MethodHandle" ∧ yX0_growFor.cls ≠ "java/lang/invoke/VarHandle" ∧ (parseMethodDescriptor yX0_growFor.desc).map (fun d => d.parameters.length) = some 1 := by decide +kernel
abbrev rm_X0_growFor : Room := { frames := 2, cells := 0, slots := 0, locals := 44 }
def lp_X0_growFor_4 (fu : Nat) (b0 : Nat) (b1 : Int32) (K : Int32 → Mem → Option (Int32 × Mem)) : Nat → Int32 → Int32 → Mem → Option (Int32 × Mem)
  | 0, _, _, _ => none
  | n + 1, x2, x3, Mx =>
    (if (Mx b0 2) ≤ x3 then (K x2 Mx)
    else gd (inb x3 9) (
      gd (inb (0 : Int32) 4) (
      (f_X4_growBy fu Mx ((b0 + 2) + 4 + 2 * x3.toNatClampNeg) (b1 * (Mx (b0 + 1) (0 : Int32).toNatClampNeg))).bind (fun u3 =>
      lt ((x2 + u3.1)) (fun v4 : Int32 =>
      lt (x3 + 1) (fun v5 : Int32 =>
      (lp_X0_growFor_4 fu b0 b1 K n v4 v5 u3.2)))))))
def f_X0_growFor (fu : Nat) (M : Mem) (k0 : Nat) (a1 : Int32) : Option (Int32 × Mem) :=
  (lp_X0_growFor_4 fu k0 a1 (fun (v6 : Int32) (M7 : Mem) =>
    some (v6, M7)) fu (0 : Int32) (0 : Int32) M)
set_option maxHeartbeats 4000000 in
set_option maxRecDepth 100000 in
theorem lc_X0_growFor_4 {p : Program} {l : Launch} {e : Env} {s : State} {m : MethodId} {args : Array Value} {below : List Frame} {meth : Method} {c : Code} {G : Gx} {L : MemL} {fu : Nat} {b0 : Nat} {b1 : Int32} {z : Int32 × Mem} (S : Sx G false p s m args meth c cX0_growFor 4 RX0) (hr : meth.sig.returnType = (Option.some Jvm.ClassFile.FieldType.int)) (hb0 : kd b0 = 1) (K : Int32 → Mem → Option (Int32 × Mem)) (hK : ∀ (y2 : Int32) (My : Mem) (H : Heap) (locs : List Loc), Dy G s My L H locs → ∀ ls : Array Slot, lv_has ls 4 [(2, .int y2)] → K y2 My = some z → W p l e rm_X0_growFor s m args below meth c H locs 0 0 (MQ below (Qi G z.1 z.2 L) args s 0 0 (gA G)) (F0 m 38 ls [])) :
    ∀ (n : Nat) (x2 : Int32) (x3 : Int32) (Mx : Mem), lp_X0_growFor_4 fu b0 b1 K n x2 x3 Mx = some z → ∀ (H : Heap) (locs : List Loc), Dy G s Mx L H locs → ∀ ls : Array Slot, lv_has ls 4 [(0, .ref (ad G b0)), (1, .int b1), (2, .int x2), (3, .int x3)] → W p l e rm_X0_growFor s m args below meth c H locs 0 0 (MQ below (Qi G z.1 z.2 L) args s 0 0 (gA G)) (F0 m 4 ls []) := by
  intro n
  induction n with
  | zero =>
    intro x2 x3 Mx h
    have h : (none : Option (Int32 × Mem)) = some z := h
    cases h
  | succ n ih =>
    intro x2 x3 Mx h H locs d ls hl
    rw [lp_X0_growFor_4] at h
    refine lv_iload_n S.1 S.2.1 dX0_growFor_4 rfl (lv_at hl 3 rfl) ?_
    refine lv_aload_n S.1 S.2.1 dX0_growFor_5 rfl (lv_at hl 0 rfl) ?_
    refine gf_1_2 S d hb0 fl_RX0_24 dX0_growFor_6 ?_
    refine lv_icmp_ge (tgt := 38) S.1 S.2.1 dX0_growFor_9 (by decide) (fun cc => ?_) (fun cc => ?_)
    · replace h := it_p cc h
      exact hK _ _ _ _ d _ (lv_sub hl [2] rfl) h
    · replace h := it_n cc h
      refine lv_iload_n S.1 S.2.1 dX0_growFor_12 rfl (lv_at hl 2 rfl) ?_
      refine lv_aload_n S.1 S.2.1 dX0_growFor_13 rfl (lv_at hl 0 rfl) ?_
      refine gf_1_1 S d hb0 fl_RX0_20 dX0_growFor_14 ?_
      refine lv_iload_n S.1 S.2.1 dX0_growFor_17 rfl (lv_at hl 3 rfl) ?_
      obtain ⟨g1, h⟩ := gd_e h
      refine r_aald S d (ksdC S (ch_1_1 hb0).1) (wc_13 (ch_1_1 hb0).1) rfl rfl g1 (if_pos (inb_lt g1)) dX0_growFor_18 ?_
      refine lv_iload_n S.1 S.2.1 dX0_growFor_19 rfl (lv_at hl 1 rfl) ?_
      refine lv_aload_n S.1 S.2.1 dX0_growFor_20 rfl (lv_at hl 0 rfl) ?_
      refine gf_1_0 S d hb0 fl_RX0_13 dX0_growFor_21 ?_
      refine lv_iconst (v := 0) S.1 S.2.1 dX0_growFor_24 (by decide) ?_
      obtain ⟨g2, h⟩ := gd_e h
      refine r_iald S d (ksdC S (ch_1_0 hb0).1) (wc_10 (ch_1_0 hb0).1) (ch_1_0 hb0).2 g2 dX0_growFor_25 ?_
      refine lv_imul S.1 S.2.1 dX0_growFor_26 ?_
      obtain ⟨u3, hu3, h⟩ := bd_e h
      refine r_ri d (r_cV (As := [.int (b1 * (Mx (b0 + 1) (0 : Int32).toNatClampNeg))]) (rest := [.int x2]) S d (c_X4_growBy l G Mx L fu ((b0 + 2) + 4 + 2 * x3.toNatClampNeg) (b1 * (Mx (b0 + 1) (0 : Int32).toNatClampNeg)) (ca_13 (ch_1_1 hb0).1 (inb_lt g1)).1 hu3) (ksdC S (ca_13 (ch_1_1 hb0).1 (inb_lt g1)).1) (wc_2 (ca_13 (ch_1_1 hb0).1 (inb_lt g1)).1) rfl ml_RX0_71 im_yX4_growBy se_yX4_growBy in_RX4 co_yX4_growBy hyV_X4_growBy ⟨rfl, rfl⟩ ⟨by decide, by decide⟩ rfl hl rfl (Nat.le_of_ble_eq_true rfl) dX0_growFor_27 ⟨Nat.zero_le _, Nat.zero_le _⟩) (fun H locs d => ?_)
      refine lv_iadd S.1 S.2.1 dX0_growFor_30 ?_
      obtain ⟨v4, ev4, h⟩ := lt_e h
      refine r_top ev4 ?_
      refine lv_istore_n (lv' := [(2, .int v4), (0, .ref (ad G b0)), (1, .int b1), (3, .int x3)]) S.1 S.2.1 dX0_growFor_31 rfl hl (by decide) rfl (fun ls hl => ?_)
      obtain ⟨v5, ev5, h⟩ := lt_e h
      refine lv_iinc (v := v5) (lv' := [(3, .int v5), (2, .int v4), (0, .ref (ad G b0)), (1, .int b1)]) S.1 S.2.1 dX0_growFor_32 hl (k := 3) rfl (by rw [ev5]; rfl) (by decide) rfl (fun ls hl => ?_)
      refine lv_goto (tgt := 4) S.1 S.2.1 dX0_growFor_35 (by decide) ?_
      exact ih _ _ _ h _ _ d _ (lv_sub hl [2, 3, 1, 0] rfl)
set_option maxHeartbeats 4000000 in
set_option maxRecDepth 100000 in
theorem c_X0_growFor (l : Launch) (G : Gx) (M : Mem) (L : MemL) (fu : Nat) (k0 : Nat) (a1 : Int32) (hk0 : kd k0 = 1) {z : Int32 × Mem} (h : f_X0_growFor fu M k0 a1 = some z) : Met l yX0_growFor (.code yX0_growFor cX0_growFor 4 (Option.some Jvm.ClassFile.FieldType.int) :: UW) rm_X0_growFor (va_Pc [.ref (ad G k0), .int a1] (PreG G false M L)) (Qi G z.1 z.2 L) 0 0 (gA G) := by
  refine r_in (by decide) (fun p e s m args below meth c S hr d ha ls hl => ?_) (Nat.le_of_ble_eq_true rfl)
  have S : Sx G false p s m args meth c cX0_growFor 4 RX0 := S
  have hl : lv_has ls 4 [(0, .ref (ad G k0)), (1, .int a1)] := hl
  unfold f_X0_growFor at h
  refine lv_iconst (v := 0) S.1 S.2.1 dX0_growFor_0 (by decide) ?_
  refine lv_istore_n (lv' := [(2, .int (0 : Int32)), (0, .ref (ad G k0)), (1, .int a1)]) S.1 S.2.1 dX0_growFor_1 rfl hl (by decide) rfl (fun ls hl => ?_)
  refine lv_iconst (v := 0) S.1 S.2.1 dX0_growFor_2 (by decide) ?_
  refine lv_istore_n (lv' := [(3, .int (0 : Int32)), (2, .int (0 : Int32)), (0, .ref (ad G k0)), (1, .int a1)]) S.1 S.2.1 dX0_growFor_3 rfl hl (by decide) rfl (fun ls hl => ?_)
  refine lc_X0_growFor_4 S hr hk0 _ (fun v6 M7 H locs d ls hl h => ?_) _ _ _ _  h _ _ d _ (lv_sub hl [2, 3, 1, 0] rfl)
  refine lv_iload_n S.1 S.2.1 dX0_growFor_38 rfl (lv_at hl 0 rfl) ?_
  obtain rfl := Option.some.inj h
  exact r_iret S d hr rfl rfl dX0_growFor_39
theorem hyV_X7_weeks : yX7_weeks.cls = RX7 ∧ yX7_weeks.cls ≠ "java/lang/invoke/MethodHandle" ∧ yX7_weeks.cls ≠ "java/lang/invoke/VarHandle" ∧ (parseMethodDescriptor yX7_weeks.desc).map (fun d => d.parameters.length) = some 1 := by decide +kernel
abbrev rm_X7_weeks : Room := { frames := 3, cells := 0, slots := 0, locals := 67 }
def f_X7_weeks (fu : Nat) (M : Mem) (k0 : Nat) (a1 : Int32) : Option (Int32 × Mem) :=
  (if a1 < (1 : Int32) then some ((-1 : Int32), M)
  else (if (30 : Int32) < a1 then some ((-1 : Int32), M)
    else (f_X0_growFor fu M (k0 + 1) a1).bind (fun u1 =>
      some (u1.1, u1.2))))
set_option maxHeartbeats 4000000 in
set_option maxRecDepth 100000 in
theorem c_X7_weeks (l : Launch) (G : Gx) (M : Mem) (L : MemL) (fu : Nat) (k0 : Nat) (a1 : Int32) (hk0 : kd k0 = 0) {z : Int32 × Mem} (h : f_X7_weeks fu M k0 a1 = some z) : Met l yX7_weeks (.code yX7_weeks cX7_weeks 2 (Option.some Jvm.ClassFile.FieldType.int) :: UW) rm_X7_weeks (va_Pc [.ref (ad G k0), .int a1] (PreG G false M L)) (Qi G z.1 z.2 L) 0 0 (gA G) := by
  refine r_in (by decide) (fun p e s m args below meth c S hr d ha ls hl => ?_) (Nat.le_of_ble_eq_true rfl)
  have S : Sx G false p s m args meth c cX7_weeks 2 RX7 := S
  have hl : lv_has ls 2 [(0, .ref (ad G k0)), (1, .int a1)] := hl
  unfold f_X7_weeks at h
  refine lv_iload_n S.1 S.2.1 dX7_weeks_0 rfl (lv_at hl 1 rfl) ?_
  refine lv_iconst (v := 1) S.1 S.2.1 dX7_weeks_1 (by decide) ?_
  refine lv_icmp_lt (tgt := 22) S.1 S.2.1 dX7_weeks_2 (by decide) (fun cc => ?_) (fun cc => ?_)
  · replace h := it_p cc h
    refine lv_iconst (v := (-1)) S.1 S.2.1 dX7_weeks_22 (by decide) ?_
    obtain rfl := Option.some.inj h
    exact r_iret S d hr rfl rfl dX7_weeks_23
  · replace h := it_n cc h
    refine lv_iload_n S.1 S.2.1 dX7_weeks_5 rfl (lv_at hl 1 rfl) ?_
    refine lv_bipush (v := 30) S.1 S.2.1 dX7_weeks_6 (by decide) ?_
    refine lv_icmp_gt (tgt := 22) S.1 S.2.1 dX7_weeks_8 (by decide) (fun cc => ?_) (fun cc => ?_)
    · replace h := it_p cc h
      refine lv_iconst (v := (-1)) S.1 S.2.1 dX7_weeks_22 (by decide) ?_
      obtain rfl := Option.some.inj h
      exact r_iret S d hr rfl rfl dX7_weeks_23
    · replace h := it_n cc h
      refine lv_aload_n S.1 S.2.1 dX7_weeks_11 rfl (lv_at hl 0 rfl) ?_
      refine gf_0_0 S d hk0 fl_RX7_12 dX7_weeks_12 ?_
      refine lv_iload_n S.1 S.2.1 dX7_weeks_15 rfl (lv_at hl 1 rfl) ?_
      obtain ⟨u1, hu1, h⟩ := bd_e h
      refine r_ri d (r_cV (As := [.int a1]) (rest := []) S d (c_X0_growFor l G M L fu (k0 + 1) a1 (ch_0_0 hk0).1 hu1) (ksdC S (ch_0_0 hk0).1) (wc_1 (ch_0_0 hk0).1) rfl ml_RX7_107 im_yX0_growFor se_yX0_growFor in_RX0 co_yX0_growFor hyV_X0_growFor ⟨rfl, rfl⟩ ⟨by decide, by decide⟩ rfl hl rfl (Nat.le_of_ble_eq_true rfl) dX7_weeks_16 ⟨Nat.zero_le _, Nat.zero_le _⟩) (fun H locs d => ?_)
      refine lv_goto (tgt := 23) S.1 S.2.1 dX7_weeks_19 (by decide) ?_
      obtain rfl := Option.some.inj h
      exact r_iret S d hr rfl rfl dX7_weeks_23
theorem hyV_X7_hay : yX7_hay.cls = RX7 ∧ yX7_hay.cls ≠ "java/lang/invoke/MethodHandle" ∧ yX7_hay.cls ≠ "java/lang/invoke/VarHandle" ∧ (parseMethodDescriptor yX7_hay.desc).map (fun d => d.parameters.length) = some 1 := by decide +kernel
abbrev rm_X7_hay : Room := { frames := 1, cells := 0, slots := 0, locals := 21 }
def f_X7_hay (M : Mem) (k0 : Nat) (a1 : Int32) : Option (Int32) :=
  (f_X7_isBelow a1 (6 : Int32)).bind (fun u1 =>
  (if u1 = 0 then some ((-1 : Int32))
  else gd (inb a1 6) (
    some ((M ((k0 + 1) + 5) a1.toNatClampNeg)))))
set_option maxHeartbeats 4000000 in
set_option maxRecDepth 100000 in
theorem c_X7_hay (l : Launch) (G : Gx) (M : Mem) (L : MemL) (k0 : Nat) (a1 : Int32) (hk0 : kd k0 = 0) {z : Int32} (h : f_X7_hay M k0 a1 = some z) : Met l yX7_hay (.code yX7_hay cX7_hay 2 (Option.some Jvm.ClassFile.FieldType.int) :: UW) rm_X7_hay (va_Pc [.ref (ad G k0), .int a1] (PreG G false M L)) (Qi G z M L) 0 0 (gA G) := by
  refine r_in (by decide) (fun p e s m args below meth c S hr d ha ls hl => ?_) (Nat.le_of_ble_eq_true rfl)
  have S : Sx G false p s m args meth c cX7_hay 2 RX7 := S
  have hl : lv_has ls 2 [(0, .ref (ad G k0)), (1, .int a1)] := hl
  unfold f_X7_hay at h
  refine lv_iload_n S.1 S.2.1 dX7_hay_0 rfl (lv_at hl 1 rfl) ?_
  refine lv_bipush (v := 6) S.1 S.2.1 dX7_hay_1 (by decide) ?_
  obtain ⟨u1, hu1, h⟩ := bd_e h
  refine r_ri d (r_cS (As := [.int a1, .int (6 : Int32)]) (rest := []) S d (c_X7_isBelow l G M L a1 (6 : Int32) hu1) ml_RX7_51 sm_yX7_isBelow in_RX7 co_yX7_isBelow hyS_X7_isBelow ⟨rfl, rfl⟩ ⟨by decide, by decide⟩ rfl hl rfl (Nat.le_of_ble_eq_true rfl) dX7_hay_3 ⟨Nat.zero_le _, Nat.zero_le _⟩) (fun H locs d => ?_)
  refine lv_if_eq (tgt := 21) S.1 S.2.1 dX7_hay_6 (by decide) (fun cc => ?_) (fun cc => ?_)
  · replace h := it_p cc h
    refine lv_iconst (v := (-1)) S.1 S.2.1 dX7_hay_21 (by decide) ?_
    obtain rfl := Option.some.inj h
    exact r_iret S d hr rfl rfl dX7_hay_22
  · replace h := it_n cc h
    refine lv_aload_n S.1 S.2.1 dX7_hay_9 rfl (lv_at hl 0 rfl) ?_
    refine gf_0_0 S d hk0 fl_RX7_12 dX7_hay_10 ?_
    refine gf_1_6 S d (ch_0_0 hk0).1 fl_RX7_110 dX7_hay_13 ?_
    refine lv_iload_n S.1 S.2.1 dX7_hay_16 rfl (lv_at hl 1 rfl) ?_
    obtain ⟨g2, h⟩ := gd_e h
    refine r_iald S d (ksdC S (ch_1_6 (ch_0_0 hk0).1).1) (wc_10 (ch_1_6 (ch_0_0 hk0).1).1) (ch_1_6 (ch_0_0 hk0).1).2 g2 dX7_hay_17 ?_
    refine lv_goto (tgt := 22) S.1 S.2.1 dX7_hay_18 (by decide) ?_
    obtain rfl := Option.some.inj h
    exact r_iret S d hr rfl rfl dX7_hay_22
theorem hyV_X5_append : yX5_append.cls = RX5 ∧ yX5_append.cls ≠ "java/lang/invoke/MethodHandle" ∧ yX5_append.cls ≠ "java/lang/invoke/VarHandle" ∧ (parseMethodDescriptor yX5_append.desc).map (fun d => d.parameters.length) = some 2 := by decide +kernel
abbrev rm_X5_append : Room := { frames := 0, cells := 0, slots := 0, locals := 0 }
def lp_X5_append_3 (fu : Nat) (M : Mem) (b0 : Nat) (b1 : Int64) (b3 : Int32) (K : Unit → Option (Int32 × Mem)) : Nat → Int32 → Option (Int32 × Mem)
  | 0, _ => none
  | n + 1, x4 =>
    (if b3 ≤ x4 then (K ())
    else lt ((((b1 >>> ((((8 : Int32) * x4)).toInt64 &&& 63))).toInt32).toInt8.toInt32) (fun v1 : Int32 =>
      (if v1 < (32 : Int32) then some ((-1 : Int32), M)
      else (if v1 ≤ (126 : Int32) then lt (x4 + 1) (fun v2 : Int32 =>
          (lp_X5_append_3 fu M b0 b1 b3 K n v2))
        else some ((-1 : Int32), M)))))
def lp_X5_append_61 (fu : Nat) (b0 : Nat) (b1 : Int64) (K : Mem → Option (Int32 × Mem)) : Nat → Int32 → Mem → Option (Int32 × Mem)
  | 0, _, _ => none
  | n + 1, x4, Mx =>
    (if x4 < 0 then (K Mx)
    else gd (inb (Mx b0 1) 80) (
      lt (up Mx (b0 + 1) (Mx b0 1).toNatClampNeg ((((b1 >>> ((((8 : Int32) * x4)).toInt64 &&& 63))).toInt32).toInt8.toInt32).toInt8.toInt32) (fun M5 : Mem =>
      lt (up M5 b0 1 ((M5 b0 1) + (1 : Int32))) (fun M6 : Mem =>
      lt (x4 + (-1)) (fun v7 : Int32 =>
      (lp_X5_append_61 fu b0 b1 K n v7 M6))))))
def f_X5_append (fu : Nat) (M : Mem) (k0 : Nat) (a1 : Int64) (a3 : Int32) : Option (Int32 × Mem) :=
  (lp_X5_append_3 fu M k0 a1 a3 (fun (_ : Unit) =>
    (if a3 ≤ ((80 : Int32) - (M k0 1)) then lt ((a3 - (1 : Int32))) (fun v3 : Int32 =>
      (lp_X5_append_61 fu k0 a1 (fun (M8 : Mem) =>
        some ((M8 k0 1), M8)) fu v3 M))
    else some ((-3 : Int32), M))) fu (0 : Int32))
set_option maxHeartbeats 4000000 in
set_option maxRecDepth 100000 in
theorem lc_X5_append_3 {p : Program} {l : Launch} {e : Env} {s : State} {m : MethodId} {args : Array Value} {below : List Frame} {meth : Method} {c : Code} {G : Gx} {M : Mem} {L : MemL} {fu : Nat} {b0 : Nat} {b1 : Int64} {b3 : Int32} {z : Int32 × Mem} (S : Sx G false p s m args meth c cX5_append 6 RX5) (hr : meth.sig.returnType = (Option.some Jvm.ClassFile.FieldType.int)) (hb0 : kd b0 = 6) (K : Unit → Option (Int32 × Mem)) (hK : ∀ (_ : Unit) (H : Heap) (locs : List Loc), Dy G s M L H locs → ∀ ls : Array Slot, lv_has ls 6 [(0, .ref (ad G b0)), (1, .long b1), (3, .int b3)] → K () = some z → W p l e rm_X5_append s m args below meth c H locs 0 0 (MQ below (Qi G z.1 z.2 L) args s 0 0 (gA G)) (F0 m 42 ls [])) :
    ∀ (n : Nat) (x4 : Int32), lp_X5_append_3 fu M b0 b1 b3 K n x4 = some z → ∀ (H : Heap) (locs : List Loc), Dy G s M L H locs → ∀ ls : Array Slot, lv_has ls 6 [(0, .ref (ad G b0)), (1, .long b1), (3, .int b3), (4, .int x4)] → W p l e rm_X5_append s m args below meth c H locs 0 0 (MQ below (Qi G z.1 z.2 L) args s 0 0 (gA G)) (F0 m 3 ls []) := by
  intro n
  induction n with
  | zero =>
    intro x4 h
    have h : (none : Option (Int32 × Mem)) = some z := h
    cases h
  | succ n ih =>
    intro x4 h H locs d ls hl
    rw [lp_X5_append_3] at h
    refine lv_iload S.1 S.2.1 dX5_append_3 (lv_at hl 3 rfl) ?_
    refine lv_iload_n S.1 S.2.1 dX5_append_5 rfl (lv_at hl 2 rfl) ?_
    refine lv_icmp_ge (tgt := 42) S.1 S.2.1 dX5_append_6 (by decide) (fun cc => ?_) (fun cc => ?_)
    · replace h := it_p cc h
      exact hK () _ _ d _ (lv_sub hl [0, 1, 2] rfl) h
    · replace h := it_n cc h
      refine lv_lload_n S.1 S.2.1 dX5_append_9 rfl (lv_at hl 1 rfl) ?_
      refine lv_bipush (v := 8) S.1 S.2.1 dX5_append_10 (by decide) ?_
      refine lv_iload S.1 S.2.1 dX5_append_12 (lv_at hl 3 rfl) ?_
      refine lv_imul S.1 S.2.1 dX5_append_14 ?_
      refine lv_lshr S.1 S.2.1 dX5_append_15 rfl ?_
      refine lv_l2i S.1 S.2.1 dX5_append_16 rfl ?_
      refine lv_i2b S.1 S.2.1 dX5_append_17 rfl ?_
      obtain ⟨v1, ev1, h⟩ := lt_e h
      refine r_top ev1 ?_
      refine lv_istore (lv' := [(5, .int v1), (0, .ref (ad G b0)), (1, .long b1), (3, .int b3), (4, .int x4)]) S.1 S.2.1 dX5_append_18 hl (by decide) rfl (fun ls hl => ?_)
      refine lv_iload S.1 S.2.1 dX5_append_20 (lv_at hl 0 rfl) ?_
      refine lv_bipush (v := 32) S.1 S.2.1 dX5_append_22 (by decide) ?_
      refine lv_icmp_lt (tgt := 34) S.1 S.2.1 dX5_append_24 (by decide) (fun cc => ?_) (fun cc => ?_)
      · replace h := it_p cc h
        refine lv_iconst (v := (-1)) S.1 S.2.1 dX5_append_34 (by decide) ?_
        obtain rfl := Option.some.inj h
        exact r_iret S d hr rfl rfl dX5_append_35
      · replace h := it_n cc h
        refine lv_iload S.1 S.2.1 dX5_append_27 (lv_at hl 0 rfl) ?_
        refine lv_bipush (v := 126) S.1 S.2.1 dX5_append_29 (by decide) ?_
        refine lv_icmp_le (tgt := 36) S.1 S.2.1 dX5_append_31 (by decide) (fun cc => ?_) (fun cc => ?_)
        · replace h := it_p cc h
          obtain ⟨v2, ev2, h⟩ := lt_e h
          refine lv_iinc (v := v2) (lv' := [(4, .int v2), (5, .int v1), (0, .ref (ad G b0)), (1, .long b1), (3, .int b3)]) S.1 S.2.1 dX5_append_36 hl (k := 4) rfl (by rw [ev2]; rfl) (by decide) rfl (fun ls hl => ?_)
          refine lv_goto (tgt := 3) S.1 S.2.1 dX5_append_39 (by decide) ?_
          exact ih _ h _ _ d _ (lv_sub hl [2, 3, 4, 0] rfl)
        · replace h := it_n cc h
          refine lv_iconst (v := (-1)) S.1 S.2.1 dX5_append_34 (by decide) ?_
          obtain rfl := Option.some.inj h
          exact r_iret S d hr rfl rfl dX5_append_35
set_option maxHeartbeats 4000000 in
set_option maxRecDepth 100000 in
theorem lc_X5_append_61 {p : Program} {l : Launch} {e : Env} {s : State} {m : MethodId} {args : Array Value} {below : List Frame} {meth : Method} {c : Code} {G : Gx} {L : MemL} {fu : Nat} {b0 : Nat} {b1 : Int64} {z : Int32 × Mem} (S : Sx G false p s m args meth c cX5_append 6 RX5) (hr : meth.sig.returnType = (Option.some Jvm.ClassFile.FieldType.int)) (hb0 : kd b0 = 6) (K : Mem → Option (Int32 × Mem)) (hK : ∀ (My : Mem) (H : Heap) (locs : List Loc), Dy G s My L H locs → ∀ ls : Array Slot, lv_has ls 6 [(0, .ref (ad G b0))] → K My = some z → W p l e rm_X5_append s m args below meth c H locs 0 0 (MQ below (Qi G z.1 z.2 L) args s 0 0 (gA G)) (F0 m 100 ls [])) :
    ∀ (n : Nat) (x4 : Int32) (Mx : Mem), lp_X5_append_61 fu b0 b1 K n x4 Mx = some z → ∀ (H : Heap) (locs : List Loc), Dy G s Mx L H locs → ∀ ls : Array Slot, lv_has ls 6 [(0, .ref (ad G b0)), (1, .long b1), (4, .int x4)] → W p l e rm_X5_append s m args below meth c H locs 0 0 (MQ below (Qi G z.1 z.2 L) args s 0 0 (gA G)) (F0 m 61 ls []) := by
  intro n
  induction n with
  | zero =>
    intro x4 Mx h
    have h : (none : Option (Int32 × Mem)) = some z := h
    cases h
  | succ n ih =>
    intro x4 Mx h H locs d ls hl
    rw [lp_X5_append_61] at h
    refine lv_iload S.1 S.2.1 dX5_append_61 (lv_at hl 2 rfl) ?_
    refine lv_if_lt (tgt := 100) S.1 S.2.1 dX5_append_63 (by decide) (fun cc => ?_) (fun cc => ?_)
    · replace h := it_p cc h
      exact hK _ _ _ d _ (lv_sub hl [0] rfl) h
    · replace h := it_n cc h
      refine lv_aload_n S.1 S.2.1 dX5_append_66 rfl (lv_at hl 0 rfl) ?_
      refine gf_6_0 S d hb0 fl_RX5_9 dX5_append_67 ?_
      refine lv_aload_n S.1 S.2.1 dX5_append_70 rfl (lv_at hl 0 rfl) ?_
      refine gf_6_1 S d hb0 fl_RX5_15 dX5_append_71 ?_
      refine lv_lload_n S.1 S.2.1 dX5_append_74 rfl (lv_at hl 1 rfl) ?_
      refine lv_bipush (v := 8) S.1 S.2.1 dX5_append_75 (by decide) ?_
      refine lv_iload S.1 S.2.1 dX5_append_77 (lv_at hl 2 rfl) ?_
      refine lv_imul S.1 S.2.1 dX5_append_79 ?_
      refine lv_lshr S.1 S.2.1 dX5_append_80 rfl ?_
      refine lv_l2i S.1 S.2.1 dX5_append_81 rfl ?_
      refine lv_i2b S.1 S.2.1 dX5_append_82 rfl ?_
      obtain ⟨g4, h⟩ := gd_e h
      obtain ⟨M5, eM5, h⟩ := lt_e h
      refine r_bast S d eM5 (ksdC S (ch_6_0 hb0).1) (fun _ => wc_11 (ch_6_0 hb0).1) (ch_6_0 hb0).2 g4 dX5_append_83 (fun H locs d => ?_)
      refine lv_aload_n S.1 S.2.1 dX5_append_84 rfl (lv_at hl 0 rfl) ?_
      refine lv_dup S.1 S.2.1 dX5_append_85 rfl ?_
      refine gf_6_1 S d hb0 fl_RX5_15 dX5_append_86 ?_
      refine lv_iconst (v := 1) S.1 S.2.1 dX5_append_89 (by decide) ?_
      refine lv_iadd S.1 S.2.1 dX5_append_90 ?_
      obtain ⟨M6, eM6, h⟩ := lt_e h
      refine pf_6_1 S d eM6 hb0 fl_RX5_15 dX5_append_91 (fun H locs d => ?_)
      obtain ⟨v7, ev7, h⟩ := lt_e h
      refine lv_iinc (v := v7) (lv' := [(4, .int v7), (0, .ref (ad G b0)), (1, .long b1)]) S.1 S.2.1 dX5_append_94 hl (k := 2) rfl (by rw [ev7]; rfl) (by decide) rfl (fun ls hl => ?_)
      refine lv_goto (tgt := 61) S.1 S.2.1 dX5_append_97 (by decide) ?_
      exact ih _ _ h _ _ d _ (lv_sub hl [1, 2, 0] rfl)
set_option maxHeartbeats 4000000 in
set_option maxRecDepth 100000 in
theorem c_X5_append (l : Launch) (G : Gx) (M : Mem) (L : MemL) (fu : Nat) (k0 : Nat) (a1 : Int64) (a3 : Int32) (hk0 : kd k0 = 6) {z : Int32 × Mem} (h : f_X5_append fu M k0 a1 a3 = some z) : Met l yX5_append (.code yX5_append cX5_append 6 (Option.some Jvm.ClassFile.FieldType.int) :: UW) rm_X5_append (va_Pc [.ref (ad G k0), .long a1, .int a3] (PreG G false M L)) (Qi G z.1 z.2 L) 0 0 (gA G) := by
  refine r_in (by decide) (fun p e s m args below meth c S hr d ha ls hl => ?_) (Nat.le_of_ble_eq_true rfl)
  have S : Sx G false p s m args meth c cX5_append 6 RX5 := S
  have hl : lv_has ls 6 [(0, .ref (ad G k0)), (1, .long a1), (3, .int a3)] := hl
  unfold f_X5_append at h
  refine lv_iconst (v := 0) S.1 S.2.1 dX5_append_0 (by decide) ?_
  refine lv_istore (lv' := [(4, .int (0 : Int32)), (0, .ref (ad G k0)), (1, .long a1), (3, .int a3)]) S.1 S.2.1 dX5_append_1 hl (by decide) rfl (fun ls hl => ?_)
  refine lc_X5_append_3 S hr hk0 _ (fun _ H locs d ls hl h => ?_) _ _  h _ _ d _ (lv_sub hl [1, 2, 3, 0] rfl)
  refine lv_iload_n S.1 S.2.1 dX5_append_42 rfl (lv_at hl 2 rfl) ?_
  refine lv_bipush (v := 80) S.1 S.2.1 dX5_append_43 (by decide) ?_
  refine lv_aload_n S.1 S.2.1 dX5_append_45 rfl (lv_at hl 0 rfl) ?_
  refine gf_6_1 S d hk0 fl_RX5_15 dX5_append_46 ?_
  refine lv_isub S.1 S.2.1 dX5_append_49 ?_
  refine lv_icmp_le (tgt := 56) S.1 S.2.1 dX5_append_50 (by decide) (fun cc => ?_) (fun cc => ?_)
  · replace h := it_p cc h
    refine lv_iload_n S.1 S.2.1 dX5_append_56 rfl (lv_at hl 2 rfl) ?_
    refine lv_iconst (v := 1) S.1 S.2.1 dX5_append_57 (by decide) ?_
    refine lv_isub S.1 S.2.1 dX5_append_58 ?_
    obtain ⟨v3, ev3, h⟩ := lt_e h
    refine r_top ev3 ?_
    refine lv_istore (lv' := [(4, .int v3), (0, .ref (ad G k0)), (1, .long a1), (3, .int a3)]) S.1 S.2.1 dX5_append_59 hl (by decide) rfl (fun ls hl => ?_)
    refine lc_X5_append_61 S hr hk0 _ (fun M8 H locs d ls hl h => ?_) _ _ _  h _ _ d _ (lv_sub hl [1, 2, 0] rfl)
    refine lv_aload_n S.1 S.2.1 dX5_append_100 rfl (lv_at hl 0 rfl) ?_
    refine gf_6_1 S d hk0 fl_RX5_15 dX5_append_101 ?_
    obtain rfl := Option.some.inj h
    exact r_iret S d hr rfl rfl dX5_append_104
  · replace h := it_n cc h
    refine lv_bipush (v := (-3)) S.1 S.2.1 dX5_append_53 (by decide) ?_
    obtain rfl := Option.some.inj h
    exact r_iret S d hr rfl rfl dX5_append_55
theorem hyV_X7_type : yX7_type.cls = RX7 ∧ yX7_type.cls ≠ "java/lang/invoke/MethodHandle" ∧ yX7_type.cls ≠ "java/lang/invoke/VarHandle" ∧ (parseMethodDescriptor yX7_type.desc).map (fun d => d.parameters.length) = some 2 := by decide +kernel
abbrev rm_X7_type : Room := { frames := 1, cells := 0, slots := 0, locals := 25 }
def f_X7_type (fu : Nat) (M : Mem) (k0 : Nat) (a1 : Int64) (a3 : Int32) : Option (Int32 × Mem) :=
  (if a3 < (1 : Int32) then some ((-1 : Int32), M)
  else (if (8 : Int32) < a3 then some ((-1 : Int32), M)
    else (f_X5_append fu M (k0 + 158) a1 a3).bind (fun u1 =>
      some (u1.1, u1.2))))
set_option maxHeartbeats 4000000 in
set_option maxRecDepth 100000 in
theorem c_X7_type (l : Launch) (G : Gx) (M : Mem) (L : MemL) (fu : Nat) (k0 : Nat) (a1 : Int64) (a3 : Int32) (hk0 : kd k0 = 0) {z : Int32 × Mem} (h : f_X7_type fu M k0 a1 a3 = some z) : Met l yX7_type (.code yX7_type cX7_type 4 (Option.some Jvm.ClassFile.FieldType.int) :: UW) rm_X7_type (va_Pc [.ref (ad G k0), .long a1, .int a3] (PreG G false M L)) (Qi G z.1 z.2 L) 0 0 (gA G) := by
  refine r_in (by decide) (fun p e s m args below meth c S hr d ha ls hl => ?_) (Nat.le_of_ble_eq_true rfl)
  have S : Sx G false p s m args meth c cX7_type 4 RX7 := S
  have hl : lv_has ls 4 [(0, .ref (ad G k0)), (1, .long a1), (3, .int a3)] := hl
  unfold f_X7_type at h
  refine lv_iload_n S.1 S.2.1 dX7_type_0 rfl (lv_at hl 2 rfl) ?_
  refine lv_iconst (v := 1) S.1 S.2.1 dX7_type_1 (by decide) ?_
  refine lv_icmp_lt (tgt := 23) S.1 S.2.1 dX7_type_2 (by decide) (fun cc => ?_) (fun cc => ?_)
  · replace h := it_p cc h
    refine lv_iconst (v := (-1)) S.1 S.2.1 dX7_type_23 (by decide) ?_
    obtain rfl := Option.some.inj h
    exact r_iret S d hr rfl rfl dX7_type_24
  · replace h := it_n cc h
    refine lv_iload_n S.1 S.2.1 dX7_type_5 rfl (lv_at hl 2 rfl) ?_
    refine lv_bipush (v := 8) S.1 S.2.1 dX7_type_6 (by decide) ?_
    refine lv_icmp_gt (tgt := 23) S.1 S.2.1 dX7_type_8 (by decide) (fun cc => ?_) (fun cc => ?_)
    · replace h := it_p cc h
      refine lv_iconst (v := (-1)) S.1 S.2.1 dX7_type_23 (by decide) ?_
      obtain rfl := Option.some.inj h
      exact r_iret S d hr rfl rfl dX7_type_24
    · replace h := it_n cc h
      refine lv_aload_n S.1 S.2.1 dX7_type_11 rfl (lv_at hl 0 rfl) ?_
      refine gf_0_5 S d hk0 fl_RX7_40 dX7_type_12 ?_
      refine lv_lload_n S.1 S.2.1 dX7_type_15 rfl (lv_at hl 1 rfl) ?_
      refine lv_iload_n S.1 S.2.1 dX7_type_16 rfl (lv_at hl 2 rfl) ?_
      obtain ⟨u1, hu1, h⟩ := bd_e h
      refine r_ri d (r_cV (As := [.long a1, .int a3]) (rest := []) S d (c_X5_append l G M L fu (k0 + 158) a1 a3 (ch_0_5 hk0).1 hu1) (ksdC S (ch_0_5 hk0).1) (wc_6 (ch_0_5 hk0).1) rfl ml_RX7_113 im_yX5_append se_yX5_append in_RX5 co_yX5_append hyV_X5_append ⟨rfl, rfl⟩ ⟨by decide, by decide⟩ rfl hl rfl (Nat.le_of_ble_eq_true rfl) dX7_type_17 ⟨Nat.zero_le _, Nat.zero_le _⟩) (fun H locs d => ?_)
      refine lv_goto (tgt := 24) S.1 S.2.1 dX7_type_20 (by decide) ?_
      obtain rfl := Option.some.inj h
      exact r_iret S d hr rfl rfl dX7_type_24
theorem hyS_X5_faultAt : yX5_faultAt.cls ≠ "java/lang/invoke/MethodHandle" ∧ yX5_faultAt.cls ≠ "java/lang/invoke/VarHandle" ∧ (parseMethodDescriptor yX5_faultAt.desc).map (fun d => d.parameters.length) = some 1 := by decide +kernel
abbrev rm_X5_faultAt : Room := { frames := 0, cells := 0, slots := 0, locals := 0 }
def f_X5_faultAt (a0 : Int32) : Option (Int32) :=
  some (((-20 : Int32) - a0))
set_option maxHeartbeats 4000000 in
set_option maxRecDepth 100000 in
theorem c_X5_faultAt (l : Launch) (G : Gx) (M : Mem) (L : MemL) (a0 : Int32) {z : Int32} (h : f_X5_faultAt a0 = some z) : Met l yX5_faultAt (.code yX5_faultAt cX5_faultAt 1 (Option.some Jvm.ClassFile.FieldType.int) :: UW) rm_X5_faultAt (va_Pc [.int a0] (PreG G false M L)) (Qi G z M L) 0 0 (gA G) := by
  refine r_in (by decide) (fun p e s m args below meth c S hr d ha ls hl => ?_) (Nat.le_of_ble_eq_true rfl)
  have S : Sx G false p s m args meth c cX5_faultAt 1 RX5 := S
  have hl : lv_has ls 1 [(0, .int a0)] := hl
  unfold f_X5_faultAt at h
  refine lv_bipush (v := (-20)) S.1 S.2.1 dX5_faultAt_0 (by decide) ?_
  refine lv_iload_n S.1 S.2.1 dX5_faultAt_2 rfl (lv_at hl 0 rfl) ?_
  refine lv_isub S.1 S.2.1 dX5_faultAt_3 ?_
  obtain rfl := Option.some.inj h
  exact r_iret S d hr rfl rfl dX5_faultAt_4
theorem hyV_X5_readOwners : yX5_readOwners.cls = RX5 ∧ yX5_readOwners.cls ≠ "java/lang/invoke/MethodHandle" ∧ yX5_readOwners.cls ≠ "java/lang/invoke/VarHandle" ∧ (parseMethodDescriptor yX5_readOwners.desc).map (fun d => d.parameters.length) = some 0 := by decide +kernel
abbrev rm_X5_readOwners : Room := { frames := 1, cells := 0, slots := 0, locals := 21 }
def lp_X5_readOwners_4 (fu : Nat) (b0 : Nat) (K : Int32 → Mem → Option (Int32 × Mem)) : Nat → Int32 → Int32 → Mem → Option (Int32 × Mem)
  | 0, _, _, _ => none
  | n + 1, x1, x2, Mx =>
    (if (Mx b0 1) ≤ x2 then (K x1 Mx)
    else gd (inb x2 80) (
      (if (Mx (b0 + 1) x2.toNatClampNeg) = (32 : Int32) then lt (x2 + 1) (fun v2 : Int32 =>
        (lp_X5_readOwners_4 fu b0 K n x1 v2 Mx))
      else gd (inb x2 80) (
        lt (((Mx (b0 + 1) x2.toNatClampNeg) - (48 : Int32))) (fun v4 : Int32 =>
        (f_X7_isBelow v4 (6 : Int32)).bind (fun u5 =>
        (if u5 = 0 then (f_X5_faultAt x2).bind (fun u11 =>
          some (u11, Mx))
        else (if x1 < (9 : Int32) then gd (inb x1 9) (
            lt (up Mx (b0 + 2) x1.toNatClampNeg v4) (fun M8 : Mem =>
            lt (x1 + 1) (fun v9 : Int32 =>
            lt (x2 + 1) (fun v10 : Int32 =>
            (lp_X5_readOwners_4 fu b0 K n v9 v10 M8)))))
          else (f_X5_faultAt x2).bind (fun u6 =>
            some (u6, Mx))))))))))
def f_X5_readOwners (fu : Nat) (M : Mem) (k0 : Nat) : Option (Int32 × Mem) :=
  (lp_X5_readOwners_4 fu k0 (fun (v12 : Int32) (M13 : Mem) =>
    (if v12 = 0 then (f_X5_faultAt (M13 k0 1)).bind (fun u14 =>
      some (u14, M13))
    else some (v12, M13))) fu (0 : Int32) (0 : Int32) M)
set_option maxHeartbeats 4000000 in
set_option maxRecDepth 100000 in
theorem lc_X5_readOwners_4 {p : Program} {l : Launch} {e : Env} {s : State} {m : MethodId} {args : Array Value} {below : List Frame} {meth : Method} {c : Code} {G : Gx} {L : MemL} {fu : Nat} {b0 : Nat} {z : Int32 × Mem} (S : Sx G false p s m args meth c cX5_readOwners 4 RX5) (hr : meth.sig.returnType = (Option.some Jvm.ClassFile.FieldType.int)) (hb0 : kd b0 = 6) (K : Int32 → Mem → Option (Int32 × Mem)) (hK : ∀ (y1 : Int32) (My : Mem) (H : Heap) (locs : List Loc), Dy G s My L H locs → ∀ ls : Array Slot, lv_has ls 4 [(0, .ref (ad G b0)), (1, .int y1)] → K y1 My = some z → W p l e rm_X5_readOwners s m args below meth c H locs 0 0 (MQ below (Qi G z.1 z.2 L) args s 0 0 (gA G)) (F0 m 72 ls [])) :
    ∀ (n : Nat) (x1 : Int32) (x2 : Int32) (Mx : Mem), lp_X5_readOwners_4 fu b0 K n x1 x2 Mx = some z → ∀ (H : Heap) (locs : List Loc), Dy G s Mx L H locs → ∀ ls : Array Slot, lv_has ls 4 [(0, .ref (ad G b0)), (1, .int x1), (2, .int x2)] → W p l e rm_X5_readOwners s m args below meth c H locs 0 0 (MQ below (Qi G z.1 z.2 L) args s 0 0 (gA G)) (F0 m 4 ls []) := by
  intro n
  induction n with
  | zero =>
    intro x1 x2 Mx h
    have h : (none : Option (Int32 × Mem)) = some z := h
    cases h
  | succ n ih =>
    intro x1 x2 Mx h H locs d ls hl
    rw [lp_X5_readOwners_4] at h
    refine lv_iload_n S.1 S.2.1 dX5_readOwners_4 rfl (lv_at hl 2 rfl) ?_
    refine lv_aload_n S.1 S.2.1 dX5_readOwners_5 rfl (lv_at hl 0 rfl) ?_
    refine gf_6_1 S d hb0 fl_RX5_15 dX5_readOwners_6 ?_
    refine lv_icmp_ge (tgt := 72) S.1 S.2.1 dX5_readOwners_9 (by decide) (fun cc => ?_) (fun cc => ?_)
    · replace h := it_p cc h
      exact hK _ _ _ _ d _ (lv_sub hl [0, 1] rfl) h
    · replace h := it_n cc h
      refine lv_aload_n S.1 S.2.1 dX5_readOwners_12 rfl (lv_at hl 0 rfl) ?_
      refine gf_6_0 S d hb0 fl_RX5_9 dX5_readOwners_13 ?_
      refine lv_iload_n S.1 S.2.1 dX5_readOwners_16 rfl (lv_at hl 2 rfl) ?_
      obtain ⟨g1, h⟩ := gd_e h
      refine r_bald S d (ksdC S (ch_6_0 hb0).1) (wc_11 (ch_6_0 hb0).1) (ch_6_0 hb0).2 g1 dX5_readOwners_17 ?_
      refine lv_bipush (v := 32) S.1 S.2.1 dX5_readOwners_18 (by decide) ?_
      refine lv_icmp_ne (tgt := 26) S.1 S.2.1 dX5_readOwners_20 (by decide) (fun cc => ?_) (fun cc => ?_)
      · replace h := it_n cc h
        refine lv_aload_n S.1 S.2.1 dX5_readOwners_26 rfl (lv_at hl 0 rfl) ?_
        refine gf_6_0 S d hb0 fl_RX5_9 dX5_readOwners_27 ?_
        refine lv_iload_n S.1 S.2.1 dX5_readOwners_30 rfl (lv_at hl 2 rfl) ?_
        obtain ⟨g3, h⟩ := gd_e h
        refine r_bald S d (ksdC S (ch_6_0 hb0).1) (wc_11 (ch_6_0 hb0).1) (ch_6_0 hb0).2 g3 dX5_readOwners_31 ?_
        refine lv_bipush (v := 48) S.1 S.2.1 dX5_readOwners_32 (by decide) ?_
        refine lv_isub S.1 S.2.1 dX5_readOwners_34 ?_
        obtain ⟨v4, ev4, h⟩ := lt_e h
        refine r_top ev4 ?_
        refine lv_istore_n (lv' := [(3, .int v4), (0, .ref (ad G b0)), (1, .int x1), (2, .int x2)]) S.1 S.2.1 dX5_readOwners_35 rfl hl (by decide) rfl (fun ls hl => ?_)
        refine lv_iload_n S.1 S.2.1 dX5_readOwners_36 rfl (lv_at hl 0 rfl) ?_
        refine lv_bipush (v := 6) S.1 S.2.1 dX5_readOwners_37 (by decide) ?_
        obtain ⟨u5, hu5, h⟩ := bd_e h
        refine r_ri d (r_cSN (As := [.int v4, .int (6 : Int32)]) (rest := []) S d (c_X7_isBelow l G Mx L v4 (6 : Int32) hu5) (nv_RX5_33 S.2.2.2.2.2.2.2.1.2.2.2) sm_yX7_isBelow in_RX7 co_yX7_isBelow hyS_X7_isBelow ⟨rfl, rfl⟩ ⟨by decide, by decide⟩ rfl hl rfl (Nat.le_of_ble_eq_true rfl) dX5_readOwners_39 ⟨Nat.zero_le _, Nat.zero_le _⟩) (fun H locs d => ?_)
        refine lv_if_eq (tgt := 51) S.1 S.2.1 dX5_readOwners_42 (by decide) (fun cc => ?_) (fun cc => ?_)
        · replace h := it_p cc h
          refine lv_iload_n S.1 S.2.1 dX5_readOwners_51 rfl (lv_at hl 3 rfl) ?_
          obtain ⟨u11, hu11, h⟩ := bd_e h
          refine r_ri d (r_cS (As := [.int x2]) (rest := []) S d (c_X5_faultAt l G Mx L x2 hu11) ml_RX5_37 sm_yX5_faultAt in_RX5 co_yX5_faultAt hyS_X5_faultAt ⟨rfl, rfl⟩ ⟨by decide, by decide⟩ rfl hl rfl (Nat.le_of_ble_eq_true rfl) dX5_readOwners_52 ⟨Nat.zero_le _, Nat.zero_le _⟩) (fun H locs d => ?_)
          obtain rfl := Option.some.inj h
          exact r_iret S d hr rfl rfl dX5_readOwners_55
        · replace h := it_n cc h
          refine lv_iload_n S.1 S.2.1 dX5_readOwners_45 rfl (lv_at hl 2 rfl) ?_
          refine lv_bipush (v := 9) S.1 S.2.1 dX5_readOwners_46 (by decide) ?_
          refine lv_icmp_lt (tgt := 56) S.1 S.2.1 dX5_readOwners_48 (by decide) (fun cc => ?_) (fun cc => ?_)
          · replace h := it_p cc h
            refine lv_aload_n S.1 S.2.1 dX5_readOwners_56 rfl (lv_at hl 1 rfl) ?_
            refine gf_6_2 S d hb0 fl_RX5_19 dX5_readOwners_57 ?_
            refine lv_iload_n S.1 S.2.1 dX5_readOwners_60 rfl (lv_at hl 2 rfl) ?_
            refine lv_iload_n S.1 S.2.1 dX5_readOwners_61 rfl (lv_at hl 0 rfl) ?_
            obtain ⟨g7, h⟩ := gd_e h
            obtain ⟨M8, eM8, h⟩ := lt_e h
            refine r_iast S d eM8 (ksdC S (ch_6_2 hb0).1) (fun _ => wc_10 (ch_6_2 hb0).1) (ch_6_2 hb0).2 g7 dX5_readOwners_62 (fun H locs d => ?_)
            obtain ⟨v9, ev9, h⟩ := lt_e h
            refine lv_iinc (v := v9) (lv' := [(1, .int v9), (3, .int v4), (0, .ref (ad G b0)), (2, .int x2)]) S.1 S.2.1 dX5_readOwners_63 hl (k := 2) rfl (by rw [ev9]; rfl) (by decide) rfl (fun ls hl => ?_)
            obtain ⟨v10, ev10, h⟩ := lt_e h
            refine lv_iinc (v := v10) (lv' := [(2, .int v10), (1, .int v9), (3, .int v4), (0, .ref (ad G b0))]) S.1 S.2.1 dX5_readOwners_66 hl (k := 3) rfl (by rw [ev10]; rfl) (by decide) rfl (fun ls hl => ?_)
            refine lv_goto (tgt := 4) S.1 S.2.1 dX5_readOwners_69 (by decide) ?_
            exact ih _ _ _ h _ _ d _ (lv_sub hl [3, 1, 0] rfl)
          · replace h := it_n cc h
            refine lv_iload_n S.1 S.2.1 dX5_readOwners_51 rfl (lv_at hl 3 rfl) ?_
            obtain ⟨u6, hu6, h⟩ := bd_e h
            refine r_ri d (r_cS (As := [.int x2]) (rest := []) S d (c_X5_faultAt l G Mx L x2 hu6) ml_RX5_37 sm_yX5_faultAt in_RX5 co_yX5_faultAt hyS_X5_faultAt ⟨rfl, rfl⟩ ⟨by decide, by decide⟩ rfl hl rfl (Nat.le_of_ble_eq_true rfl) dX5_readOwners_52 ⟨Nat.zero_le _, Nat.zero_le _⟩) (fun H locs d => ?_)
            obtain rfl := Option.some.inj h
            exact r_iret S d hr rfl rfl dX5_readOwners_55
      · replace h := it_p cc h
        refine lv_goto (tgt := 66) S.1 S.2.1 dX5_readOwners_23 (by decide) ?_
        obtain ⟨v2, ev2, h⟩ := lt_e h
        refine lv_iinc (v := v2) (lv' := [(2, .int v2), (0, .ref (ad G b0)), (1, .int x1)]) S.1 S.2.1 dX5_readOwners_66 hl (k := 2) rfl (by rw [ev2]; rfl) (by decide) rfl (fun ls hl => ?_)
        refine lv_goto (tgt := 4) S.1 S.2.1 dX5_readOwners_69 (by decide) ?_
        exact ih _ _ _ h _ _ d _ (lv_sub hl [1, 2, 0] rfl)
set_option maxHeartbeats 4000000 in
set_option maxRecDepth 100000 in
theorem c_X5_readOwners (l : Launch) (G : Gx) (M : Mem) (L : MemL) (fu : Nat) (k0 : Nat) (hk0 : kd k0 = 6) {z : Int32 × Mem} (h : f_X5_readOwners fu M k0 = some z) : Met l yX5_readOwners (.code yX5_readOwners cX5_readOwners 4 (Option.some Jvm.ClassFile.FieldType.int) :: UW) rm_X5_readOwners (va_Pc [.ref (ad G k0)] (PreG G false M L)) (Qi G z.1 z.2 L) 0 0 (gA G) := by
  refine r_in (by decide) (fun p e s m args below meth c S hr d ha ls hl => ?_) (Nat.le_of_ble_eq_true rfl)
  have S : Sx G false p s m args meth c cX5_readOwners 4 RX5 := S
  have hl : lv_has ls 4 [(0, .ref (ad G k0))] := hl
  unfold f_X5_readOwners at h
  refine lv_iconst (v := 0) S.1 S.2.1 dX5_readOwners_0 (by decide) ?_
  refine lv_istore_n (lv' := [(1, .int (0 : Int32)), (0, .ref (ad G k0))]) S.1 S.2.1 dX5_readOwners_1 rfl hl (by decide) rfl (fun ls hl => ?_)
  refine lv_iconst (v := 0) S.1 S.2.1 dX5_readOwners_2 (by decide) ?_
  refine lv_istore_n (lv' := [(2, .int (0 : Int32)), (1, .int (0 : Int32)), (0, .ref (ad G k0))]) S.1 S.2.1 dX5_readOwners_3 rfl hl (by decide) rfl (fun ls hl => ?_)
  refine lc_X5_readOwners_4 S hr hk0 _ (fun v12 M13 H locs d ls hl h => ?_) _ _ _ _  h _ _ d _ (lv_sub hl [2, 1, 0] rfl)
  refine lv_iload_n S.1 S.2.1 dX5_readOwners_72 rfl (lv_at hl 1 rfl) ?_
  refine lv_if_ne (tgt := 86) S.1 S.2.1 dX5_readOwners_73 (by decide) (fun cc => ?_) (fun cc => ?_)
  · replace h := it_n cc h
    refine lv_iload_n S.1 S.2.1 dX5_readOwners_86 rfl (lv_at hl 1 rfl) ?_
    obtain rfl := Option.some.inj h
    exact r_iret S d hr rfl rfl dX5_readOwners_87
  · replace h := it_p cc h
    refine lv_aload_n S.1 S.2.1 dX5_readOwners_76 rfl (lv_at hl 0 rfl) ?_
    refine gf_6_1 S d hk0 fl_RX5_15 dX5_readOwners_77 ?_
    obtain ⟨u14, hu14, h⟩ := bd_e h
    refine r_ri d (r_cS (As := [.int (M13 k0 1)]) (rest := []) S d (c_X5_faultAt l G M13 L (M13 k0 1) hu14) ml_RX5_37 sm_yX5_faultAt in_RX5 co_yX5_faultAt hyS_X5_faultAt ⟨rfl, rfl⟩ ⟨by decide, by decide⟩ rfl hl rfl (Nat.le_of_ble_eq_true rfl) dX5_readOwners_80 ⟨Nat.zero_le _, Nat.zero_le _⟩) (fun H locs d => ?_)
    refine lv_goto (tgt := 87) S.1 S.2.1 dX5_readOwners_83 (by decide) ?_
    obtain rfl := Option.some.inj h
    exact r_iret S d hr rfl rfl dX5_readOwners_87
theorem hyV_X0_replaceStrips : yX0_replaceStrips.cls = RX0 ∧ yX0_replaceStrips.cls ≠ "java/lang/invoke/MethodHandle" ∧ yX0_replaceStrips.cls ≠ "java/lang/invoke/VarHandle" ∧ (parseMethodDescriptor yX0_replaceStrips.desc).map (fun d => d.parameters.length) = some 2 := by decide +kernel
abbrev rm_X0_replaceStrips : Room := { frames := 3, cells := 0, slots := 0, locals := 65 }
def lp_X0_replaceStrips_7 (fu : Nat) (b0 : Nat) (b1 : Nat) (b2 : Int32) (K : Mem → Option (Mem)) : Nat → Int32 → Mem → Option (Mem)
  | 0, _, _ => none
  | n + 1, x3, Mx =>
    (if b2 ≤ x3 then (K Mx)
    else gd (inb x3 (ln b1)) (
      (f_X0_addStrip fu Mx b0 (Mx b1 x3.toNatClampNeg)).bind (fun u3 =>
      lt (x3 + 1) (fun v4 : Int32 =>
      (lp_X0_replaceStrips_7 fu b0 b1 b2 K n v4 u3)))))
def f_X0_replaceStrips (fu : Nat) (M : Mem) (k0 : Nat) (k1 : Nat) (a2 : Int32) : Option (Mem) :=
  lt (up M k0 2 (0 : Int32)) (fun M1 : Mem =>
  (lp_X0_replaceStrips_7 fu k0 k1 a2 (fun (M5 : Mem) =>
    some (M5)) fu (0 : Int32) M1))
set_option maxHeartbeats 4000000 in
set_option maxRecDepth 100000 in
theorem lc_X0_replaceStrips_7 {p : Program} {l : Launch} {e : Env} {s : State} {m : MethodId} {args : Array Value} {below : List Frame} {meth : Method} {c : Code} {G : Gx} {L : MemL} {fu : Nat} {b0 : Nat} {b1 : Nat} {b2 : Int32} {z : Mem} (S : Sx G false p s m args meth c cX0_replaceStrips 4 RX0) (hr : meth.sig.returnType = (Option.none : Option Jvm.ClassFile.FieldType)) (hb0 : kd b0 = 1) (hb1 : kd b1 = 10) (K : Mem → Option (Mem)) (hK : ∀ (My : Mem) (H : Heap) (locs : List Loc), Dy G s My L H locs → ∀ ls : Array Slot, lv_has ls 4 [] → K My = some z → W p l e rm_X0_replaceStrips s m args below meth c H locs 0 0 (MQ below (Qv G z L) args s 0 0 (gA G)) (F0 m 25 ls [])) :
    ∀ (n : Nat) (x3 : Int32) (Mx : Mem), lp_X0_replaceStrips_7 fu b0 b1 b2 K n x3 Mx = some z → ∀ (H : Heap) (locs : List Loc), Dy G s Mx L H locs → ∀ ls : Array Slot, lv_has ls 4 [(0, .ref (ad G b0)), (1, .ref (ad G b1)), (2, .int b2), (3, .int x3)] → W p l e rm_X0_replaceStrips s m args below meth c H locs 0 0 (MQ below (Qv G z L) args s 0 0 (gA G)) (F0 m 7 ls []) := by
  intro n
  induction n with
  | zero =>
    intro x3 Mx h
    have h : (none : Option (Mem)) = some z := h
    cases h
  | succ n ih =>
    intro x3 Mx h H locs d ls hl
    rw [lp_X0_replaceStrips_7] at h
    refine lv_iload_n S.1 S.2.1 dX0_replaceStrips_7 rfl (lv_at hl 3 rfl) ?_
    refine lv_iload_n S.1 S.2.1 dX0_replaceStrips_8 rfl (lv_at hl 2 rfl) ?_
    refine lv_icmp_ge (tgt := 25) S.1 S.2.1 dX0_replaceStrips_9 (by decide) (fun cc => ?_) (fun cc => ?_)
    · replace h := it_p cc h
      exact hK _ _ _ d _ (lv_sub hl [] rfl) h
    · replace h := it_n cc h
      refine lv_aload_n S.1 S.2.1 dX0_replaceStrips_12 rfl (lv_at hl 0 rfl) ?_
      refine lv_aload_n S.1 S.2.1 dX0_replaceStrips_13 rfl (lv_at hl 1 rfl) ?_
      refine lv_iload_n S.1 S.2.1 dX0_replaceStrips_14 rfl (lv_at hl 3 rfl) ?_
      obtain ⟨g2, h⟩ := gd_e h
      refine r_iald S d (ksdC S hb1) (wc_10 hb1) rfl g2 dX0_replaceStrips_15 ?_
      obtain ⟨u3, hu3, h⟩ := bd_e h
      refine r_rv d (r_cV (As := [.int (Mx b1 x3.toNatClampNeg)]) (rest := []) S d (c_X0_addStrip l G Mx L fu b0 (Mx b1 x3.toNatClampNeg) hb0 hu3) (ksdC S hb0) (wc_1 hb0) rfl ml_RX0_62 im_yX0_addStrip se_yX0_addStrip in_RX0 co_yX0_addStrip hyV_X0_addStrip ⟨rfl, rfl⟩ ⟨by decide, by decide⟩ rfl hl rfl (Nat.le_of_ble_eq_true rfl) dX0_replaceStrips_16 ⟨Nat.zero_le _, Nat.zero_le _⟩) (fun H locs d => ?_)
      obtain ⟨v4, ev4, h⟩ := lt_e h
      refine lv_iinc (v := v4) (lv' := [(3, .int v4), (0, .ref (ad G b0)), (1, .ref (ad G b1)), (2, .int b2)]) S.1 S.2.1 dX0_replaceStrips_19 hl (k := 3) rfl (by rw [ev4]; rfl) (by decide) rfl (fun ls hl => ?_)
      refine lv_goto (tgt := 7) S.1 S.2.1 dX0_replaceStrips_22 (by decide) ?_
      exact ih _ _ h _ _ d _ (lv_sub hl [1, 2, 3, 0] rfl)
set_option maxHeartbeats 4000000 in
set_option maxRecDepth 100000 in
theorem c_X0_replaceStrips (l : Launch) (G : Gx) (M : Mem) (L : MemL) (fu : Nat) (k0 : Nat) (k1 : Nat) (a2 : Int32) (hk0 : kd k0 = 1) (hk1 : kd k1 = 10) {z : Mem} (h : f_X0_replaceStrips fu M k0 k1 a2 = some z) : Met l yX0_replaceStrips (.code yX0_replaceStrips cX0_replaceStrips 4 (Option.none : Option Jvm.ClassFile.FieldType) :: UW) rm_X0_replaceStrips (va_Pc [.ref (ad G k0), .ref (ad G k1), .int a2] (PreG G false M L)) (Qv G z L) 0 0 (gA G) := by
  refine r_in (by decide) (fun p e s m args below meth c S hr d ha ls hl => ?_) (Nat.le_of_ble_eq_true rfl)
  have S : Sx G false p s m args meth c cX0_replaceStrips 4 RX0 := S
  have hl : lv_has ls 4 [(0, .ref (ad G k0)), (1, .ref (ad G k1)), (2, .int a2)] := hl
  unfold f_X0_replaceStrips at h
  refine lv_aload_n S.1 S.2.1 dX0_replaceStrips_0 rfl (lv_at hl 0 rfl) ?_
  refine lv_iconst (v := 0) S.1 S.2.1 dX0_replaceStrips_1 (by decide) ?_
  obtain ⟨M1, eM1, h⟩ := lt_e h
  refine pf_1_2 S d eM1 hk0 fl_RX0_24 dX0_replaceStrips_2 (fun H locs d => ?_)
  refine lv_iconst (v := 0) S.1 S.2.1 dX0_replaceStrips_5 (by decide) ?_
  refine lv_istore_n (lv' := [(3, .int (0 : Int32)), (0, .ref (ad G k0)), (1, .ref (ad G k1)), (2, .int a2)]) S.1 S.2.1 dX0_replaceStrips_6 rfl hl (by decide) rfl (fun ls hl => ?_)
  refine lc_X0_replaceStrips_7 S hr hk0 hk1 _ (fun M5 H locs d ls hl h => ?_) _ _ _  h _ _ d _ (lv_sub hl [1, 2, 3, 0] rfl)
  obtain rfl := Option.some.inj h
  exact r_vret S d hr dX0_replaceStrips_25
theorem hyV_X7_strips : yX7_strips.cls = RX7 ∧ yX7_strips.cls ≠ "java/lang/invoke/MethodHandle" ∧ yX7_strips.cls ≠ "java/lang/invoke/VarHandle" ∧ (parseMethodDescriptor yX7_strips.desc).map (fun d => d.parameters.length) = some 0 := by decide +kernel
abbrev rm_X7_strips : Room := { frames := 4, cells := 0, slots := 0, locals := 88 }
def f_X7_strips (fu : Nat) (M : Mem) (k0 : Nat) : Option (Int32 × Mem) :=
  (f_X5_readOwners fu M (k0 + 158)).bind (fun u1 =>
  lt (u1.1) (fun v2 : Int32 =>
  lt (up u1.2 (k0 + 158) 1 (0 : Int32)) (fun M3 : Mem =>
  (if v2 ≤ 0 then some (v2, M3)
  else (f_X0_replaceStrips fu M3 (k0 + 1) ((k0 + 158) + 2) v2).bind (fun u4 =>
    some (v2, u4))))))
set_option maxHeartbeats 4000000 in
set_option maxRecDepth 100000 in
theorem c_X7_strips (l : Launch) (G : Gx) (M : Mem) (L : MemL) (fu : Nat) (k0 : Nat) (hk0 : kd k0 = 0) {z : Int32 × Mem} (h : f_X7_strips fu M k0 = some z) : Met l yX7_strips (.code yX7_strips cX7_strips 2 (Option.some Jvm.ClassFile.FieldType.int) :: UW) rm_X7_strips (va_Pc [.ref (ad G k0)] (PreG G false M L)) (Qi G z.1 z.2 L) 0 0 (gA G) := by
  refine r_in (by decide) (fun p e s m args below meth c S hr d ha ls hl => ?_) (Nat.le_of_ble_eq_true rfl)
  have S : Sx G false p s m args meth c cX7_strips 2 RX7 := S
  have hl : lv_has ls 2 [(0, .ref (ad G k0))] := hl
  unfold f_X7_strips at h
  refine lv_aload_n S.1 S.2.1 dX7_strips_0 rfl (lv_at hl 0 rfl) ?_
  refine gf_0_5 S d hk0 fl_RX7_40 dX7_strips_1 ?_
  obtain ⟨u1, hu1, h⟩ := bd_e h
  refine r_ri d (r_cV (As := []) (rest := []) S d (c_X5_readOwners l G M L fu (k0 + 158) (ch_0_5 hk0).1 hu1) (ksdC S (ch_0_5 hk0).1) (wc_6 (ch_0_5 hk0).1) rfl ml_RX7_117 im_yX5_readOwners se_yX5_readOwners in_RX5 co_yX5_readOwners hyV_X5_readOwners ⟨rfl, rfl⟩ ⟨by decide, by decide⟩ rfl hl rfl (Nat.le_of_ble_eq_true rfl) dX7_strips_4 ⟨Nat.zero_le _, Nat.zero_le _⟩) (fun H locs d => ?_)
  obtain ⟨v2, ev2, h⟩ := lt_e h
  refine r_top ev2 ?_
  refine lv_istore_n (lv' := [(1, .int v2), (0, .ref (ad G k0))]) S.1 S.2.1 dX7_strips_7 rfl hl (by decide) rfl (fun ls hl => ?_)
  refine lv_aload_n S.1 S.2.1 dX7_strips_8 rfl (lv_at hl 1 rfl) ?_
  refine gf_0_5 S d hk0 fl_RX7_40 dX7_strips_9 ?_
  refine lv_iconst (v := 0) S.1 S.2.1 dX7_strips_12 (by decide) ?_
  obtain ⟨M3, eM3, h⟩ := lt_e h
  refine pf_6_1 S d eM3 (ch_0_5 hk0).1 fl_RX7_120 dX7_strips_13 (fun H locs d => ?_)
  refine lv_iload_n S.1 S.2.1 dX7_strips_16 rfl (lv_at hl 0 rfl) ?_
  refine lv_if_le (tgt := 35) S.1 S.2.1 dX7_strips_17 (by decide) (fun cc => ?_) (fun cc => ?_)
  · replace h := it_p cc h
    refine lv_iload_n S.1 S.2.1 dX7_strips_35 rfl (lv_at hl 0 rfl) ?_
    obtain rfl := Option.some.inj h
    exact r_iret S d hr rfl rfl dX7_strips_36
  · replace h := it_n cc h
    refine lv_aload_n S.1 S.2.1 dX7_strips_20 rfl (lv_at hl 1 rfl) ?_
    refine gf_0_0 S d hk0 fl_RX7_12 dX7_strips_21 ?_
    refine lv_aload_n S.1 S.2.1 dX7_strips_24 rfl (lv_at hl 1 rfl) ?_
    refine gf_0_5 S d hk0 fl_RX7_40 dX7_strips_25 ?_
    refine gf_6_2 S d (ch_0_5 hk0).1 fl_RX7_123 dX7_strips_28 ?_
    refine lv_iload_n S.1 S.2.1 dX7_strips_31 rfl (lv_at hl 0 rfl) ?_
    obtain ⟨u4, hu4, h⟩ := bd_e h
    refine r_rv d (r_cV (As := [.ref (ad G ((k0 + 158) + 2)), .int v2]) (rest := []) S d (c_X0_replaceStrips l G M3 L fu (k0 + 1) ((k0 + 158) + 2) v2 (ch_0_0 hk0).1 (ch_6_2 (ch_0_5 hk0).1).1 hu4) (ksdC S (ch_0_0 hk0).1) (wc_1 (ch_0_0 hk0).1) rfl ml_RX7_126 im_yX0_replaceStrips se_yX0_replaceStrips in_RX0 co_yX0_replaceStrips hyV_X0_replaceStrips ⟨rfl, rfl⟩ ⟨by decide, by decide⟩ rfl hl rfl (Nat.le_of_ble_eq_true rfl) dX7_strips_32 ⟨Nat.zero_le _, Nat.zero_le _⟩) (fun H locs d => ?_)
    refine lv_iload_n S.1 S.2.1 dX7_strips_35 rfl (lv_at hl 0 rfl) ?_
    obtain rfl := Option.some.inj h
    exact r_iret S d hr rfl rfl dX7_strips_36
theorem hyV_X5_nextSign : yX5_nextSign.cls = RX5 ∧ yX5_nextSign.cls ≠ "java/lang/invoke/MethodHandle" ∧ yX5_nextSign.cls ≠ "java/lang/invoke/VarHandle" ∧ (parseMethodDescriptor yX5_nextSign.desc).map (fun d => d.parameters.length) = some 0 := by decide +kernel
abbrev rm_X5_nextSign : Room := { frames := 0, cells := 0, slots := 0, locals := 0 }
def lp_X5_nextSign_0 (fu : Nat) (b0 : Nat) (K : Mem → Option (Int32 × Mem)) : Nat → Mem → Option (Int32 × Mem)
  | 0, _ => none
  | n + 1, Mx =>
    (if (Mx b0 1) ≤ (Mx b0 4) then (K Mx)
    else gd (inb (Mx b0 4) 80) (
      (if (Mx (b0 + 1) (Mx b0 4).toNatClampNeg) = (32 : Int32) then lt (up Mx b0 4 ((Mx b0 4) + (1 : Int32))) (fun M2 : Mem =>
        (lp_X5_nextSign_0 fu b0 K n M2))
      else (K Mx))))
def f_X5_nextSign (fu : Nat) (M : Mem) (k0 : Nat) : Option (Int32 × Mem) :=
  (lp_X5_nextSign_0 fu k0 (fun (M3 : Mem) =>
    (if (M3 k0 1) ≤ (M3 k0 4) then some ((-1 : Int32), M3)
    else gd (inb (M3 k0 4) 80) (
      some ((M3 (k0 + 1) (M3 k0 4).toNatClampNeg), M3)))) fu M)
set_option maxHeartbeats 4000000 in
set_option maxRecDepth 100000 in
theorem lc_X5_nextSign_0 {p : Program} {l : Launch} {e : Env} {s : State} {m : MethodId} {args : Array Value} {below : List Frame} {meth : Method} {c : Code} {G : Gx} {L : MemL} {fu : Nat} {b0 : Nat} {z : Int32 × Mem} (S : Sx G false p s m args meth c cX5_nextSign 1 RX5) (hr : meth.sig.returnType = (Option.some Jvm.ClassFile.FieldType.int)) (hb0 : kd b0 = 6) (K : Mem → Option (Int32 × Mem)) (hK : ∀ (My : Mem) (H : Heap) (locs : List Loc), Dy G s My L H locs → ∀ ls : Array Slot, lv_has ls 1 [(0, .ref (ad G b0))] → K My = some z → W p l e rm_X5_nextSign s m args below meth c H locs 0 0 (MQ below (Qi G z.1 z.2 L) args s 0 0 (gA G)) (F0 m 38 ls [])) :
    ∀ (n : Nat) (Mx : Mem), lp_X5_nextSign_0 fu b0 K n Mx = some z → ∀ (H : Heap) (locs : List Loc), Dy G s Mx L H locs → ∀ ls : Array Slot, lv_has ls 1 [(0, .ref (ad G b0))] → W p l e rm_X5_nextSign s m args below meth c H locs 0 0 (MQ below (Qi G z.1 z.2 L) args s 0 0 (gA G)) (F0 m 0 ls []) := by
  intro n
  induction n with
  | zero =>
    intro Mx h
    have h : (none : Option (Int32 × Mem)) = some z := h
    cases h
  | succ n ih =>
    intro Mx h H locs d ls hl
    rw [lp_X5_nextSign_0] at h
    refine lv_aload_n S.1 S.2.1 dX5_nextSign_0 rfl (lv_at hl 0 rfl) ?_
    refine gf_6_4 S d hb0 fl_RX5_29 dX5_nextSign_1 ?_
    refine lv_aload_n S.1 S.2.1 dX5_nextSign_4 rfl (lv_at hl 0 rfl) ?_
    refine gf_6_1 S d hb0 fl_RX5_15 dX5_nextSign_5 ?_
    refine lv_icmp_ge (tgt := 38) S.1 S.2.1 dX5_nextSign_8 (by decide) (fun cc => ?_) (fun cc => ?_)
    · replace h := it_p cc h
      exact hK _ _ _ d _ (lv_sub hl [0] rfl) h
    · replace h := it_n cc h
      refine lv_aload_n S.1 S.2.1 dX5_nextSign_11 rfl (lv_at hl 0 rfl) ?_
      refine gf_6_0 S d hb0 fl_RX5_9 dX5_nextSign_12 ?_
      refine lv_aload_n S.1 S.2.1 dX5_nextSign_15 rfl (lv_at hl 0 rfl) ?_
      refine gf_6_4 S d hb0 fl_RX5_29 dX5_nextSign_16 ?_
      obtain ⟨g1, h⟩ := gd_e h
      refine r_bald S d (ksdC S (ch_6_0 hb0).1) (wc_11 (ch_6_0 hb0).1) (ch_6_0 hb0).2 g1 dX5_nextSign_19 ?_
      refine lv_bipush (v := 32) S.1 S.2.1 dX5_nextSign_20 (by decide) ?_
      refine lv_icmp_ne (tgt := 38) S.1 S.2.1 dX5_nextSign_22 (by decide) (fun cc => ?_) (fun cc => ?_)
      · replace h := it_n cc h
        exact hK _ _ _ d _ (lv_sub hl [0] rfl) h
      · replace h := it_p cc h
        refine lv_aload_n S.1 S.2.1 dX5_nextSign_25 rfl (lv_at hl 0 rfl) ?_
        refine lv_dup S.1 S.2.1 dX5_nextSign_26 rfl ?_
        refine gf_6_4 S d hb0 fl_RX5_29 dX5_nextSign_27 ?_
        refine lv_iconst (v := 1) S.1 S.2.1 dX5_nextSign_30 (by decide) ?_
        refine lv_iadd S.1 S.2.1 dX5_nextSign_31 ?_
        obtain ⟨M2, eM2, h⟩ := lt_e h
        refine pf_6_4 S d eM2 hb0 fl_RX5_29 dX5_nextSign_32 (fun H locs d => ?_)
        refine lv_goto (tgt := 0) S.1 S.2.1 dX5_nextSign_35 (by decide) ?_
        exact ih _ h _ _ d _ (lv_sub hl [0] rfl)
set_option maxHeartbeats 4000000 in
set_option maxRecDepth 100000 in
theorem c_X5_nextSign (l : Launch) (G : Gx) (M : Mem) (L : MemL) (fu : Nat) (k0 : Nat) (hk0 : kd k0 = 6) {z : Int32 × Mem} (h : f_X5_nextSign fu M k0 = some z) : Met l yX5_nextSign (.code yX5_nextSign cX5_nextSign 1 (Option.some Jvm.ClassFile.FieldType.int) :: UW) rm_X5_nextSign (va_Pc [.ref (ad G k0)] (PreG G false M L)) (Qi G z.1 z.2 L) 0 0 (gA G) := by
  refine r_in (by decide) (fun p e s m args below meth c S hr d ha ls hl => ?_) (Nat.le_of_ble_eq_true rfl)
  have S : Sx G false p s m args meth c cX5_nextSign 1 RX5 := S
  have hl : lv_has ls 1 [(0, .ref (ad G k0))] := hl
  unfold f_X5_nextSign at h
  refine lc_X5_nextSign_0 S hr hk0 _ (fun M3 H locs d ls hl h => ?_) _ _  h _ _ d _ (lv_sub hl [0] rfl)
  refine lv_aload_n S.1 S.2.1 dX5_nextSign_38 rfl (lv_at hl 0 rfl) ?_
  refine gf_6_4 S d hk0 fl_RX5_29 dX5_nextSign_39 ?_
  refine lv_aload_n S.1 S.2.1 dX5_nextSign_42 rfl (lv_at hl 0 rfl) ?_
  refine gf_6_1 S d hk0 fl_RX5_15 dX5_nextSign_43 ?_
  refine lv_icmp_ge (tgt := 61) S.1 S.2.1 dX5_nextSign_46 (by decide) (fun cc => ?_) (fun cc => ?_)
  · replace h := it_p cc h
    refine lv_iconst (v := (-1)) S.1 S.2.1 dX5_nextSign_61 (by decide) ?_
    obtain rfl := Option.some.inj h
    exact r_iret S d hr rfl rfl dX5_nextSign_62
  · replace h := it_n cc h
    refine lv_aload_n S.1 S.2.1 dX5_nextSign_49 rfl (lv_at hl 0 rfl) ?_
    refine gf_6_0 S d hk0 fl_RX5_9 dX5_nextSign_50 ?_
    refine lv_aload_n S.1 S.2.1 dX5_nextSign_53 rfl (lv_at hl 0 rfl) ?_
    refine gf_6_4 S d hk0 fl_RX5_29 dX5_nextSign_54 ?_
    obtain ⟨g4, h⟩ := gd_e h
    refine r_bald S d (ksdC S (ch_6_0 hk0).1) (wc_11 (ch_6_0 hk0).1) (ch_6_0 hk0).2 g4 dX5_nextSign_57 ?_
    refine lv_goto (tgt := 62) S.1 S.2.1 dX5_nextSign_58 (by decide) ?_
    obtain rfl := Option.some.inj h
    exact r_iret S d hr rfl rfl dX5_nextSign_62
theorem hyS_X5_isFigure : yX5_isFigure.cls ≠ "java/lang/invoke/MethodHandle" ∧ yX5_isFigure.cls ≠ "java/lang/invoke/VarHandle" ∧ (parseMethodDescriptor yX5_isFigure.desc).map (fun d => d.parameters.length) = some 1 := by decide +kernel
abbrev rm_X5_isFigure : Room := { frames := 1, cells := 0, slots := 0, locals := 21 }
def f_X5_isFigure (a0 : Int32) : Option (Int32) :=
  (f_X7_isBelow (a0 - (48 : Int32)) (10 : Int32)).bind (fun u1 =>
  gd (isZ u1) (
  some (u1)))
set_option maxHeartbeats 4000000 in
set_option maxRecDepth 100000 in
theorem c_X5_isFigure (l : Launch) (G : Gx) (M : Mem) (L : MemL) (a0 : Int32) {z : Int32} (h : f_X5_isFigure a0 = some z) : Met l yX5_isFigure (.code yX5_isFigure cX5_isFigure 1 (Option.some Jvm.ClassFile.FieldType.boolean) :: UW) rm_X5_isFigure (va_Pc [.int a0] (PreG G false M L)) (Qi G z M L) 0 0 (gA G) := by
  refine r_in (by decide) (fun p e s m args below meth c S hr d ha ls hl => ?_) (Nat.le_of_ble_eq_true rfl)
  have S : Sx G false p s m args meth c cX5_isFigure 1 RX5 := S
  have hl : lv_has ls 1 [(0, .int a0)] := hl
  unfold f_X5_isFigure at h
  refine lv_iload_n S.1 S.2.1 dX5_isFigure_0 rfl (lv_at hl 0 rfl) ?_
  refine lv_bipush (v := 48) S.1 S.2.1 dX5_isFigure_1 (by decide) ?_
  refine lv_isub S.1 S.2.1 dX5_isFigure_3 ?_
  refine lv_bipush (v := 10) S.1 S.2.1 dX5_isFigure_4 (by decide) ?_
  obtain ⟨u1, hu1, h⟩ := bd_e h
  refine r_ri d (r_cSN (As := [.int (a0 - (48 : Int32)), .int (10 : Int32)]) (rest := []) S d (c_X7_isBelow l G M L (a0 - (48 : Int32)) (10 : Int32) hu1) (nv_RX5_33 S.2.2.2.2.2.2.2.1.2.2.2) sm_yX7_isBelow in_RX7 co_yX7_isBelow hyS_X7_isBelow ⟨rfl, rfl⟩ ⟨by decide, by decide⟩ rfl hl rfl (Nat.le_of_ble_eq_true rfl) dX5_isFigure_6 ⟨Nat.zero_le _, Nat.zero_le _⟩) (fun H locs d => ?_)
  obtain ⟨gz, h⟩ := gd_e h
  obtain rfl := Option.some.inj h
  exact r_iret S d hr (isZ_nar gz) rfl dX5_isFigure_9
theorem hyV_X5_readPay : yX5_readPay.cls = RX5 ∧ yX5_readPay.cls ≠ "java/lang/invoke/MethodHandle" ∧ yX5_readPay.cls ≠ "java/lang/invoke/VarHandle" ∧ (parseMethodDescriptor yX5_readPay.desc).map (fun d => d.parameters.length) = some 1 := by decide +kernel
abbrev rm_X5_readPay : Room := { frames := 2, cells := 0, slots := 0, locals := 41 }
def lp_X5_readPay_25 (fu : Nat) (b0 : Nat) (b1 : Nat) (b2 : Int32) (K : Int32 → Mem → Option (Int32 × Mem)) : Nat → Int32 → Mem → Option (Int32 × Mem)
  | 0, _, _ => none
  | n + 1, x3, Mx =>
    (if (Mx b0 1) ≤ (Mx b0 4) then (K x3 Mx)
    else gd (inb (Mx b0 4) 80) (
      (f_X5_isFigure (Mx (b0 + 1) (Mx b0 4).toNatClampNeg)).bind (fun u6 =>
      (if u6 = 0 then (K x3 Mx)
      else gd (inb (Mx b0 4) 80) (
        lt ((if ((((10 : Int32) * x3) + (Mx (b0 + 1) (Mx b0 4).toNatClampNeg)) - (48 : Int32)) < (100 : Int32) then ((((10 : Int32) * x3) + (Mx (b0 + 1) (Mx b0 4).toNatClampNeg)) - (48 : Int32)) else (100 : Int32))) (fun v8 : Int32 =>
        lt (up Mx b0 4 ((Mx b0 4) + (1 : Int32))) (fun M9 : Mem =>
        (lp_X5_readPay_25 fu b0 b1 b2 K n v8 M9))))))))
def f_X5_readPay (fu : Nat) (M : Mem) (k0 : Nat) (k1 : Nat) : Option (Int32 × Mem) :=
  (f_X5_nextSign fu M k0).bind (fun u1 =>
  (f_X5_isFigure u1.1).bind (fun u2 =>
  (if u2 = 0 then (f_X5_faultAt (u1.2 k0 4)).bind (fun u3 =>
    some (u3, u1.2))
  else lt ((u1.2 k0 4)) (fun v4 : Int32 =>
    (lp_X5_readPay_25 fu k0 k1 v4 (fun (v10 : Int32) (M11 : Mem) =>
      lt (up M11 k1 1 v10) (fun M12 : Mem =>
      (if v10 ≤ (99 : Int32) then some ((0 : Int32), M12)
      else (f_X5_faultAt v4).bind (fun u13 =>
        some (u13, M12))))) fu (0 : Int32) u1.2)))))
set_option maxHeartbeats 4000000 in
set_option maxRecDepth 100000 in
theorem lc_X5_readPay_25 {p : Program} {l : Launch} {e : Env} {s : State} {m : MethodId} {args : Array Value} {below : List Frame} {meth : Method} {c : Code} {G : Gx} {L : MemL} {fu : Nat} {b0 : Nat} {b1 : Nat} {b2 : Int32} {z : Int32 × Mem} (S : Sx G false p s m args meth c cX5_readPay 4 RX5) (hr : meth.sig.returnType = (Option.some Jvm.ClassFile.FieldType.int)) (hb0 : kd b0 = 6) (hb1 : kd b1 = 3) (K : Int32 → Mem → Option (Int32 × Mem)) (hK : ∀ (y3 : Int32) (My : Mem) (H : Heap) (locs : List Loc), Dy G s My L H locs → ∀ ls : Array Slot, lv_has ls 4 [(1, .ref (ad G b1)), (2, .int b2), (3, .int y3)] → K y3 My = some z → W p l e rm_X5_readPay s m args below meth c H locs 0 0 (MQ below (Qi G z.1 z.2 L) args s 0 0 (gA G)) (F0 m 87 ls [])) :
    ∀ (n : Nat) (x3 : Int32) (Mx : Mem), lp_X5_readPay_25 fu b0 b1 b2 K n x3 Mx = some z → ∀ (H : Heap) (locs : List Loc), Dy G s Mx L H locs → ∀ ls : Array Slot, lv_has ls 4 [(0, .ref (ad G b0)), (1, .ref (ad G b1)), (2, .int b2), (3, .int x3)] → W p l e rm_X5_readPay s m args below meth c H locs 0 0 (MQ below (Qi G z.1 z.2 L) args s 0 0 (gA G)) (F0 m 25 ls []) := by
  intro n
  induction n with
  | zero =>
    intro x3 Mx h
    have h : (none : Option (Int32 × Mem)) = some z := h
    cases h
  | succ n ih =>
    intro x3 Mx h H locs d ls hl
    rw [lp_X5_readPay_25] at h
    refine lv_aload_n S.1 S.2.1 dX5_readPay_25 rfl (lv_at hl 0 rfl) ?_
    refine gf_6_4 S d hb0 fl_RX5_29 dX5_readPay_26 ?_
    refine lv_aload_n S.1 S.2.1 dX5_readPay_29 rfl (lv_at hl 0 rfl) ?_
    refine gf_6_1 S d hb0 fl_RX5_15 dX5_readPay_30 ?_
    refine lv_icmp_ge (tgt := 87) S.1 S.2.1 dX5_readPay_33 (by decide) (fun cc => ?_) (fun cc => ?_)
    · replace h := it_p cc h
      exact hK _ _ _ _ d _ (lv_sub hl [1, 2, 3] rfl) h
    · replace h := it_n cc h
      refine lv_aload_n S.1 S.2.1 dX5_readPay_36 rfl (lv_at hl 0 rfl) ?_
      refine gf_6_0 S d hb0 fl_RX5_9 dX5_readPay_37 ?_
      refine lv_aload_n S.1 S.2.1 dX5_readPay_40 rfl (lv_at hl 0 rfl) ?_
      refine gf_6_4 S d hb0 fl_RX5_29 dX5_readPay_41 ?_
      obtain ⟨g5, h⟩ := gd_e h
      refine r_bald S d (ksdC S (ch_6_0 hb0).1) (wc_11 (ch_6_0 hb0).1) (ch_6_0 hb0).2 g5 dX5_readPay_44 ?_
      obtain ⟨u6, hu6, h⟩ := bd_e h
      refine r_ri d (r_cS (As := [.int (Mx (b0 + 1) (Mx b0 4).toNatClampNeg)]) (rest := []) S d (c_X5_isFigure l G Mx L (Mx (b0 + 1) (Mx b0 4).toNatClampNeg) hu6) ml_RX5_59 sm_yX5_isFigure in_RX5 co_yX5_isFigure hyS_X5_isFigure ⟨rfl, rfl⟩ ⟨by decide, by decide⟩ rfl hl rfl (Nat.le_of_ble_eq_true rfl) dX5_readPay_45 ⟨Nat.zero_le _, Nat.zero_le _⟩) (fun H locs d => ?_)
      refine lv_if_eq (tgt := 87) S.1 S.2.1 dX5_readPay_48 (by decide) (fun cc => ?_) (fun cc => ?_)
      · replace h := it_p cc h
        exact hK _ _ _ _ d _ (lv_sub hl [1, 2, 3] rfl) h
      · replace h := it_n cc h
        refine lv_bipush (v := 100) S.1 S.2.1 dX5_readPay_51 (by decide) ?_
        refine lv_bipush (v := 10) S.1 S.2.1 dX5_readPay_53 (by decide) ?_
        refine lv_iload_n S.1 S.2.1 dX5_readPay_55 rfl (lv_at hl 3 rfl) ?_
        refine lv_imul S.1 S.2.1 dX5_readPay_56 ?_
        refine lv_aload_n S.1 S.2.1 dX5_readPay_57 rfl (lv_at hl 0 rfl) ?_
        refine gf_6_0 S d hb0 fl_RX5_9 dX5_readPay_58 ?_
        refine lv_aload_n S.1 S.2.1 dX5_readPay_61 rfl (lv_at hl 0 rfl) ?_
        refine gf_6_4 S d hb0 fl_RX5_29 dX5_readPay_62 ?_
        obtain ⟨g7, h⟩ := gd_e h
        refine r_bald S d (ksdC S (ch_6_0 hb0).1) (wc_11 (ch_6_0 hb0).1) (ch_6_0 hb0).2 g7 dX5_readPay_65 ?_
        refine lv_iadd S.1 S.2.1 dX5_readPay_66 ?_
        refine lv_bipush (v := 48) S.1 S.2.1 dX5_readPay_67 (by decide) ?_
        refine lv_isub S.1 S.2.1 dX5_readPay_69 ?_
        refine r_min S hl ml_RX5_63 ⟨by decide, Nat.le_of_ble_eq_true rfl⟩ ⟨Nat.zero_le _, Nat.zero_le _⟩ dX5_readPay_70 ?_
        obtain ⟨v8, ev8, h⟩ := lt_e h
        refine r_top ev8 ?_
        refine lv_istore_n (lv' := [(3, .int v8), (0, .ref (ad G b0)), (1, .ref (ad G b1)), (2, .int b2)]) S.1 S.2.1 dX5_readPay_73 rfl hl (by decide) rfl (fun ls hl => ?_)
        refine lv_aload_n S.1 S.2.1 dX5_readPay_74 rfl (lv_at hl 1 rfl) ?_
        refine lv_dup S.1 S.2.1 dX5_readPay_75 rfl ?_
        refine gf_6_4 S d hb0 fl_RX5_29 dX5_readPay_76 ?_
        refine lv_iconst (v := 1) S.1 S.2.1 dX5_readPay_79 (by decide) ?_
        refine lv_iadd S.1 S.2.1 dX5_readPay_80 ?_
        obtain ⟨M9, eM9, h⟩ := lt_e h
        refine pf_6_4 S d eM9 hb0 fl_RX5_29 dX5_readPay_81 (fun H locs d => ?_)
        refine lv_goto (tgt := 25) S.1 S.2.1 dX5_readPay_84 (by decide) ?_
        exact ih _ _ h _ _ d _ (lv_sub hl [1, 2, 3, 0] rfl)
set_option maxHeartbeats 4000000 in
set_option maxRecDepth 100000 in
theorem c_X5_readPay (l : Launch) (G : Gx) (M : Mem) (L : MemL) (fu : Nat) (k0 : Nat) (k1 : Nat) (hk0 : kd k0 = 6) (hk1 : kd k1 = 3) {z : Int32 × Mem} (h : f_X5_readPay fu M k0 k1 = some z) : Met l yX5_readPay (.code yX5_readPay cX5_readPay 4 (Option.some Jvm.ClassFile.FieldType.int) :: UW) rm_X5_readPay (va_Pc [.ref (ad G k0), .ref (ad G k1)] (PreG G false M L)) (Qi G z.1 z.2 L) 0 0 (gA G) := by
  refine r_in (by decide) (fun p e s m args below meth c S hr d ha ls hl => ?_) (Nat.le_of_ble_eq_true rfl)
  have S : Sx G false p s m args meth c cX5_readPay 4 RX5 := S
  have hl : lv_has ls 4 [(0, .ref (ad G k0)), (1, .ref (ad G k1))] := hl
  unfold f_X5_readPay at h
  refine lv_aload_n S.1 S.2.1 dX5_readPay_0 rfl (lv_at hl 0 rfl) ?_
  obtain ⟨u1, hu1, h⟩ := bd_e h
  refine r_ri d (r_cV (As := []) (rest := []) S d (c_X5_nextSign l G M L fu k0 hk0 hu1) (ksdC S hk0) (wc_6 hk0) rfl ml_RX5_45 im_yX5_nextSign se_yX5_nextSign in_RX5 co_yX5_nextSign hyV_X5_nextSign ⟨rfl, rfl⟩ ⟨by decide, by decide⟩ rfl hl rfl (Nat.le_of_ble_eq_true rfl) dX5_readPay_1 ⟨Nat.zero_le _, Nat.zero_le _⟩) (fun H locs d => ?_)
  obtain ⟨u2, hu2, h⟩ := bd_e h
  refine r_ri d (r_cS (As := [.int u1.1]) (rest := []) S d (c_X5_isFigure l G u1.2 L u1.1 hu2) ml_RX5_59 sm_yX5_isFigure in_RX5 co_yX5_isFigure hyS_X5_isFigure ⟨rfl, rfl⟩ ⟨by decide, by decide⟩ rfl hl rfl (Nat.le_of_ble_eq_true rfl) dX5_readPay_4 ⟨Nat.zero_le _, Nat.zero_le _⟩) (fun H locs d => ?_)
  refine lv_if_ne (tgt := 18) S.1 S.2.1 dX5_readPay_7 (by decide) (fun cc => ?_) (fun cc => ?_)
  · replace h := it_n cc h
    refine lv_aload_n S.1 S.2.1 dX5_readPay_18 rfl (lv_at hl 0 rfl) ?_
    refine gf_6_4 S d hk0 fl_RX5_29 dX5_readPay_19 ?_
    obtain ⟨v4, ev4, h⟩ := lt_e h
    refine r_top ev4 ?_
    refine lv_istore_n (lv' := [(2, .int v4), (0, .ref (ad G k0)), (1, .ref (ad G k1))]) S.1 S.2.1 dX5_readPay_22 rfl hl (by decide) rfl (fun ls hl => ?_)
    refine lv_iconst (v := 0) S.1 S.2.1 dX5_readPay_23 (by decide) ?_
    refine lv_istore_n (lv' := [(3, .int (0 : Int32)), (2, .int v4), (0, .ref (ad G k0)), (1, .ref (ad G k1))]) S.1 S.2.1 dX5_readPay_24 rfl hl (by decide) rfl (fun ls hl => ?_)
    refine lc_X5_readPay_25 S hr hk0 hk1 _ (fun v10 M11 H locs d ls hl h => ?_) _ _ _  h _ _ d _ (lv_sub hl [2, 3, 1, 0] rfl)
    refine lv_aload_n S.1 S.2.1 dX5_readPay_87 rfl (lv_at hl 0 rfl) ?_
    refine lv_iload_n S.1 S.2.1 dX5_readPay_88 rfl (lv_at hl 2 rfl) ?_
    obtain ⟨M12, eM12, h⟩ := lt_e h
    refine pf_3_1 S d eM12 hk1 fl_RX5_50 dX5_readPay_89 (fun H locs d => ?_)
    refine lv_iload_n S.1 S.2.1 dX5_readPay_92 rfl (lv_at hl 2 rfl) ?_
    refine lv_bipush (v := 99) S.1 S.2.1 dX5_readPay_93 (by decide) ?_
    refine lv_icmp_le (tgt := 105) S.1 S.2.1 dX5_readPay_95 (by decide) (fun cc => ?_) (fun cc => ?_)
    · replace h := it_p cc h
      refine lv_iconst (v := 0) S.1 S.2.1 dX5_readPay_105 (by decide) ?_
      obtain rfl := Option.some.inj h
      exact r_iret S d hr rfl rfl dX5_readPay_106
    · replace h := it_n cc h
      refine lv_iload_n S.1 S.2.1 dX5_readPay_98 rfl (lv_at hl 1 rfl) ?_
      obtain ⟨u13, hu13, h⟩ := bd_e h
      refine r_ri d (r_cS (As := [.int v4]) (rest := []) S d (c_X5_faultAt l G M12 L v4 hu13) ml_RX5_37 sm_yX5_faultAt in_RX5 co_yX5_faultAt hyS_X5_faultAt ⟨rfl, rfl⟩ ⟨by decide, by decide⟩ rfl hl rfl (Nat.le_of_ble_eq_true rfl) dX5_readPay_99 ⟨Nat.zero_le _, Nat.zero_le _⟩) (fun H locs d => ?_)
      refine lv_goto (tgt := 106) S.1 S.2.1 dX5_readPay_102 (by decide) ?_
      obtain rfl := Option.some.inj h
      exact r_iret S d hr rfl rfl dX5_readPay_106
  · replace h := it_p cc h
    refine lv_aload_n S.1 S.2.1 dX5_readPay_10 rfl (lv_at hl 0 rfl) ?_
    refine gf_6_4 S d hk0 fl_RX5_29 dX5_readPay_11 ?_
    obtain ⟨u3, hu3, h⟩ := bd_e h
    refine r_ri d (r_cS (As := [.int (u1.2 k0 4)]) (rest := []) S d (c_X5_faultAt l G u1.2 L (u1.2 k0 4) hu3) ml_RX5_37 sm_yX5_faultAt in_RX5 co_yX5_faultAt hyS_X5_faultAt ⟨rfl, rfl⟩ ⟨by decide, by decide⟩ rfl hl rfl (Nat.le_of_ble_eq_true rfl) dX5_readPay_14 ⟨Nat.zero_le _, Nat.zero_le _⟩) (fun H locs d => ?_)
    obtain rfl := Option.some.inj h
    exact r_iret S d hr rfl rfl dX5_readPay_17
theorem hyV_X5_readWord : yX5_readWord.cls = RX5 ∧ yX5_readWord.cls ≠ "java/lang/invoke/MethodHandle" ∧ yX5_readWord.cls ≠ "java/lang/invoke/VarHandle" ∧ (parseMethodDescriptor yX5_readWord.desc).map (fun d => d.parameters.length) = some 1 := by decide +kernel
abbrev rm_X5_readWord : Room := { frames := 3, cells := 0, slots := 0, locals := 64 }
def lp_X5_readWord_11 (fu : Nat) (b0 : Nat) (b1 : Nat) (K : Mem → Option (Int32 × Mem)) : Nat → Mem → Option (Int32 × Mem)
  | 0, _ => none
  | n + 1, Mx =>
    (if (6 : Int32) ≤ (Mx b1 0) then (K Mx)
    else (f_X5_nextSign fu Mx b0).bind (fun u3 =>
      (f_X7_isBelow (u3.1 - (97 : Int32)) (26 : Int32)).bind (fun u4 =>
      (if u4 = 0 then (K u3.2)
      else gd (inb (u3.2 b0 4) 80) (
        gd (inb (u3.2 b1 0) 6) (
        lt (up u3.2 (b1 + 1) (u3.2 b1 0).toNatClampNeg ((u3.2 (b0 + 1) (u3.2 b0 4).toNatClampNeg) - (97 : Int32))) (fun M7 : Mem =>
        lt (up M7 b1 0 ((M7 b1 0) + (1 : Int32))) (fun M8 : Mem =>
        lt (up M8 b0 4 ((M8 b0 4) + (1 : Int32))) (fun M9 : Mem =>
        (lp_X5_readWord_11 fu b0 b1 K n M9))))))))))
def f_X5_readWord (fu : Nat) (M : Mem) (k0 : Nat) (k1 : Nat) : Option (Int32 × Mem) :=
  lt (up M k1 0 (0 : Int32)) (fun M1 : Mem =>
  lt (up M1 k1 1 (10 : Int32)) (fun M2 : Mem =>
  (lp_X5_readWord_11 fu k0 k1 (fun (M10 : Mem) =>
    (if (M10 k1 0) = 0 then (f_X5_faultAt (M10 k0 4)).bind (fun u11 =>
      some (u11, M10))
    else (f_X5_nextSign fu M10 k0).bind (fun u12 =>
      (if u12.1 = (58 : Int32) then lt (up u12.2 k0 4 ((u12.2 k0 4) + (1 : Int32))) (fun M13 : Mem =>
        (f_X5_readPay fu M13 k0 k1).bind (fun u14 =>
        some (u14.1, u14.2)))
      else some ((0 : Int32), u12.2))))) fu M2)))
set_option maxHeartbeats 4000000 in
set_option maxRecDepth 100000 in
theorem lc_X5_readWord_11 {p : Program} {l : Launch} {e : Env} {s : State} {m : MethodId} {args : Array Value} {below : List Frame} {meth : Method} {c : Code} {G : Gx} {L : MemL} {fu : Nat} {b0 : Nat} {b1 : Nat} {z : Int32 × Mem} (S : Sx G false p s m args meth c cX5_readWord 2 RX5) (hr : meth.sig.returnType = (Option.some Jvm.ClassFile.FieldType.int)) (hb0 : kd b0 = 6) (hb1 : kd b1 = 3) (K : Mem → Option (Int32 × Mem)) (hK : ∀ (My : Mem) (H : Heap) (locs : List Loc), Dy G s My L H locs → ∀ ls : Array Slot, lv_has ls 2 [(0, .ref (ad G b0)), (1, .ref (ad G b1))] → K My = some z → W p l e rm_X5_readWord s m args below meth c H locs 0 0 (MQ below (Qi G z.1 z.2 L) args s 0 0 (gA G)) (F0 m 79 ls [])) :
    ∀ (n : Nat) (Mx : Mem), lp_X5_readWord_11 fu b0 b1 K n Mx = some z → ∀ (H : Heap) (locs : List Loc), Dy G s Mx L H locs → ∀ ls : Array Slot, lv_has ls 2 [(0, .ref (ad G b0)), (1, .ref (ad G b1))] → W p l e rm_X5_readWord s m args below meth c H locs 0 0 (MQ below (Qi G z.1 z.2 L) args s 0 0 (gA G)) (F0 m 11 ls []) := by
  intro n
  induction n with
  | zero =>
    intro Mx h
    have h : (none : Option (Int32 × Mem)) = some z := h
    cases h
  | succ n ih =>
    intro Mx h H locs d ls hl
    rw [lp_X5_readWord_11] at h
    refine lv_aload_n S.1 S.2.1 dX5_readWord_11 rfl (lv_at hl 1 rfl) ?_
    refine gf_3_0 S d hb1 fl_RX5_49 dX5_readWord_12 ?_
    refine lv_bipush (v := 6) S.1 S.2.1 dX5_readWord_15 (by decide) ?_
    refine lv_icmp_ge (tgt := 79) S.1 S.2.1 dX5_readWord_17 (by decide) (fun cc => ?_) (fun cc => ?_)
    · replace h := it_p cc h
      exact hK _ _ _ d _ (lv_sub hl [0, 1] rfl) h
    · replace h := it_n cc h
      refine lv_aload_n S.1 S.2.1 dX5_readWord_20 rfl (lv_at hl 0 rfl) ?_
      obtain ⟨u3, hu3, h⟩ := bd_e h
      refine r_ri d (r_cV (As := []) (rest := []) S d (c_X5_nextSign l G Mx L fu b0 hb0 hu3) (ksdC S hb0) (wc_6 hb0) rfl ml_RX5_45 im_yX5_nextSign se_yX5_nextSign in_RX5 co_yX5_nextSign hyV_X5_nextSign ⟨rfl, rfl⟩ ⟨by decide, by decide⟩ rfl hl rfl (Nat.le_of_ble_eq_true rfl) dX5_readWord_21 ⟨Nat.zero_le _, Nat.zero_le _⟩) (fun H locs d => ?_)
      refine lv_bipush (v := 97) S.1 S.2.1 dX5_readWord_24 (by decide) ?_
      refine lv_isub S.1 S.2.1 dX5_readWord_26 ?_
      refine lv_bipush (v := 26) S.1 S.2.1 dX5_readWord_27 (by decide) ?_
      obtain ⟨u4, hu4, h⟩ := bd_e h
      refine r_ri d (r_cSN (As := [.int (u3.1 - (97 : Int32)), .int (26 : Int32)]) (rest := []) S d (c_X7_isBelow l G u3.2 L (u3.1 - (97 : Int32)) (26 : Int32) hu4) (nv_RX5_33 S.2.2.2.2.2.2.2.1.2.2.2) sm_yX7_isBelow in_RX7 co_yX7_isBelow hyS_X7_isBelow ⟨rfl, rfl⟩ ⟨by decide, by decide⟩ rfl hl rfl (Nat.le_of_ble_eq_true rfl) dX5_readWord_29 ⟨Nat.zero_le _, Nat.zero_le _⟩) (fun H locs d => ?_)
      refine lv_if_eq (tgt := 79) S.1 S.2.1 dX5_readWord_32 (by decide) (fun cc => ?_) (fun cc => ?_)
      · replace h := it_p cc h
        exact hK _ _ _ d _ (lv_sub hl [0, 1] rfl) h
      · replace h := it_n cc h
        refine lv_aload_n S.1 S.2.1 dX5_readWord_35 rfl (lv_at hl 1 rfl) ?_
        refine gf_3_2 S d hb1 fl_RX5_53 dX5_readWord_36 ?_
        refine lv_aload_n S.1 S.2.1 dX5_readWord_39 rfl (lv_at hl 1 rfl) ?_
        refine gf_3_0 S d hb1 fl_RX5_49 dX5_readWord_40 ?_
        refine lv_aload_n S.1 S.2.1 dX5_readWord_43 rfl (lv_at hl 0 rfl) ?_
        refine gf_6_0 S d hb0 fl_RX5_9 dX5_readWord_44 ?_
        refine lv_aload_n S.1 S.2.1 dX5_readWord_47 rfl (lv_at hl 0 rfl) ?_
        refine gf_6_4 S d hb0 fl_RX5_29 dX5_readWord_48 ?_
        obtain ⟨g5, h⟩ := gd_e h
        refine r_bald S d (ksdC S (ch_6_0 hb0).1) (wc_11 (ch_6_0 hb0).1) (ch_6_0 hb0).2 g5 dX5_readWord_51 ?_
        refine lv_bipush (v := 97) S.1 S.2.1 dX5_readWord_52 (by decide) ?_
        refine lv_isub S.1 S.2.1 dX5_readWord_54 ?_
        obtain ⟨g6, h⟩ := gd_e h
        obtain ⟨M7, eM7, h⟩ := lt_e h
        refine r_iast S d eM7 (ksdC S (ch_3_2 hb1).1) (fun _ => wc_10 (ch_3_2 hb1).1) (ch_3_2 hb1).2 g6 dX5_readWord_55 (fun H locs d => ?_)
        refine lv_aload_n S.1 S.2.1 dX5_readWord_56 rfl (lv_at hl 1 rfl) ?_
        refine lv_dup S.1 S.2.1 dX5_readWord_57 rfl ?_
        refine gf_3_0 S d hb1 fl_RX5_49 dX5_readWord_58 ?_
        refine lv_iconst (v := 1) S.1 S.2.1 dX5_readWord_61 (by decide) ?_
        refine lv_iadd S.1 S.2.1 dX5_readWord_62 ?_
        obtain ⟨M8, eM8, h⟩ := lt_e h
        refine pf_3_0 S d eM8 hb1 fl_RX5_49 dX5_readWord_63 (fun H locs d => ?_)
        refine lv_aload_n S.1 S.2.1 dX5_readWord_66 rfl (lv_at hl 0 rfl) ?_
        refine lv_dup S.1 S.2.1 dX5_readWord_67 rfl ?_
        refine gf_6_4 S d hb0 fl_RX5_29 dX5_readWord_68 ?_
        refine lv_iconst (v := 1) S.1 S.2.1 dX5_readWord_71 (by decide) ?_
        refine lv_iadd S.1 S.2.1 dX5_readWord_72 ?_
        obtain ⟨M9, eM9, h⟩ := lt_e h
        refine pf_6_4 S d eM9 hb0 fl_RX5_29 dX5_readWord_73 (fun H locs d => ?_)
        refine lv_goto (tgt := 11) S.1 S.2.1 dX5_readWord_76 (by decide) ?_
        exact ih _ h _ _ d _ (lv_sub hl [0, 1] rfl)
set_option maxHeartbeats 4000000 in
set_option maxRecDepth 100000 in
theorem c_X5_readWord (l : Launch) (G : Gx) (M : Mem) (L : MemL) (fu : Nat) (k0 : Nat) (k1 : Nat) (hk0 : kd k0 = 6) (hk1 : kd k1 = 3) {z : Int32 × Mem} (h : f_X5_readWord fu M k0 k1 = some z) : Met l yX5_readWord (.code yX5_readWord cX5_readWord 2 (Option.some Jvm.ClassFile.FieldType.int) :: UW) rm_X5_readWord (va_Pc [.ref (ad G k0), .ref (ad G k1)] (PreG G false M L)) (Qi G z.1 z.2 L) 0 0 (gA G) := by
  refine r_in (by decide) (fun p e s m args below meth c S hr d ha ls hl => ?_) (Nat.le_of_ble_eq_true rfl)
  have S : Sx G false p s m args meth c cX5_readWord 2 RX5 := S
  have hl : lv_has ls 2 [(0, .ref (ad G k0)), (1, .ref (ad G k1))] := hl
  unfold f_X5_readWord at h
  refine lv_aload_n S.1 S.2.1 dX5_readWord_0 rfl (lv_at hl 1 rfl) ?_
  refine lv_iconst (v := 0) S.1 S.2.1 dX5_readWord_1 (by decide) ?_
  obtain ⟨M1, eM1, h⟩ := lt_e h
  refine pf_3_0 S d eM1 hk1 fl_RX5_49 dX5_readWord_2 (fun H locs d => ?_)
  refine lv_aload_n S.1 S.2.1 dX5_readWord_5 rfl (lv_at hl 1 rfl) ?_
  refine lv_bipush (v := 10) S.1 S.2.1 dX5_readWord_6 (by decide) ?_
  obtain ⟨M2, eM2, h⟩ := lt_e h
  refine pf_3_1 S d eM2 hk1 fl_RX5_50 dX5_readWord_8 (fun H locs d => ?_)
  refine lc_X5_readWord_11 S hr hk0 hk1 _ (fun M10 H locs d ls hl h => ?_) _ _  h _ _ d _ (lv_sub hl [0, 1] rfl)
  refine lv_aload_n S.1 S.2.1 dX5_readWord_79 rfl (lv_at hl 1 rfl) ?_
  refine gf_3_0 S d hk1 fl_RX5_49 dX5_readWord_80 ?_
  refine lv_if_ne (tgt := 94) S.1 S.2.1 dX5_readWord_83 (by decide) (fun cc => ?_) (fun cc => ?_)
  · replace h := it_n cc h
    refine lv_aload_n S.1 S.2.1 dX5_readWord_94 rfl (lv_at hl 0 rfl) ?_
    obtain ⟨u12, hu12, h⟩ := bd_e h
    refine r_ri d (r_cV (As := []) (rest := []) S d (c_X5_nextSign l G M10 L fu k0 hk0 hu12) (ksdC S hk0) (wc_6 hk0) rfl ml_RX5_45 im_yX5_nextSign se_yX5_nextSign in_RX5 co_yX5_nextSign hyV_X5_nextSign ⟨rfl, rfl⟩ ⟨by decide, by decide⟩ rfl hl rfl (Nat.le_of_ble_eq_true rfl) dX5_readWord_95 ⟨Nat.zero_le _, Nat.zero_le _⟩) (fun H locs d => ?_)
    refine lv_bipush (v := 58) S.1 S.2.1 dX5_readWord_98 (by decide) ?_
    refine lv_icmp_eq (tgt := 105) S.1 S.2.1 dX5_readWord_100 (by decide) (fun cc => ?_) (fun cc => ?_)
    · replace h := it_p cc h
      refine lv_aload_n S.1 S.2.1 dX5_readWord_105 rfl (lv_at hl 0 rfl) ?_
      refine lv_dup S.1 S.2.1 dX5_readWord_106 rfl ?_
      refine gf_6_4 S d hk0 fl_RX5_29 dX5_readWord_107 ?_
      refine lv_iconst (v := 1) S.1 S.2.1 dX5_readWord_110 (by decide) ?_
      refine lv_iadd S.1 S.2.1 dX5_readWord_111 ?_
      obtain ⟨M13, eM13, h⟩ := lt_e h
      refine pf_6_4 S d eM13 hk0 fl_RX5_29 dX5_readWord_112 (fun H locs d => ?_)
      refine lv_aload_n S.1 S.2.1 dX5_readWord_115 rfl (lv_at hl 0 rfl) ?_
      refine lv_aload_n S.1 S.2.1 dX5_readWord_116 rfl (lv_at hl 1 rfl) ?_
      obtain ⟨u14, hu14, h⟩ := bd_e h
      refine r_ri d (r_cV (As := [.ref (ad G k1)]) (rest := []) S d (c_X5_readPay l G M13 L fu k0 k1 hk0 hk1 hu14) (ksdC S hk0) (wc_6 hk0) rfl ml_RX5_56 im_yX5_readPay se_yX5_readPay in_RX5 co_yX5_readPay hyV_X5_readPay ⟨rfl, rfl⟩ ⟨by decide, by decide⟩ rfl hl rfl (Nat.le_of_ble_eq_true rfl) dX5_readWord_117 ⟨Nat.zero_le _, Nat.zero_le _⟩) (fun H locs d => ?_)
      obtain rfl := Option.some.inj h
      exact r_iret S d hr rfl rfl dX5_readWord_120
    · replace h := it_n cc h
      refine lv_iconst (v := 0) S.1 S.2.1 dX5_readWord_103 (by decide) ?_
      obtain rfl := Option.some.inj h
      exact r_iret S d hr rfl rfl dX5_readWord_104
  · replace h := it_p cc h
    refine lv_aload_n S.1 S.2.1 dX5_readWord_86 rfl (lv_at hl 0 rfl) ?_
    refine gf_6_4 S d hk0 fl_RX5_29 dX5_readWord_87 ?_
    obtain ⟨u11, hu11, h⟩ := bd_e h
    refine r_ri d (r_cS (As := [.int (M10 k0 4)]) (rest := []) S d (c_X5_faultAt l G M10 L (M10 k0 4) hu11) ml_RX5_37 sm_yX5_faultAt in_RX5 co_yX5_faultAt hyS_X5_faultAt ⟨rfl, rfl⟩ ⟨by decide, by decide⟩ rfl hl rfl (Nat.le_of_ble_eq_true rfl) dX5_readWord_90 ⟨Nat.zero_le _, Nat.zero_le _⟩) (fun H locs d => ?_)
    obtain rfl := Option.some.inj h
    exact r_iret S d hr rfl rfl dX5_readWord_93
theorem hyV_X5_readWords : yX5_readWords.cls = RX5 ∧ yX5_readWords.cls ≠ "java/lang/invoke/MethodHandle" ∧ yX5_readWords.cls ≠ "java/lang/invoke/VarHandle" ∧ (parseMethodDescriptor yX5_readWords.desc).map (fun d => d.parameters.length) = some 0 := by decide +kernel
abbrev rm_X5_readWords : Room := { frames := 4, cells := 0, slots := 0, locals := 85 }
def lp_X5_readWords_7 (fu : Nat) (b0 : Nat) (K : Mem → Option (Int32 × Mem)) : Nat → Int32 → Mem → Option (Int32 × Mem)
  | 0, _, _ => none
  | n + 1, x1, Mx =>
    (if (4 : Int32) ≤ x1 then (K Mx)
    else gd (inb x1 4) (
      (f_X5_readWord fu Mx b0 ((b0 + 3) + 1 + 2 * x1.toNatClampNeg)).bind (fun u3 =>
      lt (u3.1) (fun v4 : Int32 =>
      (if v4 = 0 then (f_X5_nextSign fu u3.2 b0).bind (fun u5 =>
        lt (u5.1) (fun v6 : Int32 =>
        (if v6 = (-1 : Int32) then some ((x1 + (1 : Int32)), u5.2)
        else (if v6 = (44 : Int32) then (if (x1 + (1 : Int32)) = (4 : Int32) then (f_X5_faultAt (u5.2 b0 4)).bind (fun u7 =>
              some (u7, u5.2))
            else lt (up u5.2 b0 4 ((u5.2 b0 4) + (1 : Int32))) (fun M8 : Mem =>
              lt (x1 + 1) (fun v9 : Int32 =>
              (lp_X5_readWords_7 fu b0 K n v9 M8))))
          else (f_X5_faultAt (u5.2 b0 4)).bind (fun u10 =>
            some (u10, u5.2))))))
      else some (v4, u3.2))))))
def f_X5_readWords (fu : Nat) (M : Mem) (k0 : Nat) : Option (Int32 × Mem) :=
  lt (up M k0 4 (0 : Int32)) (fun M1 : Mem =>
  (lp_X5_readWords_7 fu k0 (fun (M11 : Mem) =>
    (f_X5_faultAt (M11 k0 4)).bind (fun u12 =>
    some (u12, M11))) fu (0 : Int32) M1))
set_option maxHeartbeats 4000000 in
set_option maxRecDepth 100000 in
theorem lc_X5_readWords_7 {p : Program} {l : Launch} {e : Env} {s : State} {m : MethodId} {args : Array Value} {below : List Frame} {meth : Method} {c : Code} {G : Gx} {L : MemL} {fu : Nat} {b0 : Nat} {z : Int32 × Mem} (S : Sx G false p s m args meth c cX5_readWords 4 RX5) (hr : meth.sig.returnType = (Option.some Jvm.ClassFile.FieldType.int)) (hb0 : kd b0 = 6) (K : Mem → Option (Int32 × Mem)) (hK : ∀ (My : Mem) (H : Heap) (locs : List Loc), Dy G s My L H locs → ∀ ls : Array Slot, lv_has ls 4 [(0, .ref (ad G b0))] → K My = some z → W p l e rm_X5_readWords s m args below meth c H locs 0 0 (MQ below (Qi G z.1 z.2 L) args s 0 0 (gA G)) (F0 m 80 ls [])) :
    ∀ (n : Nat) (x1 : Int32) (Mx : Mem), lp_X5_readWords_7 fu b0 K n x1 Mx = some z → ∀ (H : Heap) (locs : List Loc), Dy G s Mx L H locs → ∀ ls : Array Slot, lv_has ls 4 [(0, .ref (ad G b0)), (1, .int x1)] → W p l e rm_X5_readWords s m args below meth c H locs 0 0 (MQ below (Qi G z.1 z.2 L) args s 0 0 (gA G)) (F0 m 7 ls []) := by
  intro n
  induction n with
  | zero =>
    intro x1 Mx h
    have h : (none : Option (Int32 × Mem)) = some z := h
    cases h
  | succ n ih =>
    intro x1 Mx h H locs d ls hl
    rw [lp_X5_readWords_7] at h
    refine lv_iload_n S.1 S.2.1 dX5_readWords_7 rfl (lv_at hl 1 rfl) ?_
    refine lv_iconst (v := 4) S.1 S.2.1 dX5_readWords_8 (by decide) ?_
    refine lv_icmp_ge (tgt := 80) S.1 S.2.1 dX5_readWords_9 (by decide) (fun cc => ?_) (fun cc => ?_)
    · replace h := it_p cc h
      exact hK _ _ _ d _ (lv_sub hl [0] rfl) h
    · replace h := it_n cc h
      refine lv_aload_n S.1 S.2.1 dX5_readWords_12 rfl (lv_at hl 0 rfl) ?_
      refine lv_aload_n S.1 S.2.1 dX5_readWords_13 rfl (lv_at hl 0 rfl) ?_
      refine gf_6_3 S d hb0 fl_RX5_25 dX5_readWords_14 ?_
      refine lv_iload_n S.1 S.2.1 dX5_readWords_17 rfl (lv_at hl 1 rfl) ?_
      obtain ⟨g2, h⟩ := gd_e h
      refine r_aald S d (ksdC S (ch_6_3 hb0).1) (wc_15 (ch_6_3 hb0).1) rfl rfl g2 (if_pos (inb_lt g2)) dX5_readWords_18 ?_
      obtain ⟨u3, hu3, h⟩ := bd_e h
      refine r_ri d (r_cV (As := [.ref (ad G ((b0 + 3) + 1 + 2 * x1.toNatClampNeg))]) (rest := []) S d (c_X5_readWord l G Mx L fu b0 ((b0 + 3) + 1 + 2 * x1.toNatClampNeg) hb0 (ca_15 (ch_6_3 hb0).1 (inb_lt g2)).1 hu3) (ksdC S hb0) (wc_6 hb0) rfl ml_RX5_41 im_yX5_readWord se_yX5_readWord in_RX5 co_yX5_readWord hyV_X5_readWord ⟨rfl, rfl⟩ ⟨by decide, by decide⟩ rfl hl rfl (Nat.le_of_ble_eq_true rfl) dX5_readWords_19 ⟨Nat.zero_le _, Nat.zero_le _⟩) (fun H locs d => ?_)
      obtain ⟨v4, ev4, h⟩ := lt_e h
      refine r_top ev4 ?_
      refine lv_istore_n (lv' := [(2, .int v4), (0, .ref (ad G b0)), (1, .int x1)]) S.1 S.2.1 dX5_readWords_22 rfl hl (by decide) rfl (fun ls hl => ?_)
      refine lv_iload_n S.1 S.2.1 dX5_readWords_23 rfl (lv_at hl 0 rfl) ?_
      refine lv_if_eq (tgt := 29) S.1 S.2.1 dX5_readWords_24 (by decide) (fun cc => ?_) (fun cc => ?_)
      · replace h := it_p cc h
        refine lv_aload_n S.1 S.2.1 dX5_readWords_29 rfl (lv_at hl 1 rfl) ?_
        obtain ⟨u5, hu5, h⟩ := bd_e h
        refine r_ri d (r_cV (As := []) (rest := []) S d (c_X5_nextSign l G u3.2 L fu b0 hb0 hu5) (ksdC S hb0) (wc_6 hb0) rfl ml_RX5_45 im_yX5_nextSign se_yX5_nextSign in_RX5 co_yX5_nextSign hyV_X5_nextSign ⟨rfl, rfl⟩ ⟨by decide, by decide⟩ rfl hl rfl (Nat.le_of_ble_eq_true rfl) dX5_readWords_30 ⟨Nat.zero_le _, Nat.zero_le _⟩) (fun H locs d => ?_)
        obtain ⟨v6, ev6, h⟩ := lt_e h
        refine r_top ev6 ?_
        refine lv_istore_n (lv' := [(3, .int v6), (2, .int v4), (0, .ref (ad G b0)), (1, .int x1)]) S.1 S.2.1 dX5_readWords_33 rfl hl (by decide) rfl (fun ls hl => ?_)
        refine lv_iload_n S.1 S.2.1 dX5_readWords_34 rfl (lv_at hl 0 rfl) ?_
        refine lv_iconst (v := (-1)) S.1 S.2.1 dX5_readWords_35 (by decide) ?_
        refine lv_icmp_ne (tgt := 43) S.1 S.2.1 dX5_readWords_36 (by decide) (fun cc => ?_) (fun cc => ?_)
        · replace h := it_n cc h
          refine lv_iload_n S.1 S.2.1 dX5_readWords_43 rfl (lv_at hl 0 rfl) ?_
          refine lv_bipush (v := 44) S.1 S.2.1 dX5_readWords_44 (by decide) ?_
          refine lv_icmp_ne (tgt := 56) S.1 S.2.1 dX5_readWords_46 (by decide) (fun cc => ?_) (fun cc => ?_)
          · replace h := it_n cc h
            refine lv_aload_n S.1 S.2.1 dX5_readWords_56 rfl (lv_at hl 2 rfl) ?_
            refine gf_6_4 S d hb0 fl_RX5_29 dX5_readWords_57 ?_
            obtain ⟨u10, hu10, h⟩ := bd_e h
            refine r_ri d (r_cS (As := [.int (u5.2 b0 4)]) (rest := []) S d (c_X5_faultAt l G u5.2 L (u5.2 b0 4) hu10) ml_RX5_37 sm_yX5_faultAt in_RX5 co_yX5_faultAt hyS_X5_faultAt ⟨rfl, rfl⟩ ⟨by decide, by decide⟩ rfl hl rfl (Nat.le_of_ble_eq_true rfl) dX5_readWords_60 ⟨Nat.zero_le _, Nat.zero_le _⟩) (fun H locs d => ?_)
            obtain rfl := Option.some.inj h
            exact r_iret S d hr rfl rfl dX5_readWords_63
          · replace h := it_p cc h
            refine lv_iload_n S.1 S.2.1 dX5_readWords_49 rfl (lv_at hl 3 rfl) ?_
            refine lv_iconst (v := 1) S.1 S.2.1 dX5_readWords_50 (by decide) ?_
            refine lv_iadd S.1 S.2.1 dX5_readWords_51 ?_
            refine lv_iconst (v := 4) S.1 S.2.1 dX5_readWords_52 (by decide) ?_
            refine lv_icmp_ne (tgt := 64) S.1 S.2.1 dX5_readWords_53 (by decide) (fun cc => ?_) (fun cc => ?_)
            · replace h := it_n cc h
              refine lv_aload_n S.1 S.2.1 dX5_readWords_64 rfl (lv_at hl 2 rfl) ?_
              refine lv_dup S.1 S.2.1 dX5_readWords_65 rfl ?_
              refine gf_6_4 S d hb0 fl_RX5_29 dX5_readWords_66 ?_
              refine lv_iconst (v := 1) S.1 S.2.1 dX5_readWords_69 (by decide) ?_
              refine lv_iadd S.1 S.2.1 dX5_readWords_70 ?_
              obtain ⟨M8, eM8, h⟩ := lt_e h
              refine pf_6_4 S d eM8 hb0 fl_RX5_29 dX5_readWords_71 (fun H locs d => ?_)
              obtain ⟨v9, ev9, h⟩ := lt_e h
              refine lv_iinc (v := v9) (lv' := [(1, .int v9), (3, .int v6), (2, .int v4), (0, .ref (ad G b0))]) S.1 S.2.1 dX5_readWords_74 hl (k := 3) rfl (by rw [ev9]; rfl) (by decide) rfl (fun ls hl => ?_)
              refine lv_goto (tgt := 7) S.1 S.2.1 dX5_readWords_77 (by decide) ?_
              exact ih _ _ h _ _ d _ (lv_sub hl [3, 0] rfl)
            · replace h := it_p cc h
              refine lv_aload_n S.1 S.2.1 dX5_readWords_56 rfl (lv_at hl 2 rfl) ?_
              refine gf_6_4 S d hb0 fl_RX5_29 dX5_readWords_57 ?_
              obtain ⟨u7, hu7, h⟩ := bd_e h
              refine r_ri d (r_cS (As := [.int (u5.2 b0 4)]) (rest := []) S d (c_X5_faultAt l G u5.2 L (u5.2 b0 4) hu7) ml_RX5_37 sm_yX5_faultAt in_RX5 co_yX5_faultAt hyS_X5_faultAt ⟨rfl, rfl⟩ ⟨by decide, by decide⟩ rfl hl rfl (Nat.le_of_ble_eq_true rfl) dX5_readWords_60 ⟨Nat.zero_le _, Nat.zero_le _⟩) (fun H locs d => ?_)
              obtain rfl := Option.some.inj h
              exact r_iret S d hr rfl rfl dX5_readWords_63
        · replace h := it_p cc h
          refine lv_iload_n S.1 S.2.1 dX5_readWords_39 rfl (lv_at hl 3 rfl) ?_
          refine lv_iconst (v := 1) S.1 S.2.1 dX5_readWords_40 (by decide) ?_
          refine lv_iadd S.1 S.2.1 dX5_readWords_41 ?_
          obtain rfl := Option.some.inj h
          exact r_iret S d hr rfl rfl dX5_readWords_42
      · replace h := it_n cc h
        refine lv_iload_n S.1 S.2.1 dX5_readWords_27 rfl (lv_at hl 0 rfl) ?_
        obtain rfl := Option.some.inj h
        exact r_iret S d hr rfl rfl dX5_readWords_28
set_option maxHeartbeats 4000000 in
set_option maxRecDepth 100000 in
theorem c_X5_readWords (l : Launch) (G : Gx) (M : Mem) (L : MemL) (fu : Nat) (k0 : Nat) (hk0 : kd k0 = 6) {z : Int32 × Mem} (h : f_X5_readWords fu M k0 = some z) : Met l yX5_readWords (.code yX5_readWords cX5_readWords 4 (Option.some Jvm.ClassFile.FieldType.int) :: UW) rm_X5_readWords (va_Pc [.ref (ad G k0)] (PreG G false M L)) (Qi G z.1 z.2 L) 0 0 (gA G) := by
  refine r_in (by decide) (fun p e s m args below meth c S hr d ha ls hl => ?_) (Nat.le_of_ble_eq_true rfl)
  have S : Sx G false p s m args meth c cX5_readWords 4 RX5 := S
  have hl : lv_has ls 4 [(0, .ref (ad G k0))] := hl
  unfold f_X5_readWords at h
  refine lv_aload_n S.1 S.2.1 dX5_readWords_0 rfl (lv_at hl 0 rfl) ?_
  refine lv_iconst (v := 0) S.1 S.2.1 dX5_readWords_1 (by decide) ?_
  obtain ⟨M1, eM1, h⟩ := lt_e h
  refine pf_6_4 S d eM1 hk0 fl_RX5_29 dX5_readWords_2 (fun H locs d => ?_)
  refine lv_iconst (v := 0) S.1 S.2.1 dX5_readWords_5 (by decide) ?_
  refine lv_istore_n (lv' := [(1, .int (0 : Int32)), (0, .ref (ad G k0))]) S.1 S.2.1 dX5_readWords_6 rfl hl (by decide) rfl (fun ls hl => ?_)
  refine lc_X5_readWords_7 S hr hk0 _ (fun M11 H locs d ls hl h => ?_) _ _ _  h _ _ d _ (lv_sub hl [1, 0] rfl)
  refine lv_aload_n S.1 S.2.1 dX5_readWords_80 rfl (lv_at hl 0 rfl) ?_
  refine gf_6_4 S d hk0 fl_RX5_29 dX5_readWords_81 ?_
  obtain ⟨u12, hu12, h⟩ := bd_e h
  refine r_ri d (r_cS (As := [.int (M11 k0 4)]) (rest := []) S d (c_X5_faultAt l G M11 L (M11 k0 4) hu12) ml_RX5_37 sm_yX5_faultAt in_RX5 co_yX5_faultAt hyS_X5_faultAt ⟨rfl, rfl⟩ ⟨by decide, by decide⟩ rfl hl rfl (Nat.le_of_ble_eq_true rfl) dX5_readWords_84 ⟨Nat.zero_le _, Nat.zero_le _⟩) (fun H locs d => ?_)
  obtain rfl := Option.some.inj h
  exact r_iret S d hr rfl rfl dX5_readWords_87
theorem hyV_X6_copyFrom : yX6_copyFrom.cls = RX6 ∧ yX6_copyFrom.cls ≠ "java/lang/invoke/MethodHandle" ∧ yX6_copyFrom.cls ≠ "java/lang/invoke/VarHandle" ∧ (parseMethodDescriptor yX6_copyFrom.desc).map (fun d => d.parameters.length) = some 1 := by decide +kernel
abbrev rm_X6_copyFrom : Room := { frames := 1, cells := 0, slots := 0, locals := 26 }
def f_X6_copyFrom (M : Mem) (k0 : Nat) (k1 : Nat) : Option (Mem) :=
  lt (up M k0 0 (M k1 0)) (fun M1 : Mem =>
  lt (up M1 k0 1 (M1 k1 1)) (fun M2 : Mem =>
  gd (decide (¬ (0 : Int32) < 0 ∧ ¬ (0 : Int32) < 0 ∧ ¬ (6 : Int32) < 0 ∧ (0 : Int32).toNatClampNeg + (6 : Int32).toNatClampNeg ≤ 6 ∧ (0 : Int32).toNatClampNeg + (6 : Int32).toNatClampNeg ≤ 6)) (
  lt (upR M2 (k0 + 1) (va_cpy (M2 (k1 + 1)) (M2 (k0 + 1)) (0 : Int32).toNatClampNeg (0 : Int32).toNatClampNeg (6 : Int32).toNatClampNeg)) (fun M3 : Mem =>
  some (M3)))))
set_option maxHeartbeats 4000000 in
set_option maxRecDepth 100000 in
theorem c_X6_copyFrom (l : Launch) (G : Gx) (M : Mem) (L : MemL) (k0 : Nat) (k1 : Nat) (hk0 : kd k0 = 3) (hk1 : kd k1 = 3) {z : Mem} (h : f_X6_copyFrom M k0 k1 = some z) : Met l yX6_copyFrom (.code yX6_copyFrom cX6_copyFrom 2 (Option.none : Option Jvm.ClassFile.FieldType) :: UW) rm_X6_copyFrom (va_Pc [.ref (ad G k0), .ref (ad G k1)] (PreG G false M L)) (Qv G z L) 0 0 (gA G) := by
  refine r_in (by decide) (fun p e s m args below meth c S hr d ha ls hl => ?_) (Nat.le_of_ble_eq_true rfl)
  have S : Sx G false p s m args meth c cX6_copyFrom 2 RX6 := S
  have hl : lv_has ls 2 [(0, .ref (ad G k0)), (1, .ref (ad G k1))] := hl
  unfold f_X6_copyFrom at h
  refine lv_aload_n S.1 S.2.1 dX6_copyFrom_0 rfl (lv_at hl 0 rfl) ?_
  refine lv_aload_n S.1 S.2.1 dX6_copyFrom_1 rfl (lv_at hl 1 rfl) ?_
  refine gf_3_0 S d hk1 fl_RX6_9 dX6_copyFrom_2 ?_
  obtain ⟨M1, eM1, h⟩ := lt_e h
  refine pf_3_0 S d eM1 hk0 fl_RX6_9 dX6_copyFrom_5 (fun H locs d => ?_)
  refine lv_aload_n S.1 S.2.1 dX6_copyFrom_8 rfl (lv_at hl 0 rfl) ?_
  refine lv_aload_n S.1 S.2.1 dX6_copyFrom_9 rfl (lv_at hl 1 rfl) ?_
  refine gf_3_1 S d hk1 fl_RX6_15 dX6_copyFrom_10 ?_
  obtain ⟨M2, eM2, h⟩ := lt_e h
  refine pf_3_1 S d eM2 hk0 fl_RX6_15 dX6_copyFrom_13 (fun H locs d => ?_)
  refine lv_aload_n S.1 S.2.1 dX6_copyFrom_16 rfl (lv_at hl 1 rfl) ?_
  refine gf_3_2 S d hk1 fl_RX6_18 dX6_copyFrom_17 ?_
  refine lv_iconst (v := 0) S.1 S.2.1 dX6_copyFrom_20 (by decide) ?_
  refine lv_aload_n S.1 S.2.1 dX6_copyFrom_21 rfl (lv_at hl 0 rfl) ?_
  refine gf_3_2 S d hk0 fl_RX6_18 dX6_copyFrom_22 ?_
  refine lv_iconst (v := 0) S.1 S.2.1 dX6_copyFrom_25 (by decide) ?_
  refine lv_bipush (v := 6) S.1 S.2.1 dX6_copyFrom_26 (by decide) ?_
  obtain ⟨g4, h⟩ := gd_e h
  obtain ⟨M3, eM3, h⟩ := lt_e h
  refine r_cpy S d hl eM3 (ksdC S (ch_3_2 hk1).1) (ksdC S (ch_3_2 hk0).1) (fun _ => wc_10 (ch_3_2 hk1).1) (fun _ => wc_10 (ch_3_2 hk0).1) (ch_3_2 hk1).2 (ch_3_2 hk0).2 g4 ml_RX6_22 ⟨by decide, Nat.le_of_ble_eq_true rfl⟩ dX6_copyFrom_28 (fun H locs d => ?_)
  obtain rfl := Option.some.inj h
  exact r_vret S d hr dX6_copyFrom_31
theorem hyV_X0_addWord : yX0_addWord.cls = RX0 ∧ yX0_addWord.cls ≠ "java/lang/invoke/MethodHandle" ∧ yX0_addWord.cls ≠ "java/lang/invoke/VarHandle" ∧ (parseMethodDescriptor yX0_addWord.desc).map (fun d => d.parameters.length) = some 1 := by decide +kernel
abbrev rm_X0_addWord : Room := { frames := 2, cells := 0, slots := 0, locals := 47 }
def f_X0_addWord (M : Mem) (k0 : Nat) (k1 : Nat) : Option (Mem) :=
  (if (10 : Int32) ≤ (M k0 4) then some (M)
  else gd (inb (M k0 4) 10) (
    (f_X6_copyFrom M ((k0 + 3) + 21 + 2 * (M k0 4).toNatClampNeg) k1).bind (fun u2 =>
    lt (up u2 k0 4 ((u2 k0 4) + (1 : Int32))) (fun M3 : Mem =>
    some (M3)))))
set_option maxHeartbeats 4000000 in
set_option maxRecDepth 100000 in
theorem c_X0_addWord (l : Launch) (G : Gx) (M : Mem) (L : MemL) (k0 : Nat) (k1 : Nat) (hk0 : kd k0 = 1) (hk1 : kd k1 = 3) {z : Mem} (h : f_X0_addWord M k0 k1 = some z) : Met l yX0_addWord (.code yX0_addWord cX0_addWord 2 (Option.none : Option Jvm.ClassFile.FieldType) :: UW) rm_X0_addWord (va_Pc [.ref (ad G k0), .ref (ad G k1)] (PreG G false M L)) (Qv G z L) 0 0 (gA G) := by
  refine r_in (by decide) (fun p e s m args below meth c S hr d ha ls hl => ?_) (Nat.le_of_ble_eq_true rfl)
  have S : Sx G false p s m args meth c cX0_addWord 2 RX0 := S
  have hl : lv_has ls 2 [(0, .ref (ad G k0)), (1, .ref (ad G k1))] := hl
  unfold f_X0_addWord at h
  refine lv_aload_n S.1 S.2.1 dX0_addWord_0 rfl (lv_at hl 0 rfl) ?_
  refine gf_1_4 S d hk0 fl_RX0_34 dX0_addWord_1 ?_
  refine lv_bipush (v := 10) S.1 S.2.1 dX0_addWord_4 (by decide) ?_
  refine lv_icmp_ge (tgt := 32) S.1 S.2.1 dX0_addWord_6 (by decide) (fun cc => ?_) (fun cc => ?_)
  · replace h := it_p cc h
    obtain rfl := Option.some.inj h
    exact r_vret S d hr dX0_addWord_32
  · replace h := it_n cc h
    refine lv_aload_n S.1 S.2.1 dX0_addWord_9 rfl (lv_at hl 0 rfl) ?_
    refine gf_1_3 S d hk0 fl_RX0_30 dX0_addWord_10 ?_
    refine lv_aload_n S.1 S.2.1 dX0_addWord_13 rfl (lv_at hl 0 rfl) ?_
    refine gf_1_4 S d hk0 fl_RX0_34 dX0_addWord_14 ?_
    obtain ⟨g1, h⟩ := gd_e h
    refine r_aald S d (ksdC S (ch_1_3 hk0).1) (wc_14 (ch_1_3 hk0).1) rfl rfl g1 (if_pos (inb_lt g1)) dX0_addWord_17 ?_
    refine lv_aload_n S.1 S.2.1 dX0_addWord_18 rfl (lv_at hl 1 rfl) ?_
    obtain ⟨u2, hu2, h⟩ := bd_e h
    refine r_rv d (r_cV (As := [.ref (ad G k1)]) (rest := []) S d (c_X6_copyFrom l G M L ((k0 + 3) + 21 + 2 * (M k0 4).toNatClampNeg) k1 (ca_14 (ch_1_3 hk0).1 (inb_lt g1)).1 hk1 hu2) (ksdC S (ca_14 (ch_1_3 hk0).1 (inb_lt g1)).1) (wc_3 (ca_14 (ch_1_3 hk0).1 (inb_lt g1)).1) rfl ml_RX0_55 im_yX6_copyFrom se_yX6_copyFrom in_RX6 co_yX6_copyFrom hyV_X6_copyFrom ⟨rfl, rfl⟩ ⟨by decide, by decide⟩ rfl hl rfl (Nat.le_of_ble_eq_true rfl) dX0_addWord_19 ⟨Nat.zero_le _, Nat.zero_le _⟩) (fun H locs d => ?_)
    refine lv_aload_n S.1 S.2.1 dX0_addWord_22 rfl (lv_at hl 0 rfl) ?_
    refine lv_dup S.1 S.2.1 dX0_addWord_23 rfl ?_
    refine gf_1_4 S d hk0 fl_RX0_34 dX0_addWord_24 ?_
    refine lv_iconst (v := 1) S.1 S.2.1 dX0_addWord_27 (by decide) ?_
    refine lv_iadd S.1 S.2.1 dX0_addWord_28 ?_
    obtain ⟨M3, eM3, h⟩ := lt_e h
    refine pf_1_4 S d eM3 hk0 fl_RX0_34 dX0_addWord_29 (fun H locs d => ?_)
    obtain rfl := Option.some.inj h
    exact r_vret S d hr dX0_addWord_32
