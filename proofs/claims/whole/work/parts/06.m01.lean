theorem hyV_X7_words : yX7_words.cls = RX7 ∧ yX7_words.cls ≠ "java/lang/invoke/MethodHandle" ∧ yX7_words.cls ≠ "java/lang/invoke/VarHandle" ∧ (parseMethodDescriptor yX7_words.desc).map (fun d => d.parameters.length) = some 0 := by decide +kernel
abbrev rm_X7_words : Room := { frames := 5, cells := 0, slots := 0, locals := 108 }
def lp_X7_words_35 (fu : Nat) (b0 : Nat) (b1 : Int32) (K : Mem → Option (Int32 × Mem)) : Nat → Int32 → Mem → Option (Int32 × Mem)
  | 0, _, _ => none
  | n + 1, x2, Mx =>
    (if b1 ≤ x2 then (K Mx)
    else gd (inb x2 4) (
      (f_X0_addWord Mx (b0 + 1) (((b0 + 158) + 3) + 1 + 2 * x2.toNatClampNeg)).bind (fun u5 =>
      lt (x2 + 1) (fun v6 : Int32 =>
      (lp_X7_words_35 fu b0 b1 K n v6 u5)))))
def f_X7_words (fu : Nat) (M : Mem) (k0 : Nat) : Option (Int32 × Mem) :=
  (f_X5_readWords fu M (k0 + 158)).bind (fun u1 =>
  lt (u1.1) (fun v2 : Int32 =>
  lt (up u1.2 (k0 + 158) 1 (0 : Int32)) (fun M3 : Mem =>
  (if v2 ≤ ((10 : Int32) - (M3 (k0 + 1) 4)) then (lp_X7_words_35 fu k0 v2 (fun (M7 : Mem) =>
      some (v2, M7)) fu (0 : Int32) M3)
  else some ((-3 : Int32), M3)))))
set_option maxHeartbeats 4000000 in
set_option maxRecDepth 100000 in
theorem lc_X7_words_35 {p : Program} {l : Launch} {e : Env} {s : State} {m : MethodId} {args : Array Value} {below : List Frame} {meth : Method} {c : Code} {G : Gx} {L : MemL} {fu : Nat} {b0 : Nat} {b1 : Int32} {z : Int32 × Mem} (S : Sx G false p s m args meth c cX7_words 3 RX7) (hr : meth.sig.returnType = (Option.some Jvm.ClassFile.FieldType.int)) (hb0 : kd b0 = 0) (K : Mem → Option (Int32 × Mem)) (hK : ∀ (My : Mem) (H : Heap) (locs : List Loc), Dy G s My L H locs → ∀ ls : Array Slot, lv_has ls 3 [(1, .int b1)] → K My = some z → W p l e rm_X7_words s m args below meth c H locs 0 0 (MQ below (Qi G z.1 z.2 L) args s 0 0 (gA G)) (F0 m 62 ls [])) :
    ∀ (n : Nat) (x2 : Int32) (Mx : Mem), lp_X7_words_35 fu b0 b1 K n x2 Mx = some z → ∀ (H : Heap) (locs : List Loc), Dy G s Mx L H locs → ∀ ls : Array Slot, lv_has ls 3 [(0, .ref (ad G b0)), (1, .int b1), (2, .int x2)] → W p l e rm_X7_words s m args below meth c H locs 0 0 (MQ below (Qi G z.1 z.2 L) args s 0 0 (gA G)) (F0 m 35 ls []) := by
  intro n
  induction n with
  | zero =>
    intro x2 Mx h
    have h : (none : Option (Int32 × Mem)) = some z := h
    cases h
  | succ n ih =>
    intro x2 Mx h H locs d ls hl
    rw [lp_X7_words_35] at h
    refine lv_iload_n S.1 S.2.1 dX7_words_35 rfl (lv_at hl 2 rfl) ?_
    refine lv_iload_n S.1 S.2.1 dX7_words_36 rfl (lv_at hl 1 rfl) ?_
    refine lv_icmp_ge (tgt := 62) S.1 S.2.1 dX7_words_37 (by decide) (fun cc => ?_) (fun cc => ?_)
    · replace h := it_p cc h
      exact hK _ _ _ d _ (lv_sub hl [1] rfl) h
    · replace h := it_n cc h
      refine lv_aload_n S.1 S.2.1 dX7_words_40 rfl (lv_at hl 0 rfl) ?_
      refine gf_0_0 S d hb0 fl_RX7_12 dX7_words_41 ?_
      refine lv_aload_n S.1 S.2.1 dX7_words_44 rfl (lv_at hl 0 rfl) ?_
      refine gf_0_5 S d hb0 fl_RX7_40 dX7_words_45 ?_
      refine gf_6_3 S d (ch_0_5 hb0).1 fl_RX7_136 dX7_words_48 ?_
      refine lv_iload_n S.1 S.2.1 dX7_words_51 rfl (lv_at hl 2 rfl) ?_
      obtain ⟨g4, h⟩ := gd_e h
      refine r_aald S d (ksdC S (ch_6_3 (ch_0_5 hb0).1).1) (wc_15 (ch_6_3 (ch_0_5 hb0).1).1) rfl rfl g4 (if_pos (inb_lt g4)) dX7_words_52 ?_
      obtain ⟨u5, hu5, h⟩ := bd_e h
      refine r_rv d (r_cV (As := [.ref (ad G (((b0 + 158) + 3) + 1 + 2 * x2.toNatClampNeg))]) (rest := []) S d (c_X0_addWord l G Mx L (b0 + 1) (((b0 + 158) + 3) + 1 + 2 * x2.toNatClampNeg) (ch_0_0 hb0).1 (ca_15 (ch_6_3 (ch_0_5 hb0).1).1 (inb_lt g4)).1 hu5) (ksdC S (ch_0_0 hb0).1) (wc_1 (ch_0_0 hb0).1) rfl ml_RX7_140 im_yX0_addWord se_yX0_addWord in_RX0 co_yX0_addWord hyV_X0_addWord ⟨rfl, rfl⟩ ⟨by decide, by decide⟩ rfl hl rfl (Nat.le_of_ble_eq_true rfl) dX7_words_53 ⟨Nat.zero_le _, Nat.zero_le _⟩) (fun H locs d => ?_)
      obtain ⟨v6, ev6, h⟩ := lt_e h
      refine lv_iinc (v := v6) (lv' := [(2, .int v6), (0, .ref (ad G b0)), (1, .int b1)]) S.1 S.2.1 dX7_words_56 hl (k := 2) rfl (by rw [ev6]; rfl) (by decide) rfl (fun ls hl => ?_)
      refine lv_goto (tgt := 35) S.1 S.2.1 dX7_words_59 (by decide) ?_
      exact ih _ _ h _ _ d _ (lv_sub hl [1, 2, 0] rfl)
set_option maxHeartbeats 4000000 in
set_option maxRecDepth 100000 in
theorem c_X7_words (l : Launch) (G : Gx) (M : Mem) (L : MemL) (fu : Nat) (k0 : Nat) (hk0 : kd k0 = 0) {z : Int32 × Mem} (h : f_X7_words fu M k0 = some z) : Met l yX7_words (.code yX7_words cX7_words 3 (Option.some Jvm.ClassFile.FieldType.int) :: UW) rm_X7_words (va_Pc [.ref (ad G k0)] (PreG G false M L)) (Qi G z.1 z.2 L) 0 0 (gA G) := by
  refine r_in (by decide) (fun p e s m args below meth c S hr d ha ls hl => ?_) (Nat.le_of_ble_eq_true rfl)
  have S : Sx G false p s m args meth c cX7_words 3 RX7 := S
  have hl : lv_has ls 3 [(0, .ref (ad G k0))] := hl
  unfold f_X7_words at h
  refine lv_aload_n S.1 S.2.1 dX7_words_0 rfl (lv_at hl 0 rfl) ?_
  refine gf_0_5 S d hk0 fl_RX7_40 dX7_words_1 ?_
  obtain ⟨u1, hu1, h⟩ := bd_e h
  refine r_ri d (r_cV (As := []) (rest := []) S d (c_X5_readWords l G M L fu (k0 + 158) (ch_0_5 hk0).1 hu1) (ksdC S (ch_0_5 hk0).1) (wc_6 (ch_0_5 hk0).1) rfl ml_RX7_130 im_yX5_readWords se_yX5_readWords in_RX5 co_yX5_readWords hyV_X5_readWords ⟨rfl, rfl⟩ ⟨by decide, by decide⟩ rfl hl rfl (Nat.le_of_ble_eq_true rfl) dX7_words_4 ⟨Nat.zero_le _, Nat.zero_le _⟩) (fun H locs d => ?_)
  obtain ⟨v2, ev2, h⟩ := lt_e h
  refine r_top ev2 ?_
  refine lv_istore_n (lv' := [(1, .int v2), (0, .ref (ad G k0))]) S.1 S.2.1 dX7_words_7 rfl hl (by decide) rfl (fun ls hl => ?_)
  refine lv_aload_n S.1 S.2.1 dX7_words_8 rfl (lv_at hl 1 rfl) ?_
  refine gf_0_5 S d hk0 fl_RX7_40 dX7_words_9 ?_
  refine lv_iconst (v := 0) S.1 S.2.1 dX7_words_12 (by decide) ?_
  obtain ⟨M3, eM3, h⟩ := lt_e h
  refine pf_6_1 S d eM3 (ch_0_5 hk0).1 fl_RX7_120 dX7_words_13 (fun H locs d => ?_)
  refine lv_iload_n S.1 S.2.1 dX7_words_16 rfl (lv_at hl 0 rfl) ?_
  refine lv_bipush (v := 10) S.1 S.2.1 dX7_words_17 (by decide) ?_
  refine lv_aload_n S.1 S.2.1 dX7_words_19 rfl (lv_at hl 1 rfl) ?_
  refine gf_0_0 S d hk0 fl_RX7_12 dX7_words_20 ?_
  refine gf_1_4 S d (ch_0_0 hk0).1 fl_RX7_133 dX7_words_23 ?_
  refine lv_isub S.1 S.2.1 dX7_words_26 ?_
  refine lv_icmp_le (tgt := 33) S.1 S.2.1 dX7_words_27 (by decide) (fun cc => ?_) (fun cc => ?_)
  · replace h := it_p cc h
    refine lv_iconst (v := 0) S.1 S.2.1 dX7_words_33 (by decide) ?_
    refine lv_istore_n (lv' := [(2, .int (0 : Int32)), (1, .int v2), (0, .ref (ad G k0))]) S.1 S.2.1 dX7_words_34 rfl hl (by decide) rfl (fun ls hl => ?_)
    refine lc_X7_words_35 S hr hk0 _ (fun M7 H locs d ls hl h => ?_) _ _ _  h _ _ d _ (lv_sub hl [2, 1, 0] rfl)
    refine lv_iload_n S.1 S.2.1 dX7_words_62 rfl (lv_at hl 0 rfl) ?_
    obtain rfl := Option.some.inj h
    exact r_iret S d hr rfl rfl dX7_words_63
  · replace h := it_n cc h
    refine lv_bipush (v := (-3)) S.1 S.2.1 dX7_words_30 (by decide) ?_
    obtain rfl := Option.some.inj h
    exact r_iret S d hr rfl rfl dX7_words_32
theorem hyV_X7_isWord : yX7_isWord.cls = RX7 ∧ yX7_isWord.cls ≠ "java/lang/invoke/MethodHandle" ∧ yX7_isWord.cls ≠ "java/lang/invoke/VarHandle" ∧ (parseMethodDescriptor yX7_isWord.desc).map (fun d => d.parameters.length) = some 1 := by decide +kernel
abbrev rm_X7_isWord : Room := { frames := 1, cells := 0, slots := 0, locals := 21 }
def f_X7_isWord (M : Mem) (k0 : Nat) (a1 : Int32) : Option (Int32) :=
  (f_X7_isBelow a1 (M (k0 + 1) 4)).bind (fun u1 =>
  gd (isZ u1) (
  some (u1)))
set_option maxHeartbeats 4000000 in
set_option maxRecDepth 100000 in
theorem c_X7_isWord (l : Launch) (G : Gx) (M : Mem) (L : MemL) (k0 : Nat) (a1 : Int32) (hk0 : kd k0 = 0) {z : Int32} (h : f_X7_isWord M k0 a1 = some z) : Met l yX7_isWord (.code yX7_isWord cX7_isWord 2 (Option.some Jvm.ClassFile.FieldType.boolean) :: UW) rm_X7_isWord (va_Pc [.ref (ad G k0), .int a1] (PreG G false M L)) (Qi G z M L) 0 0 (gA G) := by
  refine r_in (by decide) (fun p e s m args below meth c S hr d ha ls hl => ?_) (Nat.le_of_ble_eq_true rfl)
  have S : Sx G false p s m args meth c cX7_isWord 2 RX7 := S
  have hl : lv_has ls 2 [(0, .ref (ad G k0)), (1, .int a1)] := hl
  unfold f_X7_isWord at h
  refine lv_iload_n S.1 S.2.1 dX7_isWord_0 rfl (lv_at hl 1 rfl) ?_
  refine lv_aload_n S.1 S.2.1 dX7_isWord_1 rfl (lv_at hl 0 rfl) ?_
  refine gf_0_0 S d hk0 fl_RX7_12 dX7_isWord_2 ?_
  refine gf_1_4 S d (ch_0_0 hk0).1 fl_RX7_133 dX7_isWord_5 ?_
  obtain ⟨u1, hu1, h⟩ := bd_e h
  refine r_ri d (r_cS (As := [.int a1, .int (M (k0 + 1) 4)]) (rest := []) S d (c_X7_isBelow l G M L a1 (M (k0 + 1) 4) hu1) ml_RX7_51 sm_yX7_isBelow in_RX7 co_yX7_isBelow hyS_X7_isBelow ⟨rfl, rfl⟩ ⟨by decide, by decide⟩ rfl hl rfl (Nat.le_of_ble_eq_true rfl) dX7_isWord_8 ⟨Nat.zero_le _, Nat.zero_le _⟩) (fun H locs d => ?_)
  obtain ⟨gz, h⟩ := gd_e h
  obtain rfl := Option.some.inj h
  exact r_iret S d hr (isZ_nar gz) rfl dX7_isWord_11
theorem hyV_X7_told : yX7_told.cls = RX7 ∧ yX7_told.cls ≠ "java/lang/invoke/MethodHandle" ∧ yX7_told.cls ≠ "java/lang/invoke/VarHandle" ∧ (parseMethodDescriptor yX7_told.desc).map (fun d => d.parameters.length) = some 2 := by decide +kernel
abbrev rm_X7_told : Room := { frames := 2, cells := 0, slots := 0, locals := 42 }
def f_X7_told (M : Mem) (k0 : Nat) (a1 : Int32) (a2 : Int32) : Option (Int32) :=
  (f_X7_isWord M k0 a1).bind (fun u1 =>
  (if u1 = 0 then some ((-1 : Int32))
  else (if (-2 : Int32) ≤ a2 then gd (inb a1 10) (
      lt ((((k0 + 1) + 3) + 21 + 2 * a1.toNatClampNeg)) (fun r3 : Nat =>
      (if a2 = (-2 : Int32) then some ((M r3 1))
      else (if a2 = (-1 : Int32) then some ((M r3 0))
        else (if (M r3 0) ≤ a2 then some ((-4 : Int32))
          else gd (inb a2 6) (
            some ((M (r3 + 1) a2.toNatClampNeg))))))))
    else some ((-1 : Int32)))))
set_option maxHeartbeats 4000000 in
set_option maxRecDepth 100000 in
theorem c_X7_told (l : Launch) (G : Gx) (M : Mem) (L : MemL) (k0 : Nat) (a1 : Int32) (a2 : Int32) (hk0 : kd k0 = 0) {z : Int32} (h : f_X7_told M k0 a1 a2 = some z) : Met l yX7_told (.code yX7_told cX7_told 4 (Option.some Jvm.ClassFile.FieldType.int) :: UW) rm_X7_told (va_Pc [.ref (ad G k0), .int a1, .int a2] (PreG G false M L)) (Qi G z M L) 0 0 (gA G) := by
  refine r_in (by decide) (fun p e s m args below meth c S hr d ha ls hl => ?_) (Nat.le_of_ble_eq_true rfl)
  have S : Sx G false p s m args meth c cX7_told 4 RX7 := S
  have hl : lv_has ls 4 [(0, .ref (ad G k0)), (1, .int a1), (2, .int a2)] := hl
  unfold f_X7_told at h
  refine lv_aload_n S.1 S.2.1 dX7_told_0 rfl (lv_at hl 0 rfl) ?_
  refine lv_iload_n S.1 S.2.1 dX7_told_1 rfl (lv_at hl 1 rfl) ?_
  obtain ⟨u1, hu1, h⟩ := bd_e h
  refine r_ri d (r_cV (As := [.int a1]) (rest := []) S d (c_X7_isWord l G M L k0 a1 hk0 hu1) (ksdC S hk0) (wc_0 hk0) rfl ml_RX7_144 im_yX7_isWord se_yX7_isWord in_RX7 co_yX7_isWord hyV_X7_isWord ⟨rfl, rfl⟩ ⟨by decide, by decide⟩ rfl hl rfl (Nat.le_of_ble_eq_true rfl) dX7_told_2 ⟨Nat.zero_le _, Nat.zero_le _⟩) (fun H locs d => ?_)
  refine lv_if_eq (tgt := 14) S.1 S.2.1 dX7_told_5 (by decide) (fun cc => ?_) (fun cc => ?_)
  · replace h := it_p cc h
    refine lv_iconst (v := (-1)) S.1 S.2.1 dX7_told_14 (by decide) ?_
    obtain rfl := Option.some.inj h
    exact r_iret S d hr rfl rfl dX7_told_15
  · replace h := it_n cc h
    refine lv_iload_n S.1 S.2.1 dX7_told_8 rfl (lv_at hl 2 rfl) ?_
    refine lv_bipush (v := (-2)) S.1 S.2.1 dX7_told_9 (by decide) ?_
    refine lv_icmp_ge (tgt := 16) S.1 S.2.1 dX7_told_11 (by decide) (fun cc => ?_) (fun cc => ?_)
    · replace h := it_p cc h
      refine lv_aload_n S.1 S.2.1 dX7_told_16 rfl (lv_at hl 0 rfl) ?_
      refine gf_0_0 S d hk0 fl_RX7_12 dX7_told_17 ?_
      refine gf_1_3 S d (ch_0_0 hk0).1 fl_RX7_147 dX7_told_20 ?_
      refine lv_iload_n S.1 S.2.1 dX7_told_23 rfl (lv_at hl 1 rfl) ?_
      obtain ⟨g2, h⟩ := gd_e h
      refine r_aald S d (ksdC S (ch_1_3 (ch_0_0 hk0).1).1) (wc_14 (ch_1_3 (ch_0_0 hk0).1).1) rfl rfl g2 (if_pos (inb_lt g2)) dX7_told_24 ?_
      obtain ⟨r3, er3, h⟩ := lt_e h
      refine r_topr er3 ?_
      have hkr3 : kd r3 = 3 := by rw [er3]; exact (ca_14 (ch_1_3 (ch_0_0 hk0).1).1 (inb_lt g2)).1
      refine lv_astore_n (lv' := [(3, .ref (ad G r3)), (0, .ref (ad G k0)), (1, .int a1), (2, .int a2)]) S.1 S.2.1 dX7_told_25 rfl hl (by decide) rfl (fun ls hl => ?_)
      refine lv_iload_n S.1 S.2.1 dX7_told_26 rfl (lv_at hl 3 rfl) ?_
      refine lv_bipush (v := (-2)) S.1 S.2.1 dX7_told_27 (by decide) ?_
      refine lv_icmp_ne (tgt := 37) S.1 S.2.1 dX7_told_29 (by decide) (fun cc => ?_) (fun cc => ?_)
      · replace h := it_n cc h
        refine lv_iload_n S.1 S.2.1 dX7_told_37 rfl (lv_at hl 3 rfl) ?_
        refine lv_iconst (v := (-1)) S.1 S.2.1 dX7_told_38 (by decide) ?_
        refine lv_icmp_ne (tgt := 47) S.1 S.2.1 dX7_told_39 (by decide) (fun cc => ?_) (fun cc => ?_)
        · replace h := it_n cc h
          refine lv_iload_n S.1 S.2.1 dX7_told_47 rfl (lv_at hl 3 rfl) ?_
          refine lv_aload_n S.1 S.2.1 dX7_told_48 rfl (lv_at hl 0 rfl) ?_
          refine gf_3_0 S d hkr3 fl_RX7_155 dX7_told_49 ?_
          refine lv_icmp_ge (tgt := 64) S.1 S.2.1 dX7_told_52 (by decide) (fun cc => ?_) (fun cc => ?_)
          · replace h := it_p cc h
            refine lv_bipush (v := (-4)) S.1 S.2.1 dX7_told_64 (by decide) ?_
            obtain rfl := Option.some.inj h
            exact r_iret S d hr rfl rfl dX7_told_66
          · replace h := it_n cc h
            refine lv_aload_n S.1 S.2.1 dX7_told_55 rfl (lv_at hl 0 rfl) ?_
            refine gf_3_2 S d hkr3 fl_RX7_156 dX7_told_56 ?_
            refine lv_iload_n S.1 S.2.1 dX7_told_59 rfl (lv_at hl 3 rfl) ?_
            obtain ⟨g4, h⟩ := gd_e h
            refine r_iald S d (ksdC S (ch_3_2 hkr3).1) (wc_10 (ch_3_2 hkr3).1) (ch_3_2 hkr3).2 g4 dX7_told_60 ?_
            refine lv_goto (tgt := 66) S.1 S.2.1 dX7_told_61 (by decide) ?_
            obtain rfl := Option.some.inj h
            exact r_iret S d hr rfl rfl dX7_told_66
        · replace h := it_p cc h
          refine lv_aload_n S.1 S.2.1 dX7_told_42 rfl (lv_at hl 0 rfl) ?_
          refine gf_3_0 S d hkr3 fl_RX7_155 dX7_told_43 ?_
          obtain rfl := Option.some.inj h
          exact r_iret S d hr rfl rfl dX7_told_46
      · replace h := it_p cc h
        refine lv_aload_n S.1 S.2.1 dX7_told_32 rfl (lv_at hl 0 rfl) ?_
        refine gf_3_1 S d hkr3 fl_RX7_150 dX7_told_33 ?_
        obtain rfl := Option.some.inj h
        exact r_iret S d hr rfl rfl dX7_told_36
    · replace h := it_n cc h
      refine lv_iconst (v := (-1)) S.1 S.2.1 dX7_told_14 (by decide) ?_
      obtain rfl := Option.some.inj h
      exact r_iret S d hr rfl rfl dX7_told_15
theorem hyV_X7_pay : yX7_pay.cls = RX7 ∧ yX7_pay.cls ≠ "java/lang/invoke/MethodHandle" ∧ yX7_pay.cls ≠ "java/lang/invoke/VarHandle" ∧ (parseMethodDescriptor yX7_pay.desc).map (fun d => d.parameters.length) = some 2 := by decide +kernel
abbrev rm_X7_pay : Room := { frames := 2, cells := 0, slots := 0, locals := 42 }
def f_X7_pay (M : Mem) (k0 : Nat) (a1 : Int32) (a2 : Int32) : Option (Int32 × Mem) :=
  (f_X7_isWord M k0 a1).bind (fun u1 =>
  (if u1 = 0 then some ((-1 : Int32), M)
  else (if a2 < 0 then some ((-1 : Int32), M)
    else (if a2 ≤ (99 : Int32) then gd (inb a1 10) (
        lt ((M (((k0 + 1) + 3) + 21 + 2 * a1.toNatClampNeg) 1)) (fun v3 : Int32 =>
        gd (inb a1 10) (
        lt (up M (((k0 + 1) + 3) + 21 + 2 * a1.toNatClampNeg) 1 a2) (fun M5 : Mem =>
        some (v3, M5)))))
      else some ((-1 : Int32), M)))))
set_option maxHeartbeats 4000000 in
set_option maxRecDepth 100000 in
theorem c_X7_pay (l : Launch) (G : Gx) (M : Mem) (L : MemL) (k0 : Nat) (a1 : Int32) (a2 : Int32) (hk0 : kd k0 = 0) {z : Int32 × Mem} (h : f_X7_pay M k0 a1 a2 = some z) : Met l yX7_pay (.code yX7_pay cX7_pay 4 (Option.some Jvm.ClassFile.FieldType.int) :: UW) rm_X7_pay (va_Pc [.ref (ad G k0), .int a1, .int a2] (PreG G false M L)) (Qi G z.1 z.2 L) 0 0 (gA G) := by
  refine r_in (by decide) (fun p e s m args below meth c S hr d ha ls hl => ?_) (Nat.le_of_ble_eq_true rfl)
  have S : Sx G false p s m args meth c cX7_pay 4 RX7 := S
  have hl : lv_has ls 4 [(0, .ref (ad G k0)), (1, .int a1), (2, .int a2)] := hl
  unfold f_X7_pay at h
  refine lv_aload_n S.1 S.2.1 dX7_pay_0 rfl (lv_at hl 0 rfl) ?_
  refine lv_iload_n S.1 S.2.1 dX7_pay_1 rfl (lv_at hl 1 rfl) ?_
  obtain ⟨u1, hu1, h⟩ := bd_e h
  refine r_ri d (r_cV (As := [.int a1]) (rest := []) S d (c_X7_isWord l G M L k0 a1 hk0 hu1) (ksdC S hk0) (wc_0 hk0) rfl ml_RX7_144 im_yX7_isWord se_yX7_isWord in_RX7 co_yX7_isWord hyV_X7_isWord ⟨rfl, rfl⟩ ⟨by decide, by decide⟩ rfl hl rfl (Nat.le_of_ble_eq_true rfl) dX7_pay_2 ⟨Nat.zero_le _, Nat.zero_le _⟩) (fun H locs d => ?_)
  refine lv_if_eq (tgt := 18) S.1 S.2.1 dX7_pay_5 (by decide) (fun cc => ?_) (fun cc => ?_)
  · replace h := it_p cc h
    refine lv_iconst (v := (-1)) S.1 S.2.1 dX7_pay_18 (by decide) ?_
    obtain rfl := Option.some.inj h
    exact r_iret S d hr rfl rfl dX7_pay_19
  · replace h := it_n cc h
    refine lv_iload_n S.1 S.2.1 dX7_pay_8 rfl (lv_at hl 2 rfl) ?_
    refine lv_if_lt (tgt := 18) S.1 S.2.1 dX7_pay_9 (by decide) (fun cc => ?_) (fun cc => ?_)
    · replace h := it_p cc h
      refine lv_iconst (v := (-1)) S.1 S.2.1 dX7_pay_18 (by decide) ?_
      obtain rfl := Option.some.inj h
      exact r_iret S d hr rfl rfl dX7_pay_19
    · replace h := it_n cc h
      refine lv_iload_n S.1 S.2.1 dX7_pay_12 rfl (lv_at hl 2 rfl) ?_
      refine lv_bipush (v := 99) S.1 S.2.1 dX7_pay_13 (by decide) ?_
      refine lv_icmp_le (tgt := 20) S.1 S.2.1 dX7_pay_15 (by decide) (fun cc => ?_) (fun cc => ?_)
      · replace h := it_p cc h
        refine lv_aload_n S.1 S.2.1 dX7_pay_20 rfl (lv_at hl 0 rfl) ?_
        refine gf_0_0 S d hk0 fl_RX7_12 dX7_pay_21 ?_
        refine gf_1_3 S d (ch_0_0 hk0).1 fl_RX7_147 dX7_pay_24 ?_
        refine lv_iload_n S.1 S.2.1 dX7_pay_27 rfl (lv_at hl 1 rfl) ?_
        obtain ⟨g2, h⟩ := gd_e h
        refine r_aald S d (ksdC S (ch_1_3 (ch_0_0 hk0).1).1) (wc_14 (ch_1_3 (ch_0_0 hk0).1).1) rfl rfl g2 (if_pos (inb_lt g2)) dX7_pay_28 ?_
        refine gf_3_1 S d (ca_14 (ch_1_3 (ch_0_0 hk0).1).1 (inb_lt g2)).1 fl_RX7_150 dX7_pay_29 ?_
        obtain ⟨v3, ev3, h⟩ := lt_e h
        refine r_top ev3 ?_
        refine lv_istore_n (lv' := [(3, .int v3), (0, .ref (ad G k0)), (1, .int a1), (2, .int a2)]) S.1 S.2.1 dX7_pay_32 rfl hl (by decide) rfl (fun ls hl => ?_)
        refine lv_aload_n S.1 S.2.1 dX7_pay_33 rfl (lv_at hl 1 rfl) ?_
        refine gf_0_0 S d hk0 fl_RX7_12 dX7_pay_34 ?_
        refine gf_1_3 S d (ch_0_0 hk0).1 fl_RX7_147 dX7_pay_37 ?_
        refine lv_iload_n S.1 S.2.1 dX7_pay_40 rfl (lv_at hl 2 rfl) ?_
        obtain ⟨g4, h⟩ := gd_e h
        refine r_aald S d (ksdC S (ch_1_3 (ch_0_0 hk0).1).1) (wc_14 (ch_1_3 (ch_0_0 hk0).1).1) rfl rfl g4 (if_pos (inb_lt g4)) dX7_pay_41 ?_
        refine lv_iload_n S.1 S.2.1 dX7_pay_42 rfl (lv_at hl 3 rfl) ?_
        obtain ⟨M5, eM5, h⟩ := lt_e h
        refine pf_3_1 S d eM5 (ca_14 (ch_1_3 (ch_0_0 hk0).1).1 (inb_lt g4)).1 fl_RX7_150 dX7_pay_43 (fun H locs d => ?_)
        refine lv_iload_n S.1 S.2.1 dX7_pay_46 rfl (lv_at hl 0 rfl) ?_
        obtain rfl := Option.some.inj h
        exact r_iret S d hr rfl rfl dX7_pay_47
      · replace h := it_n cc h
        refine lv_iconst (v := (-1)) S.1 S.2.1 dX7_pay_18 (by decide) ?_
        obtain rfl := Option.some.inj h
        exact r_iret S d hr rfl rfl dX7_pay_19
theorem hyV_X0_setFoe : yX0_setFoe.cls = RX0 ∧ yX0_setFoe.cls ≠ "java/lang/invoke/MethodHandle" ∧ yX0_setFoe.cls ≠ "java/lang/invoke/VarHandle" ∧ (parseMethodDescriptor yX0_setFoe.desc).map (fun d => d.parameters.length) = some 3 := by decide +kernel
abbrev rm_X0_setFoe : Room := { frames := 0, cells := 0, slots := 0, locals := 0 }
def f_X0_setFoe (M : Mem) (k0 : Nat) (a1 : Int32) (a2 : Int32) (a3 : Int32) : Option (Mem) :=
  (if a3 = 0 then gd (inb a1 6) (
    some ((M (k0 + 4) a1.toNatClampNeg) &&& (((1 : Int32) <<< (a2 &&& 31)) ^^^ (-1 : Int32))))
  else gd (inb a1 6) (
    some ((M (k0 + 4) a1.toNatClampNeg) ||| ((1 : Int32) <<< (a2 &&& 31))))).bind (fun t1 : Int32 =>
  gd (inb a1 6) (
  lt (up M (k0 + 4) a1.toNatClampNeg t1) (fun M6 : Mem =>
  some (M6))))
set_option maxHeartbeats 4000000 in
set_option maxRecDepth 100000 in
theorem c_X0_setFoe (l : Launch) (G : Gx) (M : Mem) (L : MemL) (k0 : Nat) (a1 : Int32) (a2 : Int32) (a3 : Int32) (hk0 : kd k0 = 1) {z : Mem} (h : f_X0_setFoe M k0 a1 a2 a3 = some z) : Met l yX0_setFoe (.code yX0_setFoe cX0_setFoe 4 (Option.none : Option Jvm.ClassFile.FieldType) :: UW) rm_X0_setFoe (va_Pc [.ref (ad G k0), .int a1, .int a2, .int a3] (PreG G false M L)) (Qv G z L) 0 0 (gA G) := by
  refine r_in (by decide) (fun p e s m args below meth c S hr d ha ls hl => ?_) (Nat.le_of_ble_eq_true rfl)
  have S : Sx G false p s m args meth c cX0_setFoe 4 RX0 := S
  have hl : lv_has ls 4 [(0, .ref (ad G k0)), (1, .int a1), (2, .int a2), (3, .int a3)] := hl
  unfold f_X0_setFoe at h
  refine lv_aload_n S.1 S.2.1 dX0_setFoe_0 rfl (lv_at hl 0 rfl) ?_
  refine gf_1_5 S d hk0 fl_RX0_37 dX0_setFoe_1 ?_
  refine lv_iload_n S.1 S.2.1 dX0_setFoe_4 rfl (lv_at hl 1 rfl) ?_
  refine lv_iload_n S.1 S.2.1 dX0_setFoe_5 rfl (lv_at hl 3 rfl) ?_
  obtain ⟨t1, g2, h⟩ := bd_e h
  have Jt1 : ∀ (H : Heap) (locs : List Loc), Dy G s M L H locs → W p l e rm_X0_setFoe s m args below meth c H locs 0 0 (MQ below (Qv G z L) args s 0 0 (gA G)) (F0 m 34 ls [.int t1, .int a1, .ref (ad G (k0 + 4))]) := by
    intro H locs d
    obtain ⟨g5, h⟩ := gd_e h
    obtain ⟨M6, eM6, h⟩ := lt_e h
    refine r_iast S d eM6 (ksdC S (ch_1_5 hk0).1) (fun _ => wc_10 (ch_1_5 hk0).1) (ch_1_5 hk0).2 g5 dX0_setFoe_34 (fun H locs d => ?_)
    obtain rfl := Option.some.inj h
    exact r_vret S d hr dX0_setFoe_35
  have h := g2
  refine lv_if_eq (tgt := 22) S.1 S.2.1 dX0_setFoe_6 (by decide) (fun cc => ?_) (fun cc => ?_)
  · replace h := it_p cc h
    refine lv_aload_n S.1 S.2.1 dX0_setFoe_22 rfl (lv_at hl 0 rfl) ?_
    refine gf_1_5 S d hk0 fl_RX0_37 dX0_setFoe_23 ?_
    refine lv_iload_n S.1 S.2.1 dX0_setFoe_26 rfl (lv_at hl 1 rfl) ?_
    obtain ⟨g4, h⟩ := gd_e h
    refine r_iald S d (ksdC S (ch_1_5 hk0).1) (wc_10 (ch_1_5 hk0).1) (ch_1_5 hk0).2 g4 dX0_setFoe_27 ?_
    refine lv_iconst (v := 1) S.1 S.2.1 dX0_setFoe_28 (by decide) ?_
    refine lv_iload_n S.1 S.2.1 dX0_setFoe_29 rfl (lv_at hl 2 rfl) ?_
    refine lv_ishl S.1 S.2.1 dX0_setFoe_30 ?_
    refine lv_iconst (v := (-1)) S.1 S.2.1 dX0_setFoe_31 (by decide) ?_
    refine lv_ixor S.1 S.2.1 dX0_setFoe_32 ?_
    refine lv_iand S.1 S.2.1 dX0_setFoe_33 ?_
    obtain ej := Option.some.inj h
    refine r_top ej.symm ?_
    exact Jt1 _ _ d
  · replace h := it_n cc h
    refine lv_aload_n S.1 S.2.1 dX0_setFoe_9 rfl (lv_at hl 0 rfl) ?_
    refine gf_1_5 S d hk0 fl_RX0_37 dX0_setFoe_10 ?_
    refine lv_iload_n S.1 S.2.1 dX0_setFoe_13 rfl (lv_at hl 1 rfl) ?_
    obtain ⟨g3, h⟩ := gd_e h
    refine r_iald S d (ksdC S (ch_1_5 hk0).1) (wc_10 (ch_1_5 hk0).1) (ch_1_5 hk0).2 g3 dX0_setFoe_14 ?_
    refine lv_iconst (v := 1) S.1 S.2.1 dX0_setFoe_15 (by decide) ?_
    refine lv_iload_n S.1 S.2.1 dX0_setFoe_16 rfl (lv_at hl 2 rfl) ?_
    refine lv_ishl S.1 S.2.1 dX0_setFoe_17 ?_
    refine lv_ior S.1 S.2.1 dX0_setFoe_18 ?_
    refine lv_goto (tgt := 34) S.1 S.2.1 dX0_setFoe_19 (by decide) ?_
    obtain ej := Option.some.inj h
    refine r_top ej.symm ?_
    exact Jt1 _ _ d
theorem hyV_X7_feud : yX7_feud.cls = RX7 ∧ yX7_feud.cls ≠ "java/lang/invoke/MethodHandle" ∧ yX7_feud.cls ≠ "java/lang/invoke/VarHandle" ∧ (parseMethodDescriptor yX7_feud.desc).map (fun d => d.parameters.length) = some 3 := by decide +kernel
abbrev rm_X7_feud : Room := { frames := 1, cells := 0, slots := 0, locals := 23 }
def f_X7_feud (M : Mem) (k0 : Nat) (a1 : Int32) (a2 : Int32) (a3 : Int32) : Option (Int32 × Mem) :=
  (f_X7_isBelow a1 (6 : Int32)).bind (fun u1 =>
  (if u1 = 0 then some ((-1 : Int32), M)
  else (f_X7_isBelow a2 (6 : Int32)).bind (fun u2 =>
    (if u2 = 0 then some ((-1 : Int32), M)
    else (if a1 = a2 then some ((-1 : Int32), M)
      else gd (inb a1 6) (
        lt ((((M ((k0 + 1) + 4) a1.toNatClampNeg) >>> (a2 &&& 31)) &&& (1 : Int32))) (fun v4 : Int32 =>
        (f_X0_setFoe M (k0 + 1) a1 a2 a3).bind (fun u5 =>
        (f_X0_setFoe u5 (k0 + 1) a2 a1 a3).bind (fun u6 =>
        some (v4, u6))))))))))
set_option maxHeartbeats 4000000 in
set_option maxRecDepth 100000 in
theorem c_X7_feud (l : Launch) (G : Gx) (M : Mem) (L : MemL) (k0 : Nat) (a1 : Int32) (a2 : Int32) (a3 : Int32) (hk0 : kd k0 = 0) {z : Int32 × Mem} (h : f_X7_feud M k0 a1 a2 a3 = some z) : Met l yX7_feud (.code yX7_feud cX7_feud 5 (Option.some Jvm.ClassFile.FieldType.int) :: UW) rm_X7_feud (va_Pc [.ref (ad G k0), .int a1, .int a2, .int a3] (PreG G false M L)) (Qi G z.1 z.2 L) 0 0 (gA G) := by
  refine r_in (by decide) (fun p e s m args below meth c S hr d ha ls hl => ?_) (Nat.le_of_ble_eq_true rfl)
  have S : Sx G false p s m args meth c cX7_feud 5 RX7 := S
  have hl : lv_has ls 5 [(0, .ref (ad G k0)), (1, .int a1), (2, .int a2), (3, .int a3)] := hl
  unfold f_X7_feud at h
  refine lv_iload_n S.1 S.2.1 dX7_feud_0 rfl (lv_at hl 1 rfl) ?_
  refine lv_bipush (v := 6) S.1 S.2.1 dX7_feud_1 (by decide) ?_
  obtain ⟨u1, hu1, h⟩ := bd_e h
  refine r_ri d (r_cS (As := [.int a1, .int (6 : Int32)]) (rest := []) S d (c_X7_isBelow l G M L a1 (6 : Int32) hu1) ml_RX7_51 sm_yX7_isBelow in_RX7 co_yX7_isBelow hyS_X7_isBelow ⟨rfl, rfl⟩ ⟨by decide, by decide⟩ rfl hl rfl (Nat.le_of_ble_eq_true rfl) dX7_feud_3 ⟨Nat.zero_le _, Nat.zero_le _⟩) (fun H locs d => ?_)
  refine lv_if_eq (tgt := 23) S.1 S.2.1 dX7_feud_6 (by decide) (fun cc => ?_) (fun cc => ?_)
  · replace h := it_p cc h
    refine lv_iconst (v := (-1)) S.1 S.2.1 dX7_feud_23 (by decide) ?_
    obtain rfl := Option.some.inj h
    exact r_iret S d hr rfl rfl dX7_feud_24
  · replace h := it_n cc h
    refine lv_iload_n S.1 S.2.1 dX7_feud_9 rfl (lv_at hl 2 rfl) ?_
    refine lv_bipush (v := 6) S.1 S.2.1 dX7_feud_10 (by decide) ?_
    obtain ⟨u2, hu2, h⟩ := bd_e h
    refine r_ri d (r_cS (As := [.int a2, .int (6 : Int32)]) (rest := []) S d (c_X7_isBelow l G M L a2 (6 : Int32) hu2) ml_RX7_51 sm_yX7_isBelow in_RX7 co_yX7_isBelow hyS_X7_isBelow ⟨rfl, rfl⟩ ⟨by decide, by decide⟩ rfl hl rfl (Nat.le_of_ble_eq_true rfl) dX7_feud_12 ⟨Nat.zero_le _, Nat.zero_le _⟩) (fun H locs d => ?_)
    refine lv_if_eq (tgt := 23) S.1 S.2.1 dX7_feud_15 (by decide) (fun cc => ?_) (fun cc => ?_)
    · replace h := it_p cc h
      refine lv_iconst (v := (-1)) S.1 S.2.1 dX7_feud_23 (by decide) ?_
      obtain rfl := Option.some.inj h
      exact r_iret S d hr rfl rfl dX7_feud_24
    · replace h := it_n cc h
      refine lv_iload_n S.1 S.2.1 dX7_feud_18 rfl (lv_at hl 1 rfl) ?_
      refine lv_iload_n S.1 S.2.1 dX7_feud_19 rfl (lv_at hl 2 rfl) ?_
      refine lv_icmp_ne (tgt := 25) S.1 S.2.1 dX7_feud_20 (by decide) (fun cc => ?_) (fun cc => ?_)
      · replace h := it_n cc h
        refine lv_aload_n S.1 S.2.1 dX7_feud_25 rfl (lv_at hl 0 rfl) ?_
        refine gf_0_0 S d hk0 fl_RX7_12 dX7_feud_26 ?_
        refine gf_1_5 S d (ch_0_0 hk0).1 fl_RX7_159 dX7_feud_29 ?_
        refine lv_iload_n S.1 S.2.1 dX7_feud_32 rfl (lv_at hl 1 rfl) ?_
        obtain ⟨g3, h⟩ := gd_e h
        refine r_iald S d (ksdC S (ch_1_5 (ch_0_0 hk0).1).1) (wc_10 (ch_1_5 (ch_0_0 hk0).1).1) (ch_1_5 (ch_0_0 hk0).1).2 g3 dX7_feud_33 ?_
        refine lv_iload_n S.1 S.2.1 dX7_feud_34 rfl (lv_at hl 2 rfl) ?_
        refine lv_ishr S.1 S.2.1 dX7_feud_35 ?_
        refine lv_iconst (v := 1) S.1 S.2.1 dX7_feud_36 (by decide) ?_
        refine lv_iand S.1 S.2.1 dX7_feud_37 ?_
        obtain ⟨v4, ev4, h⟩ := lt_e h
        refine r_top ev4 ?_
        refine lv_istore (lv' := [(4, .int v4), (0, .ref (ad G k0)), (1, .int a1), (2, .int a2), (3, .int a3)]) S.1 S.2.1 dX7_feud_38 hl (by decide) rfl (fun ls hl => ?_)
        refine lv_aload_n S.1 S.2.1 dX7_feud_40 rfl (lv_at hl 1 rfl) ?_
        refine gf_0_0 S d hk0 fl_RX7_12 dX7_feud_41 ?_
        refine lv_iload_n S.1 S.2.1 dX7_feud_44 rfl (lv_at hl 2 rfl) ?_
        refine lv_iload_n S.1 S.2.1 dX7_feud_45 rfl (lv_at hl 3 rfl) ?_
        refine lv_iload_n S.1 S.2.1 dX7_feud_46 rfl (lv_at hl 4 rfl) ?_
        obtain ⟨u5, hu5, h⟩ := bd_e h
        refine r_rv d (r_cV (As := [.int a1, .int a2, .int a3]) (rest := []) S d (c_X0_setFoe l G M L (k0 + 1) a1 a2 a3 (ch_0_0 hk0).1 hu5) (ksdC S (ch_0_0 hk0).1) (wc_1 (ch_0_0 hk0).1) rfl ml_RX7_162 im_yX0_setFoe se_yX0_setFoe in_RX0 co_yX0_setFoe hyV_X0_setFoe ⟨rfl, rfl⟩ ⟨by decide, by decide⟩ rfl hl rfl (Nat.le_of_ble_eq_true rfl) dX7_feud_47 ⟨Nat.zero_le _, Nat.zero_le _⟩) (fun H locs d => ?_)
        refine lv_aload_n S.1 S.2.1 dX7_feud_50 rfl (lv_at hl 1 rfl) ?_
        refine gf_0_0 S d hk0 fl_RX7_12 dX7_feud_51 ?_
        refine lv_iload_n S.1 S.2.1 dX7_feud_54 rfl (lv_at hl 3 rfl) ?_
        refine lv_iload_n S.1 S.2.1 dX7_feud_55 rfl (lv_at hl 2 rfl) ?_
        refine lv_iload_n S.1 S.2.1 dX7_feud_56 rfl (lv_at hl 4 rfl) ?_
        obtain ⟨u6, hu6, h⟩ := bd_e h
        refine r_rv d (r_cV (As := [.int a2, .int a1, .int a3]) (rest := []) S d (c_X0_setFoe l G u5 L (k0 + 1) a2 a1 a3 (ch_0_0 hk0).1 hu6) (ksdC S (ch_0_0 hk0).1) (wc_1 (ch_0_0 hk0).1) rfl ml_RX7_162 im_yX0_setFoe se_yX0_setFoe in_RX0 co_yX0_setFoe hyV_X0_setFoe ⟨rfl, rfl⟩ ⟨by decide, by decide⟩ rfl hl rfl (Nat.le_of_ble_eq_true rfl) dX7_feud_57 ⟨Nat.zero_le _, Nat.zero_le _⟩) (fun H locs d => ?_)
        refine lv_iload S.1 S.2.1 dX7_feud_60 (lv_at hl 0 rfl) ?_
        obtain rfl := Option.some.inj h
        exact r_iret S d hr rfl rfl dX7_feud_62
      · replace h := it_p cc h
        refine lv_iconst (v := (-1)) S.1 S.2.1 dX7_feud_23 (by decide) ?_
        obtain rfl := Option.some.inj h
        exact r_iret S d hr rfl rfl dX7_feud_24
theorem hyV_X0_feudCount : yX0_feudCount.cls = RX0 ∧ yX0_feudCount.cls ≠ "java/lang/invoke/MethodHandle" ∧ yX0_feudCount.cls ≠ "java/lang/invoke/VarHandle" ∧ (parseMethodDescriptor yX0_feudCount.desc).map (fun d => d.parameters.length) = some 0 := by decide +kernel
abbrev rm_X0_feudCount : Room := { frames := 1, cells := 0, slots := 0, locals := 20 }
def lp_X0_feudCount_4 (fu : Nat) (M : Mem) (b0 : Nat) (K : Int32 → Option (Int32)) : Nat → Int32 → Int32 → Option (Int32)
  | 0, _, _ => none
  | n + 1, x1, x2 =>
    (if (6 : Int32) ≤ x2 then (K x1)
    else gd (inb x2 6) (
      (f_J6_bitCount_0f7a4 (M (b0 + 4) x2.toNatClampNeg)).bind (fun u2 =>
      lt ((x1 + u2)) (fun v3 : Int32 =>
      lt (x2 + 1) (fun v4 : Int32 =>
      (lp_X0_feudCount_4 fu M b0 K n v3 v4))))))
def f_X0_feudCount (fu : Nat) (M : Mem) (k0 : Nat) : Option (Int32) :=
  (lp_X0_feudCount_4 fu M k0 (fun (v5 : Int32) =>
    gd (decide (¬ (2 : Int32) = 0)) (
    some ((v5 / (2 : Int32))))) fu (0 : Int32) (0 : Int32))
set_option maxHeartbeats 4000000 in
set_option maxRecDepth 100000 in
theorem lc_X0_feudCount_4 {p : Program} {l : Launch} {e : Env} {s : State} {m : MethodId} {args : Array Value} {below : List Frame} {meth : Method} {c : Code} {G : Gx} {M : Mem} {L : MemL} {fu : Nat} {b0 : Nat} {z : Int32} (S : Sx G false p s m args meth c cX0_feudCount 3 RX0) (hr : meth.sig.returnType = (Option.some Jvm.ClassFile.FieldType.int)) (hb0 : kd b0 = 1) (K : Int32 → Option (Int32)) (hK : ∀ (y1 : Int32) (H : Heap) (locs : List Loc), Dy G s M L H locs → ∀ ls : Array Slot, lv_has ls 3 [(1, .int y1)] → K y1 = some z → W p l e rm_X0_feudCount s m args below meth c H locs 0 0 (MQ below (Qi G z M L) args s 0 0 (gA G)) (F0 m 28 ls [])) :
    ∀ (n : Nat) (x1 : Int32) (x2 : Int32), lp_X0_feudCount_4 fu M b0 K n x1 x2 = some z → ∀ (H : Heap) (locs : List Loc), Dy G s M L H locs → ∀ ls : Array Slot, lv_has ls 3 [(0, .ref (ad G b0)), (1, .int x1), (2, .int x2)] → W p l e rm_X0_feudCount s m args below meth c H locs 0 0 (MQ below (Qi G z M L) args s 0 0 (gA G)) (F0 m 4 ls []) := by
  intro n
  induction n with
  | zero =>
    intro x1 x2 h
    have h : (none : Option (Int32)) = some z := h
    cases h
  | succ n ih =>
    intro x1 x2 h H locs d ls hl
    rw [lp_X0_feudCount_4] at h
    refine lv_iload_n S.1 S.2.1 dX0_feudCount_4 rfl (lv_at hl 2 rfl) ?_
    refine lv_bipush (v := 6) S.1 S.2.1 dX0_feudCount_5 (by decide) ?_
    refine lv_icmp_ge (tgt := 28) S.1 S.2.1 dX0_feudCount_7 (by decide) (fun cc => ?_) (fun cc => ?_)
    · replace h := it_p cc h
      exact hK _ _ _ d _ (lv_sub hl [1] rfl) h
    · replace h := it_n cc h
      refine lv_iload_n S.1 S.2.1 dX0_feudCount_10 rfl (lv_at hl 1 rfl) ?_
      refine lv_aload_n S.1 S.2.1 dX0_feudCount_11 rfl (lv_at hl 0 rfl) ?_
      refine gf_1_5 S d hb0 fl_RX0_37 dX0_feudCount_12 ?_
      refine lv_iload_n S.1 S.2.1 dX0_feudCount_15 rfl (lv_at hl 2 rfl) ?_
      obtain ⟨g1, h⟩ := gd_e h
      refine r_iald S d (ksdC S (ch_1_5 hb0).1) (wc_10 (ch_1_5 hb0).1) (ch_1_5 hb0).2 g1 dX0_feudCount_16 ?_
      obtain ⟨u2, hu2, h⟩ := bd_e h
      refine r_ri d (r_cS (As := [.int (M (b0 + 4) x2.toNatClampNeg)]) (rest := [.int x1]) S d (c_J6_bitCount_0f7a4 l G M L (M (b0 + 4) x2.toNatClampNeg) hu2) ml_RX0_65 sm_yJ6_bitCount_0f7a4 in_RJ6 co_yJ6_bitCount_0f7a4 hyS_J6_bitCount_0f7a4 ⟨rfl, rfl⟩ ⟨by decide, by decide⟩ rfl hl rfl (Nat.le_of_ble_eq_true rfl) dX0_feudCount_17 ⟨Nat.zero_le _, Nat.zero_le _⟩) (fun H locs d => ?_)
      refine lv_iadd S.1 S.2.1 dX0_feudCount_20 ?_
      obtain ⟨v3, ev3, h⟩ := lt_e h
      refine r_top ev3 ?_
      refine lv_istore_n (lv' := [(1, .int v3), (0, .ref (ad G b0)), (2, .int x2)]) S.1 S.2.1 dX0_feudCount_21 rfl hl (by decide) rfl (fun ls hl => ?_)
      obtain ⟨v4, ev4, h⟩ := lt_e h
      refine lv_iinc (v := v4) (lv' := [(2, .int v4), (1, .int v3), (0, .ref (ad G b0))]) S.1 S.2.1 dX0_feudCount_22 hl (k := 2) rfl (by rw [ev4]; rfl) (by decide) rfl (fun ls hl => ?_)
      refine lv_goto (tgt := 4) S.1 S.2.1 dX0_feudCount_25 (by decide) ?_
      exact ih _ _ h _ _ d _ (lv_sub hl [2, 1, 0] rfl)
set_option maxHeartbeats 4000000 in
set_option maxRecDepth 100000 in
theorem c_X0_feudCount (l : Launch) (G : Gx) (M : Mem) (L : MemL) (fu : Nat) (k0 : Nat) (hk0 : kd k0 = 1) {z : Int32} (h : f_X0_feudCount fu M k0 = some z) : Met l yX0_feudCount (.code yX0_feudCount cX0_feudCount 3 (Option.some Jvm.ClassFile.FieldType.int) :: UW) rm_X0_feudCount (va_Pc [.ref (ad G k0)] (PreG G false M L)) (Qi G z M L) 0 0 (gA G) := by
  refine r_in (by decide) (fun p e s m args below meth c S hr d ha ls hl => ?_) (Nat.le_of_ble_eq_true rfl)
  have S : Sx G false p s m args meth c cX0_feudCount 3 RX0 := S
  have hl : lv_has ls 3 [(0, .ref (ad G k0))] := hl
  unfold f_X0_feudCount at h
  refine lv_iconst (v := 0) S.1 S.2.1 dX0_feudCount_0 (by decide) ?_
  refine lv_istore_n (lv' := [(1, .int (0 : Int32)), (0, .ref (ad G k0))]) S.1 S.2.1 dX0_feudCount_1 rfl hl (by decide) rfl (fun ls hl => ?_)
  refine lv_iconst (v := 0) S.1 S.2.1 dX0_feudCount_2 (by decide) ?_
  refine lv_istore_n (lv' := [(2, .int (0 : Int32)), (1, .int (0 : Int32)), (0, .ref (ad G k0))]) S.1 S.2.1 dX0_feudCount_3 rfl hl (by decide) rfl (fun ls hl => ?_)
  refine lc_X0_feudCount_4 S hr hk0 _ (fun v5 H locs d ls hl h => ?_) _ _ _  h _ _ d _ (lv_sub hl [2, 1, 0] rfl)
  refine lv_iload_n S.1 S.2.1 dX0_feudCount_28 rfl (lv_at hl 0 rfl) ?_
  refine lv_iconst (v := 2) S.1 S.2.1 dX0_feudCount_29 (by decide) ?_
  obtain ⟨g6, h⟩ := gd_e h
  refine lv_idiv S.1 S.2.1 dX0_feudCount_30 (of_decide_eq_true g6) ?_
  obtain rfl := Option.some.inj h
  exact r_iret S d hr rfl rfl dX0_feudCount_31
theorem hyV_X0_allHay : yX0_allHay.cls = RX0 ∧ yX0_allHay.cls ≠ "java/lang/invoke/MethodHandle" ∧ yX0_allHay.cls ≠ "java/lang/invoke/VarHandle" ∧ (parseMethodDescriptor yX0_allHay.desc).map (fun d => d.parameters.length) = some 0 := by decide +kernel
abbrev rm_X0_allHay : Room := { frames := 0, cells := 0, slots := 0, locals := 0 }
def lp_X0_allHay_4 (fu : Nat) (M : Mem) (b0 : Nat) (K : Int32 → Option (Int32)) : Nat → Int32 → Int32 → Option (Int32)
  | 0, _, _ => none
  | n + 1, x1, x2 =>
    (if (6 : Int32) ≤ x2 then (K x1)
    else gd (inb x2 6) (
      lt ((x1 + (M (b0 + 5) x2.toNatClampNeg))) (fun v2 : Int32 =>
      lt (x2 + 1) (fun v3 : Int32 =>
      (lp_X0_allHay_4 fu M b0 K n v2 v3)))))
def f_X0_allHay (fu : Nat) (M : Mem) (k0 : Nat) : Option (Int32) :=
  (lp_X0_allHay_4 fu M k0 (fun (v4 : Int32) =>
    some (v4)) fu (0 : Int32) (0 : Int32))
set_option maxHeartbeats 4000000 in
set_option maxRecDepth 100000 in
theorem lc_X0_allHay_4 {p : Program} {l : Launch} {e : Env} {s : State} {m : MethodId} {args : Array Value} {below : List Frame} {meth : Method} {c : Code} {G : Gx} {M : Mem} {L : MemL} {fu : Nat} {b0 : Nat} {z : Int32} (S : Sx G false p s m args meth c cX0_allHay 3 RX0) (hr : meth.sig.returnType = (Option.some Jvm.ClassFile.FieldType.int)) (hb0 : kd b0 = 1) (K : Int32 → Option (Int32)) (hK : ∀ (y1 : Int32) (H : Heap) (locs : List Loc), Dy G s M L H locs → ∀ ls : Array Slot, lv_has ls 3 [(1, .int y1)] → K y1 = some z → W p l e rm_X0_allHay s m args below meth c H locs 0 0 (MQ below (Qi G z M L) args s 0 0 (gA G)) (F0 m 25 ls [])) :
    ∀ (n : Nat) (x1 : Int32) (x2 : Int32), lp_X0_allHay_4 fu M b0 K n x1 x2 = some z → ∀ (H : Heap) (locs : List Loc), Dy G s M L H locs → ∀ ls : Array Slot, lv_has ls 3 [(0, .ref (ad G b0)), (1, .int x1), (2, .int x2)] → W p l e rm_X0_allHay s m args below meth c H locs 0 0 (MQ below (Qi G z M L) args s 0 0 (gA G)) (F0 m 4 ls []) := by
  intro n
  induction n with
  | zero =>
    intro x1 x2 h
    have h : (none : Option (Int32)) = some z := h
    cases h
  | succ n ih =>
    intro x1 x2 h H locs d ls hl
    rw [lp_X0_allHay_4] at h
    refine lv_iload_n S.1 S.2.1 dX0_allHay_4 rfl (lv_at hl 2 rfl) ?_
    refine lv_bipush (v := 6) S.1 S.2.1 dX0_allHay_5 (by decide) ?_
    refine lv_icmp_ge (tgt := 25) S.1 S.2.1 dX0_allHay_7 (by decide) (fun cc => ?_) (fun cc => ?_)
    · replace h := it_p cc h
      exact hK _ _ _ d _ (lv_sub hl [1] rfl) h
    · replace h := it_n cc h
      refine lv_iload_n S.1 S.2.1 dX0_allHay_10 rfl (lv_at hl 1 rfl) ?_
      refine lv_aload_n S.1 S.2.1 dX0_allHay_11 rfl (lv_at hl 0 rfl) ?_
      refine gf_1_6 S d hb0 fl_RX0_40 dX0_allHay_12 ?_
      refine lv_iload_n S.1 S.2.1 dX0_allHay_15 rfl (lv_at hl 2 rfl) ?_
      obtain ⟨g1, h⟩ := gd_e h
      refine r_iald S d (ksdC S (ch_1_6 hb0).1) (wc_10 (ch_1_6 hb0).1) (ch_1_6 hb0).2 g1 dX0_allHay_16 ?_
      refine lv_iadd S.1 S.2.1 dX0_allHay_17 ?_
      obtain ⟨v2, ev2, h⟩ := lt_e h
      refine r_top ev2 ?_
      refine lv_istore_n (lv' := [(1, .int v2), (0, .ref (ad G b0)), (2, .int x2)]) S.1 S.2.1 dX0_allHay_18 rfl hl (by decide) rfl (fun ls hl => ?_)
      obtain ⟨v3, ev3, h⟩ := lt_e h
      refine lv_iinc (v := v3) (lv' := [(2, .int v3), (1, .int v2), (0, .ref (ad G b0))]) S.1 S.2.1 dX0_allHay_19 hl (k := 2) rfl (by rw [ev3]; rfl) (by decide) rfl (fun ls hl => ?_)
      refine lv_goto (tgt := 4) S.1 S.2.1 dX0_allHay_22 (by decide) ?_
      exact ih _ _ h _ _ d _ (lv_sub hl [2, 1, 0] rfl)
set_option maxHeartbeats 4000000 in
set_option maxRecDepth 100000 in
theorem c_X0_allHay (l : Launch) (G : Gx) (M : Mem) (L : MemL) (fu : Nat) (k0 : Nat) (hk0 : kd k0 = 1) {z : Int32} (h : f_X0_allHay fu M k0 = some z) : Met l yX0_allHay (.code yX0_allHay cX0_allHay 3 (Option.some Jvm.ClassFile.FieldType.int) :: UW) rm_X0_allHay (va_Pc [.ref (ad G k0)] (PreG G false M L)) (Qi G z M L) 0 0 (gA G) := by
  refine r_in (by decide) (fun p e s m args below meth c S hr d ha ls hl => ?_) (Nat.le_of_ble_eq_true rfl)
  have S : Sx G false p s m args meth c cX0_allHay 3 RX0 := S
  have hl : lv_has ls 3 [(0, .ref (ad G k0))] := hl
  unfold f_X0_allHay at h
  refine lv_iconst (v := 0) S.1 S.2.1 dX0_allHay_0 (by decide) ?_
  refine lv_istore_n (lv' := [(1, .int (0 : Int32)), (0, .ref (ad G k0))]) S.1 S.2.1 dX0_allHay_1 rfl hl (by decide) rfl (fun ls hl => ?_)
  refine lv_iconst (v := 0) S.1 S.2.1 dX0_allHay_2 (by decide) ?_
  refine lv_istore_n (lv' := [(2, .int (0 : Int32)), (1, .int (0 : Int32)), (0, .ref (ad G k0))]) S.1 S.2.1 dX0_allHay_3 rfl hl (by decide) rfl (fun ls hl => ?_)
  refine lc_X0_allHay_4 S hr hk0 _ (fun v4 H locs d ls hl h => ?_) _ _ _  h _ _ d _ (lv_sub hl [2, 1, 0] rfl)
  refine lv_iload_n S.1 S.2.1 dX0_allHay_25 rfl (lv_at hl 0 rfl) ?_
  obtain rfl := Option.some.inj h
  exact r_iret S d hr rfl rfl dX0_allHay_26
theorem hyV_X7_count : yX7_count.cls = RX7 ∧ yX7_count.cls ≠ "java/lang/invoke/MethodHandle" ∧ yX7_count.cls ≠ "java/lang/invoke/VarHandle" ∧ (parseMethodDescriptor yX7_count.desc).map (fun d => d.parameters.length) = some 1 := by decide +kernel
abbrev rm_X7_count : Room := { frames := 2, cells := 0, slots := 0, locals := 42 }
def f_X7_count (fu : Nat) (M : Mem) (k0 : Nat) (a1 : Int32) : Option (Int32) :=
  (if a1 = 0 then some ((M (k0 + 1) 2))
  else if a1 = 1 then some ((M (k0 + 1) 4))
  else if a1 = 2 then (f_X0_feudCount fu M (k0 + 1)).bind (fun u3 =>
    some (u3))
  else if a1 = 3 then (f_X0_allHay fu M (k0 + 1)).bind (fun u5 =>
    some (u5))
  else some ((-1 : Int32)))
set_option maxHeartbeats 4000000 in
set_option maxRecDepth 100000 in
theorem c_X7_count (l : Launch) (G : Gx) (M : Mem) (L : MemL) (fu : Nat) (k0 : Nat) (a1 : Int32) (hk0 : kd k0 = 0) {z : Int32} (h : f_X7_count fu M k0 a1 = some z) : Met l yX7_count (.code yX7_count cX7_count 2 (Option.some Jvm.ClassFile.FieldType.int) :: UW) rm_X7_count (va_Pc [.ref (ad G k0), .int a1] (PreG G false M L)) (Qi G z M L) 0 0 (gA G) := by
  refine r_in (by decide) (fun p e s m args below meth c S hr d ha ls hl => ?_) (Nat.le_of_ble_eq_true rfl)
  have S : Sx G false p s m args meth c cX7_count 2 RX7 := S
  have hl : lv_has ls 2 [(0, .ref (ad G k0)), (1, .int a1)] := hl
  unfold f_X7_count at h
  refine lv_iload_n S.1 S.2.1 dX7_count_0 rfl (lv_at hl 1 rfl) ?_
  rcases Decidable.em (a1 = 0) with cs1 | cs1
  · replace h := it_p cs1 h
    refine lv_tableIn (tgt := 32) S.1 S.2.1 dX7_count_1 (by rw [cs1]; decide) (by rw [cs1]; decide) (by rw [cs1]; rfl) (by decide) ?_
    refine lv_aload_n S.1 S.2.1 dX7_count_32 rfl (lv_at hl 0 rfl) ?_
    refine gf_0_0 S d hk0 fl_RX7_12 dX7_count_33 ?_
    refine gf_1_2 S d (ch_0_0 hk0).1 fl_RX7_55 dX7_count_36 ?_
    obtain rfl := Option.some.inj h
    exact r_iret S d hr rfl rfl dX7_count_39
  replace h := it_n cs1 h
  rcases Decidable.em (a1 = 1) with cs2 | cs2
  · replace h := it_p cs2 h
    refine lv_tableIn (tgt := 40) S.1 S.2.1 dX7_count_1 (by rw [cs2]; decide) (by rw [cs2]; decide) (by rw [cs2]; rfl) (by decide) ?_
    refine lv_aload_n S.1 S.2.1 dX7_count_40 rfl (lv_at hl 0 rfl) ?_
    refine gf_0_0 S d hk0 fl_RX7_12 dX7_count_41 ?_
    refine gf_1_4 S d (ch_0_0 hk0).1 fl_RX7_133 dX7_count_44 ?_
    obtain rfl := Option.some.inj h
    exact r_iret S d hr rfl rfl dX7_count_47
  replace h := it_n cs2 h
  rcases Decidable.em (a1 = 2) with cs4 | cs4
  · replace h := it_p cs4 h
    refine lv_tableIn (tgt := 48) S.1 S.2.1 dX7_count_1 (by rw [cs4]; decide) (by rw [cs4]; decide) (by rw [cs4]; rfl) (by decide) ?_
    refine lv_aload_n S.1 S.2.1 dX7_count_48 rfl (lv_at hl 0 rfl) ?_
    refine gf_0_0 S d hk0 fl_RX7_12 dX7_count_49 ?_
    obtain ⟨u3, hu3, h⟩ := bd_e h
    refine r_ri d (r_cV (As := []) (rest := []) S d (c_X0_feudCount l G M L fu (k0 + 1) (ch_0_0 hk0).1 hu3) (ksdC S (ch_0_0 hk0).1) (wc_1 (ch_0_0 hk0).1) rfl ml_RX7_166 im_yX0_feudCount se_yX0_feudCount in_RX0 co_yX0_feudCount hyV_X0_feudCount ⟨rfl, rfl⟩ ⟨by decide, by decide⟩ rfl hl rfl (Nat.le_of_ble_eq_true rfl) dX7_count_52 ⟨Nat.zero_le _, Nat.zero_le _⟩) (fun H locs d => ?_)
    obtain rfl := Option.some.inj h
    exact r_iret S d hr rfl rfl dX7_count_55
  replace h := it_n cs4 h
  rcases Decidable.em (a1 = 3) with cs6 | cs6
  · replace h := it_p cs6 h
    refine lv_tableIn (tgt := 56) S.1 S.2.1 dX7_count_1 (by rw [cs6]; decide) (by rw [cs6]; decide) (by rw [cs6]; rfl) (by decide) ?_
    refine lv_aload_n S.1 S.2.1 dX7_count_56 rfl (lv_at hl 0 rfl) ?_
    refine gf_0_0 S d hk0 fl_RX7_12 dX7_count_57 ?_
    obtain ⟨u5, hu5, h⟩ := bd_e h
    refine r_ri d (r_cV (As := []) (rest := []) S d (c_X0_allHay l G M L fu (k0 + 1) (ch_0_0 hk0).1 hu5) (ksdC S (ch_0_0 hk0).1) (wc_1 (ch_0_0 hk0).1) rfl ml_RX7_169 im_yX0_allHay se_yX0_allHay in_RX0 co_yX0_allHay hyV_X0_allHay ⟨rfl, rfl⟩ ⟨by decide, by decide⟩ rfl hl rfl (Nat.le_of_ble_eq_true rfl) dX7_count_60 ⟨Nat.zero_le _, Nat.zero_le _⟩) (fun H locs d => ?_)
    obtain rfl := Option.some.inj h
    exact r_iret S d hr rfl rfl dX7_count_63
  replace h := it_n cs6 h
  refine lv_tableOut (tgt := 64) S.1 S.2.1 dX7_count_1 (by have q0 := lv_neT cs1 (a := 0) rfl; have q1 := lv_neT cs2 (a := 1) rfl; have q2 := lv_neT cs4 (a := 2) rfl; have q3 := lv_neT cs6 (a := 3) rfl; omega) (by decide) ?_
  refine lv_iconst (v := (-1)) S.1 S.2.1 dX7_count_64 (by decide) ?_
  obtain rfl := Option.some.inj h
  exact r_iret S d hr rfl rfl dX7_count_65
theorem hyV_X0_hasRoom : yX0_hasRoom.cls = RX0 ∧ yX0_hasRoom.cls ≠ "java/lang/invoke/MethodHandle" ∧ yX0_hasRoom.cls ≠ "java/lang/invoke/VarHandle" ∧ (parseMethodDescriptor yX0_hasRoom.desc).map (fun d => d.parameters.length) = some 2 := by decide +kernel
abbrev rm_X0_hasRoom : Room := { frames := 0, cells := 0, slots := 0, locals := 0 }
def f_X0_hasRoom (M : Mem) (k0 : Nat) (k1 : Nat) (a2 : Int32) : Option (Int32) :=
  (if (M k0 2) < (a2 + (M k1 0)) then some ((0 : Int32))
  else some ((1 : Int32)))
set_option maxHeartbeats 4000000 in
set_option maxRecDepth 100000 in
theorem c_X0_hasRoom (l : Launch) (G : Gx) (M : Mem) (L : MemL) (k0 : Nat) (k1 : Nat) (a2 : Int32) (hk0 : kd k0 = 1) (hk1 : kd k1 = 3) {z : Int32} (h : f_X0_hasRoom M k0 k1 a2 = some z) : Met l yX0_hasRoom (.code yX0_hasRoom cX0_hasRoom 3 (Option.some Jvm.ClassFile.FieldType.boolean) :: UW) rm_X0_hasRoom (va_Pc [.ref (ad G k0), .ref (ad G k1), .int a2] (PreG G false M L)) (Qi G z M L) 0 0 (gA G) := by
  refine r_in (by decide) (fun p e s m args below meth c S hr d ha ls hl => ?_) (Nat.le_of_ble_eq_true rfl)
  have S : Sx G false p s m args meth c cX0_hasRoom 3 RX0 := S
  have hl : lv_has ls 3 [(0, .ref (ad G k0)), (1, .ref (ad G k1)), (2, .int a2)] := hl
  unfold f_X0_hasRoom at h
  refine lv_iload_n S.1 S.2.1 dX0_hasRoom_0 rfl (lv_at hl 2 rfl) ?_
  refine lv_aload_n S.1 S.2.1 dX0_hasRoom_1 rfl (lv_at hl 1 rfl) ?_
  refine gf_3_0 S d hk1 fl_RX0_95 dX0_hasRoom_2 ?_
  refine lv_iadd S.1 S.2.1 dX0_hasRoom_5 ?_
  refine lv_aload_n S.1 S.2.1 dX0_hasRoom_6 rfl (lv_at hl 0 rfl) ?_
  refine gf_1_2 S d hk0 fl_RX0_24 dX0_hasRoom_7 ?_
  refine lv_icmp_gt (tgt := 17) S.1 S.2.1 dX0_hasRoom_10 (by decide) (fun cc => ?_) (fun cc => ?_)
  · replace h := it_p cc h
    refine lv_iconst (v := 0) S.1 S.2.1 dX0_hasRoom_17 (by decide) ?_
    obtain rfl := Option.some.inj h
    exact r_iret S d hr rfl rfl dX0_hasRoom_18
  · replace h := it_n cc h
    refine lv_iconst (v := 1) S.1 S.2.1 dX0_hasRoom_13 (by decide) ?_
    refine lv_goto (tgt := 18) S.1 S.2.1 dX0_hasRoom_14 (by decide) ?_
    obtain rfl := Option.some.inj h
    exact r_iret S d hr rfl rfl dX0_hasRoom_18
theorem hyV_X0_isWritten : yX0_isWritten.cls = RX0 ∧ yX0_isWritten.cls ≠ "java/lang/invoke/MethodHandle" ∧ yX0_isWritten.cls ≠ "java/lang/invoke/VarHandle" ∧ (parseMethodDescriptor yX0_isWritten.desc).map (fun d => d.parameters.length) = some 3 := by decide +kernel
abbrev rm_X0_isWritten : Room := { frames := 3, cells := 0, slots := 0, locals := 65 }
def lp_X0_isWritten_31 (fu : Nat) (M : Mem) (b0 : Nat) (b1 : Nat) (b2 : Int32) (b4 : Int32) (K : Unit → Option (Int32)) : Nat → Int32 → Option (Int32)
  | 0, _ => none
  | n + 1, x5 =>
    (if (M b1 0) ≤ x5 then (K ())
    else gd (inb (b2 + x5) 9) (
      (f_X4_cellsUpTo fu M ((b0 + 2) + 4 + 2 * (b2 + x5).toNatClampNeg) b4).bind (fun u6 =>
      (f_X0_letterSeenAs fu M b0 u6).bind (fun u7 =>
      gd (inb x5 6) (
      (if u7 = (M (b1 + 1) x5.toNatClampNeg) then lt (x5 + 1) (fun v9 : Int32 =>
        (lp_X0_isWritten_31 fu M b0 b1 b2 b4 K n v9))
      else some ((0 : Int32))))))))
def f_X0_isWritten (fu : Nat) (M : Mem) (k0 : Nat) (k1 : Nat) (a2 : Int32) (a3 : Int32) : Option (Int32) :=
  (f_X0_hasRoom M k0 k1 a2).bind (fun u1 =>
  (if u1 = 0 then some ((0 : Int32))
  else gd (inb (1 : Int32) 4) (
    gd (inb (0 : Int32) 4) (
    lt (((M (k0 + 1) (1 : Int32).toNatClampNeg) - (a3 * (M (k0 + 1) (0 : Int32).toNatClampNeg)))) (fun v4 : Int32 =>
    (lp_X0_isWritten_31 fu M k0 k1 a2 v4 (fun (_ : Unit) =>
      some ((1 : Int32))) fu (0 : Int32)))))))
set_option maxHeartbeats 4000000 in
set_option maxRecDepth 100000 in
theorem lc_X0_isWritten_31 {p : Program} {l : Launch} {e : Env} {s : State} {m : MethodId} {args : Array Value} {below : List Frame} {meth : Method} {c : Code} {G : Gx} {M : Mem} {L : MemL} {fu : Nat} {b0 : Nat} {b1 : Nat} {b2 : Int32} {b4 : Int32} {z : Int32} (S : Sx G false p s m args meth c cX0_isWritten 6 RX0) (hr : meth.sig.returnType = (Option.some Jvm.ClassFile.FieldType.boolean)) (hb0 : kd b0 = 1) (hb1 : kd b1 = 3) (K : Unit → Option (Int32)) (hK : ∀ (_ : Unit) (H : Heap) (locs : List Loc), Dy G s M L H locs → ∀ ls : Array Slot, lv_has ls 6 [] → K () = some z → W p l e rm_X0_isWritten s m args below meth c H locs 0 0 (MQ below (Qi G z M L) args s 0 0 (gA G)) (F0 m 76 ls [])) :
    ∀ (n : Nat) (x5 : Int32), lp_X0_isWritten_31 fu M b0 b1 b2 b4 K n x5 = some z → ∀ (H : Heap) (locs : List Loc), Dy G s M L H locs → ∀ ls : Array Slot, lv_has ls 6 [(0, .ref (ad G b0)), (1, .ref (ad G b1)), (2, .int b2), (4, .int b4), (5, .int x5)] → W p l e rm_X0_isWritten s m args below meth c H locs 0 0 (MQ below (Qi G z M L) args s 0 0 (gA G)) (F0 m 31 ls []) := by
  intro n
  induction n with
  | zero =>
    intro x5 h
    have h : (none : Option (Int32)) = some z := h
    cases h
  | succ n ih =>
    intro x5 h H locs d ls hl
    rw [lp_X0_isWritten_31] at h
    refine lv_iload S.1 S.2.1 dX0_isWritten_31 (lv_at hl 4 rfl) ?_
    refine lv_aload_n S.1 S.2.1 dX0_isWritten_33 rfl (lv_at hl 1 rfl) ?_
    refine gf_3_0 S d hb1 fl_RX0_95 dX0_isWritten_34 ?_
    refine lv_icmp_ge (tgt := 76) S.1 S.2.1 dX0_isWritten_37 (by decide) (fun cc => ?_) (fun cc => ?_)
    · replace h := it_p cc h
      exact hK () _ _ d _ (lv_sub hl [] rfl) h
    · replace h := it_n cc h
      refine lv_aload_n S.1 S.2.1 dX0_isWritten_40 rfl (lv_at hl 0 rfl) ?_
      refine lv_aload_n S.1 S.2.1 dX0_isWritten_41 rfl (lv_at hl 0 rfl) ?_
      refine gf_1_1 S d hb0 fl_RX0_20 dX0_isWritten_42 ?_
      refine lv_iload_n S.1 S.2.1 dX0_isWritten_45 rfl (lv_at hl 2 rfl) ?_
      refine lv_iload S.1 S.2.1 dX0_isWritten_46 (lv_at hl 4 rfl) ?_
      refine lv_iadd S.1 S.2.1 dX0_isWritten_48 ?_
      obtain ⟨g5, h⟩ := gd_e h
      refine r_aald S d (ksdC S (ch_1_1 hb0).1) (wc_13 (ch_1_1 hb0).1) rfl rfl g5 (if_pos (inb_lt g5)) dX0_isWritten_49 ?_
      refine lv_iload S.1 S.2.1 dX0_isWritten_50 (lv_at hl 3 rfl) ?_
      obtain ⟨u6, hu6, h⟩ := bd_e h
      refine r_ri d (r_cV (As := [.int b4]) (rest := [.ref (ad G b0)]) S d (c_X4_cellsUpTo l G M L fu ((b0 + 2) + 4 + 2 * (b2 + x5).toNatClampNeg) b4 (ca_13 (ch_1_1 hb0).1 (inb_lt g5)).1 hu6) (ksdC S (ca_13 (ch_1_1 hb0).1 (inb_lt g5)).1) (wc_2 (ca_13 (ch_1_1 hb0).1 (inb_lt g5)).1) rfl ml_RX0_83 im_yX4_cellsUpTo se_yX4_cellsUpTo in_RX4 co_yX4_cellsUpTo hyV_X4_cellsUpTo ⟨rfl, rfl⟩ ⟨by decide, by decide⟩ rfl hl rfl (Nat.le_of_ble_eq_true rfl) dX0_isWritten_52 ⟨Nat.zero_le _, Nat.zero_le _⟩) (fun H locs d => ?_)
      obtain ⟨u7, hu7, h⟩ := bd_e h
      refine r_ri d (r_cV (As := [.int u6]) (rest := []) S d (c_X0_letterSeenAs l G M L fu b0 u6 hb0 hu7) (ksdC S hb0) (wc_1 hb0) rfl ml_RX0_89 im_yX0_letterSeenAs se_yX0_letterSeenAs in_RX0 co_yX0_letterSeenAs hyV_X0_letterSeenAs ⟨rfl, rfl⟩ ⟨by decide, by decide⟩ rfl hl rfl (Nat.le_of_ble_eq_true rfl) dX0_isWritten_55 ⟨Nat.zero_le _, Nat.zero_le _⟩) (fun H locs d => ?_)
      refine lv_aload_n S.1 S.2.1 dX0_isWritten_58 rfl (lv_at hl 1 rfl) ?_
      refine gf_3_2 S d hb1 fl_RX0_102 dX0_isWritten_59 ?_
      refine lv_iload S.1 S.2.1 dX0_isWritten_62 (lv_at hl 4 rfl) ?_
      obtain ⟨g8, h⟩ := gd_e h
      refine r_iald S d (ksdC S (ch_3_2 hb1).1) (wc_10 (ch_3_2 hb1).1) (ch_3_2 hb1).2 g8 dX0_isWritten_64 ?_
      refine lv_icmp_eq (tgt := 70) S.1 S.2.1 dX0_isWritten_65 (by decide) (fun cc => ?_) (fun cc => ?_)
      · replace h := it_p cc h
        obtain ⟨v9, ev9, h⟩ := lt_e h
        refine lv_iinc (v := v9) (lv' := [(5, .int v9), (0, .ref (ad G b0)), (1, .ref (ad G b1)), (2, .int b2), (4, .int b4)]) S.1 S.2.1 dX0_isWritten_70 hl (k := 4) rfl (by rw [ev9]; rfl) (by decide) rfl (fun ls hl => ?_)
        refine lv_goto (tgt := 31) S.1 S.2.1 dX0_isWritten_73 (by decide) ?_
        exact ih _ h _ _ d _ (lv_sub hl [1, 2, 3, 4, 0] rfl)
      · replace h := it_n cc h
        refine lv_iconst (v := 0) S.1 S.2.1 dX0_isWritten_68 (by decide) ?_
        obtain rfl := Option.some.inj h
        exact r_iret S d hr rfl rfl dX0_isWritten_69
set_option maxHeartbeats 4000000 in
set_option maxRecDepth 100000 in
theorem c_X0_isWritten (l : Launch) (G : Gx) (M : Mem) (L : MemL) (fu : Nat) (k0 : Nat) (k1 : Nat) (a2 : Int32) (a3 : Int32) (hk0 : kd k0 = 1) (hk1 : kd k1 = 3) {z : Int32} (h : f_X0_isWritten fu M k0 k1 a2 a3 = some z) : Met l yX0_isWritten (.code yX0_isWritten cX0_isWritten 6 (Option.some Jvm.ClassFile.FieldType.boolean) :: UW) rm_X0_isWritten (va_Pc [.ref (ad G k0), .ref (ad G k1), .int a2, .int a3] (PreG G false M L)) (Qi G z M L) 0 0 (gA G) := by
  refine r_in (by decide) (fun p e s m args below meth c S hr d ha ls hl => ?_) (Nat.le_of_ble_eq_true rfl)
  have S : Sx G false p s m args meth c cX0_isWritten 6 RX0 := S
  have hl : lv_has ls 6 [(0, .ref (ad G k0)), (1, .ref (ad G k1)), (2, .int a2), (3, .int a3)] := hl
  unfold f_X0_isWritten at h
  refine lv_aload_n S.1 S.2.1 dX0_isWritten_0 rfl (lv_at hl 0 rfl) ?_
  refine lv_aload_n S.1 S.2.1 dX0_isWritten_1 rfl (lv_at hl 1 rfl) ?_
  refine lv_iload_n S.1 S.2.1 dX0_isWritten_2 rfl (lv_at hl 2 rfl) ?_
  obtain ⟨u1, hu1, h⟩ := bd_e h
  refine r_ri d (r_cV (As := [.ref (ad G k1), .int a2]) (rest := []) S d (c_X0_hasRoom l G M L k0 k1 a2 hk0 hk1 hu1) (ksdC S hk0) (wc_1 hk0) rfl ml_RX0_98 im_yX0_hasRoom se_yX0_hasRoom in_RX0 co_yX0_hasRoom hyV_X0_hasRoom ⟨rfl, rfl⟩ ⟨by decide, by decide⟩ rfl hl rfl (Nat.le_of_ble_eq_true rfl) dX0_isWritten_3 ⟨Nat.zero_le _, Nat.zero_le _⟩) (fun H locs d => ?_)
  refine lv_if_ne (tgt := 11) S.1 S.2.1 dX0_isWritten_6 (by decide) (fun cc => ?_) (fun cc => ?_)
  · replace h := it_n cc h
    refine lv_aload_n S.1 S.2.1 dX0_isWritten_11 rfl (lv_at hl 0 rfl) ?_
    refine gf_1_0 S d hk0 fl_RX0_13 dX0_isWritten_12 ?_
    refine lv_iconst (v := 1) S.1 S.2.1 dX0_isWritten_15 (by decide) ?_
    obtain ⟨g2, h⟩ := gd_e h
    refine r_iald S d (ksdC S (ch_1_0 hk0).1) (wc_10 (ch_1_0 hk0).1) (ch_1_0 hk0).2 g2 dX0_isWritten_16 ?_
    refine lv_iload_n S.1 S.2.1 dX0_isWritten_17 rfl (lv_at hl 3 rfl) ?_
    refine lv_aload_n S.1 S.2.1 dX0_isWritten_18 rfl (lv_at hl 0 rfl) ?_
    refine gf_1_0 S d hk0 fl_RX0_13 dX0_isWritten_19 ?_
    refine lv_iconst (v := 0) S.1 S.2.1 dX0_isWritten_22 (by decide) ?_
    obtain ⟨g3, h⟩ := gd_e h
    refine r_iald S d (ksdC S (ch_1_0 hk0).1) (wc_10 (ch_1_0 hk0).1) (ch_1_0 hk0).2 g3 dX0_isWritten_23 ?_
    refine lv_imul S.1 S.2.1 dX0_isWritten_24 ?_
    refine lv_isub S.1 S.2.1 dX0_isWritten_25 ?_
    obtain ⟨v4, ev4, h⟩ := lt_e h
    refine r_top ev4 ?_
    refine lv_istore (lv' := [(4, .int v4), (0, .ref (ad G k0)), (1, .ref (ad G k1)), (2, .int a2), (3, .int a3)]) S.1 S.2.1 dX0_isWritten_26 hl (by decide) rfl (fun ls hl => ?_)
    refine lv_iconst (v := 0) S.1 S.2.1 dX0_isWritten_28 (by decide) ?_
    refine lv_istore (lv' := [(5, .int (0 : Int32)), (4, .int v4), (0, .ref (ad G k0)), (1, .ref (ad G k1)), (2, .int a2), (3, .int a3)]) S.1 S.2.1 dX0_isWritten_29 hl (by decide) rfl (fun ls hl => ?_)
    refine lc_X0_isWritten_31 S hr hk0 hk1 _ (fun _ H locs d ls hl h => ?_) _ _  h _ _ d _ (lv_sub hl [2, 3, 4, 1, 0] rfl)
    refine lv_iconst (v := 1) S.1 S.2.1 dX0_isWritten_76 (by decide) ?_
    obtain rfl := Option.some.inj h
    exact r_iret S d hr rfl rfl dX0_isWritten_77
  · replace h := it_p cc h
    refine lv_iconst (v := 0) S.1 S.2.1 dX0_isWritten_9 (by decide) ?_
    obtain rfl := Option.some.inj h
    exact r_iret S d hr rfl rfl dX0_isWritten_10
theorem hyV_X7_written : yX7_written.cls = RX7 ∧ yX7_written.cls ≠ "java/lang/invoke/MethodHandle" ∧ yX7_written.cls ≠ "java/lang/invoke/VarHandle" ∧ (parseMethodDescriptor yX7_written.desc).map (fun d => d.parameters.length) = some 2 := by decide +kernel
abbrev rm_X7_written : Room := { frames := 4, cells := 0, slots := 0, locals := 90 }
def f_X7_written (fu : Nat) (M : Mem) (k0 : Nat) (a1 : Int32) (a2 : Int32) : Option (Int32) :=
  (f_X7_isWord M k0 a1).bind (fun u1 =>
  (if u1 = 0 then some ((-1 : Int32))
  else (f_X7_isStrip M k0 a2).bind (fun u2 =>
    (if u2 = 0 then some ((-1 : Int32))
    else gd (inb a1 10) (
      (f_X0_isWritten fu M (k0 + 1) (((k0 + 1) + 3) + 21 + 2 * a1.toNatClampNeg) a2 (0 : Int32)).bind (fun u4 =>
      (if u4 = 0 then some ((0 : Int32))
      else some ((1 : Int32)))))))))
set_option maxHeartbeats 4000000 in
set_option maxRecDepth 100000 in
theorem c_X7_written (l : Launch) (G : Gx) (M : Mem) (L : MemL) (fu : Nat) (k0 : Nat) (a1 : Int32) (a2 : Int32) (hk0 : kd k0 = 0) {z : Int32} (h : f_X7_written fu M k0 a1 a2 = some z) : Met l yX7_written (.code yX7_written cX7_written 3 (Option.some Jvm.ClassFile.FieldType.int) :: UW) rm_X7_written (va_Pc [.ref (ad G k0), .int a1, .int a2] (PreG G false M L)) (Qi G z M L) 0 0 (gA G) := by
  refine r_in (by decide) (fun p e s m args below meth c S hr d ha ls hl => ?_) (Nat.le_of_ble_eq_true rfl)
  have S : Sx G false p s m args meth c cX7_written 3 RX7 := S
  have hl : lv_has ls 3 [(0, .ref (ad G k0)), (1, .int a1), (2, .int a2)] := hl
  unfold f_X7_written at h
  refine lv_aload_n S.1 S.2.1 dX7_written_0 rfl (lv_at hl 0 rfl) ?_
  refine lv_iload_n S.1 S.2.1 dX7_written_1 rfl (lv_at hl 1 rfl) ?_
  obtain ⟨u1, hu1, h⟩ := bd_e h
  refine r_ri d (r_cV (As := [.int a1]) (rest := []) S d (c_X7_isWord l G M L k0 a1 hk0 hu1) (ksdC S hk0) (wc_0 hk0) rfl ml_RX7_144 im_yX7_isWord se_yX7_isWord in_RX7 co_yX7_isWord hyV_X7_isWord ⟨rfl, rfl⟩ ⟨by decide, by decide⟩ rfl hl rfl (Nat.le_of_ble_eq_true rfl) dX7_written_2 ⟨Nat.zero_le _, Nat.zero_le _⟩) (fun H locs d => ?_)
  refine lv_if_eq (tgt := 16) S.1 S.2.1 dX7_written_5 (by decide) (fun cc => ?_) (fun cc => ?_)
  · replace h := it_p cc h
    refine lv_iconst (v := (-1)) S.1 S.2.1 dX7_written_16 (by decide) ?_
    obtain rfl := Option.some.inj h
    exact r_iret S d hr rfl rfl dX7_written_17
  · replace h := it_n cc h
    refine lv_aload_n S.1 S.2.1 dX7_written_8 rfl (lv_at hl 0 rfl) ?_
    refine lv_iload_n S.1 S.2.1 dX7_written_9 rfl (lv_at hl 2 rfl) ?_
    obtain ⟨u2, hu2, h⟩ := bd_e h
    refine r_ri d (r_cV (As := [.int a2]) (rest := []) S d (c_X7_isStrip l G M L k0 a2 hk0 hu2) (ksdC S hk0) (wc_0 hk0) rfl ml_RX7_70 im_yX7_isStrip se_yX7_isStrip in_RX7 co_yX7_isStrip hyV_X7_isStrip ⟨rfl, rfl⟩ ⟨by decide, by decide⟩ rfl hl rfl (Nat.le_of_ble_eq_true rfl) dX7_written_10 ⟨Nat.zero_le _, Nat.zero_le _⟩) (fun H locs d => ?_)
    refine lv_if_ne (tgt := 18) S.1 S.2.1 dX7_written_13 (by decide) (fun cc => ?_) (fun cc => ?_)
    · replace h := it_n cc h
      refine lv_aload_n S.1 S.2.1 dX7_written_18 rfl (lv_at hl 0 rfl) ?_
      refine gf_0_0 S d hk0 fl_RX7_12 dX7_written_19 ?_
      refine lv_aload_n S.1 S.2.1 dX7_written_22 rfl (lv_at hl 0 rfl) ?_
      refine gf_0_0 S d hk0 fl_RX7_12 dX7_written_23 ?_
      refine gf_1_3 S d (ch_0_0 hk0).1 fl_RX7_147 dX7_written_26 ?_
      refine lv_iload_n S.1 S.2.1 dX7_written_29 rfl (lv_at hl 1 rfl) ?_
      obtain ⟨g3, h⟩ := gd_e h
      refine r_aald S d (ksdC S (ch_1_3 (ch_0_0 hk0).1).1) (wc_14 (ch_1_3 (ch_0_0 hk0).1).1) rfl rfl g3 (if_pos (inb_lt g3)) dX7_written_30 ?_
      refine lv_iload_n S.1 S.2.1 dX7_written_31 rfl (lv_at hl 2 rfl) ?_
      refine lv_iconst (v := 0) S.1 S.2.1 dX7_written_32 (by decide) ?_
      obtain ⟨u4, hu4, h⟩ := bd_e h
      refine r_ri d (r_cV (As := [.ref (ad G (((k0 + 1) + 3) + 21 + 2 * a1.toNatClampNeg)), .int a2, .int (0 : Int32)]) (rest := []) S d (c_X0_isWritten l G M L fu (k0 + 1) (((k0 + 1) + 3) + 21 + 2 * a1.toNatClampNeg) a2 (0 : Int32) (ch_0_0 hk0).1 (ca_14 (ch_1_3 (ch_0_0 hk0).1).1 (inb_lt g3)).1 hu4) (ksdC S (ch_0_0 hk0).1) (wc_1 (ch_0_0 hk0).1) rfl ml_RX7_172 im_yX0_isWritten se_yX0_isWritten in_RX0 co_yX0_isWritten hyV_X0_isWritten ⟨rfl, rfl⟩ ⟨by decide, by decide⟩ rfl hl rfl (Nat.le_of_ble_eq_true rfl) dX7_written_33 ⟨Nat.zero_le _, Nat.zero_le _⟩) (fun H locs d => ?_)
      refine lv_if_eq (tgt := 43) S.1 S.2.1 dX7_written_36 (by decide) (fun cc => ?_) (fun cc => ?_)
      · replace h := it_p cc h
        refine lv_iconst (v := 0) S.1 S.2.1 dX7_written_43 (by decide) ?_
        obtain rfl := Option.some.inj h
        exact r_iret S d hr rfl rfl dX7_written_44
      · replace h := it_n cc h
        refine lv_iconst (v := 1) S.1 S.2.1 dX7_written_39 (by decide) ?_
        refine lv_goto (tgt := 44) S.1 S.2.1 dX7_written_40 (by decide) ?_
        obtain rfl := Option.some.inj h
        exact r_iret S d hr rfl rfl dX7_written_44
    · replace h := it_p cc h
      refine lv_iconst (v := (-1)) S.1 S.2.1 dX7_written_16 (by decide) ?_
      obtain rfl := Option.some.inj h
      exact r_iret S d hr rfl rfl dX7_written_17
theorem hyS_X7_isRowPlace : yX7_isRowPlace.cls ≠ "java/lang/invoke/MethodHandle" ∧ yX7_isRowPlace.cls ≠ "java/lang/invoke/VarHandle" ∧ (parseMethodDescriptor yX7_isRowPlace.desc).map (fun d => d.parameters.length) = some 1 := by decide +kernel
abbrev rm_X7_isRowPlace : Room := { frames := 0, cells := 0, slots := 0, locals := 0 }
def f_X7_isRowPlace (a0 : Int32) : Option (Int32) :=
  (if a0 < (-2 : Int32) then some ((0 : Int32))
  else (if (9 : Int32) ≤ a0 then some ((0 : Int32))
    else some ((1 : Int32))))
set_option maxHeartbeats 4000000 in
set_option maxRecDepth 100000 in
theorem c_X7_isRowPlace (l : Launch) (G : Gx) (M : Mem) (L : MemL) (a0 : Int32) {z : Int32} (h : f_X7_isRowPlace a0 = some z) : Met l yX7_isRowPlace (.code yX7_isRowPlace cX7_isRowPlace 1 (Option.some Jvm.ClassFile.FieldType.boolean) :: UW) rm_X7_isRowPlace (va_Pc [.int a0] (PreG G false M L)) (Qi G z M L) 0 0 (gA G) := by
  refine r_in (by decide) (fun p e s m args below meth c S hr d ha ls hl => ?_) (Nat.le_of_ble_eq_true rfl)
  have S : Sx G false p s m args meth c cX7_isRowPlace 1 RX7 := S
  have hl : lv_has ls 1 [(0, .int a0)] := hl
  unfold f_X7_isRowPlace at h
  refine lv_iload_n S.1 S.2.1 dX7_isRowPlace_0 rfl (lv_at hl 0 rfl) ?_
  refine lv_bipush (v := (-2)) S.1 S.2.1 dX7_isRowPlace_1 (by decide) ?_
  refine lv_icmp_lt (tgt := 16) S.1 S.2.1 dX7_isRowPlace_3 (by decide) (fun cc => ?_) (fun cc => ?_)
  · replace h := it_p cc h
    refine lv_iconst (v := 0) S.1 S.2.1 dX7_isRowPlace_16 (by decide) ?_
    obtain rfl := Option.some.inj h
    exact r_iret S d hr rfl rfl dX7_isRowPlace_17
  · replace h := it_n cc h
    refine lv_iload_n S.1 S.2.1 dX7_isRowPlace_6 rfl (lv_at hl 0 rfl) ?_
    refine lv_bipush (v := 9) S.1 S.2.1 dX7_isRowPlace_7 (by decide) ?_
    refine lv_icmp_ge (tgt := 16) S.1 S.2.1 dX7_isRowPlace_9 (by decide) (fun cc => ?_) (fun cc => ?_)
    · replace h := it_p cc h
      refine lv_iconst (v := 0) S.1 S.2.1 dX7_isRowPlace_16 (by decide) ?_
      obtain rfl := Option.some.inj h
      exact r_iret S d hr rfl rfl dX7_isRowPlace_17
    · replace h := it_n cc h
      refine lv_iconst (v := 1) S.1 S.2.1 dX7_isRowPlace_12 (by decide) ?_
      refine lv_goto (tgt := 17) S.1 S.2.1 dX7_isRowPlace_13 (by decide) ?_
      obtain rfl := Option.some.inj h
      exact r_iret S d hr rfl rfl dX7_isRowPlace_17
theorem hyV_X2_weighWritten : yX2_weighWritten.cls = RX2 ∧ yX2_weighWritten.cls ≠ "java/lang/invoke/MethodHandle" ∧ yX2_weighWritten.cls ≠ "java/lang/invoke/VarHandle" ∧ (parseMethodDescriptor yX2_weighWritten.desc).map (fun d => d.parameters.length) = some 1 := by decide +kernel
abbrev rm_X2_weighWritten : Room := { frames := 4, cells := 0, slots := 0, locals := 90 }
def lp_X2_weighWritten_12 (fu : Nat) (b0 : Nat) (b1 : Nat) (b2 : Int32) (K : Mem → Option (Mem)) : Nat → Int32 → Mem → Option (Mem)
  | 0, _, _ => none
  | n + 1, x3, Mx =>
    (if (Mx b1 4) ≤ x3 then (K Mx)
    else gd (inb x3 10) (
      lt (((b1 + 3) + 21 + 2 * x3.toNatClampNeg)) (fun r2 : Nat =>
      gd (inb b2 9) (
      (f_X0_isWritten fu Mx b1 r2 b2 (0 : Int32)).bind (fun u4 =>
      (if u4 = 0 then some (-1000000 : Int32)
      else some (Mx r2 1)).bind (fun t5 : Int32 =>
      gd (inb x3 10) (
      lt (up Mx ((b0 + 1) + 1 + b2.toNatClampNeg) x3.toNatClampNeg t5) (fun M8 : Mem =>
      lt (x3 + 1) (fun v9 : Int32 =>
      (lp_X2_weighWritten_12 fu b0 b1 b2 K n v9 M8))))))))))
def lp_X2_weighWritten_2 (fu : Nat) (b0 : Nat) (b1 : Nat) (K : Mem → Option (Mem)) : Nat → Int32 → Mem → Option (Mem)
  | 0, _, _ => none
  | n + 1, x2, Mx =>
    (if (Mx b1 2) ≤ x2 then (K Mx)
    else (lp_X2_weighWritten_12 fu b0 b1 x2 (fun (M10 : Mem) =>
        lt (x2 + 1) (fun v11 : Int32 =>
        (lp_X2_weighWritten_2 fu b0 b1 K n v11 M10))) fu (0 : Int32) Mx))
def f_X2_weighWritten (fu : Nat) (M : Mem) (k0 : Nat) (k1 : Nat) : Option (Mem) :=
  (lp_X2_weighWritten_2 fu k0 k1 (fun (M12 : Mem) =>
    some (M12)) fu (0 : Int32) M)
set_option maxHeartbeats 4000000 in
set_option maxRecDepth 100000 in
theorem lc_X2_weighWritten_12 {p : Program} {l : Launch} {e : Env} {s : State} {m : MethodId} {args : Array Value} {below : List Frame} {meth : Method} {c : Code} {G : Gx} {L : MemL} {fu : Nat} {b0 : Nat} {b1 : Nat} {b2 : Int32} {z : Mem} (S : Sx G false p s m args meth c cX2_weighWritten 5 RX2) (hr : meth.sig.returnType = (Option.none : Option Jvm.ClassFile.FieldType)) (hb0 : kd b0 = 4) (hb1 : kd b1 = 1) (K : Mem → Option (Mem)) (hK : ∀ (My : Mem) (H : Heap) (locs : List Loc), Dy G s My L H locs → ∀ ls : Array Slot, lv_has ls 5 [(0, .ref (ad G b0)), (1, .ref (ad G b1)), (2, .int b2)] → K My = some z → W p l e rm_X2_weighWritten s m args below meth c H locs 0 0 (MQ below (Qv G z L) args s 0 0 (gA G)) (F0 m 63 ls [])) :
    ∀ (n : Nat) (x3 : Int32) (Mx : Mem), lp_X2_weighWritten_12 fu b0 b1 b2 K n x3 Mx = some z → ∀ (H : Heap) (locs : List Loc), Dy G s Mx L H locs → ∀ ls : Array Slot, lv_has ls 5 [(0, .ref (ad G b0)), (1, .ref (ad G b1)), (2, .int b2), (3, .int x3)] → W p l e rm_X2_weighWritten s m args below meth c H locs 0 0 (MQ below (Qv G z L) args s 0 0 (gA G)) (F0 m 12 ls []) := by
  intro n
  induction n with
  | zero =>
    intro x3 Mx h
    have h : (none : Option (Mem)) = some z := h
    cases h
  | succ n ih =>
    intro x3 Mx h H locs d ls hl
    rw [lp_X2_weighWritten_12] at h
    refine lv_iload_n S.1 S.2.1 dX2_weighWritten_12 rfl (lv_at hl 3 rfl) ?_
    refine lv_aload_n S.1 S.2.1 dX2_weighWritten_13 rfl (lv_at hl 1 rfl) ?_
    refine gf_1_4 S d hb1 fl_RX2_32 dX2_weighWritten_14 ?_
    refine lv_icmp_ge (tgt := 63) S.1 S.2.1 dX2_weighWritten_17 (by decide) (fun cc => ?_) (fun cc => ?_)
    · replace h := it_p cc h
      exact hK _ _ _ d _ (lv_sub hl [0, 1, 2] rfl) h
    · replace h := it_n cc h
      refine lv_aload_n S.1 S.2.1 dX2_weighWritten_20 rfl (lv_at hl 1 rfl) ?_
      refine gf_1_3 S d hb1 fl_RX2_35 dX2_weighWritten_21 ?_
      refine lv_iload_n S.1 S.2.1 dX2_weighWritten_24 rfl (lv_at hl 3 rfl) ?_
      obtain ⟨g1, h⟩ := gd_e h
      refine r_aald S d (ksdC S (ch_1_3 hb1).1) (wc_14 (ch_1_3 hb1).1) rfl rfl g1 (if_pos (inb_lt g1)) dX2_weighWritten_25 ?_
      obtain ⟨r2, er2, h⟩ := lt_e h
      refine r_topr er2 ?_
      have hkr2 : kd r2 = 3 := by rw [er2]; exact (ca_14 (ch_1_3 hb1).1 (inb_lt g1)).1
      refine lv_astore (lv' := [(4, .ref (ad G r2)), (0, .ref (ad G b0)), (1, .ref (ad G b1)), (2, .int b2), (3, .int x3)]) S.1 S.2.1 dX2_weighWritten_26 hl (by decide) rfl (fun ls hl => ?_)
      refine lv_aload_n S.1 S.2.1 dX2_weighWritten_28 rfl (lv_at hl 1 rfl) ?_
      refine gf_4_0 S d hb0 fl_RX2_11 dX2_weighWritten_29 ?_
      refine lv_iload_n S.1 S.2.1 dX2_weighWritten_32 rfl (lv_at hl 3 rfl) ?_
      obtain ⟨g3, h⟩ := gd_e h
      refine r_aald S d (ksdC S (ch_4_0 hb0).1) (wc_16 (ch_4_0 hb0).1) rfl rfl g3 (if_pos (inb_lt g3)) dX2_weighWritten_33 ?_
      refine lv_iload_n S.1 S.2.1 dX2_weighWritten_34 rfl (lv_at hl 4 rfl) ?_
      refine lv_aload_n S.1 S.2.1 dX2_weighWritten_35 rfl (lv_at hl 2 rfl) ?_
      refine lv_aload S.1 S.2.1 dX2_weighWritten_36 (lv_at hl 0 rfl) ?_
      refine lv_iload_n S.1 S.2.1 dX2_weighWritten_38 rfl (lv_at hl 3 rfl) ?_
      refine lv_iconst (v := 0) S.1 S.2.1 dX2_weighWritten_39 (by decide) ?_
      obtain ⟨u4, hu4, h⟩ := bd_e h
      refine r_ri d (r_cV (As := [.ref (ad G r2), .int b2, .int (0 : Int32)]) (rest := [.int x3, .ref (ad G ((b0 + 1) + 1 + b2.toNatClampNeg))]) S d (c_X0_isWritten l G Mx L fu b1 r2 b2 (0 : Int32) hb1 hkr2 hu4) (ksdC S hb1) (wc_1 hb1) rfl ml_RX2_39 im_yX0_isWritten se_yX0_isWritten in_RX0 co_yX0_isWritten hyV_X0_isWritten ⟨rfl, rfl⟩ ⟨by decide, by decide⟩ rfl hl rfl (Nat.le_of_ble_eq_true rfl) dX2_weighWritten_40 ⟨Nat.zero_le _, Nat.zero_le _⟩) (fun H locs d => ?_)
      obtain ⟨t5, g6, h⟩ := bd_e h
      have Jt5 : ∀ (H : Heap) (locs : List Loc), Dy G s Mx L H locs → W p l e rm_X2_weighWritten s m args below meth c H locs 0 0 (MQ below (Qv G z L) args s 0 0 (gA G)) (F0 m 56 ls [.int t5, .int x3, .ref (ad G ((b0 + 1) + 1 + b2.toNatClampNeg))]) := by
        intro H locs d
        obtain ⟨g7, h⟩ := gd_e h
        obtain ⟨M8, eM8, h⟩ := lt_e h
        refine r_iast S d eM8 (ksdC S (ca_16 (ch_4_0 hb0).1 (inb_lt g3)).1) (fun _ => wc_10 (ca_16 (ch_4_0 hb0).1 (inb_lt g3)).1) (ca_16 (ch_4_0 hb0).1 (inb_lt g3)).2 g7 dX2_weighWritten_56 (fun H locs d => ?_)
        obtain ⟨v9, ev9, h⟩ := lt_e h
        refine lv_iinc (v := v9) (lv' := [(3, .int v9), (4, .ref (ad G r2)), (0, .ref (ad G b0)), (1, .ref (ad G b1)), (2, .int b2)]) S.1 S.2.1 dX2_weighWritten_57 hl (k := 4) rfl (by rw [ev9]; rfl) (by decide) rfl (fun ls hl => ?_)
        refine lv_goto (tgt := 12) S.1 S.2.1 dX2_weighWritten_60 (by decide) ?_
        exact ih _ _ h _ _ d _ (lv_sub hl [2, 3, 4, 0] rfl)
      have h := g6
      refine lv_if_eq (tgt := 54) S.1 S.2.1 dX2_weighWritten_43 (by decide) (fun cc => ?_) (fun cc => ?_)
      · replace h := it_p cc h
        refine lv_ldc (v := -1000000) S.1 S.2.1 S.2.2.2.1 (S.uw ck_RX2_48) dX2_weighWritten_54 ?_
        obtain ej := Option.some.inj h
        refine r_top ej.symm ?_
        exact Jt5 _ _ d
      · replace h := it_n cc h
        refine lv_aload S.1 S.2.1 dX2_weighWritten_46 (lv_at hl 0 rfl) ?_
        refine gf_3_1 S d hkr2 fl_RX2_43 dX2_weighWritten_48 ?_
        refine lv_goto (tgt := 56) S.1 S.2.1 dX2_weighWritten_51 (by decide) ?_
        obtain ej := Option.some.inj h
        refine r_top ej.symm ?_
        exact Jt5 _ _ d
set_option maxHeartbeats 4000000 in
set_option maxRecDepth 100000 in
theorem lc_X2_weighWritten_2 {p : Program} {l : Launch} {e : Env} {s : State} {m : MethodId} {args : Array Value} {below : List Frame} {meth : Method} {c : Code} {G : Gx} {L : MemL} {fu : Nat} {b0 : Nat} {b1 : Nat} {z : Mem} (S : Sx G false p s m args meth c cX2_weighWritten 5 RX2) (hr : meth.sig.returnType = (Option.none : Option Jvm.ClassFile.FieldType)) (hb0 : kd b0 = 4) (hb1 : kd b1 = 1) (K : Mem → Option (Mem)) (hK : ∀ (My : Mem) (H : Heap) (locs : List Loc), Dy G s My L H locs → ∀ ls : Array Slot, lv_has ls 5 [] → K My = some z → W p l e rm_X2_weighWritten s m args below meth c H locs 0 0 (MQ below (Qv G z L) args s 0 0 (gA G)) (F0 m 69 ls [])) :
    ∀ (n : Nat) (x2 : Int32) (Mx : Mem), lp_X2_weighWritten_2 fu b0 b1 K n x2 Mx = some z → ∀ (H : Heap) (locs : List Loc), Dy G s Mx L H locs → ∀ ls : Array Slot, lv_has ls 5 [(0, .ref (ad G b0)), (1, .ref (ad G b1)), (2, .int x2)] → W p l e rm_X2_weighWritten s m args below meth c H locs 0 0 (MQ below (Qv G z L) args s 0 0 (gA G)) (F0 m 2 ls []) := by
  intro n
  induction n with
  | zero =>
    intro x2 Mx h
    have h : (none : Option (Mem)) = some z := h
    cases h
  | succ n ih =>
    intro x2 Mx h H locs d ls hl
    rw [lp_X2_weighWritten_2] at h
    refine lv_iload_n S.1 S.2.1 dX2_weighWritten_2 rfl (lv_at hl 2 rfl) ?_
    refine lv_aload_n S.1 S.2.1 dX2_weighWritten_3 rfl (lv_at hl 1 rfl) ?_
    refine gf_1_2 S d hb1 fl_RX2_27 dX2_weighWritten_4 ?_
    refine lv_icmp_ge (tgt := 69) S.1 S.2.1 dX2_weighWritten_7 (by decide) (fun cc => ?_) (fun cc => ?_)
    · replace h := it_p cc h
      exact hK _ _ _ d _ (lv_sub hl [] rfl) h
    · replace h := it_n cc h
      refine lv_iconst (v := 0) S.1 S.2.1 dX2_weighWritten_10 (by decide) ?_
      refine lv_istore_n (lv' := [(3, .int (0 : Int32)), (0, .ref (ad G b0)), (1, .ref (ad G b1)), (2, .int x2)]) S.1 S.2.1 dX2_weighWritten_11 rfl hl (by decide) rfl (fun ls hl => ?_)
      refine lc_X2_weighWritten_12 S hr hb0 hb1 _ (fun M10 H locs d ls hl h => ?_) _ _ _  h _ _ d _ (lv_sub hl [1, 2, 3, 0] rfl)
      obtain ⟨v11, ev11, h⟩ := lt_e h
      refine lv_iinc (v := v11) (lv' := [(2, .int v11), (0, .ref (ad G b0)), (1, .ref (ad G b1))]) S.1 S.2.1 dX2_weighWritten_63 hl (k := 2) rfl (by rw [ev11]; rfl) (by decide) rfl (fun ls hl => ?_)
      refine lv_goto (tgt := 2) S.1 S.2.1 dX2_weighWritten_66 (by decide) ?_
      exact ih _ _ h _ _ d _ (lv_sub hl [1, 2, 0] rfl)
set_option maxHeartbeats 4000000 in
set_option maxRecDepth 100000 in
theorem c_X2_weighWritten (l : Launch) (G : Gx) (M : Mem) (L : MemL) (fu : Nat) (k0 : Nat) (k1 : Nat) (hk0 : kd k0 = 4) (hk1 : kd k1 = 1) {z : Mem} (h : f_X2_weighWritten fu M k0 k1 = some z) : Met l yX2_weighWritten (.code yX2_weighWritten cX2_weighWritten 5 (Option.none : Option Jvm.ClassFile.FieldType) :: UW) rm_X2_weighWritten (va_Pc [.ref (ad G k0), .ref (ad G k1)] (PreG G false M L)) (Qv G z L) 0 0 (gA G) := by
  refine r_in (by decide) (fun p e s m args below meth c S hr d ha ls hl => ?_) (Nat.le_of_ble_eq_true rfl)
  have S : Sx G false p s m args meth c cX2_weighWritten 5 RX2 := S
  have hl : lv_has ls 5 [(0, .ref (ad G k0)), (1, .ref (ad G k1))] := hl
  unfold f_X2_weighWritten at h
  refine lv_iconst (v := 0) S.1 S.2.1 dX2_weighWritten_0 (by decide) ?_
  refine lv_istore_n (lv' := [(2, .int (0 : Int32)), (0, .ref (ad G k0)), (1, .ref (ad G k1))]) S.1 S.2.1 dX2_weighWritten_1 rfl hl (by decide) rfl (fun ls hl => ?_)
  refine lc_X2_weighWritten_2 S hr hk0 hk1 _ (fun M12 H locs d ls hl h => ?_) _ _ _  h _ _ d _ (lv_sub hl [1, 2, 0] rfl)
  obtain rfl := Option.some.inj h
  exact r_vret S d hr dX2_weighWritten_69
theorem hyV_X2_mostBy : yX2_mostBy.cls = RX2 ∧ yX2_mostBy.cls ≠ "java/lang/invoke/MethodHandle" ∧ yX2_mostBy.cls ≠ "java/lang/invoke/VarHandle" ∧ (parseMethodDescriptor yX2_mostBy.desc).map (fun d => d.parameters.length) = some 3 := by decide +kernel
abbrev rm_X2_mostBy : Room := { frames := 0, cells := 0, slots := 0, locals := 0 }
def f_X2_mostBy (M : Mem) (k0 : Nat) (k1 : Nat) (a2 : Int32) (a3 : Int32) : Option (Int32) :=
  gd (inb a2 9) (
  gd (inb a3 10) (
  gd (inb a3 10) (
  gd (inb (a2 + (M ((k1 + 3) + 21 + 2 * a3.toNatClampNeg) 0)) 10) (
  some (((M ((k0 + 1) + 1 + a2.toNatClampNeg) a3.toNatClampNeg) + (M (k0 + 11) (a2 + (M ((k1 + 3) + 21 + 2 * a3.toNatClampNeg) 0)).toNatClampNeg)))))))
set_option maxHeartbeats 4000000 in
set_option maxRecDepth 100000 in
theorem c_X2_mostBy (l : Launch) (G : Gx) (M : Mem) (L : MemL) (k0 : Nat) (k1 : Nat) (a2 : Int32) (a3 : Int32) (hk0 : kd k0 = 4) (hk1 : kd k1 = 1) {z : Int32} (h : f_X2_mostBy M k0 k1 a2 a3 = some z) : Met l yX2_mostBy (.code yX2_mostBy cX2_mostBy 4 (Option.some Jvm.ClassFile.FieldType.int) :: UW) rm_X2_mostBy (va_Pc [.ref (ad G k0), .ref (ad G k1), .int a2, .int a3] (PreG G false M L)) (Qi G z M L) 0 0 (gA G) := by
  refine r_in (by decide) (fun p e s m args below meth c S hr d ha ls hl => ?_) (Nat.le_of_ble_eq_true rfl)
  have S : Sx G false p s m args meth c cX2_mostBy 4 RX2 := S
  have hl : lv_has ls 4 [(0, .ref (ad G k0)), (1, .ref (ad G k1)), (2, .int a2), (3, .int a3)] := hl
  unfold f_X2_mostBy at h
  refine lv_aload_n S.1 S.2.1 dX2_mostBy_0 rfl (lv_at hl 0 rfl) ?_
  refine gf_4_0 S d hk0 fl_RX2_11 dX2_mostBy_1 ?_
  refine lv_iload_n S.1 S.2.1 dX2_mostBy_4 rfl (lv_at hl 2 rfl) ?_
  obtain ⟨g1, h⟩ := gd_e h
  refine r_aald S d (ksdC S (ch_4_0 hk0).1) (wc_16 (ch_4_0 hk0).1) rfl rfl g1 (if_pos (inb_lt g1)) dX2_mostBy_5 ?_
  refine lv_iload_n S.1 S.2.1 dX2_mostBy_6 rfl (lv_at hl 3 rfl) ?_
  obtain ⟨g2, h⟩ := gd_e h
  refine r_iald S d (ksdC S (ca_16 (ch_4_0 hk0).1 (inb_lt g1)).1) (wc_10 (ca_16 (ch_4_0 hk0).1 (inb_lt g1)).1) (ca_16 (ch_4_0 hk0).1 (inb_lt g1)).2 g2 dX2_mostBy_7 ?_
  refine lv_aload_n S.1 S.2.1 dX2_mostBy_8 rfl (lv_at hl 0 rfl) ?_
  refine gf_4_1 S d hk0 fl_RX2_16 dX2_mostBy_9 ?_
  refine lv_iload_n S.1 S.2.1 dX2_mostBy_12 rfl (lv_at hl 2 rfl) ?_
  refine lv_aload_n S.1 S.2.1 dX2_mostBy_13 rfl (lv_at hl 1 rfl) ?_
  refine gf_1_3 S d hk1 fl_RX2_35 dX2_mostBy_14 ?_
  refine lv_iload_n S.1 S.2.1 dX2_mostBy_17 rfl (lv_at hl 3 rfl) ?_
  obtain ⟨g3, h⟩ := gd_e h
  refine r_aald S d (ksdC S (ch_1_3 hk1).1) (wc_14 (ch_1_3 hk1).1) rfl rfl g3 (if_pos (inb_lt g3)) dX2_mostBy_18 ?_
  refine gf_3_0 S d (ca_14 (ch_1_3 hk1).1 (inb_lt g3)).1 fl_RX2_65 dX2_mostBy_19 ?_
  refine lv_iadd S.1 S.2.1 dX2_mostBy_22 ?_
  obtain ⟨g4, h⟩ := gd_e h
  refine r_iald S d (ksdC S (ch_4_1 hk0).1) (wc_10 (ch_4_1 hk0).1) (ch_4_1 hk0).2 g4 dX2_mostBy_23 ?_
  refine lv_iadd S.1 S.2.1 dX2_mostBy_24 ?_
  obtain rfl := Option.some.inj h
  exact r_iret S d hr rfl rfl dX2_mostBy_25
theorem hyV_X2_sumUp : yX2_sumUp.cls = RX2 ∧ yX2_sumUp.cls ≠ "java/lang/invoke/MethodHandle" ∧ yX2_sumUp.cls ≠ "java/lang/invoke/VarHandle" ∧ (parseMethodDescriptor yX2_sumUp.desc).map (fun d => d.parameters.length) = some 1 := by decide +kernel
abbrev rm_X2_sumUp : Room := { frames := 1, cells := 0, slots := 0, locals := 23 }
def lp_X2_sumUp_37 (fu : Nat) (b0 : Nat) (b1 : Nat) (b2 : Int32) (K : Mem → Option (Mem)) : Nat → Int32 → Mem → Option (Mem)
  | 0, _, _ => none
  | n + 1, x3, Mx =>
    (if (Mx b1 4) ≤ x3 then (K Mx)
    else gd (inb b2 9) (
      gd (inb x3 10) (
      (if (Mx ((b0 + 1) + 1 + b2.toNatClampNeg) x3.toNatClampNeg) = (-1000000 : Int32) then lt (x3 + 1) (fun v14 : Int32 =>
        (lp_X2_sumUp_37 fu b0 b1 b2 K n v14 Mx))
      else gd (inb b2 10) (
        (f_X2_mostBy Mx b0 b1 b2 x3).bind (fun u10 =>
        gd (inb b2 10) (
        lt (up Mx (b0 + 11) b2.toNatClampNeg (if (Mx (b0 + 11) b2.toNatClampNeg) < u10 then u10 else (Mx (b0 + 11) b2.toNatClampNeg))) (fun M12 : Mem =>
        lt (x3 + 1) (fun v13 : Int32 =>
        (lp_X2_sumUp_37 fu b0 b1 b2 K n v13 M12))))))))))
def lp_X2_sumUp_17 (fu : Nat) (b0 : Nat) (b1 : Nat) (K : Mem → Option (Mem)) : Nat → Int32 → Mem → Option (Mem)
  | 0, _, _ => none
  | n + 1, x2, Mx =>
    (if x2 < 0 then (K Mx)
    else gd (inb (x2 + (1 : Int32)) 10) (
      gd (inb x2 10) (
      lt (up Mx (b0 + 11) x2.toNatClampNeg (Mx (b0 + 11) (x2 + (1 : Int32)).toNatClampNeg)) (fun M6 : Mem =>
      (lp_X2_sumUp_37 fu b0 b1 x2 (fun (M15 : Mem) =>
        lt (x2 + (-1)) (fun v16 : Int32 =>
        (lp_X2_sumUp_17 fu b0 b1 K n v16 M15))) fu (0 : Int32) M6)))))
def f_X2_sumUp (fu : Nat) (M : Mem) (k0 : Nat) (k1 : Nat) : Option (Mem) :=
  gd (inb (M k1 2) 10) (
  lt (up M (k0 + 11) (M k1 2).toNatClampNeg (0 : Int32)) (fun M2 : Mem =>
  lt (((M2 k1 2) - (1 : Int32))) (fun v3 : Int32 =>
  (lp_X2_sumUp_17 fu k0 k1 (fun (M17 : Mem) =>
    some (M17)) fu v3 M2))))
set_option maxHeartbeats 4000000 in
set_option maxRecDepth 100000 in
theorem lc_X2_sumUp_37 {p : Program} {l : Launch} {e : Env} {s : State} {m : MethodId} {args : Array Value} {below : List Frame} {meth : Method} {c : Code} {G : Gx} {L : MemL} {fu : Nat} {b0 : Nat} {b1 : Nat} {b2 : Int32} {z : Mem} (S : Sx G false p s m args meth c cX2_sumUp 4 RX2) (hr : meth.sig.returnType = (Option.none : Option Jvm.ClassFile.FieldType)) (hb0 : kd b0 = 4) (hb1 : kd b1 = 1) (K : Mem → Option (Mem)) (hK : ∀ (My : Mem) (H : Heap) (locs : List Loc), Dy G s My L H locs → ∀ ls : Array Slot, lv_has ls 4 [(0, .ref (ad G b0)), (1, .ref (ad G b1)), (2, .int b2)] → K My = some z → W p l e rm_X2_sumUp s m args below meth c H locs 0 0 (MQ below (Qv G z L) args s 0 0 (gA G)) (F0 m 86 ls [])) :
    ∀ (n : Nat) (x3 : Int32) (Mx : Mem), lp_X2_sumUp_37 fu b0 b1 b2 K n x3 Mx = some z → ∀ (H : Heap) (locs : List Loc), Dy G s Mx L H locs → ∀ ls : Array Slot, lv_has ls 4 [(0, .ref (ad G b0)), (1, .ref (ad G b1)), (2, .int b2), (3, .int x3)] → W p l e rm_X2_sumUp s m args below meth c H locs 0 0 (MQ below (Qv G z L) args s 0 0 (gA G)) (F0 m 37 ls []) := by
  intro n
  induction n with
  | zero =>
    intro x3 Mx h
    have h : (none : Option (Mem)) = some z := h
    cases h
  | succ n ih =>
    intro x3 Mx h H locs d ls hl
    rw [lp_X2_sumUp_37] at h
    refine lv_iload_n S.1 S.2.1 dX2_sumUp_37 rfl (lv_at hl 3 rfl) ?_
    refine lv_aload_n S.1 S.2.1 dX2_sumUp_38 rfl (lv_at hl 1 rfl) ?_
    refine gf_1_4 S d hb1 fl_RX2_32 dX2_sumUp_39 ?_
    refine lv_icmp_ge (tgt := 86) S.1 S.2.1 dX2_sumUp_42 (by decide) (fun cc => ?_) (fun cc => ?_)
    · replace h := it_p cc h
      exact hK _ _ _ d _ (lv_sub hl [0, 1, 2] rfl) h
    · replace h := it_n cc h
      refine lv_aload_n S.1 S.2.1 dX2_sumUp_45 rfl (lv_at hl 0 rfl) ?_
      refine gf_4_0 S d hb0 fl_RX2_11 dX2_sumUp_46 ?_
      refine lv_iload_n S.1 S.2.1 dX2_sumUp_49 rfl (lv_at hl 2 rfl) ?_
      obtain ⟨g7, h⟩ := gd_e h
      refine r_aald S d (ksdC S (ch_4_0 hb0).1) (wc_16 (ch_4_0 hb0).1) rfl rfl g7 (if_pos (inb_lt g7)) dX2_sumUp_50 ?_
      refine lv_iload_n S.1 S.2.1 dX2_sumUp_51 rfl (lv_at hl 3 rfl) ?_
      obtain ⟨g8, h⟩ := gd_e h
      refine r_iald S d (ksdC S (ca_16 (ch_4_0 hb0).1 (inb_lt g7)).1) (wc_10 (ca_16 (ch_4_0 hb0).1 (inb_lt g7)).1) (ca_16 (ch_4_0 hb0).1 (inb_lt g7)).2 g8 dX2_sumUp_52 ?_
      refine lv_ldc (v := -1000000) S.1 S.2.1 S.2.2.2.1 (S.uw ck_RX2_48) dX2_sumUp_53 ?_
      refine lv_icmp_eq (tgt := 80) S.1 S.2.1 dX2_sumUp_55 (by decide) (fun cc => ?_) (fun cc => ?_)
      · replace h := it_p cc h
        obtain ⟨v14, ev14, h⟩ := lt_e h
        refine lv_iinc (v := v14) (lv' := [(3, .int v14), (0, .ref (ad G b0)), (1, .ref (ad G b1)), (2, .int b2)]) S.1 S.2.1 dX2_sumUp_80 hl (k := 3) rfl (by rw [ev14]; rfl) (by decide) rfl (fun ls hl => ?_)
        refine lv_goto (tgt := 37) S.1 S.2.1 dX2_sumUp_83 (by decide) ?_
        exact ih _ _ h _ _ d _ (lv_sub hl [1, 2, 3, 0] rfl)
      · replace h := it_n cc h
        refine lv_aload_n S.1 S.2.1 dX2_sumUp_58 rfl (lv_at hl 0 rfl) ?_
        refine gf_4_1 S d hb0 fl_RX2_16 dX2_sumUp_59 ?_
        refine lv_iload_n S.1 S.2.1 dX2_sumUp_62 rfl (lv_at hl 2 rfl) ?_
        refine lv_aload_n S.1 S.2.1 dX2_sumUp_63 rfl (lv_at hl 0 rfl) ?_
        refine gf_4_1 S d hb0 fl_RX2_16 dX2_sumUp_64 ?_
        refine lv_iload_n S.1 S.2.1 dX2_sumUp_67 rfl (lv_at hl 2 rfl) ?_
        obtain ⟨g9, h⟩ := gd_e h
        refine r_iald S d (ksdC S (ch_4_1 hb0).1) (wc_10 (ch_4_1 hb0).1) (ch_4_1 hb0).2 g9 dX2_sumUp_68 ?_
        refine lv_aload_n S.1 S.2.1 dX2_sumUp_69 rfl (lv_at hl 0 rfl) ?_
        refine lv_aload_n S.1 S.2.1 dX2_sumUp_70 rfl (lv_at hl 1 rfl) ?_
        refine lv_iload_n S.1 S.2.1 dX2_sumUp_71 rfl (lv_at hl 2 rfl) ?_
        refine lv_iload_n S.1 S.2.1 dX2_sumUp_72 rfl (lv_at hl 3 rfl) ?_
        obtain ⟨u10, hu10, h⟩ := bd_e h
        refine r_ri d (r_cV (As := [.ref (ad G b1), .int b2, .int x3]) (rest := [.int (Mx (b0 + 11) b2.toNatClampNeg), .int b2, .ref (ad G (b0 + 11))]) S d (c_X2_mostBy l G Mx L b0 b1 b2 x3 hb0 hb1 hu10) (ksdC S hb0) (wc_4 hb0) rfl ml_RX2_70 im_yX2_mostBy se_yX2_mostBy in_RX2 co_yX2_mostBy hyV_X2_mostBy ⟨rfl, rfl⟩ ⟨by decide, by decide⟩ rfl hl rfl (Nat.le_of_ble_eq_true rfl) dX2_sumUp_73 ⟨Nat.zero_le _, Nat.zero_le _⟩) (fun H locs d => ?_)
        refine r_max S hl ml_RX2_74 ⟨by decide, Nat.le_of_ble_eq_true rfl⟩ ⟨Nat.zero_le _, Nat.zero_le _⟩ dX2_sumUp_76 ?_
        obtain ⟨g11, h⟩ := gd_e h
        obtain ⟨M12, eM12, h⟩ := lt_e h
        refine r_iast S d eM12 (ksdC S (ch_4_1 hb0).1) (fun _ => wc_10 (ch_4_1 hb0).1) (ch_4_1 hb0).2 g11 dX2_sumUp_79 (fun H locs d => ?_)
        obtain ⟨v13, ev13, h⟩ := lt_e h
        refine lv_iinc (v := v13) (lv' := [(3, .int v13), (0, .ref (ad G b0)), (1, .ref (ad G b1)), (2, .int b2)]) S.1 S.2.1 dX2_sumUp_80 hl (k := 3) rfl (by rw [ev13]; rfl) (by decide) rfl (fun ls hl => ?_)
        refine lv_goto (tgt := 37) S.1 S.2.1 dX2_sumUp_83 (by decide) ?_
        exact ih _ _ h _ _ d _ (lv_sub hl [1, 2, 3, 0] rfl)
set_option maxHeartbeats 4000000 in
set_option maxRecDepth 100000 in
theorem lc_X2_sumUp_17 {p : Program} {l : Launch} {e : Env} {s : State} {m : MethodId} {args : Array Value} {below : List Frame} {meth : Method} {c : Code} {G : Gx} {L : MemL} {fu : Nat} {b0 : Nat} {b1 : Nat} {z : Mem} (S : Sx G false p s m args meth c cX2_sumUp 4 RX2) (hr : meth.sig.returnType = (Option.none : Option Jvm.ClassFile.FieldType)) (hb0 : kd b0 = 4) (hb1 : kd b1 = 1) (K : Mem → Option (Mem)) (hK : ∀ (My : Mem) (H : Heap) (locs : List Loc), Dy G s My L H locs → ∀ ls : Array Slot, lv_has ls 4 [] → K My = some z → W p l e rm_X2_sumUp s m args below meth c H locs 0 0 (MQ below (Qv G z L) args s 0 0 (gA G)) (F0 m 92 ls [])) :
    ∀ (n : Nat) (x2 : Int32) (Mx : Mem), lp_X2_sumUp_17 fu b0 b1 K n x2 Mx = some z → ∀ (H : Heap) (locs : List Loc), Dy G s Mx L H locs → ∀ ls : Array Slot, lv_has ls 4 [(0, .ref (ad G b0)), (1, .ref (ad G b1)), (2, .int x2)] → W p l e rm_X2_sumUp s m args below meth c H locs 0 0 (MQ below (Qv G z L) args s 0 0 (gA G)) (F0 m 17 ls []) := by
  intro n
  induction n with
  | zero =>
    intro x2 Mx h
    have h : (none : Option (Mem)) = some z := h
    cases h
  | succ n ih =>
    intro x2 Mx h H locs d ls hl
    rw [lp_X2_sumUp_17] at h
    refine lv_iload_n S.1 S.2.1 dX2_sumUp_17 rfl (lv_at hl 2 rfl) ?_
    refine lv_if_lt (tgt := 92) S.1 S.2.1 dX2_sumUp_18 (by decide) (fun cc => ?_) (fun cc => ?_)
    · replace h := it_p cc h
      exact hK _ _ _ d _ (lv_sub hl [] rfl) h
    · replace h := it_n cc h
      refine lv_aload_n S.1 S.2.1 dX2_sumUp_21 rfl (lv_at hl 0 rfl) ?_
      refine gf_4_1 S d hb0 fl_RX2_16 dX2_sumUp_22 ?_
      refine lv_iload_n S.1 S.2.1 dX2_sumUp_25 rfl (lv_at hl 2 rfl) ?_
      refine lv_aload_n S.1 S.2.1 dX2_sumUp_26 rfl (lv_at hl 0 rfl) ?_
      refine gf_4_1 S d hb0 fl_RX2_16 dX2_sumUp_27 ?_
      refine lv_iload_n S.1 S.2.1 dX2_sumUp_30 rfl (lv_at hl 2 rfl) ?_
      refine lv_iconst (v := 1) S.1 S.2.1 dX2_sumUp_31 (by decide) ?_
      refine lv_iadd S.1 S.2.1 dX2_sumUp_32 ?_
      obtain ⟨g4, h⟩ := gd_e h
      refine r_iald S d (ksdC S (ch_4_1 hb0).1) (wc_10 (ch_4_1 hb0).1) (ch_4_1 hb0).2 g4 dX2_sumUp_33 ?_
      obtain ⟨g5, h⟩ := gd_e h
      obtain ⟨M6, eM6, h⟩ := lt_e h
      refine r_iast S d eM6 (ksdC S (ch_4_1 hb0).1) (fun _ => wc_10 (ch_4_1 hb0).1) (ch_4_1 hb0).2 g5 dX2_sumUp_34 (fun H locs d => ?_)
      refine lv_iconst (v := 0) S.1 S.2.1 dX2_sumUp_35 (by decide) ?_
      refine lv_istore_n (lv' := [(3, .int (0 : Int32)), (0, .ref (ad G b0)), (1, .ref (ad G b1)), (2, .int x2)]) S.1 S.2.1 dX2_sumUp_36 rfl hl (by decide) rfl (fun ls hl => ?_)
      refine lc_X2_sumUp_37 S hr hb0 hb1 _ (fun M15 H locs d ls hl h => ?_) _ _ _  h _ _ d _ (lv_sub hl [1, 2, 3, 0] rfl)
      obtain ⟨v16, ev16, h⟩ := lt_e h
      refine lv_iinc (v := v16) (lv' := [(2, .int v16), (0, .ref (ad G b0)), (1, .ref (ad G b1))]) S.1 S.2.1 dX2_sumUp_86 hl (k := 2) rfl (by rw [ev16]; rfl) (by decide) rfl (fun ls hl => ?_)
      refine lv_goto (tgt := 17) S.1 S.2.1 dX2_sumUp_89 (by decide) ?_
      exact ih _ _ h _ _ d _ (lv_sub hl [1, 2, 0] rfl)
set_option maxHeartbeats 4000000 in
set_option maxRecDepth 100000 in
theorem c_X2_sumUp (l : Launch) (G : Gx) (M : Mem) (L : MemL) (fu : Nat) (k0 : Nat) (k1 : Nat) (hk0 : kd k0 = 4) (hk1 : kd k1 = 1) {z : Mem} (h : f_X2_sumUp fu M k0 k1 = some z) : Met l yX2_sumUp (.code yX2_sumUp cX2_sumUp 4 (Option.none : Option Jvm.ClassFile.FieldType) :: UW) rm_X2_sumUp (va_Pc [.ref (ad G k0), .ref (ad G k1)] (PreG G false M L)) (Qv G z L) 0 0 (gA G) := by
  refine r_in (by decide) (fun p e s m args below meth c S hr d ha ls hl => ?_) (Nat.le_of_ble_eq_true rfl)
  have S : Sx G false p s m args meth c cX2_sumUp 4 RX2 := S
  have hl : lv_has ls 4 [(0, .ref (ad G k0)), (1, .ref (ad G k1))] := hl
  unfold f_X2_sumUp at h
  refine lv_aload_n S.1 S.2.1 dX2_sumUp_0 rfl (lv_at hl 0 rfl) ?_
  refine gf_4_1 S d hk0 fl_RX2_16 dX2_sumUp_1 ?_
  refine lv_aload_n S.1 S.2.1 dX2_sumUp_4 rfl (lv_at hl 1 rfl) ?_
  refine gf_1_2 S d hk1 fl_RX2_27 dX2_sumUp_5 ?_
  refine lv_iconst (v := 0) S.1 S.2.1 dX2_sumUp_8 (by decide) ?_
  obtain ⟨g1, h⟩ := gd_e h
  obtain ⟨M2, eM2, h⟩ := lt_e h
  refine r_iast S d eM2 (ksdC S (ch_4_1 hk0).1) (fun _ => wc_10 (ch_4_1 hk0).1) (ch_4_1 hk0).2 g1 dX2_sumUp_9 (fun H locs d => ?_)
  refine lv_aload_n S.1 S.2.1 dX2_sumUp_10 rfl (lv_at hl 1 rfl) ?_
  refine gf_1_2 S d hk1 fl_RX2_27 dX2_sumUp_11 ?_
  refine lv_iconst (v := 1) S.1 S.2.1 dX2_sumUp_14 (by decide) ?_
  refine lv_isub S.1 S.2.1 dX2_sumUp_15 ?_
  obtain ⟨v3, ev3, h⟩ := lt_e h
  refine r_top ev3 ?_
  refine lv_istore_n (lv' := [(2, .int v3), (0, .ref (ad G k0)), (1, .ref (ad G k1))]) S.1 S.2.1 dX2_sumUp_16 rfl hl (by decide) rfl (fun ls hl => ?_)
  refine lc_X2_sumUp_17 S hr hk0 hk1 _ (fun M17 H locs d ls hl h => ?_) _ _ _  h _ _ d _ (lv_sub hl [1, 2, 0] rfl)
  obtain rfl := Option.some.inj h
  exact r_vret S d hr dX2_sumUp_92
theorem hyV_X2_firstForMost : yX2_firstForMost.cls = RX2 ∧ yX2_firstForMost.cls ≠ "java/lang/invoke/MethodHandle" ∧ yX2_firstForMost.cls ≠ "java/lang/invoke/VarHandle" ∧ (parseMethodDescriptor yX2_firstForMost.desc).map (fun d => d.parameters.length) = some 2 := by decide +kernel
abbrev rm_X2_firstForMost : Room := { frames := 1, cells := 0, slots := 0, locals := 23 }
def lp_X2_firstForMost_2 (fu : Nat) (M : Mem) (b0 : Nat) (b1 : Nat) (b2 : Int32) (K : Unit → Option (Int32)) : Nat → Int32 → Option (Int32)
  | 0, _ => none
  | n + 1, x3 =>
    (if (M b1 4) ≤ x3 then (K ())
    else gd (inb b2 9) (
      gd (inb x3 10) (
      (if (M ((b0 + 1) + 1 + b2.toNatClampNeg) x3.toNatClampNeg) = (-1000000 : Int32) then lt (x3 + 1) (fun v6 : Int32 =>
        (lp_X2_firstForMost_2 fu M b0 b1 b2 K n v6))
      else (f_X2_mostBy M b0 b1 b2 x3).bind (fun u3 =>
        gd (inb b2 10) (
        (if u3 = (M (b0 + 11) b2.toNatClampNeg) then some (x3)
        else lt (x3 + 1) (fun v5 : Int32 =>
          (lp_X2_firstForMost_2 fu M b0 b1 b2 K n v5)))))))))
def f_X2_firstForMost (fu : Nat) (M : Mem) (k0 : Nat) (k1 : Nat) (a2 : Int32) : Option (Int32) :=
  (lp_X2_firstForMost_2 fu M k0 k1 a2 (fun (_ : Unit) =>
    some ((-4 : Int32))) fu (0 : Int32))
set_option maxHeartbeats 4000000 in
set_option maxRecDepth 100000 in
theorem lc_X2_firstForMost_2 {p : Program} {l : Launch} {e : Env} {s : State} {m : MethodId} {args : Array Value} {below : List Frame} {meth : Method} {c : Code} {G : Gx} {M : Mem} {L : MemL} {fu : Nat} {b0 : Nat} {b1 : Nat} {b2 : Int32} {z : Int32} (S : Sx G false p s m args meth c cX2_firstForMost 4 RX2) (hr : meth.sig.returnType = (Option.some Jvm.ClassFile.FieldType.int)) (hb0 : kd b0 = 4) (hb1 : kd b1 = 1) (K : Unit → Option (Int32)) (hK : ∀ (_ : Unit) (H : Heap) (locs : List Loc), Dy G s M L H locs → ∀ ls : Array Slot, lv_has ls 4 [] → K () = some z → W p l e rm_X2_firstForMost s m args below meth c H locs 0 0 (MQ below (Qi G z M L) args s 0 0 (gA G)) (F0 m 47 ls [])) :
    ∀ (n : Nat) (x3 : Int32), lp_X2_firstForMost_2 fu M b0 b1 b2 K n x3 = some z → ∀ (H : Heap) (locs : List Loc), Dy G s M L H locs → ∀ ls : Array Slot, lv_has ls 4 [(0, .ref (ad G b0)), (1, .ref (ad G b1)), (2, .int b2), (3, .int x3)] → W p l e rm_X2_firstForMost s m args below meth c H locs 0 0 (MQ below (Qi G z M L) args s 0 0 (gA G)) (F0 m 2 ls []) := by
  intro n
  induction n with
  | zero =>
    intro x3 h
    have h : (none : Option (Int32)) = some z := h
    cases h
  | succ n ih =>
    intro x3 h H locs d ls hl
    rw [lp_X2_firstForMost_2] at h
    refine lv_iload_n S.1 S.2.1 dX2_firstForMost_2 rfl (lv_at hl 3 rfl) ?_
    refine lv_aload_n S.1 S.2.1 dX2_firstForMost_3 rfl (lv_at hl 1 rfl) ?_
    refine gf_1_4 S d hb1 fl_RX2_32 dX2_firstForMost_4 ?_
    refine lv_icmp_ge (tgt := 47) S.1 S.2.1 dX2_firstForMost_7 (by decide) (fun cc => ?_) (fun cc => ?_)
    · replace h := it_p cc h
      exact hK () _ _ d _ (lv_sub hl [] rfl) h
    · replace h := it_n cc h
      refine lv_aload_n S.1 S.2.1 dX2_firstForMost_10 rfl (lv_at hl 0 rfl) ?_
      refine gf_4_0 S d hb0 fl_RX2_11 dX2_firstForMost_11 ?_
      refine lv_iload_n S.1 S.2.1 dX2_firstForMost_14 rfl (lv_at hl 2 rfl) ?_
      obtain ⟨g1, h⟩ := gd_e h
      refine r_aald S d (ksdC S (ch_4_0 hb0).1) (wc_16 (ch_4_0 hb0).1) rfl rfl g1 (if_pos (inb_lt g1)) dX2_firstForMost_15 ?_
      refine lv_iload_n S.1 S.2.1 dX2_firstForMost_16 rfl (lv_at hl 3 rfl) ?_
      obtain ⟨g2, h⟩ := gd_e h
      refine r_iald S d (ksdC S (ca_16 (ch_4_0 hb0).1 (inb_lt g1)).1) (wc_10 (ca_16 (ch_4_0 hb0).1 (inb_lt g1)).1) (ca_16 (ch_4_0 hb0).1 (inb_lt g1)).2 g2 dX2_firstForMost_17 ?_
      refine lv_ldc (v := -1000000) S.1 S.2.1 S.2.2.2.1 (S.uw ck_RX2_48) dX2_firstForMost_18 ?_
      refine lv_icmp_eq (tgt := 41) S.1 S.2.1 dX2_firstForMost_20 (by decide) (fun cc => ?_) (fun cc => ?_)
      · replace h := it_p cc h
        obtain ⟨v6, ev6, h⟩ := lt_e h
        refine lv_iinc (v := v6) (lv' := [(3, .int v6), (0, .ref (ad G b0)), (1, .ref (ad G b1)), (2, .int b2)]) S.1 S.2.1 dX2_firstForMost_41 hl (k := 3) rfl (by rw [ev6]; rfl) (by decide) rfl (fun ls hl => ?_)
        refine lv_goto (tgt := 2) S.1 S.2.1 dX2_firstForMost_44 (by decide) ?_
        exact ih _ h _ _ d _ (lv_sub hl [1, 2, 3, 0] rfl)
      · replace h := it_n cc h
        refine lv_aload_n S.1 S.2.1 dX2_firstForMost_23 rfl (lv_at hl 0 rfl) ?_
        refine lv_aload_n S.1 S.2.1 dX2_firstForMost_24 rfl (lv_at hl 1 rfl) ?_
        refine lv_iload_n S.1 S.2.1 dX2_firstForMost_25 rfl (lv_at hl 2 rfl) ?_
        refine lv_iload_n S.1 S.2.1 dX2_firstForMost_26 rfl (lv_at hl 3 rfl) ?_
        obtain ⟨u3, hu3, h⟩ := bd_e h
        refine r_ri d (r_cV (As := [.ref (ad G b1), .int b2, .int x3]) (rest := []) S d (c_X2_mostBy l G M L b0 b1 b2 x3 hb0 hb1 hu3) (ksdC S hb0) (wc_4 hb0) rfl ml_RX2_70 im_yX2_mostBy se_yX2_mostBy in_RX2 co_yX2_mostBy hyV_X2_mostBy ⟨rfl, rfl⟩ ⟨by decide, by decide⟩ rfl hl rfl (Nat.le_of_ble_eq_true rfl) dX2_firstForMost_27 ⟨Nat.zero_le _, Nat.zero_le _⟩) (fun H locs d => ?_)
        refine lv_aload_n S.1 S.2.1 dX2_firstForMost_30 rfl (lv_at hl 0 rfl) ?_
        refine gf_4_1 S d hb0 fl_RX2_16 dX2_firstForMost_31 ?_
        refine lv_iload_n S.1 S.2.1 dX2_firstForMost_34 rfl (lv_at hl 2 rfl) ?_
        obtain ⟨g4, h⟩ := gd_e h
        refine r_iald S d (ksdC S (ch_4_1 hb0).1) (wc_10 (ch_4_1 hb0).1) (ch_4_1 hb0).2 g4 dX2_firstForMost_35 ?_
        refine lv_icmp_ne (tgt := 41) S.1 S.2.1 dX2_firstForMost_36 (by decide) (fun cc => ?_) (fun cc => ?_)
        · replace h := it_n cc h
          obtain ⟨v5, ev5, h⟩ := lt_e h
          refine lv_iinc (v := v5) (lv' := [(3, .int v5), (0, .ref (ad G b0)), (1, .ref (ad G b1)), (2, .int b2)]) S.1 S.2.1 dX2_firstForMost_41 hl (k := 3) rfl (by rw [ev5]; rfl) (by decide) rfl (fun ls hl => ?_)
          refine lv_goto (tgt := 2) S.1 S.2.1 dX2_firstForMost_44 (by decide) ?_
          exact ih _ h _ _ d _ (lv_sub hl [1, 2, 3, 0] rfl)
        · replace h := it_p cc h
          refine lv_iload_n S.1 S.2.1 dX2_firstForMost_39 rfl (lv_at hl 3 rfl) ?_
          obtain rfl := Option.some.inj h
          exact r_iret S d hr rfl rfl dX2_firstForMost_40
set_option maxHeartbeats 4000000 in
set_option maxRecDepth 100000 in
theorem c_X2_firstForMost (l : Launch) (G : Gx) (M : Mem) (L : MemL) (fu : Nat) (k0 : Nat) (k1 : Nat) (a2 : Int32) (hk0 : kd k0 = 4) (hk1 : kd k1 = 1) {z : Int32} (h : f_X2_firstForMost fu M k0 k1 a2 = some z) : Met l yX2_firstForMost (.code yX2_firstForMost cX2_firstForMost 4 (Option.some Jvm.ClassFile.FieldType.int) :: UW) rm_X2_firstForMost (va_Pc [.ref (ad G k0), .ref (ad G k1), .int a2] (PreG G false M L)) (Qi G z M L) 0 0 (gA G) := by
  refine r_in (by decide) (fun p e s m args below meth c S hr d ha ls hl => ?_) (Nat.le_of_ble_eq_true rfl)
  have S : Sx G false p s m args meth c cX2_firstForMost 4 RX2 := S
  have hl : lv_has ls 4 [(0, .ref (ad G k0)), (1, .ref (ad G k1)), (2, .int a2)] := hl
  unfold f_X2_firstForMost at h
  refine lv_iconst (v := 0) S.1 S.2.1 dX2_firstForMost_0 (by decide) ?_
  refine lv_istore_n (lv' := [(3, .int (0 : Int32)), (0, .ref (ad G k0)), (1, .ref (ad G k1)), (2, .int a2)]) S.1 S.2.1 dX2_firstForMost_1 rfl hl (by decide) rfl (fun ls hl => ?_)
  refine lc_X2_firstForMost_2 S hr hk0 hk1 _ (fun _ H locs d ls hl h => ?_) _ _  h _ _ d _ (lv_sub hl [1, 2, 3, 0] rfl)
  refine lv_bipush (v := (-4)) S.1 S.2.1 dX2_firstForMost_47 (by decide) ?_
  obtain rfl := Option.some.inj h
  exact r_iret S d hr rfl rfl dX2_firstForMost_49
theorem hyV_X2_choose : yX2_choose.cls = RX2 ∧ yX2_choose.cls ≠ "java/lang/invoke/MethodHandle" ∧ yX2_choose.cls ≠ "java/lang/invoke/VarHandle" ∧ (parseMethodDescriptor yX2_choose.desc).map (fun d => d.parameters.length) = some 1 := by decide +kernel
abbrev rm_X2_choose : Room := { frames := 2, cells := 0, slots := 0, locals := 46 }
def lp_X2_choose_14 (fu : Nat) (b0 : Nat) (b1 : Nat) (K : Mem → Option (Mem)) : Nat → Int32 → Int32 → Mem → Option (Mem)
  | 0, _, _, _ => none
  | n + 1, x2, x3, Mx =>
    (if (Mx b1 2) ≤ x3 then (K Mx)
    else (if x2 ≤ x3 then (f_X2_firstForMost fu Mx b0 b1 x3).bind (fun u5 =>
        some u5)
      else some (-4 : Int32)).bind (fun t3 : Int32 =>
      (if t3 = (-4 : Int32) then lt (x3 + 1) (fun v12 : Int32 =>
        (lp_X2_choose_14 fu b0 b1 K n x2 v12 Mx))
      else gd (inb (Mx b0 3) 9) (
        lt (up Mx (b0 + 12) (Mx b0 3).toNatClampNeg (((10 : Int32) * x3) + t3)) (fun M7 : Mem =>
        lt (up M7 b0 3 ((M7 b0 3) + (1 : Int32))) (fun M8 : Mem =>
        gd (inb t3 10) (
        lt ((x3 + (M8 ((b1 + 3) + 21 + 2 * t3.toNatClampNeg) 0))) (fun v10 : Int32 =>
        lt (x3 + 1) (fun v11 : Int32 =>
        (lp_X2_choose_14 fu b0 b1 K n v10 v11 M8))))))))))
def f_X2_choose (fu : Nat) (M : Mem) (k0 : Nat) (k1 : Nat) : Option (Mem) :=
  (f_X2_sumUp fu M k0 k1).bind (fun u1 =>
  lt (up u1 k0 3 (0 : Int32)) (fun M2 : Mem =>
  (lp_X2_choose_14 fu k0 k1 (fun (M13 : Mem) =>
    some (M13)) fu (0 : Int32) (0 : Int32) M2)))
set_option maxHeartbeats 4000000 in
set_option maxRecDepth 100000 in
theorem lc_X2_choose_14 {p : Program} {l : Launch} {e : Env} {s : State} {m : MethodId} {args : Array Value} {below : List Frame} {meth : Method} {c : Code} {G : Gx} {L : MemL} {fu : Nat} {b0 : Nat} {b1 : Nat} {z : Mem} (S : Sx G false p s m args meth c cX2_choose 5 RX2) (hr : meth.sig.returnType = (Option.none : Option Jvm.ClassFile.FieldType)) (hb0 : kd b0 = 4) (hb1 : kd b1 = 1) (K : Mem → Option (Mem)) (hK : ∀ (My : Mem) (H : Heap) (locs : List Loc), Dy G s My L H locs → ∀ ls : Array Slot, lv_has ls 5 [] → K My = some z → W p l e rm_X2_choose s m args below meth c H locs 0 0 (MQ below (Qv G z L) args s 0 0 (gA G)) (F0 m 92 ls [])) :
    ∀ (n : Nat) (x2 : Int32) (x3 : Int32) (Mx : Mem), lp_X2_choose_14 fu b0 b1 K n x2 x3 Mx = some z → ∀ (H : Heap) (locs : List Loc), Dy G s Mx L H locs → ∀ ls : Array Slot, lv_has ls 5 [(0, .ref (ad G b0)), (1, .ref (ad G b1)), (2, .int x2), (3, .int x3)] → W p l e rm_X2_choose s m args below meth c H locs 0 0 (MQ below (Qv G z L) args s 0 0 (gA G)) (F0 m 14 ls []) := by
  intro n
  induction n with
  | zero =>
    intro x2 x3 Mx h
    have h : (none : Option (Mem)) = some z := h
    cases h
  | succ n ih =>
    intro x2 x3 Mx h H locs d ls hl
    rw [lp_X2_choose_14] at h
    refine lv_iload_n S.1 S.2.1 dX2_choose_14 rfl (lv_at hl 3 rfl) ?_
    refine lv_aload_n S.1 S.2.1 dX2_choose_15 rfl (lv_at hl 1 rfl) ?_
    refine gf_1_2 S d hb1 fl_RX2_27 dX2_choose_16 ?_
    refine lv_icmp_ge (tgt := 92) S.1 S.2.1 dX2_choose_19 (by decide) (fun cc => ?_) (fun cc => ?_)
    · replace h := it_p cc h
      exact hK _ _ _ d _ (lv_sub hl [] rfl) h
    · replace h := it_n cc h
      refine lv_iload_n S.1 S.2.1 dX2_choose_22 rfl (lv_at hl 3 rfl) ?_
      refine lv_iload_n S.1 S.2.1 dX2_choose_23 rfl (lv_at hl 2 rfl) ?_
      obtain ⟨t3, g4, h⟩ := bd_e h
      have Jt3 : ∀ (H : Heap) (locs : List Loc), Dy G s Mx L H locs → W p l e rm_X2_choose s m args below meth c H locs 0 0 (MQ below (Qv G z L) args s 0 0 (gA G)) (F0 m 38 ls [.int t3]) := by
        intro H locs d
        refine lv_istore (lv' := [(4, .int t3), (0, .ref (ad G b0)), (1, .ref (ad G b1)), (2, .int x2), (3, .int x3)]) S.1 S.2.1 dX2_choose_38 hl (by decide) rfl (fun ls hl => ?_)
        refine lv_iload S.1 S.2.1 dX2_choose_40 (lv_at hl 0 rfl) ?_
        refine lv_bipush (v := (-4)) S.1 S.2.1 dX2_choose_42 (by decide) ?_
        refine lv_icmp_eq (tgt := 86) S.1 S.2.1 dX2_choose_44 (by decide) (fun cc => ?_) (fun cc => ?_)
        · replace h := it_p cc h
          obtain ⟨v12, ev12, h⟩ := lt_e h
          refine lv_iinc (v := v12) (lv' := [(3, .int v12), (4, .int t3), (0, .ref (ad G b0)), (1, .ref (ad G b1)), (2, .int x2)]) S.1 S.2.1 dX2_choose_86 hl (k := 4) rfl (by rw [ev12]; rfl) (by decide) rfl (fun ls hl => ?_)
          refine lv_goto (tgt := 14) S.1 S.2.1 dX2_choose_89 (by decide) ?_
          exact ih _ _ _ h _ _ d _ (lv_sub hl [2, 3, 4, 0] rfl)
        · replace h := it_n cc h
          refine lv_aload_n S.1 S.2.1 dX2_choose_47 rfl (lv_at hl 1 rfl) ?_
          refine gf_4_2 S d hb0 fl_RX2_20 dX2_choose_48 ?_
          refine lv_aload_n S.1 S.2.1 dX2_choose_51 rfl (lv_at hl 1 rfl) ?_
          refine gf_4_3 S d hb0 fl_RX2_23 dX2_choose_52 ?_
          refine lv_bipush (v := 10) S.1 S.2.1 dX2_choose_55 (by decide) ?_
          refine lv_iload_n S.1 S.2.1 dX2_choose_57 rfl (lv_at hl 4 rfl) ?_
          refine lv_imul S.1 S.2.1 dX2_choose_58 ?_
          refine lv_iload S.1 S.2.1 dX2_choose_59 (lv_at hl 0 rfl) ?_
          refine lv_iadd S.1 S.2.1 dX2_choose_61 ?_
          obtain ⟨g6, h⟩ := gd_e h
          obtain ⟨M7, eM7, h⟩ := lt_e h
          refine r_iast S d eM7 (ksdC S (ch_4_2 hb0).1) (fun _ => wc_10 (ch_4_2 hb0).1) (ch_4_2 hb0).2 g6 dX2_choose_62 (fun H locs d => ?_)
          refine lv_aload_n S.1 S.2.1 dX2_choose_63 rfl (lv_at hl 1 rfl) ?_
          refine lv_dup S.1 S.2.1 dX2_choose_64 rfl ?_
          refine gf_4_3 S d hb0 fl_RX2_23 dX2_choose_65 ?_
          refine lv_iconst (v := 1) S.1 S.2.1 dX2_choose_68 (by decide) ?_
          refine lv_iadd S.1 S.2.1 dX2_choose_69 ?_
          obtain ⟨M8, eM8, h⟩ := lt_e h
          refine pf_4_3 S d eM8 hb0 fl_RX2_23 dX2_choose_70 (fun H locs d => ?_)
          refine lv_iload_n S.1 S.2.1 dX2_choose_73 rfl (lv_at hl 4 rfl) ?_
          refine lv_aload_n S.1 S.2.1 dX2_choose_74 rfl (lv_at hl 2 rfl) ?_
          refine gf_1_3 S d hb1 fl_RX2_35 dX2_choose_75 ?_
          refine lv_iload S.1 S.2.1 dX2_choose_78 (lv_at hl 0 rfl) ?_
          obtain ⟨g9, h⟩ := gd_e h
          refine r_aald S d (ksdC S (ch_1_3 hb1).1) (wc_14 (ch_1_3 hb1).1) rfl rfl g9 (if_pos (inb_lt g9)) dX2_choose_80 ?_
          refine gf_3_0 S d (ca_14 (ch_1_3 hb1).1 (inb_lt g9)).1 fl_RX2_65 dX2_choose_81 ?_
          refine lv_iadd S.1 S.2.1 dX2_choose_84 ?_
          obtain ⟨v10, ev10, h⟩ := lt_e h
          refine r_top ev10 ?_
          refine lv_istore_n (lv' := [(2, .int v10), (4, .int t3), (0, .ref (ad G b0)), (1, .ref (ad G b1)), (3, .int x3)]) S.1 S.2.1 dX2_choose_85 rfl hl (by decide) rfl (fun ls hl => ?_)
          obtain ⟨v11, ev11, h⟩ := lt_e h
          refine lv_iinc (v := v11) (lv' := [(3, .int v11), (2, .int v10), (4, .int t3), (0, .ref (ad G b0)), (1, .ref (ad G b1))]) S.1 S.2.1 dX2_choose_86 hl (k := 4) rfl (by rw [ev11]; rfl) (by decide) rfl (fun ls hl => ?_)
          refine lv_goto (tgt := 14) S.1 S.2.1 dX2_choose_89 (by decide) ?_
          exact ih _ _ _ h _ _ d _ (lv_sub hl [3, 4, 1, 0] rfl)
      have h := g4
      refine lv_icmp_ge (tgt := 32) S.1 S.2.1 dX2_choose_24 (by decide) (fun cc => ?_) (fun cc => ?_)
      · replace h := it_p cc h
        refine lv_aload_n S.1 S.2.1 dX2_choose_32 rfl (lv_at hl 0 rfl) ?_
        refine lv_aload_n S.1 S.2.1 dX2_choose_33 rfl (lv_at hl 1 rfl) ?_
        refine lv_iload_n S.1 S.2.1 dX2_choose_34 rfl (lv_at hl 3 rfl) ?_
        obtain ⟨u5, hu5, h⟩ := bd_e h
        refine r_ri d (r_cV (As := [.ref (ad G b1), .int x3]) (rest := []) S d (c_X2_firstForMost l G Mx L fu b0 b1 x3 hb0 hb1 hu5) (ksdC S hb0) (wc_4 hb0) rfl ml_RX2_61 im_yX2_firstForMost se_yX2_firstForMost in_RX2 co_yX2_firstForMost hyV_X2_firstForMost ⟨rfl, rfl⟩ ⟨by decide, by decide⟩ rfl hl rfl (Nat.le_of_ble_eq_true rfl) dX2_choose_35 ⟨Nat.zero_le _, Nat.zero_le _⟩) (fun H locs d => ?_)
        obtain ej := Option.some.inj h
        refine r_top ej.symm ?_
        exact Jt3 _ _ d
      · replace h := it_n cc h
        refine lv_bipush (v := (-4)) S.1 S.2.1 dX2_choose_27 (by decide) ?_
        refine lv_goto (tgt := 38) S.1 S.2.1 dX2_choose_29 (by decide) ?_
        obtain ej := Option.some.inj h
        refine r_top ej.symm ?_
        exact Jt3 _ _ d
set_option maxHeartbeats 4000000 in
set_option maxRecDepth 100000 in
theorem c_X2_choose (l : Launch) (G : Gx) (M : Mem) (L : MemL) (fu : Nat) (k0 : Nat) (k1 : Nat) (hk0 : kd k0 = 4) (hk1 : kd k1 = 1) {z : Mem} (h : f_X2_choose fu M k0 k1 = some z) : Met l yX2_choose (.code yX2_choose cX2_choose 5 (Option.none : Option Jvm.ClassFile.FieldType) :: UW) rm_X2_choose (va_Pc [.ref (ad G k0), .ref (ad G k1)] (PreG G false M L)) (Qv G z L) 0 0 (gA G) := by
  refine r_in (by decide) (fun p e s m args below meth c S hr d ha ls hl => ?_) (Nat.le_of_ble_eq_true rfl)
  have S : Sx G false p s m args meth c cX2_choose 5 RX2 := S
  have hl : lv_has ls 5 [(0, .ref (ad G k0)), (1, .ref (ad G k1))] := hl
  unfold f_X2_choose at h
  refine lv_aload_n S.1 S.2.1 dX2_choose_0 rfl (lv_at hl 0 rfl) ?_
  refine lv_aload_n S.1 S.2.1 dX2_choose_1 rfl (lv_at hl 1 rfl) ?_
  obtain ⟨u1, hu1, h⟩ := bd_e h
  refine r_rv d (r_cV (As := [.ref (ad G k1)]) (rest := []) S d (c_X2_sumUp l G M L fu k0 k1 hk0 hk1 hu1) (ksdC S hk0) (wc_4 hk0) rfl ml_RX2_57 im_yX2_sumUp se_yX2_sumUp in_RX2 co_yX2_sumUp hyV_X2_sumUp ⟨rfl, rfl⟩ ⟨by decide, by decide⟩ rfl hl rfl (Nat.le_of_ble_eq_true rfl) dX2_choose_2 ⟨Nat.zero_le _, Nat.zero_le _⟩) (fun H locs d => ?_)
  refine lv_aload_n S.1 S.2.1 dX2_choose_5 rfl (lv_at hl 0 rfl) ?_
  refine lv_iconst (v := 0) S.1 S.2.1 dX2_choose_6 (by decide) ?_
  obtain ⟨M2, eM2, h⟩ := lt_e h
  refine pf_4_3 S d eM2 hk0 fl_RX2_23 dX2_choose_7 (fun H locs d => ?_)
  refine lv_iconst (v := 0) S.1 S.2.1 dX2_choose_10 (by decide) ?_
  refine lv_istore_n (lv' := [(2, .int (0 : Int32)), (0, .ref (ad G k0)), (1, .ref (ad G k1))]) S.1 S.2.1 dX2_choose_11 rfl hl (by decide) rfl (fun ls hl => ?_)
  refine lv_iconst (v := 0) S.1 S.2.1 dX2_choose_12 (by decide) ?_
  refine lv_istore_n (lv' := [(3, .int (0 : Int32)), (2, .int (0 : Int32)), (0, .ref (ad G k0)), (1, .ref (ad G k1))]) S.1 S.2.1 dX2_choose_13 rfl hl (by decide) rfl (fun ls hl => ?_)
  refine lc_X2_choose_14 S hr hk0 hk1 _ (fun M13 H locs d ls hl h => ?_) _ _ _ _  h _ _ d _ (lv_sub hl [2, 3, 1, 0] rfl)
  obtain rfl := Option.some.inj h
  exact r_vret S d hr dX2_choose_92
theorem hyV_X2_answer : yX2_answer.cls = RX2 ∧ yX2_answer.cls ≠ "java/lang/invoke/MethodHandle" ∧ yX2_answer.cls ≠ "java/lang/invoke/VarHandle" ∧ (parseMethodDescriptor yX2_answer.desc).map (fun d => d.parameters.length) = some 1 := by decide +kernel
abbrev rm_X2_answer : Room := { frames := 1, cells := 0, slots := 0, locals := 21 }
def f_X2_answer (M : Mem) (k0 : Nat) (a1 : Int32) : Option (Int32) :=
  (if a1 = (-1 : Int32) then gd (inb (0 : Int32) 10) (
    some ((M (k0 + 11) (0 : Int32).toNatClampNeg)))
  else (if a1 = (-2 : Int32) then some ((M k0 3))
    else (f_X7_isBelow a1 (M k0 3)).bind (fun u2 =>
      (if u2 = 0 then some ((-4 : Int32))
      else gd (inb a1 9) (
        some ((M (k0 + 12) a1.toNatClampNeg)))))))
set_option maxHeartbeats 4000000 in
set_option maxRecDepth 100000 in
theorem c_X2_answer (l : Launch) (G : Gx) (M : Mem) (L : MemL) (k0 : Nat) (a1 : Int32) (hk0 : kd k0 = 4) {z : Int32} (h : f_X2_answer M k0 a1 = some z) : Met l yX2_answer (.code yX2_answer cX2_answer 2 (Option.some Jvm.ClassFile.FieldType.int) :: UW) rm_X2_answer (va_Pc [.ref (ad G k0), .int a1] (PreG G false M L)) (Qi G z M L) 0 0 (gA G) := by
  refine r_in (by decide) (fun p e s m args below meth c S hr d ha ls hl => ?_) (Nat.le_of_ble_eq_true rfl)
  have S : Sx G false p s m args meth c cX2_answer 2 RX2 := S
  have hl : lv_has ls 2 [(0, .ref (ad G k0)), (1, .int a1)] := hl
  unfold f_X2_answer at h
  refine lv_iload_n S.1 S.2.1 dX2_answer_0 rfl (lv_at hl 1 rfl) ?_
  refine lv_iconst (v := (-1)) S.1 S.2.1 dX2_answer_1 (by decide) ?_
  refine lv_icmp_ne (tgt := 12) S.1 S.2.1 dX2_answer_2 (by decide) (fun cc => ?_) (fun cc => ?_)
  · replace h := it_n cc h
    refine lv_iload_n S.1 S.2.1 dX2_answer_12 rfl (lv_at hl 1 rfl) ?_
    refine lv_bipush (v := (-2)) S.1 S.2.1 dX2_answer_13 (by decide) ?_
    refine lv_icmp_ne (tgt := 23) S.1 S.2.1 dX2_answer_15 (by decide) (fun cc => ?_) (fun cc => ?_)
    · replace h := it_n cc h
      refine lv_iload_n S.1 S.2.1 dX2_answer_23 rfl (lv_at hl 1 rfl) ?_
      refine lv_aload_n S.1 S.2.1 dX2_answer_24 rfl (lv_at hl 0 rfl) ?_
      refine gf_4_3 S d hk0 fl_RX2_23 dX2_answer_25 ?_
      obtain ⟨u2, hu2, h⟩ := bd_e h
      refine r_ri d (r_cSN (As := [.int a1, .int (M k0 3)]) (rest := []) S d (c_X7_isBelow l G M L a1 (M k0 3) hu2) (nv_RX2_66 S.2.2.2.2.2.2.2.1.2.2.2) sm_yX7_isBelow in_RX7 co_yX7_isBelow hyS_X7_isBelow ⟨rfl, rfl⟩ ⟨by decide, by decide⟩ rfl hl rfl (Nat.le_of_ble_eq_true rfl) dX2_answer_28 ⟨Nat.zero_le _, Nat.zero_le _⟩) (fun H locs d => ?_)
      refine lv_if_eq (tgt := 43) S.1 S.2.1 dX2_answer_31 (by decide) (fun cc => ?_) (fun cc => ?_)
      · replace h := it_p cc h
        refine lv_bipush (v := (-4)) S.1 S.2.1 dX2_answer_43 (by decide) ?_
        obtain rfl := Option.some.inj h
        exact r_iret S d hr rfl rfl dX2_answer_45
      · replace h := it_n cc h
        refine lv_aload_n S.1 S.2.1 dX2_answer_34 rfl (lv_at hl 0 rfl) ?_
        refine gf_4_2 S d hk0 fl_RX2_20 dX2_answer_35 ?_
        refine lv_iload_n S.1 S.2.1 dX2_answer_38 rfl (lv_at hl 1 rfl) ?_
        obtain ⟨g3, h⟩ := gd_e h
        refine r_iald S d (ksdC S (ch_4_2 hk0).1) (wc_10 (ch_4_2 hk0).1) (ch_4_2 hk0).2 g3 dX2_answer_39 ?_
        refine lv_goto (tgt := 45) S.1 S.2.1 dX2_answer_40 (by decide) ?_
        obtain rfl := Option.some.inj h
        exact r_iret S d hr rfl rfl dX2_answer_45
    · replace h := it_p cc h
      refine lv_aload_n S.1 S.2.1 dX2_answer_18 rfl (lv_at hl 0 rfl) ?_
      refine gf_4_3 S d hk0 fl_RX2_23 dX2_answer_19 ?_
      obtain rfl := Option.some.inj h
      exact r_iret S d hr rfl rfl dX2_answer_22
  · replace h := it_p cc h
    refine lv_aload_n S.1 S.2.1 dX2_answer_5 rfl (lv_at hl 0 rfl) ?_
    refine gf_4_1 S d hk0 fl_RX2_16 dX2_answer_6 ?_
    refine lv_iconst (v := 0) S.1 S.2.1 dX2_answer_9 (by decide) ?_
    obtain ⟨g1, h⟩ := gd_e h
    refine r_iald S d (ksdC S (ch_4_1 hk0).1) (wc_10 (ch_4_1 hk0).1) (ch_4_1 hk0).2 g1 dX2_answer_10 ?_
    obtain rfl := Option.some.inj h
    exact r_iret S d hr rfl rfl dX2_answer_11
theorem hyV_X7_read : yX7_read.cls = RX7 ∧ yX7_read.cls ≠ "java/lang/invoke/MethodHandle" ∧ yX7_read.cls ≠ "java/lang/invoke/VarHandle" ∧ (parseMethodDescriptor yX7_read.desc).map (fun d => d.parameters.length) = some 1 := by decide +kernel
abbrev rm_X7_read : Room := { frames := 5, cells := 0, slots := 0, locals := 114 }
def f_X7_read (fu : Nat) (M : Mem) (k0 : Nat) (a1 : Int32) : Option (Int32 × Mem) :=
  (f_X7_isRowPlace a1).bind (fun u1 =>
  (if u1 = 0 then some ((-1 : Int32), M)
  else (f_X2_weighWritten fu M (k0 + 89) (k0 + 1)).bind (fun u2 =>
    (f_X2_choose fu u2 (k0 + 89) (k0 + 1)).bind (fun u3 =>
    (f_X2_answer u3 (k0 + 89) a1).bind (fun u4 =>
    some (u4, u3))))))
set_option maxHeartbeats 4000000 in
set_option maxRecDepth 100000 in
theorem c_X7_read (l : Launch) (G : Gx) (M : Mem) (L : MemL) (fu : Nat) (k0 : Nat) (a1 : Int32) (hk0 : kd k0 = 0) {z : Int32 × Mem} (h : f_X7_read fu M k0 a1 = some z) : Met l yX7_read (.code yX7_read cX7_read 2 (Option.some Jvm.ClassFile.FieldType.int) :: UW) rm_X7_read (va_Pc [.ref (ad G k0), .int a1] (PreG G false M L)) (Qi G z.1 z.2 L) 0 0 (gA G) := by
  refine r_in (by decide) (fun p e s m args below meth c S hr d ha ls hl => ?_) (Nat.le_of_ble_eq_true rfl)
  have S : Sx G false p s m args meth c cX7_read 2 RX7 := S
  have hl : lv_has ls 2 [(0, .ref (ad G k0)), (1, .int a1)] := hl
  unfold f_X7_read at h
  refine lv_iload_n S.1 S.2.1 dX7_read_0 rfl (lv_at hl 1 rfl) ?_
  obtain ⟨u1, hu1, h⟩ := bd_e h
  refine r_ri d (r_cS (As := [.int a1]) (rest := []) S d (c_X7_isRowPlace l G M L a1 hu1) ml_RX7_176 sm_yX7_isRowPlace in_RX7 co_yX7_isRowPlace hyS_X7_isRowPlace ⟨rfl, rfl⟩ ⟨by decide, by decide⟩ rfl hl rfl (Nat.le_of_ble_eq_true rfl) dX7_read_1 ⟨Nat.zero_le _, Nat.zero_le _⟩) (fun H locs d => ?_)
  refine lv_if_ne (tgt := 9) S.1 S.2.1 dX7_read_4 (by decide) (fun cc => ?_) (fun cc => ?_)
  · replace h := it_n cc h
    refine lv_aload_n S.1 S.2.1 dX7_read_9 rfl (lv_at hl 0 rfl) ?_
    refine gf_0_3 S d hk0 fl_RX7_26 dX7_read_10 ?_
    refine lv_aload_n S.1 S.2.1 dX7_read_13 rfl (lv_at hl 0 rfl) ?_
    refine gf_0_0 S d hk0 fl_RX7_12 dX7_read_14 ?_
    obtain ⟨u2, hu2, h⟩ := bd_e h
    refine r_rv d (r_cV (As := [.ref (ad G (k0 + 1))]) (rest := []) S d (c_X2_weighWritten l G M L fu (k0 + 89) (k0 + 1) (ch_0_3 hk0).1 (ch_0_0 hk0).1 hu2) (ksdC S (ch_0_3 hk0).1) (wc_4 (ch_0_3 hk0).1) rfl ml_RX7_179 im_yX2_weighWritten se_yX2_weighWritten in_RX2 co_yX2_weighWritten hyV_X2_weighWritten ⟨rfl, rfl⟩ ⟨by decide, by decide⟩ rfl hl rfl (Nat.le_of_ble_eq_true rfl) dX7_read_17 ⟨Nat.zero_le _, Nat.zero_le _⟩) (fun H locs d => ?_)
    refine lv_aload_n S.1 S.2.1 dX7_read_20 rfl (lv_at hl 0 rfl) ?_
    refine gf_0_3 S d hk0 fl_RX7_26 dX7_read_21 ?_
    refine lv_aload_n S.1 S.2.1 dX7_read_24 rfl (lv_at hl 0 rfl) ?_
    refine gf_0_0 S d hk0 fl_RX7_12 dX7_read_25 ?_
    obtain ⟨u3, hu3, h⟩ := bd_e h
    refine r_rv d (r_cV (As := [.ref (ad G (k0 + 1))]) (rest := []) S d (c_X2_choose l G u2 L fu (k0 + 89) (k0 + 1) (ch_0_3 hk0).1 (ch_0_0 hk0).1 hu3) (ksdC S (ch_0_3 hk0).1) (wc_4 (ch_0_3 hk0).1) rfl ml_RX7_183 im_yX2_choose se_yX2_choose in_RX2 co_yX2_choose hyV_X2_choose ⟨rfl, rfl⟩ ⟨by decide, by decide⟩ rfl hl rfl (Nat.le_of_ble_eq_true rfl) dX7_read_28 ⟨Nat.zero_le _, Nat.zero_le _⟩) (fun H locs d => ?_)
    refine lv_aload_n S.1 S.2.1 dX7_read_31 rfl (lv_at hl 0 rfl) ?_
    refine gf_0_3 S d hk0 fl_RX7_26 dX7_read_32 ?_
    refine lv_iload_n S.1 S.2.1 dX7_read_35 rfl (lv_at hl 1 rfl) ?_
    obtain ⟨u4, hu4, h⟩ := bd_e h
    refine r_ri d (r_cV (As := [.int a1]) (rest := []) S d (c_X2_answer l G u3 L (k0 + 89) a1 (ch_0_3 hk0).1 hu4) (ksdC S (ch_0_3 hk0).1) (wc_4 (ch_0_3 hk0).1) rfl ml_RX7_186 im_yX2_answer se_yX2_answer in_RX2 co_yX2_answer hyV_X2_answer ⟨rfl, rfl⟩ ⟨by decide, by decide⟩ rfl hl rfl (Nat.le_of_ble_eq_true rfl) dX7_read_36 ⟨Nat.zero_le _, Nat.zero_le _⟩) (fun H locs d => ?_)
    obtain rfl := Option.some.inj h
    exact r_iret S d hr rfl rfl dX7_read_39
  · replace h := it_p cc h
    refine lv_iconst (v := (-1)) S.1 S.2.1 dX7_read_7 (by decide) ?_
    obtain rfl := Option.some.inj h
    exact r_iret S d hr rfl rfl dX7_read_8
theorem hyV_X0_cellsOff : yX0_cellsOff.cls = RX0 ∧ yX0_cellsOff.cls ≠ "java/lang/invoke/MethodHandle" ∧ yX0_cellsOff.cls ≠ "java/lang/invoke/VarHandle" ∧ (parseMethodDescriptor yX0_cellsOff.desc).map (fun d => d.parameters.length) = some 2 := by decide +kernel
abbrev rm_X0_cellsOff : Room := { frames := 2, cells := 0, slots := 0, locals := 44 }
def lp_X0_cellsOff_5 (fu : Nat) (M : Mem) (b0 : Nat) (b1 : Nat) (b2 : Int32) (K : Int32 → Option (Int32)) : Nat → Int32 → Int32 → Option (Int32)
  | 0, _, _ => none
  | n + 1, x3, x4 =>
    (if (M b1 0) ≤ x4 then (K x3)
    else (f_X0_seenCells fu M b0 (b2 + x4)).bind (fun u1 =>
      gd (inb x4 6) (
      gd (inb (M (b1 + 1) x4.toNatClampNeg) 26) (
      (f_J6_bitCount_0f7a4 (u1 ^^^ (v26 (M (b1 + 1) x4.toNatClampNeg).toNatClampNeg))).bind (fun u5 =>
      lt ((x3 + u5)) (fun v6 : Int32 =>
      lt (x4 + 1) (fun v7 : Int32 =>
      (lp_X0_cellsOff_5 fu M b0 b1 b2 K n v6 v7))))))))
def f_X0_cellsOff (fu : Nat) (M : Mem) (k0 : Nat) (k1 : Nat) (a2 : Int32) : Option (Int32) :=
  (lp_X0_cellsOff_5 fu M k0 k1 a2 (fun (v8 : Int32) =>
    some (v8)) fu (0 : Int32) (0 : Int32))
set_option maxHeartbeats 4000000 in
set_option maxRecDepth 100000 in
theorem lc_X0_cellsOff_5 {p : Program} {l : Launch} {e : Env} {s : State} {m : MethodId} {args : Array Value} {below : List Frame} {meth : Method} {c : Code} {G : Gx} {M : Mem} {L : MemL} {fu : Nat} {b0 : Nat} {b1 : Nat} {b2 : Int32} {z : Int32} (S : Sx G false p s m args meth c cX0_cellsOff 5 RX0) (hr : meth.sig.returnType = (Option.some Jvm.ClassFile.FieldType.int)) (hb0 : kd b0 = 1) (hb1 : kd b1 = 3) (K : Int32 → Option (Int32)) (hK : ∀ (y3 : Int32) (H : Heap) (locs : List Loc), Dy G s M L H locs → ∀ ls : Array Slot, lv_has ls 5 [(3, .int y3)] → K y3 = some z → W p l e rm_X0_cellsOff s m args below meth c H locs 0 0 (MQ below (Qi G z M L) args s 0 0 (gA G)) (F0 m 46 ls [])) :
    ∀ (n : Nat) (x3 : Int32) (x4 : Int32), lp_X0_cellsOff_5 fu M b0 b1 b2 K n x3 x4 = some z → ∀ (H : Heap) (locs : List Loc), Dy G s M L H locs → ∀ ls : Array Slot, lv_has ls 5 [(0, .ref (ad G b0)), (1, .ref (ad G b1)), (2, .int b2), (3, .int x3), (4, .int x4)] → W p l e rm_X0_cellsOff s m args below meth c H locs 0 0 (MQ below (Qi G z M L) args s 0 0 (gA G)) (F0 m 5 ls []) := by
  intro n
  induction n with
  | zero =>
    intro x3 x4 h
    have h : (none : Option (Int32)) = some z := h
    cases h
  | succ n ih =>
    intro x3 x4 h H locs d ls hl
    rw [lp_X0_cellsOff_5] at h
    refine lv_iload S.1 S.2.1 dX0_cellsOff_5 (lv_at hl 4 rfl) ?_
    refine lv_aload_n S.1 S.2.1 dX0_cellsOff_7 rfl (lv_at hl 1 rfl) ?_
    refine gf_3_0 S d hb1 fl_RX0_95 dX0_cellsOff_8 ?_
    refine lv_icmp_ge (tgt := 46) S.1 S.2.1 dX0_cellsOff_11 (by decide) (fun cc => ?_) (fun cc => ?_)
    · replace h := it_p cc h
      exact hK _ _ _ d _ (lv_sub hl [3] rfl) h
    · replace h := it_n cc h
      refine lv_iload_n S.1 S.2.1 dX0_cellsOff_14 rfl (lv_at hl 3 rfl) ?_
      refine lv_aload_n S.1 S.2.1 dX0_cellsOff_15 rfl (lv_at hl 0 rfl) ?_
      refine lv_iload_n S.1 S.2.1 dX0_cellsOff_16 rfl (lv_at hl 2 rfl) ?_
      refine lv_iload S.1 S.2.1 dX0_cellsOff_17 (lv_at hl 4 rfl) ?_
      refine lv_iadd S.1 S.2.1 dX0_cellsOff_19 ?_
      obtain ⟨u1, hu1, h⟩ := bd_e h
      refine r_ri d (r_cV (As := [.int (b2 + x4)]) (rest := [.int x3]) S d (c_X0_seenCells l G M L fu b0 (b2 + x4) hb0 hu1) (ksdC S hb0) (wc_1 hb0) rfl ml_RX0_86 im_yX0_seenCells se_yX0_seenCells in_RX0 co_yX0_seenCells hyV_X0_seenCells ⟨rfl, rfl⟩ ⟨by decide, by decide⟩ rfl hl rfl (Nat.le_of_ble_eq_true rfl) dX0_cellsOff_20 ⟨Nat.zero_le _, Nat.zero_le _⟩) (fun H locs d => ?_)
      refine r_gst S d S.2.2.2.2.2.2.2.1.1 (Or.inr ⟨_, va_Nw.use rfl (nv_RX0_105 S.2.2.2.2.2.2.2.1.2.2.2)⟩) dX0_cellsOff_23 (fun t2 ht2 => ?_)
      refine lv_aload_n S.1 S.2.1 dX0_cellsOff_26 rfl (lv_at hl 1 rfl) ?_
      refine gf_3_2 S d hb1 fl_RX0_102 dX0_cellsOff_27 ?_
      refine lv_iload S.1 S.2.1 dX0_cellsOff_30 (lv_at hl 4 rfl) ?_
      obtain ⟨g3, h⟩ := gd_e h
      refine r_iald S d (ksdC S (ch_3_2 hb1).1) (wc_10 (ch_3_2 hb1).1) (ch_3_2 hb1).2 g3 dX0_cellsOff_32 ?_
      obtain ⟨g4, h⟩ := gd_e h
      refine r_tald S d ht2 g4 dX0_cellsOff_33 ?_
      refine lv_ixor S.1 S.2.1 dX0_cellsOff_34 ?_
      obtain ⟨u5, hu5, h⟩ := bd_e h
      refine r_ri d (r_cS (As := [.int (u1 ^^^ (v26 (M (b1 + 1) x4.toNatClampNeg).toNatClampNeg))]) (rest := [.int x3]) S d (c_J6_bitCount_0f7a4 l G M L (u1 ^^^ (v26 (M (b1 + 1) x4.toNatClampNeg).toNatClampNeg)) hu5) ml_RX0_65 sm_yJ6_bitCount_0f7a4 in_RJ6 co_yJ6_bitCount_0f7a4 hyS_J6_bitCount_0f7a4 ⟨rfl, rfl⟩ ⟨by decide, by decide⟩ rfl hl rfl (Nat.le_of_ble_eq_true rfl) dX0_cellsOff_35 ⟨Nat.zero_le _, Nat.zero_le _⟩) (fun H locs d => ?_)
      refine lv_iadd S.1 S.2.1 dX0_cellsOff_38 ?_
      obtain ⟨v6, ev6, h⟩ := lt_e h
      refine r_top ev6 ?_
      refine lv_istore_n (lv' := [(3, .int v6), (0, .ref (ad G b0)), (1, .ref (ad G b1)), (2, .int b2), (4, .int x4)]) S.1 S.2.1 dX0_cellsOff_39 rfl hl (by decide) rfl (fun ls hl => ?_)
      obtain ⟨v7, ev7, h⟩ := lt_e h
      refine lv_iinc (v := v7) (lv' := [(4, .int v7), (3, .int v6), (0, .ref (ad G b0)), (1, .ref (ad G b1)), (2, .int b2)]) S.1 S.2.1 dX0_cellsOff_40 hl (k := 4) rfl (by rw [ev7]; rfl) (by decide) rfl (fun ls hl => ?_)
      refine lv_goto (tgt := 5) S.1 S.2.1 dX0_cellsOff_43 (by decide) ?_
      exact ih _ _ h _ _ d _ (lv_sub hl [2, 3, 4, 1, 0] rfl)
set_option maxHeartbeats 4000000 in
set_option maxRecDepth 100000 in
theorem c_X0_cellsOff (l : Launch) (G : Gx) (M : Mem) (L : MemL) (fu : Nat) (k0 : Nat) (k1 : Nat) (a2 : Int32) (hk0 : kd k0 = 1) (hk1 : kd k1 = 3) {z : Int32} (h : f_X0_cellsOff fu M k0 k1 a2 = some z) : Met l yX0_cellsOff (.code yX0_cellsOff cX0_cellsOff 5 (Option.some Jvm.ClassFile.FieldType.int) :: UW) rm_X0_cellsOff (va_Pc [.ref (ad G k0), .ref (ad G k1), .int a2] (PreG G false M L)) (Qi G z M L) 0 0 (gA G) := by
  refine r_in (by decide) (fun p e s m args below meth c S hr d ha ls hl => ?_) (Nat.le_of_ble_eq_true rfl)
  have S : Sx G false p s m args meth c cX0_cellsOff 5 RX0 := S
  have hl : lv_has ls 5 [(0, .ref (ad G k0)), (1, .ref (ad G k1)), (2, .int a2)] := hl
  unfold f_X0_cellsOff at h
  refine lv_iconst (v := 0) S.1 S.2.1 dX0_cellsOff_0 (by decide) ?_
  refine lv_istore_n (lv' := [(3, .int (0 : Int32)), (0, .ref (ad G k0)), (1, .ref (ad G k1)), (2, .int a2)]) S.1 S.2.1 dX0_cellsOff_1 rfl hl (by decide) rfl (fun ls hl => ?_)
  refine lv_iconst (v := 0) S.1 S.2.1 dX0_cellsOff_2 (by decide) ?_
  refine lv_istore (lv' := [(4, .int (0 : Int32)), (3, .int (0 : Int32)), (0, .ref (ad G k0)), (1, .ref (ad G k1)), (2, .int a2)]) S.1 S.2.1 dX0_cellsOff_3 hl (by decide) rfl (fun ls hl => ?_)
  refine lc_X0_cellsOff_5 S hr hk0 hk1 _ (fun v8 H locs d ls hl h => ?_) _ _ _  h _ _ d _ (lv_sub hl [2, 3, 4, 1, 0] rfl)
  refine lv_iload_n S.1 S.2.1 dX0_cellsOff_46 rfl (lv_at hl 0 rfl) ?_
  obtain rfl := Option.some.inj h
  exact r_iret S d hr rfl rfl dX0_cellsOff_47
theorem hyV_X7_nearest : yX7_nearest.cls = RX7 ∧ yX7_nearest.cls ≠ "java/lang/invoke/MethodHandle" ∧ yX7_nearest.cls ≠ "java/lang/invoke/VarHandle" ∧ (parseMethodDescriptor yX7_nearest.desc).map (fun d => d.parameters.length) = some 2 := by decide +kernel
abbrev rm_X7_nearest : Room := { frames := 3, cells := 0, slots := 0, locals := 68 }
def lp_X7_nearest_28 (fu : Nat) (M : Mem) (b0 : Nat) (b1 : Int32) (b2 : Int32) (K : Int32 → Int32 → Option (Int32)) : Nat → Int32 → Int32 → Int32 → Option (Int32)
  | 0, _, _, _ => none
  | n + 1, x3, x4, x5 =>
    (if (M (b0 + 1) 4) ≤ x5 then (K x3 x4)
    else gd (inb x5 10) (
      (f_X0_hasRoom M (b0 + 1) (((b0 + 1) + 3) + 21 + 2 * x5.toNatClampNeg) b1).bind (fun u4 =>
      (if u4 = 0 then lt (x5 + 1) (fun v10 : Int32 =>
        (lp_X7_nearest_28 fu M b0 b1 b2 K n x3 x4 v10))
      else gd (inb x5 10) (
        (f_X0_cellsOff fu M (b0 + 1) (((b0 + 1) + 3) + 21 + 2 * x5.toNatClampNeg) b1).bind (fun u6 =>
        (if x3 = (-4 : Int32) then lt (x5 + 1) (fun v9 : Int32 =>
          (lp_X7_nearest_28 fu M b0 b1 b2 K n x5 u6 v9))
        else (if x4 ≤ u6 then lt (x5 + 1) (fun v8 : Int32 =>
            (lp_X7_nearest_28 fu M b0 b1 b2 K n x3 x4 v8))
          else lt (x5 + 1) (fun v7 : Int32 =>
            (lp_X7_nearest_28 fu M b0 b1 b2 K n x5 u6 v7))))))))))
def f_X7_nearest (fu : Nat) (M : Mem) (k0 : Nat) (a1 : Int32) (a2 : Int32) : Option (Int32) :=
  (f_X7_isStrip M k0 a1).bind (fun u1 =>
  (if u1 = 0 then some ((-1 : Int32))
  else (f_X7_isBelow a2 (2 : Int32)).bind (fun u2 =>
    (if u2 = 0 then some ((-1 : Int32))
    else (lp_X7_nearest_28 fu M k0 a1 a2 (fun (v11 : Int32) (v12 : Int32) =>
        (if a2 = 0 then some (v11)
        else some (v12))) fu (-4 : Int32) (-4 : Int32) (0 : Int32))))))
set_option maxHeartbeats 4000000 in
set_option maxRecDepth 100000 in
theorem lc_X7_nearest_28 {p : Program} {l : Launch} {e : Env} {s : State} {m : MethodId} {args : Array Value} {below : List Frame} {meth : Method} {c : Code} {G : Gx} {M : Mem} {L : MemL} {fu : Nat} {b0 : Nat} {b1 : Int32} {b2 : Int32} {z : Int32} (S : Sx G false p s m args meth c cX7_nearest 7 RX7) (hr : meth.sig.returnType = (Option.some Jvm.ClassFile.FieldType.int)) (hb0 : kd b0 = 0) (K : Int32 → Int32 → Option (Int32)) (hK : ∀ (y3 : Int32) (y4 : Int32) (H : Heap) (locs : List Loc), Dy G s M L H locs → ∀ ls : Array Slot, lv_has ls 7 [(2, .int b2), (3, .int y3), (4, .int y4)] → K y3 y4 = some z → W p l e rm_X7_nearest s m args below meth c H locs 0 0 (MQ below (Qi G z M L) args s 0 0 (gA G)) (F0 m 107 ls [])) :
    ∀ (n : Nat) (x3 : Int32) (x4 : Int32) (x5 : Int32), lp_X7_nearest_28 fu M b0 b1 b2 K n x3 x4 x5 = some z → ∀ (H : Heap) (locs : List Loc), Dy G s M L H locs → ∀ ls : Array Slot, lv_has ls 7 [(0, .ref (ad G b0)), (1, .int b1), (2, .int b2), (3, .int x3), (4, .int x4), (5, .int x5)] → W p l e rm_X7_nearest s m args below meth c H locs 0 0 (MQ below (Qi G z M L) args s 0 0 (gA G)) (F0 m 28 ls []) := by
  intro n
  induction n with
  | zero =>
    intro x3 x4 x5 h
    have h : (none : Option (Int32)) = some z := h
    cases h
  | succ n ih =>
    intro x3 x4 x5 h H locs d ls hl
    rw [lp_X7_nearest_28] at h
    refine lv_iload S.1 S.2.1 dX7_nearest_28 (lv_at hl 5 rfl) ?_
    refine lv_aload_n S.1 S.2.1 dX7_nearest_30 rfl (lv_at hl 0 rfl) ?_
    refine gf_0_0 S d hb0 fl_RX7_12 dX7_nearest_31 ?_
    refine gf_1_4 S d (ch_0_0 hb0).1 fl_RX7_133 dX7_nearest_34 ?_
    refine lv_icmp_ge (tgt := 107) S.1 S.2.1 dX7_nearest_37 (by decide) (fun cc => ?_) (fun cc => ?_)
    · replace h := it_p cc h
      exact hK _ _ _ _ d _ (lv_sub hl [2, 3, 4] rfl) h
    · replace h := it_n cc h
      refine lv_aload_n S.1 S.2.1 dX7_nearest_40 rfl (lv_at hl 0 rfl) ?_
      refine gf_0_0 S d hb0 fl_RX7_12 dX7_nearest_41 ?_
      refine lv_aload_n S.1 S.2.1 dX7_nearest_44 rfl (lv_at hl 0 rfl) ?_
      refine gf_0_0 S d hb0 fl_RX7_12 dX7_nearest_45 ?_
      refine gf_1_3 S d (ch_0_0 hb0).1 fl_RX7_147 dX7_nearest_48 ?_
      refine lv_iload S.1 S.2.1 dX7_nearest_51 (lv_at hl 5 rfl) ?_
      obtain ⟨g3, h⟩ := gd_e h
      refine r_aald S d (ksdC S (ch_1_3 (ch_0_0 hb0).1).1) (wc_14 (ch_1_3 (ch_0_0 hb0).1).1) rfl rfl g3 (if_pos (inb_lt g3)) dX7_nearest_53 ?_
      refine lv_iload_n S.1 S.2.1 dX7_nearest_54 rfl (lv_at hl 1 rfl) ?_
      obtain ⟨u4, hu4, h⟩ := bd_e h
      refine r_ri d (r_cV (As := [.ref (ad G (((b0 + 1) + 3) + 21 + 2 * x5.toNatClampNeg)), .int b1]) (rest := []) S d (c_X0_hasRoom l G M L (b0 + 1) (((b0 + 1) + 3) + 21 + 2 * x5.toNatClampNeg) b1 (ch_0_0 hb0).1 (ca_14 (ch_1_3 (ch_0_0 hb0).1).1 (inb_lt g3)).1 hu4) (ksdC S (ch_0_0 hb0).1) (wc_1 (ch_0_0 hb0).1) rfl ml_RX7_189 im_yX0_hasRoom se_yX0_hasRoom in_RX0 co_yX0_hasRoom hyV_X0_hasRoom ⟨rfl, rfl⟩ ⟨by decide, by decide⟩ rfl hl rfl (Nat.le_of_ble_eq_true rfl) dX7_nearest_55 ⟨Nat.zero_le _, Nat.zero_le _⟩) (fun H locs d => ?_)
      refine lv_if_eq (tgt := 101) S.1 S.2.1 dX7_nearest_58 (by decide) (fun cc => ?_) (fun cc => ?_)
      · replace h := it_p cc h
        obtain ⟨v10, ev10, h⟩ := lt_e h
        refine lv_iinc (v := v10) (lv' := [(5, .int v10), (0, .ref (ad G b0)), (1, .int b1), (2, .int b2), (3, .int x3), (4, .int x4)]) S.1 S.2.1 dX7_nearest_101 hl (k := 5) rfl (by rw [ev10]; rfl) (by decide) rfl (fun ls hl => ?_)
        refine lv_goto (tgt := 28) S.1 S.2.1 dX7_nearest_104 (by decide) ?_
        exact ih _ _ _ h _ _ d _ (lv_sub hl [1, 2, 3, 4, 5, 0] rfl)
      · replace h := it_n cc h
        refine lv_aload_n S.1 S.2.1 dX7_nearest_61 rfl (lv_at hl 0 rfl) ?_
        refine gf_0_0 S d hb0 fl_RX7_12 dX7_nearest_62 ?_
        refine lv_aload_n S.1 S.2.1 dX7_nearest_65 rfl (lv_at hl 0 rfl) ?_
        refine gf_0_0 S d hb0 fl_RX7_12 dX7_nearest_66 ?_
        refine gf_1_3 S d (ch_0_0 hb0).1 fl_RX7_147 dX7_nearest_69 ?_
        refine lv_iload S.1 S.2.1 dX7_nearest_72 (lv_at hl 5 rfl) ?_
        obtain ⟨g5, h⟩ := gd_e h
        refine r_aald S d (ksdC S (ch_1_3 (ch_0_0 hb0).1).1) (wc_14 (ch_1_3 (ch_0_0 hb0).1).1) rfl rfl g5 (if_pos (inb_lt g5)) dX7_nearest_74 ?_
        refine lv_iload_n S.1 S.2.1 dX7_nearest_75 rfl (lv_at hl 1 rfl) ?_
        obtain ⟨u6, hu6, h⟩ := bd_e h
        refine r_ri d (r_cV (As := [.ref (ad G (((b0 + 1) + 3) + 21 + 2 * x5.toNatClampNeg)), .int b1]) (rest := []) S d (c_X0_cellsOff l G M L fu (b0 + 1) (((b0 + 1) + 3) + 21 + 2 * x5.toNatClampNeg) b1 (ch_0_0 hb0).1 (ca_14 (ch_1_3 (ch_0_0 hb0).1).1 (inb_lt g5)).1 hu6) (ksdC S (ch_0_0 hb0).1) (wc_1 (ch_0_0 hb0).1) rfl ml_RX7_193 im_yX0_cellsOff se_yX0_cellsOff in_RX0 co_yX0_cellsOff hyV_X0_cellsOff ⟨rfl, rfl⟩ ⟨by decide, by decide⟩ rfl hl rfl (Nat.le_of_ble_eq_true rfl) dX7_nearest_76 ⟨Nat.zero_le _, Nat.zero_le _⟩) (fun H locs d => ?_)
        refine lv_istore (lv' := [(6, .int u6), (0, .ref (ad G b0)), (1, .int b1), (2, .int b2), (3, .int x3), (4, .int x4), (5, .int x5)]) S.1 S.2.1 dX7_nearest_79 hl (by decide) rfl (fun ls hl => ?_)
        refine lv_iload_n S.1 S.2.1 dX7_nearest_81 rfl (lv_at hl 4 rfl) ?_
        refine lv_bipush (v := (-4)) S.1 S.2.1 dX7_nearest_82 (by decide) ?_
        refine lv_icmp_eq (tgt := 94) S.1 S.2.1 dX7_nearest_84 (by decide) (fun cc => ?_) (fun cc => ?_)
        · replace h := it_p cc h
          refine lv_iload S.1 S.2.1 dX7_nearest_94 (lv_at hl 6 rfl) ?_
          refine lv_istore_n (lv' := [(3, .int x5), (6, .int u6), (0, .ref (ad G b0)), (1, .int b1), (2, .int b2), (4, .int x4), (5, .int x5)]) S.1 S.2.1 dX7_nearest_96 rfl hl (by decide) rfl (fun ls hl => ?_)
          refine lv_iload S.1 S.2.1 dX7_nearest_97 (lv_at hl 1 rfl) ?_
          refine lv_istore (lv' := [(4, .int u6), (3, .int x5), (6, .int u6), (0, .ref (ad G b0)), (1, .int b1), (2, .int b2), (5, .int x5)]) S.1 S.2.1 dX7_nearest_99 hl (by decide) rfl (fun ls hl => ?_)
          obtain ⟨v9, ev9, h⟩ := lt_e h
          refine lv_iinc (v := v9) (lv' := [(5, .int v9), (4, .int u6), (3, .int x5), (6, .int u6), (0, .ref (ad G b0)), (1, .int b1), (2, .int b2)]) S.1 S.2.1 dX7_nearest_101 hl (k := 6) rfl (by rw [ev9]; rfl) (by decide) rfl (fun ls hl => ?_)
          refine lv_goto (tgt := 28) S.1 S.2.1 dX7_nearest_104 (by decide) ?_
          exact ih _ _ _ h _ _ d _ (lv_sub hl [4, 5, 6, 2, 1, 0] rfl)
        · replace h := it_n cc h
          refine lv_iload S.1 S.2.1 dX7_nearest_87 (lv_at hl 0 rfl) ?_
          refine lv_iload S.1 S.2.1 dX7_nearest_89 (lv_at hl 5 rfl) ?_
          refine lv_icmp_ge (tgt := 101) S.1 S.2.1 dX7_nearest_91 (by decide) (fun cc => ?_) (fun cc => ?_)
          · replace h := it_p cc h
            obtain ⟨v8, ev8, h⟩ := lt_e h
            refine lv_iinc (v := v8) (lv' := [(5, .int v8), (6, .int u6), (0, .ref (ad G b0)), (1, .int b1), (2, .int b2), (3, .int x3), (4, .int x4)]) S.1 S.2.1 dX7_nearest_101 hl (k := 6) rfl (by rw [ev8]; rfl) (by decide) rfl (fun ls hl => ?_)
            refine lv_goto (tgt := 28) S.1 S.2.1 dX7_nearest_104 (by decide) ?_
            exact ih _ _ _ h _ _ d _ (lv_sub hl [2, 3, 4, 5, 6, 0] rfl)
          · replace h := it_n cc h
            refine lv_iload S.1 S.2.1 dX7_nearest_94 (lv_at hl 6 rfl) ?_
            refine lv_istore_n (lv' := [(3, .int x5), (6, .int u6), (0, .ref (ad G b0)), (1, .int b1), (2, .int b2), (4, .int x4), (5, .int x5)]) S.1 S.2.1 dX7_nearest_96 rfl hl (by decide) rfl (fun ls hl => ?_)
            refine lv_iload S.1 S.2.1 dX7_nearest_97 (lv_at hl 1 rfl) ?_
            refine lv_istore (lv' := [(4, .int u6), (3, .int x5), (6, .int u6), (0, .ref (ad G b0)), (1, .int b1), (2, .int b2), (5, .int x5)]) S.1 S.2.1 dX7_nearest_99 hl (by decide) rfl (fun ls hl => ?_)
            obtain ⟨v7, ev7, h⟩ := lt_e h
            refine lv_iinc (v := v7) (lv' := [(5, .int v7), (4, .int u6), (3, .int x5), (6, .int u6), (0, .ref (ad G b0)), (1, .int b1), (2, .int b2)]) S.1 S.2.1 dX7_nearest_101 hl (k := 6) rfl (by rw [ev7]; rfl) (by decide) rfl (fun ls hl => ?_)
            refine lv_goto (tgt := 28) S.1 S.2.1 dX7_nearest_104 (by decide) ?_
            exact ih _ _ _ h _ _ d _ (lv_sub hl [4, 5, 6, 2, 1, 0] rfl)
set_option maxHeartbeats 4000000 in
set_option maxRecDepth 100000 in
theorem c_X7_nearest (l : Launch) (G : Gx) (M : Mem) (L : MemL) (fu : Nat) (k0 : Nat) (a1 : Int32) (a2 : Int32) (hk0 : kd k0 = 0) {z : Int32} (h : f_X7_nearest fu M k0 a1 a2 = some z) : Met l yX7_nearest (.code yX7_nearest cX7_nearest 7 (Option.some Jvm.ClassFile.FieldType.int) :: UW) rm_X7_nearest (va_Pc [.ref (ad G k0), .int a1, .int a2] (PreG G false M L)) (Qi G z M L) 0 0 (gA G) := by
  refine r_in (by decide) (fun p e s m args below meth c S hr d ha ls hl => ?_) (Nat.le_of_ble_eq_true rfl)
  have S : Sx G false p s m args meth c cX7_nearest 7 RX7 := S
  have hl : lv_has ls 7 [(0, .ref (ad G k0)), (1, .int a1), (2, .int a2)] := hl
  unfold f_X7_nearest at h
  refine lv_aload_n S.1 S.2.1 dX7_nearest_0 rfl (lv_at hl 0 rfl) ?_
  refine lv_iload_n S.1 S.2.1 dX7_nearest_1 rfl (lv_at hl 1 rfl) ?_
  obtain ⟨u1, hu1, h⟩ := bd_e h
  refine r_ri d (r_cV (As := [.int a1]) (rest := []) S d (c_X7_isStrip l G M L k0 a1 hk0 hu1) (ksdC S hk0) (wc_0 hk0) rfl ml_RX7_70 im_yX7_isStrip se_yX7_isStrip in_RX7 co_yX7_isStrip hyV_X7_isStrip ⟨rfl, rfl⟩ ⟨by decide, by decide⟩ rfl hl rfl (Nat.le_of_ble_eq_true rfl) dX7_nearest_2 ⟨Nat.zero_le _, Nat.zero_le _⟩) (fun H locs d => ?_)
  refine lv_if_eq (tgt := 16) S.1 S.2.1 dX7_nearest_5 (by decide) (fun cc => ?_) (fun cc => ?_)
  · replace h := it_p cc h
    refine lv_iconst (v := (-1)) S.1 S.2.1 dX7_nearest_16 (by decide) ?_
    obtain rfl := Option.some.inj h
    exact r_iret S d hr rfl rfl dX7_nearest_17
  · replace h := it_n cc h
    refine lv_iload_n S.1 S.2.1 dX7_nearest_8 rfl (lv_at hl 2 rfl) ?_
    refine lv_iconst (v := 2) S.1 S.2.1 dX7_nearest_9 (by decide) ?_
    obtain ⟨u2, hu2, h⟩ := bd_e h
    refine r_ri d (r_cS (As := [.int a2, .int (2 : Int32)]) (rest := []) S d (c_X7_isBelow l G M L a2 (2 : Int32) hu2) ml_RX7_51 sm_yX7_isBelow in_RX7 co_yX7_isBelow hyS_X7_isBelow ⟨rfl, rfl⟩ ⟨by decide, by decide⟩ rfl hl rfl (Nat.le_of_ble_eq_true rfl) dX7_nearest_10 ⟨Nat.zero_le _, Nat.zero_le _⟩) (fun H locs d => ?_)
    refine lv_if_ne (tgt := 18) S.1 S.2.1 dX7_nearest_13 (by decide) (fun cc => ?_) (fun cc => ?_)
    · replace h := it_n cc h
      refine lv_bipush (v := (-4)) S.1 S.2.1 dX7_nearest_18 (by decide) ?_
      refine lv_istore_n (lv' := [(3, .int (-4 : Int32)), (0, .ref (ad G k0)), (1, .int a1), (2, .int a2)]) S.1 S.2.1 dX7_nearest_20 rfl hl (by decide) rfl (fun ls hl => ?_)
      refine lv_bipush (v := (-4)) S.1 S.2.1 dX7_nearest_21 (by decide) ?_
      refine lv_istore (lv' := [(4, .int (-4 : Int32)), (3, .int (-4 : Int32)), (0, .ref (ad G k0)), (1, .int a1), (2, .int a2)]) S.1 S.2.1 dX7_nearest_23 hl (by decide) rfl (fun ls hl => ?_)
      refine lv_iconst (v := 0) S.1 S.2.1 dX7_nearest_25 (by decide) ?_
      refine lv_istore (lv' := [(5, .int (0 : Int32)), (4, .int (-4 : Int32)), (3, .int (-4 : Int32)), (0, .ref (ad G k0)), (1, .int a1), (2, .int a2)]) S.1 S.2.1 dX7_nearest_26 hl (by decide) rfl (fun ls hl => ?_)
      refine lc_X7_nearest_28 S hr hk0 _ (fun v11 v12 H locs d ls hl h => ?_) _ _ _ _  h _ _ d _ (lv_sub hl [3, 4, 5, 2, 1, 0] rfl)
      refine lv_iload_n S.1 S.2.1 dX7_nearest_107 rfl (lv_at hl 0 rfl) ?_
      refine lv_if_ne (tgt := 115) S.1 S.2.1 dX7_nearest_108 (by decide) (fun cc => ?_) (fun cc => ?_)
      · replace h := it_n cc h
        refine lv_iload S.1 S.2.1 dX7_nearest_115 (lv_at hl 2 rfl) ?_
        obtain rfl := Option.some.inj h
        exact r_iret S d hr rfl rfl dX7_nearest_117
      · replace h := it_p cc h
        refine lv_iload_n S.1 S.2.1 dX7_nearest_111 rfl (lv_at hl 1 rfl) ?_
        refine lv_goto (tgt := 117) S.1 S.2.1 dX7_nearest_112 (by decide) ?_
        obtain rfl := Option.some.inj h
        exact r_iret S d hr rfl rfl dX7_nearest_117
    · replace h := it_p cc h
      refine lv_iconst (v := (-1)) S.1 S.2.1 dX7_nearest_16 (by decide) ?_
      obtain rfl := Option.some.inj h
      exact r_iret S d hr rfl rfl dX7_nearest_17
theorem hyV_X0_hasFeud : yX0_hasFeud.cls = RX0 ∧ yX0_hasFeud.cls ≠ "java/lang/invoke/MethodHandle" ∧ yX0_hasFeud.cls ≠ "java/lang/invoke/VarHandle" ∧ (parseMethodDescriptor yX0_hasFeud.desc).map (fun d => d.parameters.length) = some 2 := by decide +kernel
abbrev rm_X0_hasFeud : Room := { frames := 0, cells := 0, slots := 0, locals := 0 }
def lp_X0_hasFeud_8 (fu : Nat) (M : Mem) (b0 : Nat) (b1 : Nat) (b2 : Int32) (K : Int32 → Int32 → Option (Int32)) : Nat → Int32 → Int32 → Int32 → Option (Int32)
  | 0, _, _, _ => none
  | n + 1, x3, x4, x5 =>
    (if (M b1 0) ≤ x5 then (K x3 x4)
    else gd (inb (b2 + x5) 9) (
      lt ((x3 ||| ((1 : Int32) <<< ((M ((b0 + 2) + 4 + 2 * (b2 + x5).toNatClampNeg) 0) &&& 31)))) (fun v2 : Int32 =>
      gd (inb (b2 + x5) 9) (
      gd (inb (M ((b0 + 2) + 4 + 2 * (b2 + x5).toNatClampNeg) 0) 6) (
      lt ((x4 ||| (M (b0 + 4) (M ((b0 + 2) + 4 + 2 * (b2 + x5).toNatClampNeg) 0).toNatClampNeg))) (fun v5 : Int32 =>
      lt (x5 + 1) (fun v6 : Int32 =>
      (lp_X0_hasFeud_8 fu M b0 b1 b2 K n v2 v5 v6))))))))
def f_X0_hasFeud (fu : Nat) (M : Mem) (k0 : Nat) (k1 : Nat) (a2 : Int32) : Option (Int32) :=
  (lp_X0_hasFeud_8 fu M k0 k1 a2 (fun (v7 : Int32) (v8 : Int32) =>
    (if (v7 &&& v8) = 0 then some ((0 : Int32))
    else some ((1 : Int32)))) fu (0 : Int32) (0 : Int32) (0 : Int32))
set_option maxHeartbeats 4000000 in
set_option maxRecDepth 100000 in
theorem lc_X0_hasFeud_8 {p : Program} {l : Launch} {e : Env} {s : State} {m : MethodId} {args : Array Value} {below : List Frame} {meth : Method} {c : Code} {G : Gx} {M : Mem} {L : MemL} {fu : Nat} {b0 : Nat} {b1 : Nat} {b2 : Int32} {z : Int32} (S : Sx G false p s m args meth c cX0_hasFeud 6 RX0) (hr : meth.sig.returnType = (Option.some Jvm.ClassFile.FieldType.boolean)) (hb0 : kd b0 = 1) (hb1 : kd b1 = 3) (K : Int32 → Int32 → Option (Int32)) (hK : ∀ (y3 : Int32) (y4 : Int32) (H : Heap) (locs : List Loc), Dy G s M L H locs → ∀ ls : Array Slot, lv_has ls 6 [(3, .int y3), (4, .int y4)] → K y3 y4 = some z → W p l e rm_X0_hasFeud s m args below meth c H locs 0 0 (MQ below (Qi G z M L) args s 0 0 (gA G)) (F0 m 62 ls [])) :
    ∀ (n : Nat) (x3 : Int32) (x4 : Int32) (x5 : Int32), lp_X0_hasFeud_8 fu M b0 b1 b2 K n x3 x4 x5 = some z → ∀ (H : Heap) (locs : List Loc), Dy G s M L H locs → ∀ ls : Array Slot, lv_has ls 6 [(0, .ref (ad G b0)), (1, .ref (ad G b1)), (2, .int b2), (3, .int x3), (4, .int x4), (5, .int x5)] → W p l e rm_X0_hasFeud s m args below meth c H locs 0 0 (MQ below (Qi G z M L) args s 0 0 (gA G)) (F0 m 8 ls []) := by
  intro n
  induction n with
  | zero =>
    intro x3 x4 x5 h
    have h : (none : Option (Int32)) = some z := h
    cases h
  | succ n ih =>
    intro x3 x4 x5 h H locs d ls hl
    rw [lp_X0_hasFeud_8] at h
    refine lv_iload S.1 S.2.1 dX0_hasFeud_8 (lv_at hl 5 rfl) ?_
    refine lv_aload_n S.1 S.2.1 dX0_hasFeud_10 rfl (lv_at hl 1 rfl) ?_
    refine gf_3_0 S d hb1 fl_RX0_95 dX0_hasFeud_11 ?_
    refine lv_icmp_ge (tgt := 62) S.1 S.2.1 dX0_hasFeud_14 (by decide) (fun cc => ?_) (fun cc => ?_)
    · replace h := it_p cc h
      exact hK _ _ _ _ d _ (lv_sub hl [3, 4] rfl) h
    · replace h := it_n cc h
      refine lv_iload_n S.1 S.2.1 dX0_hasFeud_17 rfl (lv_at hl 3 rfl) ?_
      refine lv_iconst (v := 1) S.1 S.2.1 dX0_hasFeud_18 (by decide) ?_
      refine lv_aload_n S.1 S.2.1 dX0_hasFeud_19 rfl (lv_at hl 0 rfl) ?_
      refine gf_1_1 S d hb0 fl_RX0_20 dX0_hasFeud_20 ?_
      refine lv_iload_n S.1 S.2.1 dX0_hasFeud_23 rfl (lv_at hl 2 rfl) ?_
      refine lv_iload S.1 S.2.1 dX0_hasFeud_24 (lv_at hl 5 rfl) ?_
      refine lv_iadd S.1 S.2.1 dX0_hasFeud_26 ?_
      obtain ⟨g1, h⟩ := gd_e h
      refine r_aald S d (ksdC S (ch_1_1 hb0).1) (wc_13 (ch_1_1 hb0).1) rfl rfl g1 (if_pos (inb_lt g1)) dX0_hasFeud_27 ?_
      refine gf_2_0 S d (ca_13 (ch_1_1 hb0).1 (inb_lt g1)).1 fl_RX0_80 dX0_hasFeud_28 ?_
      refine lv_ishl S.1 S.2.1 dX0_hasFeud_31 ?_
      refine lv_ior S.1 S.2.1 dX0_hasFeud_32 ?_
      obtain ⟨v2, ev2, h⟩ := lt_e h
      refine r_top ev2 ?_
      refine lv_istore_n (lv' := [(3, .int v2), (0, .ref (ad G b0)), (1, .ref (ad G b1)), (2, .int b2), (4, .int x4), (5, .int x5)]) S.1 S.2.1 dX0_hasFeud_33 rfl hl (by decide) rfl (fun ls hl => ?_)
      refine lv_iload S.1 S.2.1 dX0_hasFeud_34 (lv_at hl 4 rfl) ?_
      refine lv_aload_n S.1 S.2.1 dX0_hasFeud_36 rfl (lv_at hl 1 rfl) ?_
      refine gf_1_5 S d hb0 fl_RX0_37 dX0_hasFeud_37 ?_
      refine lv_aload_n S.1 S.2.1 dX0_hasFeud_40 rfl (lv_at hl 1 rfl) ?_
      refine gf_1_1 S d hb0 fl_RX0_20 dX0_hasFeud_41 ?_
      refine lv_iload_n S.1 S.2.1 dX0_hasFeud_44 rfl (lv_at hl 3 rfl) ?_
      refine lv_iload S.1 S.2.1 dX0_hasFeud_45 (lv_at hl 5 rfl) ?_
      refine lv_iadd S.1 S.2.1 dX0_hasFeud_47 ?_
      obtain ⟨g3, h⟩ := gd_e h
      refine r_aald S d (ksdC S (ch_1_1 hb0).1) (wc_13 (ch_1_1 hb0).1) rfl rfl g3 (if_pos (inb_lt g3)) dX0_hasFeud_48 ?_
      refine gf_2_0 S d (ca_13 (ch_1_1 hb0).1 (inb_lt g3)).1 fl_RX0_80 dX0_hasFeud_49 ?_
      obtain ⟨g4, h⟩ := gd_e h
      refine r_iald S d (ksdC S (ch_1_5 hb0).1) (wc_10 (ch_1_5 hb0).1) (ch_1_5 hb0).2 g4 dX0_hasFeud_52 ?_
      refine lv_ior S.1 S.2.1 dX0_hasFeud_53 ?_
      obtain ⟨v5, ev5, h⟩ := lt_e h
      refine r_top ev5 ?_
      refine lv_istore (lv' := [(4, .int v5), (3, .int v2), (0, .ref (ad G b0)), (1, .ref (ad G b1)), (2, .int b2), (5, .int x5)]) S.1 S.2.1 dX0_hasFeud_54 hl (by decide) rfl (fun ls hl => ?_)
      obtain ⟨v6, ev6, h⟩ := lt_e h
      refine lv_iinc (v := v6) (lv' := [(5, .int v6), (4, .int v5), (3, .int v2), (0, .ref (ad G b0)), (1, .ref (ad G b1)), (2, .int b2)]) S.1 S.2.1 dX0_hasFeud_56 hl (k := 5) rfl (by rw [ev6]; rfl) (by decide) rfl (fun ls hl => ?_)
      refine lv_goto (tgt := 8) S.1 S.2.1 dX0_hasFeud_59 (by decide) ?_
      exact ih _ _ _ h _ _ d _ (lv_sub hl [3, 4, 5, 2, 1, 0] rfl)
set_option maxHeartbeats 4000000 in
set_option maxRecDepth 100000 in
theorem c_X0_hasFeud (l : Launch) (G : Gx) (M : Mem) (L : MemL) (fu : Nat) (k0 : Nat) (k1 : Nat) (a2 : Int32) (hk0 : kd k0 = 1) (hk1 : kd k1 = 3) {z : Int32} (h : f_X0_hasFeud fu M k0 k1 a2 = some z) : Met l yX0_hasFeud (.code yX0_hasFeud cX0_hasFeud 6 (Option.some Jvm.ClassFile.FieldType.boolean) :: UW) rm_X0_hasFeud (va_Pc [.ref (ad G k0), .ref (ad G k1), .int a2] (PreG G false M L)) (Qi G z M L) 0 0 (gA G) := by
  refine r_in (by decide) (fun p e s m args below meth c S hr d ha ls hl => ?_) (Nat.le_of_ble_eq_true rfl)
  have S : Sx G false p s m args meth c cX0_hasFeud 6 RX0 := S
  have hl : lv_has ls 6 [(0, .ref (ad G k0)), (1, .ref (ad G k1)), (2, .int a2)] := hl
  unfold f_X0_hasFeud at h
  refine lv_iconst (v := 0) S.1 S.2.1 dX0_hasFeud_0 (by decide) ?_
  refine lv_istore_n (lv' := [(3, .int (0 : Int32)), (0, .ref (ad G k0)), (1, .ref (ad G k1)), (2, .int a2)]) S.1 S.2.1 dX0_hasFeud_1 rfl hl (by decide) rfl (fun ls hl => ?_)
  refine lv_iconst (v := 0) S.1 S.2.1 dX0_hasFeud_2 (by decide) ?_
  refine lv_istore (lv' := [(4, .int (0 : Int32)), (3, .int (0 : Int32)), (0, .ref (ad G k0)), (1, .ref (ad G k1)), (2, .int a2)]) S.1 S.2.1 dX0_hasFeud_3 hl (by decide) rfl (fun ls hl => ?_)
  refine lv_iconst (v := 0) S.1 S.2.1 dX0_hasFeud_5 (by decide) ?_
  refine lv_istore (lv' := [(5, .int (0 : Int32)), (4, .int (0 : Int32)), (3, .int (0 : Int32)), (0, .ref (ad G k0)), (1, .ref (ad G k1)), (2, .int a2)]) S.1 S.2.1 dX0_hasFeud_6 hl (by decide) rfl (fun ls hl => ?_)
  refine lc_X0_hasFeud_8 S hr hk0 hk1 _ (fun v7 v8 H locs d ls hl h => ?_) _ _ _ _  h _ _ d _ (lv_sub hl [3, 4, 5, 2, 1, 0] rfl)
  refine lv_iload_n S.1 S.2.1 dX0_hasFeud_62 rfl (lv_at hl 0 rfl) ?_
  refine lv_iload S.1 S.2.1 dX0_hasFeud_63 (lv_at hl 1 rfl) ?_
  refine lv_iand S.1 S.2.1 dX0_hasFeud_65 ?_
  refine lv_if_eq (tgt := 73) S.1 S.2.1 dX0_hasFeud_66 (by decide) (fun cc => ?_) (fun cc => ?_)
  · replace h := it_p cc h
    refine lv_iconst (v := 0) S.1 S.2.1 dX0_hasFeud_73 (by decide) ?_
    obtain rfl := Option.some.inj h
    exact r_iret S d hr rfl rfl dX0_hasFeud_74
  · replace h := it_n cc h
    refine lv_iconst (v := 1) S.1 S.2.1 dX0_hasFeud_69 (by decide) ?_
    refine lv_goto (tgt := 74) S.1 S.2.1 dX0_hasFeud_70 (by decide) ?_
    obtain rfl := Option.some.inj h
    exact r_iret S d hr rfl rfl dX0_hasFeud_74
theorem hyV_X0_wouldRead : yX0_wouldRead.cls = RX0 ∧ yX0_wouldRead.cls ≠ "java/lang/invoke/MethodHandle" ∧ yX0_wouldRead.cls ≠ "java/lang/invoke/VarHandle" ∧ (parseMethodDescriptor yX0_wouldRead.desc).map (fun d => d.parameters.length) = some 2 := by decide +kernel
abbrev rm_X0_wouldRead : Room := { frames := 3, cells := 0, slots := 0, locals := 65 }
def f_X0_wouldRead (fu : Nat) (M : Mem) (k0 : Nat) (a1 : Int32) (a2 : Int32) : Option (Int32) :=
  gd (inb a2 26) (
  lt ((v26 a2.toNatClampNeg)) (fun v3 : Int32 =>
  gd (inb a1 9) (
  (f_X4_hasGrown fu M ((k0 + 2) + 4 + 2 * a1.toNatClampNeg) v3).bind (fun u5 =>
  (if u5 = 0 then some ((0 : Int32))
  else (f_X0_seenCells fu M k0 a1).bind (fun u6 =>
    (f_X0_letterSeenAs fu M k0 (u6 ||| v3)).bind (fun u7 =>
    (if u7 = a2 then some ((1 : Int32))
    else some ((0 : Int32))))))))))
set_option maxHeartbeats 4000000 in
set_option maxRecDepth 100000 in
theorem c_X0_wouldRead (l : Launch) (G : Gx) (M : Mem) (L : MemL) (fu : Nat) (k0 : Nat) (a1 : Int32) (a2 : Int32) (hk0 : kd k0 = 1) {z : Int32} (h : f_X0_wouldRead fu M k0 a1 a2 = some z) : Met l yX0_wouldRead (.code yX0_wouldRead cX0_wouldRead 4 (Option.some Jvm.ClassFile.FieldType.boolean) :: UW) rm_X0_wouldRead (va_Pc [.ref (ad G k0), .int a1, .int a2] (PreG G false M L)) (Qi G z M L) 0 0 (gA G) := by
  refine r_in (by decide) (fun p e s m args below meth c S hr d ha ls hl => ?_) (Nat.le_of_ble_eq_true rfl)
  have S : Sx G false p s m args meth c cX0_wouldRead 4 RX0 := S
  have hl : lv_has ls 4 [(0, .ref (ad G k0)), (1, .int a1), (2, .int a2)] := hl
  unfold f_X0_wouldRead at h
  refine r_gst S d S.2.2.2.2.2.2.2.1.1 (Or.inr ⟨_, va_Nw.use rfl (nv_RX0_105 S.2.2.2.2.2.2.2.1.2.2.2)⟩) dX0_wouldRead_0 (fun t1 ht1 => ?_)
  refine lv_iload_n S.1 S.2.1 dX0_wouldRead_3 rfl (lv_at hl 2 rfl) ?_
  obtain ⟨g2, h⟩ := gd_e h
  refine r_tald S d ht1 g2 dX0_wouldRead_4 ?_
  obtain ⟨v3, ev3, h⟩ := lt_e h
  refine r_top ev3 ?_
  refine lv_istore_n (lv' := [(3, .int v3), (0, .ref (ad G k0)), (1, .int a1), (2, .int a2)]) S.1 S.2.1 dX0_wouldRead_5 rfl hl (by decide) rfl (fun ls hl => ?_)
  refine lv_aload_n S.1 S.2.1 dX0_wouldRead_6 rfl (lv_at hl 1 rfl) ?_
  refine gf_1_1 S d hk0 fl_RX0_20 dX0_wouldRead_7 ?_
  refine lv_iload_n S.1 S.2.1 dX0_wouldRead_10 rfl (lv_at hl 2 rfl) ?_
  obtain ⟨g4, h⟩ := gd_e h
  refine r_aald S d (ksdC S (ch_1_1 hk0).1) (wc_13 (ch_1_1 hk0).1) rfl rfl g4 (if_pos (inb_lt g4)) dX0_wouldRead_11 ?_
  refine lv_iload_n S.1 S.2.1 dX0_wouldRead_12 rfl (lv_at hl 0 rfl) ?_
  obtain ⟨u5, hu5, h⟩ := bd_e h
  refine r_ri d (r_cV (As := [.int v3]) (rest := []) S d (c_X4_hasGrown l G M L fu ((k0 + 2) + 4 + 2 * a1.toNatClampNeg) v3 (ca_13 (ch_1_1 hk0).1 (inb_lt g4)).1 hu5) (ksdC S (ca_13 (ch_1_1 hk0).1 (inb_lt g4)).1) (wc_2 (ca_13 (ch_1_1 hk0).1 (inb_lt g4)).1) rfl ml_RX0_115 im_yX4_hasGrown se_yX4_hasGrown in_RX4 co_yX4_hasGrown hyV_X4_hasGrown ⟨rfl, rfl⟩ ⟨by decide, by decide⟩ rfl hl rfl (Nat.le_of_ble_eq_true rfl) dX0_wouldRead_13 ⟨Nat.zero_le _, Nat.zero_le _⟩) (fun H locs d => ?_)
  refine lv_if_eq (tgt := 38) S.1 S.2.1 dX0_wouldRead_16 (by decide) (fun cc => ?_) (fun cc => ?_)
  · replace h := it_p cc h
    refine lv_iconst (v := 0) S.1 S.2.1 dX0_wouldRead_38 (by decide) ?_
    obtain rfl := Option.some.inj h
    exact r_iret S d hr rfl rfl dX0_wouldRead_39
  · replace h := it_n cc h
    refine lv_aload_n S.1 S.2.1 dX0_wouldRead_19 rfl (lv_at hl 1 rfl) ?_
    refine lv_aload_n S.1 S.2.1 dX0_wouldRead_20 rfl (lv_at hl 1 rfl) ?_
    refine lv_iload_n S.1 S.2.1 dX0_wouldRead_21 rfl (lv_at hl 2 rfl) ?_
    obtain ⟨u6, hu6, h⟩ := bd_e h
    refine r_ri d (r_cV (As := [.int a1]) (rest := [.ref (ad G k0)]) S d (c_X0_seenCells l G M L fu k0 a1 hk0 hu6) (ksdC S hk0) (wc_1 hk0) rfl ml_RX0_86 im_yX0_seenCells se_yX0_seenCells in_RX0 co_yX0_seenCells hyV_X0_seenCells ⟨rfl, rfl⟩ ⟨by decide, by decide⟩ rfl hl rfl (Nat.le_of_ble_eq_true rfl) dX0_wouldRead_22 ⟨Nat.zero_le _, Nat.zero_le _⟩) (fun H locs d => ?_)
    refine lv_iload_n S.1 S.2.1 dX0_wouldRead_25 rfl (lv_at hl 0 rfl) ?_
    refine lv_ior S.1 S.2.1 dX0_wouldRead_26 ?_
    obtain ⟨u7, hu7, h⟩ := bd_e h
    refine r_ri d (r_cV (As := [.int (u6 ||| v3)]) (rest := []) S d (c_X0_letterSeenAs l G M L fu k0 (u6 ||| v3) hk0 hu7) (ksdC S hk0) (wc_1 hk0) rfl ml_RX0_89 im_yX0_letterSeenAs se_yX0_letterSeenAs in_RX0 co_yX0_letterSeenAs hyV_X0_letterSeenAs ⟨rfl, rfl⟩ ⟨by decide, by decide⟩ rfl hl rfl (Nat.le_of_ble_eq_true rfl) dX0_wouldRead_27 ⟨Nat.zero_le _, Nat.zero_le _⟩) (fun H locs d => ?_)
    refine lv_iload_n S.1 S.2.1 dX0_wouldRead_30 rfl (lv_at hl 3 rfl) ?_
    refine lv_icmp_ne (tgt := 38) S.1 S.2.1 dX0_wouldRead_31 (by decide) (fun cc => ?_) (fun cc => ?_)
    · replace h := it_n cc h
      refine lv_iconst (v := 0) S.1 S.2.1 dX0_wouldRead_38 (by decide) ?_
      obtain rfl := Option.some.inj h
      exact r_iret S d hr rfl rfl dX0_wouldRead_39
    · replace h := it_p cc h
      refine lv_iconst (v := 1) S.1 S.2.1 dX0_wouldRead_34 (by decide) ?_
      refine lv_goto (tgt := 39) S.1 S.2.1 dX0_wouldRead_35 (by decide) ?_
      obtain rfl := Option.some.inj h
      exact r_iret S d hr rfl rfl dX0_wouldRead_39
theorem hyV_X0_isAllowed : yX0_isAllowed.cls = RX0 ∧ yX0_isAllowed.cls ≠ "java/lang/invoke/MethodHandle" ∧ yX0_isAllowed.cls ≠ "java/lang/invoke/VarHandle" ∧ (parseMethodDescriptor yX0_isAllowed.desc).map (fun d => d.parameters.length) = some 2 := by decide +kernel
abbrev rm_X0_isAllowed : Room := { frames := 4, cells := 0, slots := 0, locals := 88 }
def lp_X0_isAllowed_22 (fu : Nat) (M : Mem) (b0 : Nat) (b1 : Nat) (b2 : Int32) (K : Unit → Option (Int32)) : Nat → Int32 → Option (Int32)
  | 0, _ => none
  | n + 1, x3 =>
    (if (M b1 0) ≤ x3 then (K ())
    else gd (inb x3 6) (
      (f_X0_wouldRead fu M b0 (b2 + x3) (M (b1 + 1) x3.toNatClampNeg)).bind (fun u4 =>
      (if u4 = 0 then some ((0 : Int32))
      else lt (x3 + 1) (fun v5 : Int32 =>
        (lp_X0_isAllowed_22 fu M b0 b1 b2 K n v5))))))
def f_X0_isAllowed (fu : Nat) (M : Mem) (k0 : Nat) (k1 : Nat) (a2 : Int32) : Option (Int32) :=
  (f_X0_hasRoom M k0 k1 a2).bind (fun u1 =>
  (if u1 = 0 then some ((0 : Int32))
  else (f_X0_hasFeud fu M k0 k1 a2).bind (fun u2 =>
    (if u2 = 0 then (lp_X0_isAllowed_22 fu M k0 k1 a2 (fun (_ : Unit) =>
        some ((1 : Int32))) fu (0 : Int32))
    else some ((0 : Int32))))))
set_option maxHeartbeats 4000000 in
set_option maxRecDepth 100000 in
theorem lc_X0_isAllowed_22 {p : Program} {l : Launch} {e : Env} {s : State} {m : MethodId} {args : Array Value} {below : List Frame} {meth : Method} {c : Code} {G : Gx} {M : Mem} {L : MemL} {fu : Nat} {b0 : Nat} {b1 : Nat} {b2 : Int32} {z : Int32} (S : Sx G false p s m args meth c cX0_isAllowed 4 RX0) (hr : meth.sig.returnType = (Option.some Jvm.ClassFile.FieldType.boolean)) (hb0 : kd b0 = 1) (hb1 : kd b1 = 3) (K : Unit → Option (Int32)) (hK : ∀ (_ : Unit) (H : Heap) (locs : List Loc), Dy G s M L H locs → ∀ ls : Array Slot, lv_has ls 4 [] → K () = some z → W p l e rm_X0_isAllowed s m args below meth c H locs 0 0 (MQ below (Qi G z M L) args s 0 0 (gA G)) (F0 m 54 ls [])) :
    ∀ (n : Nat) (x3 : Int32), lp_X0_isAllowed_22 fu M b0 b1 b2 K n x3 = some z → ∀ (H : Heap) (locs : List Loc), Dy G s M L H locs → ∀ ls : Array Slot, lv_has ls 4 [(0, .ref (ad G b0)), (1, .ref (ad G b1)), (2, .int b2), (3, .int x3)] → W p l e rm_X0_isAllowed s m args below meth c H locs 0 0 (MQ below (Qi G z M L) args s 0 0 (gA G)) (F0 m 22 ls []) := by
  intro n
  induction n with
  | zero =>
    intro x3 h
    have h : (none : Option (Int32)) = some z := h
    cases h
  | succ n ih =>
    intro x3 h H locs d ls hl
    rw [lp_X0_isAllowed_22] at h
    refine lv_iload_n S.1 S.2.1 dX0_isAllowed_22 rfl (lv_at hl 3 rfl) ?_
    refine lv_aload_n S.1 S.2.1 dX0_isAllowed_23 rfl (lv_at hl 1 rfl) ?_
    refine gf_3_0 S d hb1 fl_RX0_95 dX0_isAllowed_24 ?_
    refine lv_icmp_ge (tgt := 54) S.1 S.2.1 dX0_isAllowed_27 (by decide) (fun cc => ?_) (fun cc => ?_)
    · replace h := it_p cc h
      exact hK () _ _ d _ (lv_sub hl [] rfl) h
    · replace h := it_n cc h
      refine lv_aload_n S.1 S.2.1 dX0_isAllowed_30 rfl (lv_at hl 0 rfl) ?_
      refine lv_iload_n S.1 S.2.1 dX0_isAllowed_31 rfl (lv_at hl 2 rfl) ?_
      refine lv_iload_n S.1 S.2.1 dX0_isAllowed_32 rfl (lv_at hl 3 rfl) ?_
      refine lv_iadd S.1 S.2.1 dX0_isAllowed_33 ?_
      refine lv_aload_n S.1 S.2.1 dX0_isAllowed_34 rfl (lv_at hl 1 rfl) ?_
      refine gf_3_2 S d hb1 fl_RX0_102 dX0_isAllowed_35 ?_
      refine lv_iload_n S.1 S.2.1 dX0_isAllowed_38 rfl (lv_at hl 3 rfl) ?_
      obtain ⟨g3, h⟩ := gd_e h
      refine r_iald S d (ksdC S (ch_3_2 hb1).1) (wc_10 (ch_3_2 hb1).1) (ch_3_2 hb1).2 g3 dX0_isAllowed_39 ?_
      obtain ⟨u4, hu4, h⟩ := bd_e h
      refine r_ri d (r_cV (As := [.int (b2 + x3), .int (M (b1 + 1) x3.toNatClampNeg)]) (rest := []) S d (c_X0_wouldRead l G M L fu b0 (b2 + x3) (M (b1 + 1) x3.toNatClampNeg) hb0 hu4) (ksdC S hb0) (wc_1 hb0) rfl ml_RX0_111 im_yX0_wouldRead se_yX0_wouldRead in_RX0 co_yX0_wouldRead hyV_X0_wouldRead ⟨rfl, rfl⟩ ⟨by decide, by decide⟩ rfl hl rfl (Nat.le_of_ble_eq_true rfl) dX0_isAllowed_40 ⟨Nat.zero_le _, Nat.zero_le _⟩) (fun H locs d => ?_)
      refine lv_if_ne (tgt := 48) S.1 S.2.1 dX0_isAllowed_43 (by decide) (fun cc => ?_) (fun cc => ?_)
      · replace h := it_n cc h
        obtain ⟨v5, ev5, h⟩ := lt_e h
        refine lv_iinc (v := v5) (lv' := [(3, .int v5), (0, .ref (ad G b0)), (1, .ref (ad G b1)), (2, .int b2)]) S.1 S.2.1 dX0_isAllowed_48 hl (k := 3) rfl (by rw [ev5]; rfl) (by decide) rfl (fun ls hl => ?_)
        refine lv_goto (tgt := 22) S.1 S.2.1 dX0_isAllowed_51 (by decide) ?_
        exact ih _ h _ _ d _ (lv_sub hl [1, 2, 3, 0] rfl)
      · replace h := it_p cc h
        refine lv_iconst (v := 0) S.1 S.2.1 dX0_isAllowed_46 (by decide) ?_
        obtain rfl := Option.some.inj h
        exact r_iret S d hr rfl rfl dX0_isAllowed_47
set_option maxHeartbeats 4000000 in
set_option maxRecDepth 100000 in
theorem c_X0_isAllowed (l : Launch) (G : Gx) (M : Mem) (L : MemL) (fu : Nat) (k0 : Nat) (k1 : Nat) (a2 : Int32) (hk0 : kd k0 = 1) (hk1 : kd k1 = 3) {z : Int32} (h : f_X0_isAllowed fu M k0 k1 a2 = some z) : Met l yX0_isAllowed (.code yX0_isAllowed cX0_isAllowed 4 (Option.some Jvm.ClassFile.FieldType.boolean) :: UW) rm_X0_isAllowed (va_Pc [.ref (ad G k0), .ref (ad G k1), .int a2] (PreG G false M L)) (Qi G z M L) 0 0 (gA G) := by
  refine r_in (by decide) (fun p e s m args below meth c S hr d ha ls hl => ?_) (Nat.le_of_ble_eq_true rfl)
  have S : Sx G false p s m args meth c cX0_isAllowed 4 RX0 := S
  have hl : lv_has ls 4 [(0, .ref (ad G k0)), (1, .ref (ad G k1)), (2, .int a2)] := hl
  unfold f_X0_isAllowed at h
  refine lv_aload_n S.1 S.2.1 dX0_isAllowed_0 rfl (lv_at hl 0 rfl) ?_
  refine lv_aload_n S.1 S.2.1 dX0_isAllowed_1 rfl (lv_at hl 1 rfl) ?_
  refine lv_iload_n S.1 S.2.1 dX0_isAllowed_2 rfl (lv_at hl 2 rfl) ?_
  obtain ⟨u1, hu1, h⟩ := bd_e h
  refine r_ri d (r_cV (As := [.ref (ad G k1), .int a2]) (rest := []) S d (c_X0_hasRoom l G M L k0 k1 a2 hk0 hk1 hu1) (ksdC S hk0) (wc_1 hk0) rfl ml_RX0_98 im_yX0_hasRoom se_yX0_hasRoom in_RX0 co_yX0_hasRoom hyV_X0_hasRoom ⟨rfl, rfl⟩ ⟨by decide, by decide⟩ rfl hl rfl (Nat.le_of_ble_eq_true rfl) dX0_isAllowed_3 ⟨Nat.zero_le _, Nat.zero_le _⟩) (fun H locs d => ?_)
  refine lv_if_eq (tgt := 18) S.1 S.2.1 dX0_isAllowed_6 (by decide) (fun cc => ?_) (fun cc => ?_)
  · replace h := it_p cc h
    refine lv_iconst (v := 0) S.1 S.2.1 dX0_isAllowed_18 (by decide) ?_
    obtain rfl := Option.some.inj h
    exact r_iret S d hr rfl rfl dX0_isAllowed_19
  · replace h := it_n cc h
    refine lv_aload_n S.1 S.2.1 dX0_isAllowed_9 rfl (lv_at hl 0 rfl) ?_
    refine lv_aload_n S.1 S.2.1 dX0_isAllowed_10 rfl (lv_at hl 1 rfl) ?_
    refine lv_iload_n S.1 S.2.1 dX0_isAllowed_11 rfl (lv_at hl 2 rfl) ?_
    obtain ⟨u2, hu2, h⟩ := bd_e h
    refine r_ri d (r_cV (As := [.ref (ad G k1), .int a2]) (rest := []) S d (c_X0_hasFeud l G M L fu k0 k1 a2 hk0 hk1 hu2) (ksdC S hk0) (wc_1 hk0) rfl ml_RX0_108 im_yX0_hasFeud se_yX0_hasFeud in_RX0 co_yX0_hasFeud hyV_X0_hasFeud ⟨rfl, rfl⟩ ⟨by decide, by decide⟩ rfl hl rfl (Nat.le_of_ble_eq_true rfl) dX0_isAllowed_12 ⟨Nat.zero_le _, Nat.zero_le _⟩) (fun H locs d => ?_)
    refine lv_if_eq (tgt := 20) S.1 S.2.1 dX0_isAllowed_15 (by decide) (fun cc => ?_) (fun cc => ?_)
    · replace h := it_p cc h
      refine lv_iconst (v := 0) S.1 S.2.1 dX0_isAllowed_20 (by decide) ?_
      refine lv_istore_n (lv' := [(3, .int (0 : Int32)), (0, .ref (ad G k0)), (1, .ref (ad G k1)), (2, .int a2)]) S.1 S.2.1 dX0_isAllowed_21 rfl hl (by decide) rfl (fun ls hl => ?_)
      refine lc_X0_isAllowed_22 S hr hk0 hk1 _ (fun _ H locs d ls hl h => ?_) _ _  h _ _ d _ (lv_sub hl [1, 2, 3, 0] rfl)
      refine lv_iconst (v := 1) S.1 S.2.1 dX0_isAllowed_54 (by decide) ?_
      obtain rfl := Option.some.inj h
      exact r_iret S d hr rfl rfl dX0_isAllowed_55
    · replace h := it_n cc h
      refine lv_iconst (v := 0) S.1 S.2.1 dX0_isAllowed_18 (by decide) ?_
      obtain rfl := Option.some.inj h
      exact r_iret S d hr rfl rfl dX0_isAllowed_19
theorem hyV_X7_may : yX7_may.cls = RX7 ∧ yX7_may.cls ≠ "java/lang/invoke/MethodHandle" ∧ yX7_may.cls ≠ "java/lang/invoke/VarHandle" ∧ (parseMethodDescriptor yX7_may.desc).map (fun d => d.parameters.length) = some 2 := by decide +kernel
abbrev rm_X7_may : Room := { frames := 5, cells := 0, slots := 0, locals := 111 }
def f_X7_may (fu : Nat) (M : Mem) (k0 : Nat) (a1 : Int32) (a2 : Int32) : Option (Int32) :=
  (f_X7_isWord M k0 a1).bind (fun u1 =>
  (if u1 = 0 then some ((-1 : Int32))
  else (f_X7_isStrip M k0 a2).bind (fun u2 =>
    (if u2 = 0 then some ((-1 : Int32))
    else gd (inb a1 10) (
      (f_X0_isAllowed fu M (k0 + 1) (((k0 + 1) + 3) + 21 + 2 * a1.toNatClampNeg) a2).bind (fun u4 =>
      (if u4 = 0 then some ((0 : Int32))
      else some ((1 : Int32)))))))))
set_option maxHeartbeats 4000000 in
set_option maxRecDepth 100000 in
theorem c_X7_may (l : Launch) (G : Gx) (M : Mem) (L : MemL) (fu : Nat) (k0 : Nat) (a1 : Int32) (a2 : Int32) (hk0 : kd k0 = 0) {z : Int32} (h : f_X7_may fu M k0 a1 a2 = some z) : Met l yX7_may (.code yX7_may cX7_may 3 (Option.some Jvm.ClassFile.FieldType.int) :: UW) rm_X7_may (va_Pc [.ref (ad G k0), .int a1, .int a2] (PreG G false M L)) (Qi G z M L) 0 0 (gA G) := by
  refine r_in (by decide) (fun p e s m args below meth c S hr d ha ls hl => ?_) (Nat.le_of_ble_eq_true rfl)
  have S : Sx G false p s m args meth c cX7_may 3 RX7 := S
  have hl : lv_has ls 3 [(0, .ref (ad G k0)), (1, .int a1), (2, .int a2)] := hl
  unfold f_X7_may at h
  refine lv_aload_n S.1 S.2.1 dX7_may_0 rfl (lv_at hl 0 rfl) ?_
  refine lv_iload_n S.1 S.2.1 dX7_may_1 rfl (lv_at hl 1 rfl) ?_
  obtain ⟨u1, hu1, h⟩ := bd_e h
  refine r_ri d (r_cV (As := [.int a1]) (rest := []) S d (c_X7_isWord l G M L k0 a1 hk0 hu1) (ksdC S hk0) (wc_0 hk0) rfl ml_RX7_144 im_yX7_isWord se_yX7_isWord in_RX7 co_yX7_isWord hyV_X7_isWord ⟨rfl, rfl⟩ ⟨by decide, by decide⟩ rfl hl rfl (Nat.le_of_ble_eq_true rfl) dX7_may_2 ⟨Nat.zero_le _, Nat.zero_le _⟩) (fun H locs d => ?_)
  refine lv_if_eq (tgt := 16) S.1 S.2.1 dX7_may_5 (by decide) (fun cc => ?_) (fun cc => ?_)
  · replace h := it_p cc h
    refine lv_iconst (v := (-1)) S.1 S.2.1 dX7_may_16 (by decide) ?_
    obtain rfl := Option.some.inj h
    exact r_iret S d hr rfl rfl dX7_may_17
  · replace h := it_n cc h
    refine lv_aload_n S.1 S.2.1 dX7_may_8 rfl (lv_at hl 0 rfl) ?_
    refine lv_iload_n S.1 S.2.1 dX7_may_9 rfl (lv_at hl 2 rfl) ?_
    obtain ⟨u2, hu2, h⟩ := bd_e h
    refine r_ri d (r_cV (As := [.int a2]) (rest := []) S d (c_X7_isStrip l G M L k0 a2 hk0 hu2) (ksdC S hk0) (wc_0 hk0) rfl ml_RX7_70 im_yX7_isStrip se_yX7_isStrip in_RX7 co_yX7_isStrip hyV_X7_isStrip ⟨rfl, rfl⟩ ⟨by decide, by decide⟩ rfl hl rfl (Nat.le_of_ble_eq_true rfl) dX7_may_10 ⟨Nat.zero_le _, Nat.zero_le _⟩) (fun H locs d => ?_)
    refine lv_if_ne (tgt := 18) S.1 S.2.1 dX7_may_13 (by decide) (fun cc => ?_) (fun cc => ?_)
    · replace h := it_n cc h
      refine lv_aload_n S.1 S.2.1 dX7_may_18 rfl (lv_at hl 0 rfl) ?_
      refine gf_0_0 S d hk0 fl_RX7_12 dX7_may_19 ?_
      refine lv_aload_n S.1 S.2.1 dX7_may_22 rfl (lv_at hl 0 rfl) ?_
      refine gf_0_0 S d hk0 fl_RX7_12 dX7_may_23 ?_
      refine gf_1_3 S d (ch_0_0 hk0).1 fl_RX7_147 dX7_may_26 ?_
      refine lv_iload_n S.1 S.2.1 dX7_may_29 rfl (lv_at hl 1 rfl) ?_
      obtain ⟨g3, h⟩ := gd_e h
      refine r_aald S d (ksdC S (ch_1_3 (ch_0_0 hk0).1).1) (wc_14 (ch_1_3 (ch_0_0 hk0).1).1) rfl rfl g3 (if_pos (inb_lt g3)) dX7_may_30 ?_
      refine lv_iload_n S.1 S.2.1 dX7_may_31 rfl (lv_at hl 2 rfl) ?_
      obtain ⟨u4, hu4, h⟩ := bd_e h
      refine r_ri d (r_cV (As := [.ref (ad G (((k0 + 1) + 3) + 21 + 2 * a1.toNatClampNeg)), .int a2]) (rest := []) S d (c_X0_isAllowed l G M L fu (k0 + 1) (((k0 + 1) + 3) + 21 + 2 * a1.toNatClampNeg) a2 (ch_0_0 hk0).1 (ca_14 (ch_1_3 (ch_0_0 hk0).1).1 (inb_lt g3)).1 hu4) (ksdC S (ch_0_0 hk0).1) (wc_1 (ch_0_0 hk0).1) rfl ml_RX7_197 im_yX0_isAllowed se_yX0_isAllowed in_RX0 co_yX0_isAllowed hyV_X0_isAllowed ⟨rfl, rfl⟩ ⟨by decide, by decide⟩ rfl hl rfl (Nat.le_of_ble_eq_true rfl) dX7_may_32 ⟨Nat.zero_le _, Nat.zero_le _⟩) (fun H locs d => ?_)
      refine lv_if_eq (tgt := 42) S.1 S.2.1 dX7_may_35 (by decide) (fun cc => ?_) (fun cc => ?_)
      · replace h := it_p cc h
        refine lv_iconst (v := 0) S.1 S.2.1 dX7_may_42 (by decide) ?_
        obtain rfl := Option.some.inj h
        exact r_iret S d hr rfl rfl dX7_may_43
      · replace h := it_n cc h
        refine lv_iconst (v := 1) S.1 S.2.1 dX7_may_38 (by decide) ?_
        refine lv_goto (tgt := 43) S.1 S.2.1 dX7_may_39 (by decide) ?_
        obtain rfl := Option.some.inj h
        exact r_iret S d hr rfl rfl dX7_may_43
    · replace h := it_p cc h
      refine lv_iconst (v := (-1)) S.1 S.2.1 dX7_may_16 (by decide) ?_
      obtain rfl := Option.some.inj h
      exact r_iret S d hr rfl rfl dX7_may_17
theorem hyV_X0_lossOn : yX0_lossOn.cls = RX0 ∧ yX0_lossOn.cls ≠ "java/lang/invoke/MethodHandle" ∧ yX0_lossOn.cls ≠ "java/lang/invoke/VarHandle" ∧ (parseMethodDescriptor yX0_lossOn.desc).map (fun d => d.parameters.length) = some 2 := by decide +kernel
abbrev rm_X0_lossOn : Room := { frames := 2, cells := 0, slots := 0, locals := 43 }
def f_X0_lossOn (fu : Nat) (M : Mem) (k0 : Nat) (a1 : Int32) (a2 : Int32) : Option (Int32) :=
  gd (inb a1 9) (
  (f_X4_grownCells fu M ((k0 + 2) + 4 + 2 * a1.toNatClampNeg)).bind (fun u2 =>
  gd (inb a2 26) (
  lt ((u2 &&& ((v26 a2.toNatClampNeg) ^^^ (-1 : Int32)))) (fun v5 : Int32 =>
  gd (inb (3 : Int32) 4) (
  gd (inb a1 9) (
  (f_X4_grassOf fu M ((k0 + 2) + 4 + 2 * a1.toNatClampNeg) v5).bind (fun u8 =>
  some (((M (k0 + 1) (3 : Int32).toNatClampNeg) * u8)))))))))
set_option maxHeartbeats 4000000 in
set_option maxRecDepth 100000 in
theorem c_X0_lossOn (l : Launch) (G : Gx) (M : Mem) (L : MemL) (fu : Nat) (k0 : Nat) (a1 : Int32) (a2 : Int32) (hk0 : kd k0 = 1) {z : Int32} (h : f_X0_lossOn fu M k0 a1 a2 = some z) : Met l yX0_lossOn (.code yX0_lossOn cX0_lossOn 4 (Option.some Jvm.ClassFile.FieldType.int) :: UW) rm_X0_lossOn (va_Pc [.ref (ad G k0), .int a1, .int a2] (PreG G false M L)) (Qi G z M L) 0 0 (gA G) := by
  refine r_in (by decide) (fun p e s m args below meth c S hr d ha ls hl => ?_) (Nat.le_of_ble_eq_true rfl)
  have S : Sx G false p s m args meth c cX0_lossOn 4 RX0 := S
  have hl : lv_has ls 4 [(0, .ref (ad G k0)), (1, .int a1), (2, .int a2)] := hl
  unfold f_X0_lossOn at h
  refine lv_aload_n S.1 S.2.1 dX0_lossOn_0 rfl (lv_at hl 0 rfl) ?_
  refine gf_1_1 S d hk0 fl_RX0_20 dX0_lossOn_1 ?_
  refine lv_iload_n S.1 S.2.1 dX0_lossOn_4 rfl (lv_at hl 1 rfl) ?_
  obtain ⟨g1, h⟩ := gd_e h
  refine r_aald S d (ksdC S (ch_1_1 hk0).1) (wc_13 (ch_1_1 hk0).1) rfl rfl g1 (if_pos (inb_lt g1)) dX0_lossOn_5 ?_
  obtain ⟨u2, hu2, h⟩ := bd_e h
  refine r_ri d (r_cV (As := []) (rest := []) S d (c_X4_grownCells l G M L fu ((k0 + 2) + 4 + 2 * a1.toNatClampNeg) (ca_13 (ch_1_1 hk0).1 (inb_lt g1)).1 hu2) (ksdC S (ca_13 (ch_1_1 hk0).1 (inb_lt g1)).1) (wc_2 (ca_13 (ch_1_1 hk0).1 (inb_lt g1)).1) rfl ml_RX0_123 im_yX4_grownCells se_yX4_grownCells in_RX4 co_yX4_grownCells hyV_X4_grownCells ⟨rfl, rfl⟩ ⟨by decide, by decide⟩ rfl hl rfl (Nat.le_of_ble_eq_true rfl) dX0_lossOn_6 ⟨Nat.zero_le _, Nat.zero_le _⟩) (fun H locs d => ?_)
  refine r_gst S d S.2.2.2.2.2.2.2.1.1 (Or.inr ⟨_, va_Nw.use rfl (nv_RX0_105 S.2.2.2.2.2.2.2.1.2.2.2)⟩) dX0_lossOn_9 (fun t3 ht3 => ?_)
  refine lv_iload_n S.1 S.2.1 dX0_lossOn_12 rfl (lv_at hl 2 rfl) ?_
  obtain ⟨g4, h⟩ := gd_e h
  refine r_tald S d ht3 g4 dX0_lossOn_13 ?_
  refine lv_iconst (v := (-1)) S.1 S.2.1 dX0_lossOn_14 (by decide) ?_
  refine lv_ixor S.1 S.2.1 dX0_lossOn_15 ?_
  refine lv_iand S.1 S.2.1 dX0_lossOn_16 ?_
  obtain ⟨v5, ev5, h⟩ := lt_e h
  refine r_top ev5 ?_
  refine lv_istore_n (lv' := [(3, .int v5), (0, .ref (ad G k0)), (1, .int a1), (2, .int a2)]) S.1 S.2.1 dX0_lossOn_17 rfl hl (by decide) rfl (fun ls hl => ?_)
  refine lv_aload_n S.1 S.2.1 dX0_lossOn_18 rfl (lv_at hl 1 rfl) ?_
  refine gf_1_0 S d hk0 fl_RX0_13 dX0_lossOn_19 ?_
  refine lv_iconst (v := 3) S.1 S.2.1 dX0_lossOn_22 (by decide) ?_
  obtain ⟨g6, h⟩ := gd_e h
  refine r_iald S d (ksdC S (ch_1_0 hk0).1) (wc_10 (ch_1_0 hk0).1) (ch_1_0 hk0).2 g6 dX0_lossOn_23 ?_
  refine lv_aload_n S.1 S.2.1 dX0_lossOn_24 rfl (lv_at hl 1 rfl) ?_
  refine gf_1_1 S d hk0 fl_RX0_20 dX0_lossOn_25 ?_
  refine lv_iload_n S.1 S.2.1 dX0_lossOn_28 rfl (lv_at hl 2 rfl) ?_
  obtain ⟨g7, h⟩ := gd_e h
  refine r_aald S d (ksdC S (ch_1_1 hk0).1) (wc_13 (ch_1_1 hk0).1) rfl rfl g7 (if_pos (inb_lt g7)) dX0_lossOn_29 ?_
  refine lv_iload_n S.1 S.2.1 dX0_lossOn_30 rfl (lv_at hl 0 rfl) ?_
  obtain ⟨u8, hu8, h⟩ := bd_e h
  refine r_ri d (r_cV (As := [.int v5]) (rest := [.int (M (k0 + 1) (3 : Int32).toNatClampNeg)]) S d (c_X4_grassOf l G M L fu ((k0 + 2) + 4 + 2 * a1.toNatClampNeg) v5 (ca_13 (ch_1_1 hk0).1 (inb_lt g7)).1 hu8) (ksdC S (ca_13 (ch_1_1 hk0).1 (inb_lt g7)).1) (wc_2 (ca_13 (ch_1_1 hk0).1 (inb_lt g7)).1) rfl ml_RX0_74 im_yX4_grassOf se_yX4_grassOf in_RX4 co_yX4_grassOf hyV_X4_grassOf ⟨rfl, rfl⟩ ⟨by decide, by decide⟩ rfl hl rfl (Nat.le_of_ble_eq_true rfl) dX0_lossOn_31 ⟨Nat.zero_le _, Nat.zero_le _⟩) (fun H locs d => ?_)
  refine lv_imul S.1 S.2.1 dX0_lossOn_34 ?_
  obtain rfl := Option.some.inj h
  exact r_iret S d hr rfl rfl dX0_lossOn_35
theorem hyV_X0_lossBy : yX0_lossBy.cls = RX0 ∧ yX0_lossBy.cls ≠ "java/lang/invoke/MethodHandle" ∧ yX0_lossBy.cls ≠ "java/lang/invoke/VarHandle" ∧ (parseMethodDescriptor yX0_lossBy.desc).map (fun d => d.parameters.length) = some 2 := by decide +kernel
abbrev rm_X0_lossBy : Room := { frames := 3, cells := 0, slots := 0, locals := 66 }
def lp_X0_lossBy_5 (fu : Nat) (M : Mem) (b0 : Nat) (b1 : Nat) (b2 : Int32) (K : Int32 → Option (Int32)) : Nat → Int32 → Int32 → Option (Int32)
  | 0, _, _ => none
  | n + 1, x3, x4 =>
    (if (M b1 0) ≤ x4 then (K x3)
    else gd (inb x4 6) (
      (f_X0_lossOn fu M b0 (b2 + x4) (M (b1 + 1) x4.toNatClampNeg)).bind (fun u2 =>
      lt ((x3 + u2)) (fun v3 : Int32 =>
      lt (x4 + 1) (fun v4 : Int32 =>
      (lp_X0_lossBy_5 fu M b0 b1 b2 K n v3 v4))))))
def f_X0_lossBy (fu : Nat) (M : Mem) (k0 : Nat) (k1 : Nat) (a2 : Int32) : Option (Int32) :=
  (lp_X0_lossBy_5 fu M k0 k1 a2 (fun (v5 : Int32) =>
    some (v5)) fu (0 : Int32) (0 : Int32))
set_option maxHeartbeats 4000000 in
set_option maxRecDepth 100000 in
theorem lc_X0_lossBy_5 {p : Program} {l : Launch} {e : Env} {s : State} {m : MethodId} {args : Array Value} {below : List Frame} {meth : Method} {c : Code} {G : Gx} {M : Mem} {L : MemL} {fu : Nat} {b0 : Nat} {b1 : Nat} {b2 : Int32} {z : Int32} (S : Sx G false p s m args meth c cX0_lossBy 5 RX0) (hr : meth.sig.returnType = (Option.some Jvm.ClassFile.FieldType.int)) (hb0 : kd b0 = 1) (hb1 : kd b1 = 3) (K : Int32 → Option (Int32)) (hK : ∀ (y3 : Int32) (H : Heap) (locs : List Loc), Dy G s M L H locs → ∀ ls : Array Slot, lv_has ls 5 [(3, .int y3)] → K y3 = some z → W p l e rm_X0_lossBy s m args below meth c H locs 0 0 (MQ below (Qi G z M L) args s 0 0 (gA G)) (F0 m 38 ls [])) :
    ∀ (n : Nat) (x3 : Int32) (x4 : Int32), lp_X0_lossBy_5 fu M b0 b1 b2 K n x3 x4 = some z → ∀ (H : Heap) (locs : List Loc), Dy G s M L H locs → ∀ ls : Array Slot, lv_has ls 5 [(0, .ref (ad G b0)), (1, .ref (ad G b1)), (2, .int b2), (3, .int x3), (4, .int x4)] → W p l e rm_X0_lossBy s m args below meth c H locs 0 0 (MQ below (Qi G z M L) args s 0 0 (gA G)) (F0 m 5 ls []) := by
  intro n
  induction n with
  | zero =>
    intro x3 x4 h
    have h : (none : Option (Int32)) = some z := h
    cases h
  | succ n ih =>
    intro x3 x4 h H locs d ls hl
    rw [lp_X0_lossBy_5] at h
    refine lv_iload S.1 S.2.1 dX0_lossBy_5 (lv_at hl 4 rfl) ?_
    refine lv_aload_n S.1 S.2.1 dX0_lossBy_7 rfl (lv_at hl 1 rfl) ?_
    refine gf_3_0 S d hb1 fl_RX0_95 dX0_lossBy_8 ?_
    refine lv_icmp_ge (tgt := 38) S.1 S.2.1 dX0_lossBy_11 (by decide) (fun cc => ?_) (fun cc => ?_)
    · replace h := it_p cc h
      exact hK _ _ _ d _ (lv_sub hl [3] rfl) h
    · replace h := it_n cc h
      refine lv_iload_n S.1 S.2.1 dX0_lossBy_14 rfl (lv_at hl 3 rfl) ?_
      refine lv_aload_n S.1 S.2.1 dX0_lossBy_15 rfl (lv_at hl 0 rfl) ?_
      refine lv_iload_n S.1 S.2.1 dX0_lossBy_16 rfl (lv_at hl 2 rfl) ?_
      refine lv_iload S.1 S.2.1 dX0_lossBy_17 (lv_at hl 4 rfl) ?_
      refine lv_iadd S.1 S.2.1 dX0_lossBy_19 ?_
      refine lv_aload_n S.1 S.2.1 dX0_lossBy_20 rfl (lv_at hl 1 rfl) ?_
      refine gf_3_2 S d hb1 fl_RX0_102 dX0_lossBy_21 ?_
      refine lv_iload S.1 S.2.1 dX0_lossBy_24 (lv_at hl 4 rfl) ?_
      obtain ⟨g1, h⟩ := gd_e h
      refine r_iald S d (ksdC S (ch_3_2 hb1).1) (wc_10 (ch_3_2 hb1).1) (ch_3_2 hb1).2 g1 dX0_lossBy_26 ?_
      obtain ⟨u2, hu2, h⟩ := bd_e h
      refine r_ri d (r_cV (As := [.int (b2 + x4), .int (M (b1 + 1) x4.toNatClampNeg)]) (rest := [.int x3]) S d (c_X0_lossOn l G M L fu b0 (b2 + x4) (M (b1 + 1) x4.toNatClampNeg) hb0 hu2) (ksdC S hb0) (wc_1 hb0) rfl ml_RX0_119 im_yX0_lossOn se_yX0_lossOn in_RX0 co_yX0_lossOn hyV_X0_lossOn ⟨rfl, rfl⟩ ⟨by decide, by decide⟩ rfl hl rfl (Nat.le_of_ble_eq_true rfl) dX0_lossBy_27 ⟨Nat.zero_le _, Nat.zero_le _⟩) (fun H locs d => ?_)
      refine lv_iadd S.1 S.2.1 dX0_lossBy_30 ?_
      obtain ⟨v3, ev3, h⟩ := lt_e h
      refine r_top ev3 ?_
      refine lv_istore_n (lv' := [(3, .int v3), (0, .ref (ad G b0)), (1, .ref (ad G b1)), (2, .int b2), (4, .int x4)]) S.1 S.2.1 dX0_lossBy_31 rfl hl (by decide) rfl (fun ls hl => ?_)
      obtain ⟨v4, ev4, h⟩ := lt_e h
      refine lv_iinc (v := v4) (lv' := [(4, .int v4), (3, .int v3), (0, .ref (ad G b0)), (1, .ref (ad G b1)), (2, .int b2)]) S.1 S.2.1 dX0_lossBy_32 hl (k := 4) rfl (by rw [ev4]; rfl) (by decide) rfl (fun ls hl => ?_)
      refine lv_goto (tgt := 5) S.1 S.2.1 dX0_lossBy_35 (by decide) ?_
      exact ih _ _ h _ _ d _ (lv_sub hl [2, 3, 4, 1, 0] rfl)
set_option maxHeartbeats 4000000 in
set_option maxRecDepth 100000 in
theorem c_X0_lossBy (l : Launch) (G : Gx) (M : Mem) (L : MemL) (fu : Nat) (k0 : Nat) (k1 : Nat) (a2 : Int32) (hk0 : kd k0 = 1) (hk1 : kd k1 = 3) {z : Int32} (h : f_X0_lossBy fu M k0 k1 a2 = some z) : Met l yX0_lossBy (.code yX0_lossBy cX0_lossBy 5 (Option.some Jvm.ClassFile.FieldType.int) :: UW) rm_X0_lossBy (va_Pc [.ref (ad G k0), .ref (ad G k1), .int a2] (PreG G false M L)) (Qi G z M L) 0 0 (gA G) := by
  refine r_in (by decide) (fun p e s m args below meth c S hr d ha ls hl => ?_) (Nat.le_of_ble_eq_true rfl)
  have S : Sx G false p s m args meth c cX0_lossBy 5 RX0 := S
  have hl : lv_has ls 5 [(0, .ref (ad G k0)), (1, .ref (ad G k1)), (2, .int a2)] := hl
  unfold f_X0_lossBy at h
  refine lv_iconst (v := 0) S.1 S.2.1 dX0_lossBy_0 (by decide) ?_
  refine lv_istore_n (lv' := [(3, .int (0 : Int32)), (0, .ref (ad G k0)), (1, .ref (ad G k1)), (2, .int a2)]) S.1 S.2.1 dX0_lossBy_1 rfl hl (by decide) rfl (fun ls hl => ?_)
  refine lv_iconst (v := 0) S.1 S.2.1 dX0_lossBy_2 (by decide) ?_
  refine lv_istore (lv' := [(4, .int (0 : Int32)), (3, .int (0 : Int32)), (0, .ref (ad G k0)), (1, .ref (ad G k1)), (2, .int a2)]) S.1 S.2.1 dX0_lossBy_3 hl (by decide) rfl (fun ls hl => ?_)
  refine lc_X0_lossBy_5 S hr hk0 hk1 _ (fun v5 H locs d ls hl h => ?_) _ _ _  h _ _ d _ (lv_sub hl [2, 3, 4, 1, 0] rfl)
  refine lv_iload_n S.1 S.2.1 dX0_lossBy_38 rfl (lv_at hl 0 rfl) ?_
  obtain rfl := Option.some.inj h
  exact r_iret S d hr rfl rfl dX0_lossBy_39
theorem hyV_X7_lost : yX7_lost.cls = RX7 ∧ yX7_lost.cls ≠ "java/lang/invoke/MethodHandle" ∧ yX7_lost.cls ≠ "java/lang/invoke/VarHandle" ∧ (parseMethodDescriptor yX7_lost.desc).map (fun d => d.parameters.length) = some 2 := by decide +kernel
abbrev rm_X7_lost : Room := { frames := 4, cells := 0, slots := 0, locals := 90 }
def f_X7_lost (fu : Nat) (M : Mem) (k0 : Nat) (a1 : Int32) (a2 : Int32) : Option (Int32) :=
  (f_X7_isWord M k0 a1).bind (fun u1 =>
  (if u1 = 0 then some ((-1 : Int32))
  else (f_X7_isStrip M k0 a2).bind (fun u2 =>
    (if u2 = 0 then some ((-1 : Int32))
    else gd (inb a1 10) (
      (f_X0_hasRoom M (k0 + 1) (((k0 + 1) + 3) + 21 + 2 * a1.toNatClampNeg) a2).bind (fun u4 =>
      (if u4 = 0 then some ((-2 : Int32))
      else gd (inb a1 10) (
        (f_X0_lossBy fu M (k0 + 1) (((k0 + 1) + 3) + 21 + 2 * a1.toNatClampNeg) a2).bind (fun u6 =>
        some (u6))))))))))
set_option maxHeartbeats 4000000 in
set_option maxRecDepth 100000 in
theorem c_X7_lost (l : Launch) (G : Gx) (M : Mem) (L : MemL) (fu : Nat) (k0 : Nat) (a1 : Int32) (a2 : Int32) (hk0 : kd k0 = 0) {z : Int32} (h : f_X7_lost fu M k0 a1 a2 = some z) : Met l yX7_lost (.code yX7_lost cX7_lost 3 (Option.some Jvm.ClassFile.FieldType.int) :: UW) rm_X7_lost (va_Pc [.ref (ad G k0), .int a1, .int a2] (PreG G false M L)) (Qi G z M L) 0 0 (gA G) := by
  refine r_in (by decide) (fun p e s m args below meth c S hr d ha ls hl => ?_) (Nat.le_of_ble_eq_true rfl)
  have S : Sx G false p s m args meth c cX7_lost 3 RX7 := S
  have hl : lv_has ls 3 [(0, .ref (ad G k0)), (1, .int a1), (2, .int a2)] := hl
  unfold f_X7_lost at h
  refine lv_aload_n S.1 S.2.1 dX7_lost_0 rfl (lv_at hl 0 rfl) ?_
  refine lv_iload_n S.1 S.2.1 dX7_lost_1 rfl (lv_at hl 1 rfl) ?_
  obtain ⟨u1, hu1, h⟩ := bd_e h
  refine r_ri d (r_cV (As := [.int a1]) (rest := []) S d (c_X7_isWord l G M L k0 a1 hk0 hu1) (ksdC S hk0) (wc_0 hk0) rfl ml_RX7_144 im_yX7_isWord se_yX7_isWord in_RX7 co_yX7_isWord hyV_X7_isWord ⟨rfl, rfl⟩ ⟨by decide, by decide⟩ rfl hl rfl (Nat.le_of_ble_eq_true rfl) dX7_lost_2 ⟨Nat.zero_le _, Nat.zero_le _⟩) (fun H locs d => ?_)
  refine lv_if_eq (tgt := 16) S.1 S.2.1 dX7_lost_5 (by decide) (fun cc => ?_) (fun cc => ?_)
  · replace h := it_p cc h
    refine lv_iconst (v := (-1)) S.1 S.2.1 dX7_lost_16 (by decide) ?_
    obtain rfl := Option.some.inj h
    exact r_iret S d hr rfl rfl dX7_lost_17
  · replace h := it_n cc h
    refine lv_aload_n S.1 S.2.1 dX7_lost_8 rfl (lv_at hl 0 rfl) ?_
    refine lv_iload_n S.1 S.2.1 dX7_lost_9 rfl (lv_at hl 2 rfl) ?_
    obtain ⟨u2, hu2, h⟩ := bd_e h
    refine r_ri d (r_cV (As := [.int a2]) (rest := []) S d (c_X7_isStrip l G M L k0 a2 hk0 hu2) (ksdC S hk0) (wc_0 hk0) rfl ml_RX7_70 im_yX7_isStrip se_yX7_isStrip in_RX7 co_yX7_isStrip hyV_X7_isStrip ⟨rfl, rfl⟩ ⟨by decide, by decide⟩ rfl hl rfl (Nat.le_of_ble_eq_true rfl) dX7_lost_10 ⟨Nat.zero_le _, Nat.zero_le _⟩) (fun H locs d => ?_)
    refine lv_if_ne (tgt := 18) S.1 S.2.1 dX7_lost_13 (by decide) (fun cc => ?_) (fun cc => ?_)
    · replace h := it_n cc h
      refine lv_aload_n S.1 S.2.1 dX7_lost_18 rfl (lv_at hl 0 rfl) ?_
      refine gf_0_0 S d hk0 fl_RX7_12 dX7_lost_19 ?_
      refine lv_aload_n S.1 S.2.1 dX7_lost_22 rfl (lv_at hl 0 rfl) ?_
      refine gf_0_0 S d hk0 fl_RX7_12 dX7_lost_23 ?_
      refine gf_1_3 S d (ch_0_0 hk0).1 fl_RX7_147 dX7_lost_26 ?_
      refine lv_iload_n S.1 S.2.1 dX7_lost_29 rfl (lv_at hl 1 rfl) ?_
      obtain ⟨g3, h⟩ := gd_e h
      refine r_aald S d (ksdC S (ch_1_3 (ch_0_0 hk0).1).1) (wc_14 (ch_1_3 (ch_0_0 hk0).1).1) rfl rfl g3 (if_pos (inb_lt g3)) dX7_lost_30 ?_
      refine lv_iload_n S.1 S.2.1 dX7_lost_31 rfl (lv_at hl 2 rfl) ?_
      obtain ⟨u4, hu4, h⟩ := bd_e h
      refine r_ri d (r_cV (As := [.ref (ad G (((k0 + 1) + 3) + 21 + 2 * a1.toNatClampNeg)), .int a2]) (rest := []) S d (c_X0_hasRoom l G M L (k0 + 1) (((k0 + 1) + 3) + 21 + 2 * a1.toNatClampNeg) a2 (ch_0_0 hk0).1 (ca_14 (ch_1_3 (ch_0_0 hk0).1).1 (inb_lt g3)).1 hu4) (ksdC S (ch_0_0 hk0).1) (wc_1 (ch_0_0 hk0).1) rfl ml_RX7_189 im_yX0_hasRoom se_yX0_hasRoom in_RX0 co_yX0_hasRoom hyV_X0_hasRoom ⟨rfl, rfl⟩ ⟨by decide, by decide⟩ rfl hl rfl (Nat.le_of_ble_eq_true rfl) dX7_lost_32 ⟨Nat.zero_le _, Nat.zero_le _⟩) (fun H locs d => ?_)
      refine lv_if_eq (tgt := 58) S.1 S.2.1 dX7_lost_35 (by decide) (fun cc => ?_) (fun cc => ?_)
      · replace h := it_p cc h
        refine lv_bipush (v := (-2)) S.1 S.2.1 dX7_lost_58 (by decide) ?_
        obtain rfl := Option.some.inj h
        exact r_iret S d hr rfl rfl dX7_lost_60
      · replace h := it_n cc h
        refine lv_aload_n S.1 S.2.1 dX7_lost_38 rfl (lv_at hl 0 rfl) ?_
        refine gf_0_0 S d hk0 fl_RX7_12 dX7_lost_39 ?_
        refine lv_aload_n S.1 S.2.1 dX7_lost_42 rfl (lv_at hl 0 rfl) ?_
        refine gf_0_0 S d hk0 fl_RX7_12 dX7_lost_43 ?_
        refine gf_1_3 S d (ch_0_0 hk0).1 fl_RX7_147 dX7_lost_46 ?_
        refine lv_iload_n S.1 S.2.1 dX7_lost_49 rfl (lv_at hl 1 rfl) ?_
        obtain ⟨g5, h⟩ := gd_e h
        refine r_aald S d (ksdC S (ch_1_3 (ch_0_0 hk0).1).1) (wc_14 (ch_1_3 (ch_0_0 hk0).1).1) rfl rfl g5 (if_pos (inb_lt g5)) dX7_lost_50 ?_
        refine lv_iload_n S.1 S.2.1 dX7_lost_51 rfl (lv_at hl 2 rfl) ?_
        obtain ⟨u6, hu6, h⟩ := bd_e h
        refine r_ri d (r_cV (As := [.ref (ad G (((k0 + 1) + 3) + 21 + 2 * a1.toNatClampNeg)), .int a2]) (rest := []) S d (c_X0_lossBy l G M L fu (k0 + 1) (((k0 + 1) + 3) + 21 + 2 * a1.toNatClampNeg) a2 (ch_0_0 hk0).1 (ca_14 (ch_1_3 (ch_0_0 hk0).1).1 (inb_lt g5)).1 hu6) (ksdC S (ch_0_0 hk0).1) (wc_1 (ch_0_0 hk0).1) rfl ml_RX7_200 im_yX0_lossBy se_yX0_lossBy in_RX0 co_yX0_lossBy hyV_X0_lossBy ⟨rfl, rfl⟩ ⟨by decide, by decide⟩ rfl hl rfl (Nat.le_of_ble_eq_true rfl) dX7_lost_52 ⟨Nat.zero_le _, Nat.zero_le _⟩) (fun H locs d => ?_)
        refine lv_goto (tgt := 60) S.1 S.2.1 dX7_lost_55 (by decide) ?_
        obtain rfl := Option.some.inj h
        exact r_iret S d hr rfl rfl dX7_lost_60
    · replace h := it_p cc h
      refine lv_iconst (v := (-1)) S.1 S.2.1 dX7_lost_16 (by decide) ?_
      obtain rfl := Option.some.inj h
      exact r_iret S d hr rfl rfl dX7_lost_17
theorem hyV_X2_weighAllowed : yX2_weighAllowed.cls = RX2 ∧ yX2_weighAllowed.cls ≠ "java/lang/invoke/MethodHandle" ∧ yX2_weighAllowed.cls ≠ "java/lang/invoke/VarHandle" ∧ (parseMethodDescriptor yX2_weighAllowed.desc).map (fun d => d.parameters.length) = some 1 := by decide +kernel
abbrev rm_X2_weighAllowed : Room := { frames := 5, cells := 0, slots := 0, locals := 111 }
def lp_X2_weighAllowed_12 (fu : Nat) (b0 : Nat) (b1 : Nat) (b2 : Int32) (K : Mem → Option (Mem)) : Nat → Int32 → Mem → Option (Mem)
  | 0, _, _ => none
  | n + 1, x3, Mx =>
    (if (Mx b1 4) ≤ x3 then (K Mx)
    else gd (inb x3 10) (
      lt (((b1 + 3) + 21 + 2 * x3.toNatClampNeg)) (fun r2 : Nat =>
      gd (inb b2 9) (
      (f_X0_isAllowed fu Mx b1 r2 b2).bind (fun u4 =>
      (if u4 = 0 then some (-1000000 : Int32)
      else (f_X0_lossBy fu Mx b1 r2 b2).bind (fun u7 =>
        some ((Mx r2 1) - u7))).bind (fun t5 : Int32 =>
      gd (inb x3 10) (
      lt (up Mx ((b0 + 1) + 1 + b2.toNatClampNeg) x3.toNatClampNeg t5) (fun M9 : Mem =>
      lt (x3 + 1) (fun v10 : Int32 =>
      (lp_X2_weighAllowed_12 fu b0 b1 b2 K n v10 M9))))))))))
def lp_X2_weighAllowed_2 (fu : Nat) (b0 : Nat) (b1 : Nat) (K : Mem → Option (Mem)) : Nat → Int32 → Mem → Option (Mem)
  | 0, _, _ => none
  | n + 1, x2, Mx =>
    (if (Mx b1 2) ≤ x2 then (K Mx)
    else (lp_X2_weighAllowed_12 fu b0 b1 x2 (fun (M11 : Mem) =>
        lt (x2 + 1) (fun v12 : Int32 =>
        (lp_X2_weighAllowed_2 fu b0 b1 K n v12 M11))) fu (0 : Int32) Mx))
def f_X2_weighAllowed (fu : Nat) (M : Mem) (k0 : Nat) (k1 : Nat) : Option (Mem) :=
  (lp_X2_weighAllowed_2 fu k0 k1 (fun (M13 : Mem) =>
    some (M13)) fu (0 : Int32) M)
set_option maxHeartbeats 4000000 in
set_option maxRecDepth 100000 in
theorem lc_X2_weighAllowed_12 {p : Program} {l : Launch} {e : Env} {s : State} {m : MethodId} {args : Array Value} {below : List Frame} {meth : Method} {c : Code} {G : Gx} {L : MemL} {fu : Nat} {b0 : Nat} {b1 : Nat} {b2 : Int32} {z : Mem} (S : Sx G false p s m args meth c cX2_weighAllowed 5 RX2) (hr : meth.sig.returnType = (Option.none : Option Jvm.ClassFile.FieldType)) (hb0 : kd b0 = 4) (hb1 : kd b1 = 1) (K : Mem → Option (Mem)) (hK : ∀ (My : Mem) (H : Heap) (locs : List Loc), Dy G s My L H locs → ∀ ls : Array Slot, lv_has ls 5 [(0, .ref (ad G b0)), (1, .ref (ad G b1)), (2, .int b2)] → K My = some z → W p l e rm_X2_weighAllowed s m args below meth c H locs 0 0 (MQ below (Qv G z L) args s 0 0 (gA G)) (F0 m 70 ls [])) :
    ∀ (n : Nat) (x3 : Int32) (Mx : Mem), lp_X2_weighAllowed_12 fu b0 b1 b2 K n x3 Mx = some z → ∀ (H : Heap) (locs : List Loc), Dy G s Mx L H locs → ∀ ls : Array Slot, lv_has ls 5 [(0, .ref (ad G b0)), (1, .ref (ad G b1)), (2, .int b2), (3, .int x3)] → W p l e rm_X2_weighAllowed s m args below meth c H locs 0 0 (MQ below (Qv G z L) args s 0 0 (gA G)) (F0 m 12 ls []) := by
  intro n
  induction n with
  | zero =>
    intro x3 Mx h
    have h : (none : Option (Mem)) = some z := h
    cases h
  | succ n ih =>
    intro x3 Mx h H locs d ls hl
    rw [lp_X2_weighAllowed_12] at h
    refine lv_iload_n S.1 S.2.1 dX2_weighAllowed_12 rfl (lv_at hl 3 rfl) ?_
    refine lv_aload_n S.1 S.2.1 dX2_weighAllowed_13 rfl (lv_at hl 1 rfl) ?_
    refine gf_1_4 S d hb1 fl_RX2_32 dX2_weighAllowed_14 ?_
    refine lv_icmp_ge (tgt := 70) S.1 S.2.1 dX2_weighAllowed_17 (by decide) (fun cc => ?_) (fun cc => ?_)
    · replace h := it_p cc h
      exact hK _ _ _ d _ (lv_sub hl [0, 1, 2] rfl) h
    · replace h := it_n cc h
      refine lv_aload_n S.1 S.2.1 dX2_weighAllowed_20 rfl (lv_at hl 1 rfl) ?_
      refine gf_1_3 S d hb1 fl_RX2_35 dX2_weighAllowed_21 ?_
      refine lv_iload_n S.1 S.2.1 dX2_weighAllowed_24 rfl (lv_at hl 3 rfl) ?_
      obtain ⟨g1, h⟩ := gd_e h
      refine r_aald S d (ksdC S (ch_1_3 hb1).1) (wc_14 (ch_1_3 hb1).1) rfl rfl g1 (if_pos (inb_lt g1)) dX2_weighAllowed_25 ?_
      obtain ⟨r2, er2, h⟩ := lt_e h
      refine r_topr er2 ?_
      have hkr2 : kd r2 = 3 := by rw [er2]; exact (ca_14 (ch_1_3 hb1).1 (inb_lt g1)).1
      refine lv_astore (lv' := [(4, .ref (ad G r2)), (0, .ref (ad G b0)), (1, .ref (ad G b1)), (2, .int b2), (3, .int x3)]) S.1 S.2.1 dX2_weighAllowed_26 hl (by decide) rfl (fun ls hl => ?_)
      refine lv_aload_n S.1 S.2.1 dX2_weighAllowed_28 rfl (lv_at hl 1 rfl) ?_
      refine gf_4_0 S d hb0 fl_RX2_11 dX2_weighAllowed_29 ?_
      refine lv_iload_n S.1 S.2.1 dX2_weighAllowed_32 rfl (lv_at hl 3 rfl) ?_
      obtain ⟨g3, h⟩ := gd_e h
      refine r_aald S d (ksdC S (ch_4_0 hb0).1) (wc_16 (ch_4_0 hb0).1) rfl rfl g3 (if_pos (inb_lt g3)) dX2_weighAllowed_33 ?_
      refine lv_iload_n S.1 S.2.1 dX2_weighAllowed_34 rfl (lv_at hl 4 rfl) ?_
      refine lv_aload_n S.1 S.2.1 dX2_weighAllowed_35 rfl (lv_at hl 2 rfl) ?_
      refine lv_aload S.1 S.2.1 dX2_weighAllowed_36 (lv_at hl 0 rfl) ?_
      refine lv_iload_n S.1 S.2.1 dX2_weighAllowed_38 rfl (lv_at hl 3 rfl) ?_
      obtain ⟨u4, hu4, h⟩ := bd_e h
      refine r_ri d (r_cV (As := [.ref (ad G r2), .int b2]) (rest := [.int x3, .ref (ad G ((b0 + 1) + 1 + b2.toNatClampNeg))]) S d (c_X0_isAllowed l G Mx L fu b1 r2 b2 hb1 hkr2 hu4) (ksdC S hb1) (wc_1 hb1) rfl ml_RX2_49 im_yX0_isAllowed se_yX0_isAllowed in_RX0 co_yX0_isAllowed hyV_X0_isAllowed ⟨rfl, rfl⟩ ⟨by decide, by decide⟩ rfl hl rfl (Nat.le_of_ble_eq_true rfl) dX2_weighAllowed_39 ⟨Nat.zero_le _, Nat.zero_le _⟩) (fun H locs d => ?_)
      obtain ⟨t5, g6, h⟩ := bd_e h
      have Jt5 : ∀ (H : Heap) (locs : List Loc), Dy G s Mx L H locs → W p l e rm_X2_weighAllowed s m args below meth c H locs 0 0 (MQ below (Qv G z L) args s 0 0 (gA G)) (F0 m 63 ls [.int t5, .int x3, .ref (ad G ((b0 + 1) + 1 + b2.toNatClampNeg))]) := by
        intro H locs d
        obtain ⟨g8, h⟩ := gd_e h
        obtain ⟨M9, eM9, h⟩ := lt_e h
        refine r_iast S d eM9 (ksdC S (ca_16 (ch_4_0 hb0).1 (inb_lt g3)).1) (fun _ => wc_10 (ca_16 (ch_4_0 hb0).1 (inb_lt g3)).1) (ca_16 (ch_4_0 hb0).1 (inb_lt g3)).2 g8 dX2_weighAllowed_63 (fun H locs d => ?_)
        obtain ⟨v10, ev10, h⟩ := lt_e h
        refine lv_iinc (v := v10) (lv' := [(3, .int v10), (4, .ref (ad G r2)), (0, .ref (ad G b0)), (1, .ref (ad G b1)), (2, .int b2)]) S.1 S.2.1 dX2_weighAllowed_64 hl (k := 4) rfl (by rw [ev10]; rfl) (by decide) rfl (fun ls hl => ?_)
        refine lv_goto (tgt := 12) S.1 S.2.1 dX2_weighAllowed_67 (by decide) ?_
        exact ih _ _ h _ _ d _ (lv_sub hl [2, 3, 4, 0] rfl)
      have h := g6
      refine lv_if_eq (tgt := 61) S.1 S.2.1 dX2_weighAllowed_42 (by decide) (fun cc => ?_) (fun cc => ?_)
      · replace h := it_p cc h
        refine lv_ldc (v := -1000000) S.1 S.2.1 S.2.2.2.1 (S.uw ck_RX2_48) dX2_weighAllowed_61 ?_
        obtain ej := Option.some.inj h
        refine r_top ej.symm ?_
        exact Jt5 _ _ d
      · replace h := it_n cc h
        refine lv_aload S.1 S.2.1 dX2_weighAllowed_45 (lv_at hl 0 rfl) ?_
        refine gf_3_1 S d hkr2 fl_RX2_43 dX2_weighAllowed_47 ?_
        refine lv_aload_n S.1 S.2.1 dX2_weighAllowed_50 rfl (lv_at hl 2 rfl) ?_
        refine lv_aload S.1 S.2.1 dX2_weighAllowed_51 (lv_at hl 0 rfl) ?_
        refine lv_iload_n S.1 S.2.1 dX2_weighAllowed_53 rfl (lv_at hl 3 rfl) ?_
        obtain ⟨u7, hu7, h⟩ := bd_e h
        refine r_ri d (r_cV (As := [.ref (ad G r2), .int b2]) (rest := [.int (Mx r2 1), .int x3, .ref (ad G ((b0 + 1) + 1 + b2.toNatClampNeg))]) S d (c_X0_lossBy l G Mx L fu b1 r2 b2 hb1 hkr2 hu7) (ksdC S hb1) (wc_1 hb1) rfl ml_RX2_53 im_yX0_lossBy se_yX0_lossBy in_RX0 co_yX0_lossBy hyV_X0_lossBy ⟨rfl, rfl⟩ ⟨by decide, by decide⟩ rfl hl rfl (Nat.le_of_ble_eq_true rfl) dX2_weighAllowed_54 ⟨Nat.zero_le _, Nat.zero_le _⟩) (fun H locs d => ?_)
        refine lv_isub S.1 S.2.1 dX2_weighAllowed_57 ?_
        refine lv_goto (tgt := 63) S.1 S.2.1 dX2_weighAllowed_58 (by decide) ?_
        obtain ej := Option.some.inj h
        refine r_top ej.symm ?_
        exact Jt5 _ _ d
set_option maxHeartbeats 4000000 in
set_option maxRecDepth 100000 in
theorem lc_X2_weighAllowed_2 {p : Program} {l : Launch} {e : Env} {s : State} {m : MethodId} {args : Array Value} {below : List Frame} {meth : Method} {c : Code} {G : Gx} {L : MemL} {fu : Nat} {b0 : Nat} {b1 : Nat} {z : Mem} (S : Sx G false p s m args meth c cX2_weighAllowed 5 RX2) (hr : meth.sig.returnType = (Option.none : Option Jvm.ClassFile.FieldType)) (hb0 : kd b0 = 4) (hb1 : kd b1 = 1) (K : Mem → Option (Mem)) (hK : ∀ (My : Mem) (H : Heap) (locs : List Loc), Dy G s My L H locs → ∀ ls : Array Slot, lv_has ls 5 [] → K My = some z → W p l e rm_X2_weighAllowed s m args below meth c H locs 0 0 (MQ below (Qv G z L) args s 0 0 (gA G)) (F0 m 76 ls [])) :
    ∀ (n : Nat) (x2 : Int32) (Mx : Mem), lp_X2_weighAllowed_2 fu b0 b1 K n x2 Mx = some z → ∀ (H : Heap) (locs : List Loc), Dy G s Mx L H locs → ∀ ls : Array Slot, lv_has ls 5 [(0, .ref (ad G b0)), (1, .ref (ad G b1)), (2, .int x2)] → W p l e rm_X2_weighAllowed s m args below meth c H locs 0 0 (MQ below (Qv G z L) args s 0 0 (gA G)) (F0 m 2 ls []) := by
  intro n
  induction n with
  | zero =>
    intro x2 Mx h
    have h : (none : Option (Mem)) = some z := h
    cases h
  | succ n ih =>
    intro x2 Mx h H locs d ls hl
    rw [lp_X2_weighAllowed_2] at h
    refine lv_iload_n S.1 S.2.1 dX2_weighAllowed_2 rfl (lv_at hl 2 rfl) ?_
    refine lv_aload_n S.1 S.2.1 dX2_weighAllowed_3 rfl (lv_at hl 1 rfl) ?_
    refine gf_1_2 S d hb1 fl_RX2_27 dX2_weighAllowed_4 ?_
    refine lv_icmp_ge (tgt := 76) S.1 S.2.1 dX2_weighAllowed_7 (by decide) (fun cc => ?_) (fun cc => ?_)
    · replace h := it_p cc h
      exact hK _ _ _ d _ (lv_sub hl [] rfl) h
    · replace h := it_n cc h
      refine lv_iconst (v := 0) S.1 S.2.1 dX2_weighAllowed_10 (by decide) ?_
      refine lv_istore_n (lv' := [(3, .int (0 : Int32)), (0, .ref (ad G b0)), (1, .ref (ad G b1)), (2, .int x2)]) S.1 S.2.1 dX2_weighAllowed_11 rfl hl (by decide) rfl (fun ls hl => ?_)
      refine lc_X2_weighAllowed_12 S hr hb0 hb1 _ (fun M11 H locs d ls hl h => ?_) _ _ _  h _ _ d _ (lv_sub hl [1, 2, 3, 0] rfl)
      obtain ⟨v12, ev12, h⟩ := lt_e h
      refine lv_iinc (v := v12) (lv' := [(2, .int v12), (0, .ref (ad G b0)), (1, .ref (ad G b1))]) S.1 S.2.1 dX2_weighAllowed_70 hl (k := 2) rfl (by rw [ev12]; rfl) (by decide) rfl (fun ls hl => ?_)
      refine lv_goto (tgt := 2) S.1 S.2.1 dX2_weighAllowed_73 (by decide) ?_
      exact ih _ _ h _ _ d _ (lv_sub hl [1, 2, 0] rfl)
set_option maxHeartbeats 4000000 in
set_option maxRecDepth 100000 in
theorem c_X2_weighAllowed (l : Launch) (G : Gx) (M : Mem) (L : MemL) (fu : Nat) (k0 : Nat) (k1 : Nat) (hk0 : kd k0 = 4) (hk1 : kd k1 = 1) {z : Mem} (h : f_X2_weighAllowed fu M k0 k1 = some z) : Met l yX2_weighAllowed (.code yX2_weighAllowed cX2_weighAllowed 5 (Option.none : Option Jvm.ClassFile.FieldType) :: UW) rm_X2_weighAllowed (va_Pc [.ref (ad G k0), .ref (ad G k1)] (PreG G false M L)) (Qv G z L) 0 0 (gA G) := by
  refine r_in (by decide) (fun p e s m args below meth c S hr d ha ls hl => ?_) (Nat.le_of_ble_eq_true rfl)
  have S : Sx G false p s m args meth c cX2_weighAllowed 5 RX2 := S
  have hl : lv_has ls 5 [(0, .ref (ad G k0)), (1, .ref (ad G k1))] := hl
  unfold f_X2_weighAllowed at h
  refine lv_iconst (v := 0) S.1 S.2.1 dX2_weighAllowed_0 (by decide) ?_
  refine lv_istore_n (lv' := [(2, .int (0 : Int32)), (0, .ref (ad G k0)), (1, .ref (ad G k1))]) S.1 S.2.1 dX2_weighAllowed_1 rfl hl (by decide) rfl (fun ls hl => ?_)
  refine lc_X2_weighAllowed_2 S hr hk0 hk1 _ (fun M13 H locs d ls hl h => ?_) _ _ _  h _ _ d _ (lv_sub hl [1, 2, 0] rfl)
  obtain rfl := Option.some.inj h
  exact r_vret S d hr dX2_weighAllowed_76
theorem hyV_X7_plan : yX7_plan.cls = RX7 ∧ yX7_plan.cls ≠ "java/lang/invoke/MethodHandle" ∧ yX7_plan.cls ≠ "java/lang/invoke/VarHandle" ∧ (parseMethodDescriptor yX7_plan.desc).map (fun d => d.parameters.length) = some 1 := by decide +kernel
abbrev rm_X7_plan : Room := { frames := 6, cells := 0, slots := 0, locals := 135 }
def f_X7_plan (fu : Nat) (M : Mem) (k0 : Nat) (a1 : Int32) : Option (Int32 × Mem) :=
  (f_X7_isRowPlace a1).bind (fun u1 =>
  (if u1 = 0 then some ((-1 : Int32), M)
  else (f_X2_weighAllowed fu M (k0 + 89) (k0 + 1)).bind (fun u2 =>
    (f_X2_choose fu u2 (k0 + 89) (k0 + 1)).bind (fun u3 =>
    (f_X2_answer u3 (k0 + 89) a1).bind (fun u4 =>
    some (u4, u3))))))
set_option maxHeartbeats 4000000 in
set_option maxRecDepth 100000 in
theorem c_X7_plan (l : Launch) (G : Gx) (M : Mem) (L : MemL) (fu : Nat) (k0 : Nat) (a1 : Int32) (hk0 : kd k0 = 0) {z : Int32 × Mem} (h : f_X7_plan fu M k0 a1 = some z) : Met l yX7_plan (.code yX7_plan cX7_plan 2 (Option.some Jvm.ClassFile.FieldType.int) :: UW) rm_X7_plan (va_Pc [.ref (ad G k0), .int a1] (PreG G false M L)) (Qi G z.1 z.2 L) 0 0 (gA G) := by
  refine r_in (by decide) (fun p e s m args below meth c S hr d ha ls hl => ?_) (Nat.le_of_ble_eq_true rfl)
  have S : Sx G false p s m args meth c cX7_plan 2 RX7 := S
  have hl : lv_has ls 2 [(0, .ref (ad G k0)), (1, .int a1)] := hl
  unfold f_X7_plan at h
  refine lv_iload_n S.1 S.2.1 dX7_plan_0 rfl (lv_at hl 1 rfl) ?_
  obtain ⟨u1, hu1, h⟩ := bd_e h
  refine r_ri d (r_cS (As := [.int a1]) (rest := []) S d (c_X7_isRowPlace l G M L a1 hu1) ml_RX7_176 sm_yX7_isRowPlace in_RX7 co_yX7_isRowPlace hyS_X7_isRowPlace ⟨rfl, rfl⟩ ⟨by decide, by decide⟩ rfl hl rfl (Nat.le_of_ble_eq_true rfl) dX7_plan_1 ⟨Nat.zero_le _, Nat.zero_le _⟩) (fun H locs d => ?_)
  refine lv_if_ne (tgt := 9) S.1 S.2.1 dX7_plan_4 (by decide) (fun cc => ?_) (fun cc => ?_)
  · replace h := it_n cc h
    refine lv_aload_n S.1 S.2.1 dX7_plan_9 rfl (lv_at hl 0 rfl) ?_
    refine gf_0_3 S d hk0 fl_RX7_26 dX7_plan_10 ?_
    refine lv_aload_n S.1 S.2.1 dX7_plan_13 rfl (lv_at hl 0 rfl) ?_
    refine gf_0_0 S d hk0 fl_RX7_12 dX7_plan_14 ?_
    obtain ⟨u2, hu2, h⟩ := bd_e h
    refine r_rv d (r_cV (As := [.ref (ad G (k0 + 1))]) (rest := []) S d (c_X2_weighAllowed l G M L fu (k0 + 89) (k0 + 1) (ch_0_3 hk0).1 (ch_0_0 hk0).1 hu2) (ksdC S (ch_0_3 hk0).1) (wc_4 (ch_0_3 hk0).1) rfl ml_RX7_203 im_yX2_weighAllowed se_yX2_weighAllowed in_RX2 co_yX2_weighAllowed hyV_X2_weighAllowed ⟨rfl, rfl⟩ ⟨by decide, by decide⟩ rfl hl rfl (Nat.le_of_ble_eq_true rfl) dX7_plan_17 ⟨Nat.zero_le _, Nat.zero_le _⟩) (fun H locs d => ?_)
    refine lv_aload_n S.1 S.2.1 dX7_plan_20 rfl (lv_at hl 0 rfl) ?_
    refine gf_0_3 S d hk0 fl_RX7_26 dX7_plan_21 ?_
    refine lv_aload_n S.1 S.2.1 dX7_plan_24 rfl (lv_at hl 0 rfl) ?_
    refine gf_0_0 S d hk0 fl_RX7_12 dX7_plan_25 ?_
    obtain ⟨u3, hu3, h⟩ := bd_e h
    refine r_rv d (r_cV (As := [.ref (ad G (k0 + 1))]) (rest := []) S d (c_X2_choose l G u2 L fu (k0 + 89) (k0 + 1) (ch_0_3 hk0).1 (ch_0_0 hk0).1 hu3) (ksdC S (ch_0_3 hk0).1) (wc_4 (ch_0_3 hk0).1) rfl ml_RX7_183 im_yX2_choose se_yX2_choose in_RX2 co_yX2_choose hyV_X2_choose ⟨rfl, rfl⟩ ⟨by decide, by decide⟩ rfl hl rfl (Nat.le_of_ble_eq_true rfl) dX7_plan_28 ⟨Nat.zero_le _, Nat.zero_le _⟩) (fun H locs d => ?_)
    refine lv_aload_n S.1 S.2.1 dX7_plan_31 rfl (lv_at hl 0 rfl) ?_
    refine gf_0_3 S d hk0 fl_RX7_26 dX7_plan_32 ?_
    refine lv_iload_n S.1 S.2.1 dX7_plan_35 rfl (lv_at hl 1 rfl) ?_
    obtain ⟨u4, hu4, h⟩ := bd_e h
    refine r_ri d (r_cV (As := [.int a1]) (rest := []) S d (c_X2_answer l G u3 L (k0 + 89) a1 (ch_0_3 hk0).1 hu4) (ksdC S (ch_0_3 hk0).1) (wc_4 (ch_0_3 hk0).1) rfl ml_RX7_186 im_yX2_answer se_yX2_answer in_RX2 co_yX2_answer hyV_X2_answer ⟨rfl, rfl⟩ ⟨by decide, by decide⟩ rfl hl rfl (Nat.le_of_ble_eq_true rfl) dX7_plan_36 ⟨Nat.zero_le _, Nat.zero_le _⟩) (fun H locs d => ?_)
    obtain rfl := Option.some.inj h
    exact r_iret S d hr rfl rfl dX7_plan_39
  · replace h := it_p cc h
    refine lv_iconst (v := (-1)) S.1 S.2.1 dX7_plan_7 (by decide) ?_
    obtain rfl := Option.some.inj h
    exact r_iret S d hr rfl rfl dX7_plan_8
theorem hyV_X7_write : yX7_write.cls = RX7 ∧ yX7_write.cls ≠ "java/lang/invoke/MethodHandle" ∧ yX7_write.cls ≠ "java/lang/invoke/VarHandle" ∧ (parseMethodDescriptor yX7_write.desc).map (fun d => d.parameters.length) = some 2 := by decide +kernel
abbrev rm_X7_write : Room := { frames := 5, cells := 0, slots := 0, locals := 111 }
def lp_X7_write_49 (fu : Nat) (b0 : Nat) (b2 : Int32) (b3 : Nat) (K : Int32 → Mem → Option (Int32 × Mem)) : Nat → Int32 → Int32 → Mem → Option (Int32 × Mem)
  | 0, _, _, _ => none
  | n + 1, x4, x5, Mx =>
    (if (Mx b3 0) ≤ x5 then (K x4 Mx)
    else gd (inb x5 6) (
      gd (inb (Mx (b3 + 1) x5.toNatClampNeg) 26) (
      (f_X0_harvest fu Mx (b0 + 1) (b2 + x5) (v26 (Mx (b3 + 1) x5.toNatClampNeg).toNatClampNeg)).bind (fun u9 =>
      lt ((x4 + u9.1)) (fun v10 : Int32 =>
      lt (x5 + 1) (fun v11 : Int32 =>
      (lp_X7_write_49 fu b0 b2 b3 K n v10 v11 u9.2)))))))
def f_X7_write (fu : Nat) (M : Mem) (k0 : Nat) (a1 : Int32) (a2 : Int32) : Option (Int32 × Mem) :=
  (f_X7_isWord M k0 a1).bind (fun u1 =>
  (if u1 = 0 then some ((-1 : Int32), M)
  else (f_X7_isStrip M k0 a2).bind (fun u2 =>
    (if u2 = 0 then some ((-1 : Int32), M)
    else gd (inb a1 10) (
      lt ((((k0 + 1) + 3) + 21 + 2 * a1.toNatClampNeg)) (fun r4 : Nat =>
      (f_X0_isAllowed fu M (k0 + 1) r4 a2).bind (fun u5 =>
      (if u5 = 0 then some ((-2 : Int32), M)
      else (lp_X7_write_49 fu k0 a2 r4 (fun (v12 : Int32) (M13 : Mem) =>
          some (v12, M13)) fu (0 : Int32) (0 : Int32) M)))))))))
set_option maxHeartbeats 4000000 in
set_option maxRecDepth 100000 in
theorem lc_X7_write_49 {p : Program} {l : Launch} {e : Env} {s : State} {m : MethodId} {args : Array Value} {below : List Frame} {meth : Method} {c : Code} {G : Gx} {L : MemL} {fu : Nat} {b0 : Nat} {b2 : Int32} {b3 : Nat} {z : Int32 × Mem} (S : Sx G false p s m args meth c cX7_write 6 RX7) (hr : meth.sig.returnType = (Option.some Jvm.ClassFile.FieldType.int)) (hb0 : kd b0 = 0) (hb3 : kd b3 = 3) (K : Int32 → Mem → Option (Int32 × Mem)) (hK : ∀ (y4 : Int32) (My : Mem) (H : Heap) (locs : List Loc), Dy G s My L H locs → ∀ ls : Array Slot, lv_has ls 6 [(4, .int y4)] → K y4 My = some z → W p l e rm_X7_write s m args below meth c H locs 0 0 (MQ below (Qi G z.1 z.2 L) args s 0 0 (gA G)) (F0 m 91 ls [])) :
    ∀ (n : Nat) (x4 : Int32) (x5 : Int32) (Mx : Mem), lp_X7_write_49 fu b0 b2 b3 K n x4 x5 Mx = some z → ∀ (H : Heap) (locs : List Loc), Dy G s Mx L H locs → ∀ ls : Array Slot, lv_has ls 6 [(0, .ref (ad G b0)), (2, .int b2), (3, .ref (ad G b3)), (4, .int x4), (5, .int x5)] → W p l e rm_X7_write s m args below meth c H locs 0 0 (MQ below (Qi G z.1 z.2 L) args s 0 0 (gA G)) (F0 m 49 ls []) := by
  intro n
  induction n with
  | zero =>
    intro x4 x5 Mx h
    have h : (none : Option (Int32 × Mem)) = some z := h
    cases h
  | succ n ih =>
    intro x4 x5 Mx h H locs d ls hl
    rw [lp_X7_write_49] at h
    refine lv_iload S.1 S.2.1 dX7_write_49 (lv_at hl 4 rfl) ?_
    refine lv_aload_n S.1 S.2.1 dX7_write_51 rfl (lv_at hl 2 rfl) ?_
    refine gf_3_0 S d hb3 fl_RX7_155 dX7_write_52 ?_
    refine lv_icmp_ge (tgt := 91) S.1 S.2.1 dX7_write_55 (by decide) (fun cc => ?_) (fun cc => ?_)
    · replace h := it_p cc h
      exact hK _ _ _ _ d _ (lv_sub hl [3] rfl) h
    · replace h := it_n cc h
      refine lv_iload S.1 S.2.1 dX7_write_58 (lv_at hl 3 rfl) ?_
      refine lv_aload_n S.1 S.2.1 dX7_write_60 rfl (lv_at hl 0 rfl) ?_
      refine gf_0_0 S d hb0 fl_RX7_12 dX7_write_61 ?_
      refine lv_iload_n S.1 S.2.1 dX7_write_64 rfl (lv_at hl 1 rfl) ?_
      refine lv_iload S.1 S.2.1 dX7_write_65 (lv_at hl 4 rfl) ?_
      refine lv_iadd S.1 S.2.1 dX7_write_67 ?_
      refine r_gst S d S.2.2.2.2.2.2.2.1.1 (Or.inl (S.uw fl_RX7_83)) dX7_write_68 (fun t6 ht6 => ?_)
      refine lv_aload_n S.1 S.2.1 dX7_write_71 rfl (lv_at hl 2 rfl) ?_
      refine gf_3_2 S d hb3 fl_RX7_156 dX7_write_72 ?_
      refine lv_iload S.1 S.2.1 dX7_write_75 (lv_at hl 4 rfl) ?_
      obtain ⟨g7, h⟩ := gd_e h
      refine r_iald S d (ksdC S (ch_3_2 hb3).1) (wc_10 (ch_3_2 hb3).1) (ch_3_2 hb3).2 g7 dX7_write_77 ?_
      obtain ⟨g8, h⟩ := gd_e h
      refine r_tald S d ht6 g8 dX7_write_78 ?_
      obtain ⟨u9, hu9, h⟩ := bd_e h
      refine r_ri d (r_cV (As := [.int (b2 + x5), .int (v26 (Mx (b3 + 1) x5.toNatClampNeg).toNatClampNeg)]) (rest := [.int x4]) S d (c_X0_harvest l G Mx L fu (b0 + 1) (b2 + x5) (v26 (Mx (b3 + 1) x5.toNatClampNeg).toNatClampNeg) (ch_0_0 hb0).1 hu9) (ksdC S (ch_0_0 hb0).1) (wc_1 (ch_0_0 hb0).1) rfl ml_RX7_99 im_yX0_harvest se_yX0_harvest in_RX0 co_yX0_harvest hyV_X0_harvest ⟨rfl, rfl⟩ ⟨by decide, by decide⟩ rfl hl rfl (Nat.le_of_ble_eq_true rfl) dX7_write_79 ⟨Nat.zero_le _, Nat.zero_le _⟩) (fun H locs d => ?_)
      refine lv_iadd S.1 S.2.1 dX7_write_82 ?_
      obtain ⟨v10, ev10, h⟩ := lt_e h
      refine r_top ev10 ?_
      refine lv_istore (lv' := [(4, .int v10), (0, .ref (ad G b0)), (2, .int b2), (3, .ref (ad G b3)), (5, .int x5)]) S.1 S.2.1 dX7_write_83 hl (by decide) rfl (fun ls hl => ?_)
      obtain ⟨v11, ev11, h⟩ := lt_e h
      refine lv_iinc (v := v11) (lv' := [(5, .int v11), (4, .int v10), (0, .ref (ad G b0)), (2, .int b2), (3, .ref (ad G b3))]) S.1 S.2.1 dX7_write_85 hl (k := 4) rfl (by rw [ev11]; rfl) (by decide) rfl (fun ls hl => ?_)
      refine lv_goto (tgt := 49) S.1 S.2.1 dX7_write_88 (by decide) ?_
      exact ih _ _ _ h _ _ d _ (lv_sub hl [2, 3, 4, 1, 0] rfl)
set_option maxHeartbeats 4000000 in
set_option maxRecDepth 100000 in
theorem c_X7_write (l : Launch) (G : Gx) (M : Mem) (L : MemL) (fu : Nat) (k0 : Nat) (a1 : Int32) (a2 : Int32) (hk0 : kd k0 = 0) {z : Int32 × Mem} (h : f_X7_write fu M k0 a1 a2 = some z) : Met l yX7_write (.code yX7_write cX7_write 6 (Option.some Jvm.ClassFile.FieldType.int) :: UW) rm_X7_write (va_Pc [.ref (ad G k0), .int a1, .int a2] (PreG G false M L)) (Qi G z.1 z.2 L) 0 0 (gA G) := by
  refine r_in (by decide) (fun p e s m args below meth c S hr d ha ls hl => ?_) (Nat.le_of_ble_eq_true rfl)
  have S : Sx G false p s m args meth c cX7_write 6 RX7 := S
  have hl : lv_has ls 6 [(0, .ref (ad G k0)), (1, .int a1), (2, .int a2)] := hl
  unfold f_X7_write at h
  refine lv_aload_n S.1 S.2.1 dX7_write_0 rfl (lv_at hl 0 rfl) ?_
  refine lv_iload_n S.1 S.2.1 dX7_write_1 rfl (lv_at hl 1 rfl) ?_
  obtain ⟨u1, hu1, h⟩ := bd_e h
  refine r_ri d (r_cV (As := [.int a1]) (rest := []) S d (c_X7_isWord l G M L k0 a1 hk0 hu1) (ksdC S hk0) (wc_0 hk0) rfl ml_RX7_144 im_yX7_isWord se_yX7_isWord in_RX7 co_yX7_isWord hyV_X7_isWord ⟨rfl, rfl⟩ ⟨by decide, by decide⟩ rfl hl rfl (Nat.le_of_ble_eq_true rfl) dX7_write_2 ⟨Nat.zero_le _, Nat.zero_le _⟩) (fun H locs d => ?_)
  refine lv_if_eq (tgt := 16) S.1 S.2.1 dX7_write_5 (by decide) (fun cc => ?_) (fun cc => ?_)
  · replace h := it_p cc h
    refine lv_iconst (v := (-1)) S.1 S.2.1 dX7_write_16 (by decide) ?_
    obtain rfl := Option.some.inj h
    exact r_iret S d hr rfl rfl dX7_write_17
  · replace h := it_n cc h
    refine lv_aload_n S.1 S.2.1 dX7_write_8 rfl (lv_at hl 0 rfl) ?_
    refine lv_iload_n S.1 S.2.1 dX7_write_9 rfl (lv_at hl 2 rfl) ?_
    obtain ⟨u2, hu2, h⟩ := bd_e h
    refine r_ri d (r_cV (As := [.int a2]) (rest := []) S d (c_X7_isStrip l G M L k0 a2 hk0 hu2) (ksdC S hk0) (wc_0 hk0) rfl ml_RX7_70 im_yX7_isStrip se_yX7_isStrip in_RX7 co_yX7_isStrip hyV_X7_isStrip ⟨rfl, rfl⟩ ⟨by decide, by decide⟩ rfl hl rfl (Nat.le_of_ble_eq_true rfl) dX7_write_10 ⟨Nat.zero_le _, Nat.zero_le _⟩) (fun H locs d => ?_)
    refine lv_if_ne (tgt := 18) S.1 S.2.1 dX7_write_13 (by decide) (fun cc => ?_) (fun cc => ?_)
    · replace h := it_n cc h
      refine lv_aload_n S.1 S.2.1 dX7_write_18 rfl (lv_at hl 0 rfl) ?_
      refine gf_0_0 S d hk0 fl_RX7_12 dX7_write_19 ?_
      refine gf_1_3 S d (ch_0_0 hk0).1 fl_RX7_147 dX7_write_22 ?_
      refine lv_iload_n S.1 S.2.1 dX7_write_25 rfl (lv_at hl 1 rfl) ?_
      obtain ⟨g3, h⟩ := gd_e h
      refine r_aald S d (ksdC S (ch_1_3 (ch_0_0 hk0).1).1) (wc_14 (ch_1_3 (ch_0_0 hk0).1).1) rfl rfl g3 (if_pos (inb_lt g3)) dX7_write_26 ?_
      obtain ⟨r4, er4, h⟩ := lt_e h
      refine r_topr er4 ?_
      have hkr4 : kd r4 = 3 := by rw [er4]; exact (ca_14 (ch_1_3 (ch_0_0 hk0).1).1 (inb_lt g3)).1
      refine lv_astore_n (lv' := [(3, .ref (ad G r4)), (0, .ref (ad G k0)), (1, .int a1), (2, .int a2)]) S.1 S.2.1 dX7_write_27 rfl hl (by decide) rfl (fun ls hl => ?_)
      refine lv_aload_n S.1 S.2.1 dX7_write_28 rfl (lv_at hl 1 rfl) ?_
      refine gf_0_0 S d hk0 fl_RX7_12 dX7_write_29 ?_
      refine lv_aload_n S.1 S.2.1 dX7_write_32 rfl (lv_at hl 0 rfl) ?_
      refine lv_iload_n S.1 S.2.1 dX7_write_33 rfl (lv_at hl 3 rfl) ?_
      obtain ⟨u5, hu5, h⟩ := bd_e h
      refine r_ri d (r_cV (As := [.ref (ad G r4), .int a2]) (rest := []) S d (c_X0_isAllowed l G M L fu (k0 + 1) r4 a2 (ch_0_0 hk0).1 hkr4 hu5) (ksdC S (ch_0_0 hk0).1) (wc_1 (ch_0_0 hk0).1) rfl ml_RX7_197 im_yX0_isAllowed se_yX0_isAllowed in_RX0 co_yX0_isAllowed hyV_X0_isAllowed ⟨rfl, rfl⟩ ⟨by decide, by decide⟩ rfl hl rfl (Nat.le_of_ble_eq_true rfl) dX7_write_34 ⟨Nat.zero_le _, Nat.zero_le _⟩) (fun H locs d => ?_)
      refine lv_if_ne (tgt := 43) S.1 S.2.1 dX7_write_37 (by decide) (fun cc => ?_) (fun cc => ?_)
      · replace h := it_n cc h
        refine lv_iconst (v := 0) S.1 S.2.1 dX7_write_43 (by decide) ?_
        refine lv_istore (lv' := [(4, .int (0 : Int32)), (3, .ref (ad G r4)), (0, .ref (ad G k0)), (1, .int a1), (2, .int a2)]) S.1 S.2.1 dX7_write_44 hl (by decide) rfl (fun ls hl => ?_)
        refine lv_iconst (v := 0) S.1 S.2.1 dX7_write_46 (by decide) ?_
        refine lv_istore (lv' := [(5, .int (0 : Int32)), (4, .int (0 : Int32)), (3, .ref (ad G r4)), (0, .ref (ad G k0)), (1, .int a1), (2, .int a2)]) S.1 S.2.1 dX7_write_47 hl (by decide) rfl (fun ls hl => ?_)
        refine lc_X7_write_49 S hr hk0 hkr4 _ (fun v12 M13 H locs d ls hl h => ?_) _ _ _ _  h _ _ d _ (lv_sub hl [3, 5, 2, 1, 0] rfl)
        refine lv_iload S.1 S.2.1 dX7_write_91 (lv_at hl 0 rfl) ?_
        obtain rfl := Option.some.inj h
        exact r_iret S d hr rfl rfl dX7_write_93
      · replace h := it_p cc h
        refine lv_bipush (v := (-2)) S.1 S.2.1 dX7_write_40 (by decide) ?_
        obtain rfl := Option.some.inj h
        exact r_iret S d hr rfl rfl dX7_write_42
    · replace h := it_p cc h
      refine lv_iconst (v := (-1)) S.1 S.2.1 dX7_write_16 (by decide) ?_
      obtain rfl := Option.some.inj h
      exact r_iret S d hr rfl rfl dX7_write_17
theorem hyV_X0_shareOf : yX0_shareOf.cls = RX0 ∧ yX0_shareOf.cls ≠ "java/lang/invoke/MethodHandle" ∧ yX0_shareOf.cls ≠ "java/lang/invoke/VarHandle" ∧ (parseMethodDescriptor yX0_shareOf.desc).map (fun d => d.parameters.length) = some 4 := by decide +kernel
abbrev rm_X0_shareOf : Room := { frames := 3, cells := 0, slots := 0, locals := 66 }
def lp_X0_shareOf_34 (fu : Nat) (M : Mem) (b0 : Nat) (b1 : Nat) (b2 : Int32) (b3 : Int32) (b5 : Int32) (b6 : Int32) (K : Int32 → Option (Int32)) : Nat → Int32 → Int32 → Option (Int32)
  | 0, _, _ => none
  | n + 1, x7, x8 =>
    (if (M b1 0) ≤ x8 then (K x7)
    else gd (inb (b2 + x8) 9) (
      (if (M ((b0 + 2) + 4 + 2 * (b2 + x8).toNatClampNeg) 0) = b3 then gd (inb x8 6) (
        (f_X0_lossOn fu M b0 (b2 + x8) (M (b1 + 1) x8.toNatClampNeg)).bind (fun u7 =>
        (if b6 ≤ x8 then some (0 : Int32)
        else some (1 : Int32)).bind (fun t8 : Int32 =>
        lt ((x7 + ((u7 + b5) + t8))) (fun v10 : Int32 =>
        lt (x8 + 1) (fun v11 : Int32 =>
        (lp_X0_shareOf_34 fu M b0 b1 b2 b3 b5 b6 K n v10 v11))))))
      else lt (x8 + 1) (fun v12 : Int32 =>
        (lp_X0_shareOf_34 fu M b0 b1 b2 b3 b5 b6 K n x7 v12)))))
def f_X0_shareOf (fu : Nat) (M : Mem) (k0 : Nat) (k1 : Nat) (a2 : Int32) (a3 : Int32) (a4 : Int32) : Option (Int32) :=
  (if (1 : Int32) ≤ (M k1 0) then gd (decide (¬ (M k1 0) = 0)) (
    lt ((a4 / (M k1 0))) (fun v2 : Int32 =>
    gd (decide (¬ (M k1 0) = 0)) (
    lt ((a4 - a4 / (M k1 0) * (M k1 0))) (fun v4 : Int32 =>
    (lp_X0_shareOf_34 fu M k0 k1 a2 a3 v2 v4 (fun (v13 : Int32) =>
      some (v13)) fu (0 : Int32) (0 : Int32))))))
  else some ((0 : Int32)))
set_option maxHeartbeats 4000000 in
set_option maxRecDepth 100000 in
theorem lc_X0_shareOf_34 {p : Program} {l : Launch} {e : Env} {s : State} {m : MethodId} {args : Array Value} {below : List Frame} {meth : Method} {c : Code} {G : Gx} {M : Mem} {L : MemL} {fu : Nat} {b0 : Nat} {b1 : Nat} {b2 : Int32} {b3 : Int32} {b5 : Int32} {b6 : Int32} {z : Int32} (S : Sx G false p s m args meth c cX0_shareOf 9 RX0) (hr : meth.sig.returnType = (Option.some Jvm.ClassFile.FieldType.int)) (hb0 : kd b0 = 1) (hb1 : kd b1 = 3) (K : Int32 → Option (Int32)) (hK : ∀ (y7 : Int32) (H : Heap) (locs : List Loc), Dy G s M L H locs → ∀ ls : Array Slot, lv_has ls 9 [(7, .int y7)] → K y7 = some z → W p l e rm_X0_shareOf s m args below meth c H locs 0 0 (MQ below (Qi G z M L) args s 0 0 (gA G)) (F0 m 101 ls [])) :
    ∀ (n : Nat) (x7 : Int32) (x8 : Int32), lp_X0_shareOf_34 fu M b0 b1 b2 b3 b5 b6 K n x7 x8 = some z → ∀ (H : Heap) (locs : List Loc), Dy G s M L H locs → ∀ ls : Array Slot, lv_has ls 9 [(0, .ref (ad G b0)), (1, .ref (ad G b1)), (2, .int b2), (3, .int b3), (5, .int b5), (6, .int b6), (7, .int x7), (8, .int x8)] → W p l e rm_X0_shareOf s m args below meth c H locs 0 0 (MQ below (Qi G z M L) args s 0 0 (gA G)) (F0 m 34 ls []) := by
  intro n
  induction n with
  | zero =>
    intro x7 x8 h
    have h : (none : Option (Int32)) = some z := h
    cases h
  | succ n ih =>
    intro x7 x8 h H locs d ls hl
    rw [lp_X0_shareOf_34] at h
    refine lv_iload S.1 S.2.1 dX0_shareOf_34 (lv_at hl 7 rfl) ?_
    refine lv_aload_n S.1 S.2.1 dX0_shareOf_36 rfl (lv_at hl 1 rfl) ?_
    refine gf_3_0 S d hb1 fl_RX0_95 dX0_shareOf_37 ?_
    refine lv_icmp_ge (tgt := 101) S.1 S.2.1 dX0_shareOf_40 (by decide) (fun cc => ?_) (fun cc => ?_)
    · replace h := it_p cc h
      exact hK _ _ _ d _ (lv_sub hl [6] rfl) h
    · replace h := it_n cc h
      refine lv_aload_n S.1 S.2.1 dX0_shareOf_43 rfl (lv_at hl 0 rfl) ?_
      refine gf_1_1 S d hb0 fl_RX0_20 dX0_shareOf_44 ?_
      refine lv_iload_n S.1 S.2.1 dX0_shareOf_47 rfl (lv_at hl 2 rfl) ?_
      refine lv_iload S.1 S.2.1 dX0_shareOf_48 (lv_at hl 7 rfl) ?_
      refine lv_iadd S.1 S.2.1 dX0_shareOf_50 ?_
      obtain ⟨g5, h⟩ := gd_e h
      refine r_aald S d (ksdC S (ch_1_1 hb0).1) (wc_13 (ch_1_1 hb0).1) rfl rfl g5 (if_pos (inb_lt g5)) dX0_shareOf_51 ?_
      refine gf_2_0 S d (ca_13 (ch_1_1 hb0).1 (inb_lt g5)).1 fl_RX0_80 dX0_shareOf_52 ?_
      refine lv_iload_n S.1 S.2.1 dX0_shareOf_55 rfl (lv_at hl 3 rfl) ?_
      refine lv_icmp_ne (tgt := 95) S.1 S.2.1 dX0_shareOf_56 (by decide) (fun cc => ?_) (fun cc => ?_)
      · replace h := it_n cc h
        obtain ⟨v12, ev12, h⟩ := lt_e h
        refine lv_iinc (v := v12) (lv' := [(8, .int v12), (0, .ref (ad G b0)), (1, .ref (ad G b1)), (2, .int b2), (3, .int b3), (5, .int b5), (6, .int b6), (7, .int x7)]) S.1 S.2.1 dX0_shareOf_95 hl (k := 7) rfl (by rw [ev12]; rfl) (by decide) rfl (fun ls hl => ?_)
        refine lv_goto (tgt := 34) S.1 S.2.1 dX0_shareOf_98 (by decide) ?_
        exact ih _ _ h _ _ d _ (lv_sub hl [1, 2, 3, 4, 5, 6, 7, 0] rfl)
      · replace h := it_p cc h
        refine lv_iload S.1 S.2.1 dX0_shareOf_59 (lv_at hl 6 rfl) ?_
        refine lv_aload_n S.1 S.2.1 dX0_shareOf_61 rfl (lv_at hl 0 rfl) ?_
        refine lv_iload_n S.1 S.2.1 dX0_shareOf_62 rfl (lv_at hl 2 rfl) ?_
        refine lv_iload S.1 S.2.1 dX0_shareOf_63 (lv_at hl 7 rfl) ?_
        refine lv_iadd S.1 S.2.1 dX0_shareOf_65 ?_
        refine lv_aload_n S.1 S.2.1 dX0_shareOf_66 rfl (lv_at hl 1 rfl) ?_
        refine gf_3_2 S d hb1 fl_RX0_102 dX0_shareOf_67 ?_
        refine lv_iload S.1 S.2.1 dX0_shareOf_70 (lv_at hl 7 rfl) ?_
        obtain ⟨g6, h⟩ := gd_e h
        refine r_iald S d (ksdC S (ch_3_2 hb1).1) (wc_10 (ch_3_2 hb1).1) (ch_3_2 hb1).2 g6 dX0_shareOf_72 ?_
        obtain ⟨u7, hu7, h⟩ := bd_e h
        refine r_ri d (r_cV (As := [.int (b2 + x8), .int (M (b1 + 1) x8.toNatClampNeg)]) (rest := [.int x7]) S d (c_X0_lossOn l G M L fu b0 (b2 + x8) (M (b1 + 1) x8.toNatClampNeg) hb0 hu7) (ksdC S hb0) (wc_1 hb0) rfl ml_RX0_119 im_yX0_lossOn se_yX0_lossOn in_RX0 co_yX0_lossOn hyV_X0_lossOn ⟨rfl, rfl⟩ ⟨by decide, by decide⟩ rfl hl rfl (Nat.le_of_ble_eq_true rfl) dX0_shareOf_73 ⟨Nat.zero_le _, Nat.zero_le _⟩) (fun H locs d => ?_)
        refine lv_iload S.1 S.2.1 dX0_shareOf_76 (lv_at hl 4 rfl) ?_
        refine lv_iadd S.1 S.2.1 dX0_shareOf_78 ?_
        refine lv_iload S.1 S.2.1 dX0_shareOf_79 (lv_at hl 7 rfl) ?_
        refine lv_iload S.1 S.2.1 dX0_shareOf_81 (lv_at hl 5 rfl) ?_
        obtain ⟨t8, g9, h⟩ := bd_e h
        have Jt8 : ∀ (H : Heap) (locs : List Loc), Dy G s M L H locs → W p l e rm_X0_shareOf s m args below meth c H locs 0 0 (MQ below (Qi G z M L) args s 0 0 (gA G)) (F0 m 91 ls [.int t8, .int (u7 + b5), .int x7]) := by
          intro H locs d
          refine lv_iadd S.1 S.2.1 dX0_shareOf_91 ?_
          refine lv_iadd S.1 S.2.1 dX0_shareOf_92 ?_
          obtain ⟨v10, ev10, h⟩ := lt_e h
          refine r_top ev10 ?_
          refine lv_istore (lv' := [(7, .int v10), (0, .ref (ad G b0)), (1, .ref (ad G b1)), (2, .int b2), (3, .int b3), (5, .int b5), (6, .int b6), (8, .int x8)]) S.1 S.2.1 dX0_shareOf_93 hl (by decide) rfl (fun ls hl => ?_)
          obtain ⟨v11, ev11, h⟩ := lt_e h
          refine lv_iinc (v := v11) (lv' := [(8, .int v11), (7, .int v10), (0, .ref (ad G b0)), (1, .ref (ad G b1)), (2, .int b2), (3, .int b3), (5, .int b5), (6, .int b6)]) S.1 S.2.1 dX0_shareOf_95 hl (k := 7) rfl (by rw [ev11]; rfl) (by decide) rfl (fun ls hl => ?_)
          refine lv_goto (tgt := 34) S.1 S.2.1 dX0_shareOf_98 (by decide) ?_
          exact ih _ _ h _ _ d _ (lv_sub hl [2, 3, 4, 5, 6, 7, 1, 0] rfl)
        have h := g9
        refine lv_icmp_ge (tgt := 90) S.1 S.2.1 dX0_shareOf_83 (by decide) (fun cc => ?_) (fun cc => ?_)
        · replace h := it_p cc h
          refine lv_iconst (v := 0) S.1 S.2.1 dX0_shareOf_90 (by decide) ?_
          obtain ej := Option.some.inj h
          refine r_top ej.symm ?_
          exact Jt8 _ _ d
        · replace h := it_n cc h
          refine lv_iconst (v := 1) S.1 S.2.1 dX0_shareOf_86 (by decide) ?_
          refine lv_goto (tgt := 91) S.1 S.2.1 dX0_shareOf_87 (by decide) ?_
          obtain ej := Option.some.inj h
          refine r_top ej.symm ?_
          exact Jt8 _ _ d
set_option maxHeartbeats 4000000 in
set_option maxRecDepth 100000 in
theorem c_X0_shareOf (l : Launch) (G : Gx) (M : Mem) (L : MemL) (fu : Nat) (k0 : Nat) (k1 : Nat) (a2 : Int32) (a3 : Int32) (a4 : Int32) (hk0 : kd k0 = 1) (hk1 : kd k1 = 3) {z : Int32} (h : f_X0_shareOf fu M k0 k1 a2 a3 a4 = some z) : Met l yX0_shareOf (.code yX0_shareOf cX0_shareOf 9 (Option.some Jvm.ClassFile.FieldType.int) :: UW) rm_X0_shareOf (va_Pc [.ref (ad G k0), .ref (ad G k1), .int a2, .int a3, .int a4] (PreG G false M L)) (Qi G z M L) 0 0 (gA G) := by
  refine r_in (by decide) (fun p e s m args below meth c S hr d ha ls hl => ?_) (Nat.le_of_ble_eq_true rfl)
  have S : Sx G false p s m args meth c cX0_shareOf 9 RX0 := S
  have hl : lv_has ls 9 [(0, .ref (ad G k0)), (1, .ref (ad G k1)), (2, .int a2), (3, .int a3), (4, .int a4)] := hl
  unfold f_X0_shareOf at h
  refine lv_aload_n S.1 S.2.1 dX0_shareOf_0 rfl (lv_at hl 1 rfl) ?_
  refine gf_3_0 S d hk1 fl_RX0_95 dX0_shareOf_1 ?_
  refine lv_iconst (v := 1) S.1 S.2.1 dX0_shareOf_4 (by decide) ?_
  refine lv_icmp_ge (tgt := 10) S.1 S.2.1 dX0_shareOf_5 (by decide) (fun cc => ?_) (fun cc => ?_)
  · replace h := it_p cc h
    refine lv_iload S.1 S.2.1 dX0_shareOf_10 (lv_at hl 4 rfl) ?_
    refine lv_aload_n S.1 S.2.1 dX0_shareOf_12 rfl (lv_at hl 1 rfl) ?_
    refine gf_3_0 S d hk1 fl_RX0_95 dX0_shareOf_13 ?_
    obtain ⟨g1, h⟩ := gd_e h
    refine lv_idiv S.1 S.2.1 dX0_shareOf_16 (of_decide_eq_true g1) ?_
    obtain ⟨v2, ev2, h⟩ := lt_e h
    refine r_top ev2 ?_
    refine lv_istore (lv' := [(5, .int v2), (0, .ref (ad G k0)), (1, .ref (ad G k1)), (2, .int a2), (3, .int a3), (4, .int a4)]) S.1 S.2.1 dX0_shareOf_17 hl (by decide) rfl (fun ls hl => ?_)
    refine lv_iload S.1 S.2.1 dX0_shareOf_19 (lv_at hl 5 rfl) ?_
    refine lv_aload_n S.1 S.2.1 dX0_shareOf_21 rfl (lv_at hl 2 rfl) ?_
    refine gf_3_0 S d hk1 fl_RX0_95 dX0_shareOf_22 ?_
    obtain ⟨g3, h⟩ := gd_e h
    refine lv_irem S.1 S.2.1 dX0_shareOf_25 (of_decide_eq_true g3) ?_
    obtain ⟨v4, ev4, h⟩ := lt_e h
    refine r_top ev4 ?_
    refine lv_istore (lv' := [(6, .int v4), (5, .int v2), (0, .ref (ad G k0)), (1, .ref (ad G k1)), (2, .int a2), (3, .int a3), (4, .int a4)]) S.1 S.2.1 dX0_shareOf_26 hl (by decide) rfl (fun ls hl => ?_)
    refine lv_iconst (v := 0) S.1 S.2.1 dX0_shareOf_28 (by decide) ?_
    refine lv_istore (lv' := [(7, .int (0 : Int32)), (6, .int v4), (5, .int v2), (0, .ref (ad G k0)), (1, .ref (ad G k1)), (2, .int a2), (3, .int a3), (4, .int a4)]) S.1 S.2.1 dX0_shareOf_29 hl (by decide) rfl (fun ls hl => ?_)
    refine lv_iconst (v := 0) S.1 S.2.1 dX0_shareOf_31 (by decide) ?_
    refine lv_istore (lv' := [(8, .int (0 : Int32)), (7, .int (0 : Int32)), (6, .int v4), (5, .int v2), (0, .ref (ad G k0)), (1, .ref (ad G k1)), (2, .int a2), (3, .int a3), (4, .int a4)]) S.1 S.2.1 dX0_shareOf_32 hl (by decide) rfl (fun ls hl => ?_)
    refine lc_X0_shareOf_34 S hr hk0 hk1 _ (fun v13 H locs d ls hl h => ?_) _ _ _  h _ _ d _ (lv_sub hl [4, 5, 6, 7, 3, 2, 1, 0] rfl)
    refine lv_iload S.1 S.2.1 dX0_shareOf_101 (lv_at hl 0 rfl) ?_
    obtain rfl := Option.some.inj h
    exact r_iret S d hr rfl rfl dX0_shareOf_103
  · replace h := it_n cc h
    refine lv_iconst (v := 0) S.1 S.2.1 dX0_shareOf_8 (by decide) ?_
    obtain rfl := Option.some.inj h
    exact r_iret S d hr rfl rfl dX0_shareOf_9
