theorem hyV_X9_brief : yX9_brief.cls = RX9 ∧ yX9_brief.cls ≠ "java/lang/invoke/MethodHandle" ∧ yX9_brief.cls ≠ "java/lang/invoke/VarHandle" ∧ (parseMethodDescriptor yX9_brief.desc).map (fun d => d.parameters.length) = some 1 := by decide +kernel
abbrev rm_X9_brief : Room := { frames := 2, cells := 0, slots := 0, locals := 47 }
def lp_X9_brief_32 (fu : Nat) (M : Mem) (b0 : Nat) (b1 : Int32) (b2 : Int32) (b3 : Int32) (K : Int32 → Option (Int32)) : Nat → Int32 → Int32 → Option (Int32)
  | 0, _, _ => none
  | n + 1, x4, x5 =>
    (if (M b0 8) ≤ x5 then (K x4)
    else (if x4 = 0 then some (0 : Int32)
      else (f_X9_areLike fu M b0 b1 x5).bind (fun u5 =>
        (if u5 = 0 then (f_X9_isIn fu M b0 b1 b3 x5).bind (fun u6 =>
          (if u6 = 0 then some (1 : Int32)
          else some (0 : Int32)))
        else some (1 : Int32)))).bind (fun t3 : Int32 =>
      lt (x5 + 1) (fun v7 : Int32 =>
      (lp_X9_brief_32 fu M b0 b1 b2 b3 K n t3 v7))))
def lp_X9_brief_15 (fu : Nat) (M : Mem) (b0 : Nat) (b1 : Int32) (K : Int32 → Option (Int32)) : Nat → Int32 → Int32 → Option (Int32)
  | 0, _, _ => none
  | n + 1, x2, x3 =>
    (f_X9_sizeOf M b0 b1).bind (fun u2 =>
    (if ((1 : Int32) <<< (u2 &&& 31)) ≤ x3 then (K x2)
    else (lp_X9_brief_32 fu M b0 b1 x2 x3 (fun (v8 : Int32) =>
        (if v8 = 0 then some x2
        else (if x2 < 0 then some x3
          else (f_X9_ones fu x3).bind (fun u11 =>
            (f_X9_ones fu x2).bind (fun u12 =>
            (if u12 ≤ u11 then some x2
            else some x3))))).bind (fun t9 : Int32 =>
        lt (x3 + 1) (fun v13 : Int32 =>
        (lp_X9_brief_15 fu M b0 b1 K n t9 v13)))) fu (1 : Int32) (0 : Int32))))
def f_X9_brief (fu : Nat) (M : Mem) (k0 : Nat) (a1 : Int32) : Option (Int32) :=
  (f_X9_isWord M k0 a1).bind (fun u1 =>
  (if u1 = 0 then some ((-1 : Int32))
  else (lp_X9_brief_15 fu M k0 a1 (fun (v14 : Int32) =>
      some (v14)) fu (-4 : Int32) (1 : Int32))))
set_option maxHeartbeats 4000000 in
set_option maxRecDepth 100000 in
theorem lc_X9_brief_32 {p : Program} {l : Launch} {e : Env} {s : State} {m : MethodId} {args : Array Value} {below : List Frame} {meth : Method} {c : Code} {G : Gx} {M : Mem} {L : MemL} {fu : Nat} {b0 : Nat} {b1 : Int32} {b2 : Int32} {b3 : Int32} {z : Int32} (S : Sx G true p s m args meth c cX9_brief 6 RX9) (hr : meth.sig.returnType = (Option.some Jvm.ClassFile.FieldType.int)) (hb0 : kd b0 = 20) (K : Int32 → Option (Int32)) (hK : ∀ (y4 : Int32) (H : Heap) (locs : List Loc), Dy G s M L H locs → ∀ ls : Array Slot, lv_has ls 6 [(0, .ref (ad G b0)), (1, .int b1), (2, .int b2), (3, .int b3), (4, .int y4)] → K y4 = some z → W p l e rm_X9_brief s m args below meth c H locs 0 0 (MQ below (Qi G z M L) args s 0 0 (gA G)) (F0 m 80 ls [])) :
    ∀ (n : Nat) (x4 : Int32) (x5 : Int32), lp_X9_brief_32 fu M b0 b1 b2 b3 K n x4 x5 = some z → ∀ (H : Heap) (locs : List Loc), Dy G s M L H locs → ∀ ls : Array Slot, lv_has ls 6 [(0, .ref (ad G b0)), (1, .int b1), (2, .int b2), (3, .int b3), (4, .int x4), (5, .int x5)] → W p l e rm_X9_brief s m args below meth c H locs 0 0 (MQ below (Qi G z M L) args s 0 0 (gA G)) (F0 m 32 ls []) := by
  intro n
  induction n with
  | zero =>
    intro x4 x5 h
    have h : (none : Option (Int32)) = some z := h
    cases h
  | succ n ih =>
    intro x4 x5 h H locs d ls hl
    rw [lp_X9_brief_32] at h
    refine lv_iload S.1 S.2.1 dX9_brief_32 (lv_at hl 5 rfl) ?_
    refine lv_aload_n S.1 S.2.1 dX9_brief_34 rfl (lv_at hl 0 rfl) ?_
    refine gf_20_8 S d hb0 fl_RX9_83 dX9_brief_35 ?_
    refine lv_icmp_ge (tgt := 80) S.1 S.2.1 dX9_brief_38 (by decide) (fun cc => ?_) (fun cc => ?_)
    · replace h := it_p cc h
      exact hK _ _ _ d _ (lv_sub hl [0, 1, 2, 3, 4] rfl) h
    · replace h := it_n cc h
      refine lv_iload S.1 S.2.1 dX9_brief_41 (lv_at hl 4 rfl) ?_
      obtain ⟨t3, g4, h⟩ := bd_e h
      have Jt3 : ∀ (H : Heap) (locs : List Loc), Dy G s M L H locs → W p l e rm_X9_brief s m args below meth c H locs 0 0 (MQ below (Qi G z M L) args s 0 0 (gA G)) (F0 m 72 ls [.int t3]) := by
        intro H locs d
        refine lv_istore (lv' := [(4, .int t3), (0, .ref (ad G b0)), (1, .int b1), (2, .int b2), (3, .int b3), (5, .int x5)]) S.1 S.2.1 dX9_brief_72 hl (by decide) rfl (fun ls hl => ?_)
        obtain ⟨v7, ev7, h⟩ := lt_e h
        refine lv_iinc (v := v7) (lv' := [(5, .int v7), (4, .int t3), (0, .ref (ad G b0)), (1, .int b1), (2, .int b2), (3, .int b3)]) S.1 S.2.1 dX9_brief_74 hl (k := 5) rfl (by rw [ev7]; rfl) (by decide) rfl (fun ls hl => ?_)
        refine lv_goto (tgt := 32) S.1 S.2.1 dX9_brief_77 (by decide) ?_
        exact ih _ _ h _ _ d _ (lv_sub hl [2, 3, 4, 5, 1, 0] rfl)
      have h := g4
      refine lv_if_eq (tgt := 71) S.1 S.2.1 dX9_brief_43 (by decide) (fun cc => ?_) (fun cc => ?_)
      · replace h := it_p cc h
        refine lv_iconst (v := 0) S.1 S.2.1 dX9_brief_71 (by decide) ?_
        obtain ej := Option.some.inj h
        refine r_top ej.symm ?_
        exact Jt3 _ _ d
      · replace h := it_n cc h
        refine lv_aload_n S.1 S.2.1 dX9_brief_46 rfl (lv_at hl 0 rfl) ?_
        refine lv_iload_n S.1 S.2.1 dX9_brief_47 rfl (lv_at hl 1 rfl) ?_
        refine lv_iload S.1 S.2.1 dX9_brief_48 (lv_at hl 5 rfl) ?_
        obtain ⟨u5, hu5, h⟩ := bd_e h
        refine r_ri d (r_cV (As := [.int b1, .int x5]) (rest := []) S d (c_X9_areLike l G M L fu b0 b1 x5 hb0 hu5) (ksdM S hb0) (wc_20 hb0) rfl ml_RX9_224 im_yX9_areLike se_yX9_areLike in_RX9 co_yX9_areLike hyV_X9_areLike ⟨rfl, rfl⟩ ⟨by decide, by decide⟩ rfl hl rfl (Nat.le_of_ble_eq_true rfl) dX9_brief_50 ⟨Nat.zero_le _, Nat.zero_le _⟩) (fun H locs d => ?_)
        refine lv_if_ne (tgt := 67) S.1 S.2.1 dX9_brief_53 (by decide) (fun cc => ?_) (fun cc => ?_)
        · replace h := it_n cc h
          refine lv_iconst (v := 1) S.1 S.2.1 dX9_brief_67 (by decide) ?_
          refine lv_goto (tgt := 72) S.1 S.2.1 dX9_brief_68 (by decide) ?_
          obtain ej := Option.some.inj h
          refine r_top ej.symm ?_
          exact Jt3 _ _ d
        · replace h := it_p cc h
          refine lv_aload_n S.1 S.2.1 dX9_brief_56 rfl (lv_at hl 0 rfl) ?_
          refine lv_iload_n S.1 S.2.1 dX9_brief_57 rfl (lv_at hl 1 rfl) ?_
          refine lv_iload_n S.1 S.2.1 dX9_brief_58 rfl (lv_at hl 3 rfl) ?_
          refine lv_iload S.1 S.2.1 dX9_brief_59 (lv_at hl 5 rfl) ?_
          obtain ⟨u6, hu6, h⟩ := bd_e h
          refine r_ri d (r_cV (As := [.int b1, .int b3, .int x5]) (rest := []) S d (c_X9_isIn l G M L fu b0 b1 b3 x5 hb0 hu6) (ksdM S hb0) (wc_20 hb0) rfl ml_RX9_227 im_yX9_isIn se_yX9_isIn in_RX9 co_yX9_isIn hyV_X9_isIn ⟨rfl, rfl⟩ ⟨by decide, by decide⟩ rfl hl rfl (Nat.le_of_ble_eq_true rfl) dX9_brief_61 ⟨Nat.zero_le _, Nat.zero_le _⟩) (fun H locs d => ?_)
          refine lv_if_ne (tgt := 71) S.1 S.2.1 dX9_brief_64 (by decide) (fun cc => ?_) (fun cc => ?_)
          · replace h := it_n cc h
            refine lv_iconst (v := 0) S.1 S.2.1 dX9_brief_71 (by decide) ?_
            obtain ej := Option.some.inj h
            refine r_top ej.symm ?_
            exact Jt3 _ _ d
          · replace h := it_p cc h
            refine lv_iconst (v := 1) S.1 S.2.1 dX9_brief_67 (by decide) ?_
            refine lv_goto (tgt := 72) S.1 S.2.1 dX9_brief_68 (by decide) ?_
            obtain ej := Option.some.inj h
            refine r_top ej.symm ?_
            exact Jt3 _ _ d
set_option maxHeartbeats 4000000 in
set_option maxRecDepth 100000 in
theorem lc_X9_brief_15 {p : Program} {l : Launch} {e : Env} {s : State} {m : MethodId} {args : Array Value} {below : List Frame} {meth : Method} {c : Code} {G : Gx} {M : Mem} {L : MemL} {fu : Nat} {b0 : Nat} {b1 : Int32} {z : Int32} (S : Sx G true p s m args meth c cX9_brief 6 RX9) (hr : meth.sig.returnType = (Option.some Jvm.ClassFile.FieldType.int)) (hb0 : kd b0 = 20) (K : Int32 → Option (Int32)) (hK : ∀ (y2 : Int32) (H : Heap) (locs : List Loc), Dy G s M L H locs → ∀ ls : Array Slot, lv_has ls 6 [(2, .int y2)] → K y2 = some z → W p l e rm_X9_brief s m args below meth c H locs 0 0 (MQ below (Qi G z M L) args s 0 0 (gA G)) (F0 m 112 ls [])) :
    ∀ (n : Nat) (x2 : Int32) (x3 : Int32), lp_X9_brief_15 fu M b0 b1 K n x2 x3 = some z → ∀ (H : Heap) (locs : List Loc), Dy G s M L H locs → ∀ ls : Array Slot, lv_has ls 6 [(0, .ref (ad G b0)), (1, .int b1), (2, .int x2), (3, .int x3)] → W p l e rm_X9_brief s m args below meth c H locs 0 0 (MQ below (Qi G z M L) args s 0 0 (gA G)) (F0 m 15 ls []) := by
  intro n
  induction n with
  | zero =>
    intro x2 x3 h
    have h : (none : Option (Int32)) = some z := h
    cases h
  | succ n ih =>
    intro x2 x3 h H locs d ls hl
    rw [lp_X9_brief_15] at h
    refine lv_iload_n S.1 S.2.1 dX9_brief_15 rfl (lv_at hl 3 rfl) ?_
    refine lv_iconst (v := 1) S.1 S.2.1 dX9_brief_16 (by decide) ?_
    refine lv_aload_n S.1 S.2.1 dX9_brief_17 rfl (lv_at hl 0 rfl) ?_
    refine lv_iload_n S.1 S.2.1 dX9_brief_18 rfl (lv_at hl 1 rfl) ?_
    obtain ⟨u2, hu2, h⟩ := bd_e h
    refine r_ri d (r_cV (As := [.int b1]) (rest := [.int (1 : Int32), .int x3]) S d (c_X9_sizeOf l G M L b0 b1 hb0 hu2) (ksdM S hb0) (wc_20 hb0) rfl ml_RX9_179 im_yX9_sizeOf se_yX9_sizeOf in_RX9 co_yX9_sizeOf hyV_X9_sizeOf ⟨rfl, rfl⟩ ⟨by decide, by decide⟩ rfl hl rfl (Nat.le_of_ble_eq_true rfl) dX9_brief_19 ⟨Nat.zero_le _, Nat.zero_le _⟩) (fun H locs d => ?_)
    refine lv_ishl S.1 S.2.1 dX9_brief_22 ?_
    refine lv_icmp_ge (tgt := 112) S.1 S.2.1 dX9_brief_23 (by decide) (fun cc => ?_) (fun cc => ?_)
    · replace h := it_p cc h
      exact hK _ _ _ d _ (lv_sub hl [2] rfl) h
    · replace h := it_n cc h
      refine lv_iconst (v := 1) S.1 S.2.1 dX9_brief_26 (by decide) ?_
      refine lv_istore (lv' := [(4, .int (1 : Int32)), (0, .ref (ad G b0)), (1, .int b1), (2, .int x2), (3, .int x3)]) S.1 S.2.1 dX9_brief_27 hl (by decide) rfl (fun ls hl => ?_)
      refine lv_iconst (v := 0) S.1 S.2.1 dX9_brief_29 (by decide) ?_
      refine lv_istore (lv' := [(5, .int (0 : Int32)), (4, .int (1 : Int32)), (0, .ref (ad G b0)), (1, .int b1), (2, .int x2), (3, .int x3)]) S.1 S.2.1 dX9_brief_30 hl (by decide) rfl (fun ls hl => ?_)
      refine lc_X9_brief_32 S hr hb0 _ (fun v8 H locs d ls hl h => ?_) _ _ _  h _ _ d _ (lv_sub hl [2, 3, 4, 5, 1, 0] rfl)
      refine lv_iload S.1 S.2.1 dX9_brief_80 (lv_at hl 4 rfl) ?_
      obtain ⟨t9, g10, h⟩ := bd_e h
      have Jt9 : ∀ (H : Heap) (locs : List Loc), Dy G s M L H locs → W p l e rm_X9_brief s m args below meth c H locs 0 0 (MQ below (Qi G z M L) args s 0 0 (gA G)) (F0 m 105 ls [.int t9]) := by
        intro H locs d
        refine lv_istore_n (lv' := [(2, .int t9), (0, .ref (ad G b0)), (1, .int b1), (3, .int x3), (4, .int v8)]) S.1 S.2.1 dX9_brief_105 rfl hl (by decide) rfl (fun ls hl => ?_)
        obtain ⟨v13, ev13, h⟩ := lt_e h
        refine lv_iinc (v := v13) (lv' := [(3, .int v13), (2, .int t9), (0, .ref (ad G b0)), (1, .int b1), (4, .int v8)]) S.1 S.2.1 dX9_brief_106 hl (k := 3) rfl (by rw [ev13]; rfl) (by decide) rfl (fun ls hl => ?_)
        refine lv_goto (tgt := 15) S.1 S.2.1 dX9_brief_109 (by decide) ?_
        exact ih _ _ h _ _ d _ (lv_sub hl [2, 3, 1, 0] rfl)
      have h := g10
      refine lv_if_eq (tgt := 104) S.1 S.2.1 dX9_brief_82 (by decide) (fun cc => ?_) (fun cc => ?_)
      · replace h := it_p cc h
        refine lv_iload_n S.1 S.2.1 dX9_brief_104 rfl (lv_at hl 2 rfl) ?_
        obtain ej := Option.some.inj h
        refine r_top ej.symm ?_
        exact Jt9 _ _ d
      · replace h := it_n cc h
        refine lv_iload_n S.1 S.2.1 dX9_brief_85 rfl (lv_at hl 2 rfl) ?_
        refine lv_if_lt (tgt := 100) S.1 S.2.1 dX9_brief_86 (by decide) (fun cc => ?_) (fun cc => ?_)
        · replace h := it_p cc h
          refine lv_iload_n S.1 S.2.1 dX9_brief_100 rfl (lv_at hl 3 rfl) ?_
          refine lv_goto (tgt := 105) S.1 S.2.1 dX9_brief_101 (by decide) ?_
          obtain ej := Option.some.inj h
          refine r_top ej.symm ?_
          exact Jt9 _ _ d
        · replace h := it_n cc h
          refine lv_iload_n S.1 S.2.1 dX9_brief_89 rfl (lv_at hl 3 rfl) ?_
          obtain ⟨u11, hu11, h⟩ := bd_e h
          refine r_ri d (r_cS (As := [.int x3]) (rest := []) S d (c_X9_ones l G M L fu x3 hu11) ml_RX9_108 sm_yX9_ones in_RX9 co_yX9_ones hyS_X9_ones ⟨rfl, rfl⟩ ⟨by decide, by decide⟩ rfl hl rfl (Nat.le_of_ble_eq_true rfl) dX9_brief_90 ⟨Nat.zero_le _, Nat.zero_le _⟩) (fun H locs d => ?_)
          refine lv_iload_n S.1 S.2.1 dX9_brief_93 rfl (lv_at hl 2 rfl) ?_
          obtain ⟨u12, hu12, h⟩ := bd_e h
          refine r_ri d (r_cS (As := [.int x2]) (rest := [.int u11]) S d (c_X9_ones l G M L fu x2 hu12) ml_RX9_108 sm_yX9_ones in_RX9 co_yX9_ones hyS_X9_ones ⟨rfl, rfl⟩ ⟨by decide, by decide⟩ rfl hl rfl (Nat.le_of_ble_eq_true rfl) dX9_brief_94 ⟨Nat.zero_le _, Nat.zero_le _⟩) (fun H locs d => ?_)
          refine lv_icmp_ge (tgt := 104) S.1 S.2.1 dX9_brief_97 (by decide) (fun cc => ?_) (fun cc => ?_)
          · replace h := it_p cc h
            refine lv_iload_n S.1 S.2.1 dX9_brief_104 rfl (lv_at hl 2 rfl) ?_
            obtain ej := Option.some.inj h
            refine r_top ej.symm ?_
            exact Jt9 _ _ d
          · replace h := it_n cc h
            refine lv_iload_n S.1 S.2.1 dX9_brief_100 rfl (lv_at hl 3 rfl) ?_
            refine lv_goto (tgt := 105) S.1 S.2.1 dX9_brief_101 (by decide) ?_
            obtain ej := Option.some.inj h
            refine r_top ej.symm ?_
            exact Jt9 _ _ d
set_option maxHeartbeats 4000000 in
set_option maxRecDepth 100000 in
theorem c_X9_brief (l : Launch) (G : Gx) (M : Mem) (L : MemL) (fu : Nat) (k0 : Nat) (a1 : Int32) (hk0 : kd k0 = 20) {z : Int32} (h : f_X9_brief fu M k0 a1 = some z) : Met l yX9_brief (.code yX9_brief cX9_brief 6 (Option.some Jvm.ClassFile.FieldType.int) :: UW) rm_X9_brief (va_Pc [.ref (ad G k0), .int a1] (PreG G true M L)) (Qi G z M L) 0 0 (gA G) := by
  refine r_in (by decide) (fun p e s m args below meth c S hr d ha ls hl => ?_) (Nat.le_of_ble_eq_true rfl)
  have S : Sx G true p s m args meth c cX9_brief 6 RX9 := S
  have hl : lv_has ls 6 [(0, .ref (ad G k0)), (1, .int a1)] := hl
  unfold f_X9_brief at h
  refine lv_aload_n S.1 S.2.1 dX9_brief_0 rfl (lv_at hl 0 rfl) ?_
  refine lv_iload_n S.1 S.2.1 dX9_brief_1 rfl (lv_at hl 1 rfl) ?_
  obtain ⟨u1, hu1, h⟩ := bd_e h
  refine r_ri d (r_cV (As := [.int a1]) (rest := []) S d (c_X9_isWord l G M L k0 a1 hk0 hu1) (ksdM S hk0) (wc_20 hk0) rfl ml_RX9_174 im_yX9_isWord se_yX9_isWord in_RX9 co_yX9_isWord hyV_X9_isWord ⟨rfl, rfl⟩ ⟨by decide, by decide⟩ rfl hl rfl (Nat.le_of_ble_eq_true rfl) dX9_brief_2 ⟨Nat.zero_le _, Nat.zero_le _⟩) (fun H locs d => ?_)
  refine lv_if_ne (tgt := 10) S.1 S.2.1 dX9_brief_5 (by decide) (fun cc => ?_) (fun cc => ?_)
  · replace h := it_n cc h
    refine lv_bipush (v := (-4)) S.1 S.2.1 dX9_brief_10 (by decide) ?_
    refine lv_istore_n (lv' := [(2, .int (-4 : Int32)), (0, .ref (ad G k0)), (1, .int a1)]) S.1 S.2.1 dX9_brief_12 rfl hl (by decide) rfl (fun ls hl => ?_)
    refine lv_iconst (v := 1) S.1 S.2.1 dX9_brief_13 (by decide) ?_
    refine lv_istore_n (lv' := [(3, .int (1 : Int32)), (2, .int (-4 : Int32)), (0, .ref (ad G k0)), (1, .int a1)]) S.1 S.2.1 dX9_brief_14 rfl hl (by decide) rfl (fun ls hl => ?_)
    refine lc_X9_brief_15 S hr hk0 _ (fun v14 H locs d ls hl h => ?_) _ _ _  h _ _ d _ (lv_sub hl [2, 3, 1, 0] rfl)
    refine lv_iload_n S.1 S.2.1 dX9_brief_112 rfl (lv_at hl 0 rfl) ?_
    obtain rfl := Option.some.inj h
    exact r_iret S d hr rfl rfl dX9_brief_113
  · replace h := it_p cc h
    refine lv_iconst (v := (-1)) S.1 S.2.1 dX9_brief_8 (by decide) ?_
    obtain rfl := Option.some.inj h
    exact r_iret S d hr rfl rfl dX9_brief_9
theorem hyV_X9_carried : yX9_carried.cls = RX9 ∧ yX9_carried.cls ≠ "java/lang/invoke/MethodHandle" ∧ yX9_carried.cls ≠ "java/lang/invoke/VarHandle" ∧ (parseMethodDescriptor yX9_carried.desc).map (fun d => d.parameters.length) = some 3 := by decide +kernel
abbrev rm_X9_carried : Room := { frames := 0, cells := 0, slots := 0, locals := 0 }
def f_X9_carried (M : Mem) (k0 : Nat) (a1 : Int32) (a2 : Int32) (a3 : Int32) : Option (Int32 × Mem) :=
  (if (9 : Int32) ≤ a1 then lt (a1 + (-9)) (fun v7 : Int32 =>
    (if (135 : Int32) ≤ v7 then lt (v7 + (-135)) (fun v14 : Int32 =>
      (if (6 : Int32) ≤ v14 then lt (v14 + (-6)) (fun v21 : Int32 =>
        (if (4 : Int32) ≤ v21 then lt (v21 + (-4)) (fun v28 : Int32 =>
          (if (36 : Int32) ≤ v28 then lt (v28 + (-36)) (fun v35 : Int32 =>
            (if a3 = 0 then gd (inb v35 80) (
              some (M (k0 + 7) v35.toNatClampNeg))
            else some a2).bind (fun t36 : Int32 =>
            gd (inb v35 80) (
            lt (up M (k0 + 7) v35.toNatClampNeg t36) (fun M40 : Mem =>
            gd (inb v35 80) (
            some ((M40 (k0 + 7) v35.toNatClampNeg), M40))))))
          else (if a3 = 0 then gd (inb v28 36) (
              some (M (k0 + 6) v28.toNatClampNeg))
            else some a2).bind (fun t29 : Int32 =>
            gd (inb v28 36) (
            lt (up M (k0 + 6) v28.toNatClampNeg t29) (fun M33 : Mem =>
            gd (inb v28 36) (
            some ((M33 (k0 + 6) v28.toNatClampNeg), M33)))))))
        else (if a3 = 0 then gd (inb v21 4) (
            some (M (k0 + 5) v21.toNatClampNeg))
          else some a2).bind (fun t22 : Int32 =>
          gd (inb v21 4) (
          lt (up M (k0 + 5) v21.toNatClampNeg t22) (fun M26 : Mem =>
          gd (inb v21 4) (
          some ((M26 (k0 + 5) v21.toNatClampNeg), M26)))))))
      else (if a3 = 0 then gd (inb v14 6) (
          some (M (k0 + 4) v14.toNatClampNeg))
        else some a2).bind (fun t15 : Int32 =>
        gd (inb v14 6) (
        lt (up M (k0 + 4) v14.toNatClampNeg t15) (fun M19 : Mem =>
        gd (inb v14 6) (
        some ((M19 (k0 + 4) v14.toNatClampNeg), M19)))))))
    else (if a3 = 0 then gd (inb v7 135) (
        some (M (k0 + 3) v7.toNatClampNeg))
      else some a2).bind (fun t8 : Int32 =>
      gd (inb v7 135) (
      lt (up M (k0 + 3) v7.toNatClampNeg t8) (fun M12 : Mem =>
      gd (inb v7 135) (
      some ((M12 (k0 + 3) v7.toNatClampNeg), M12)))))))
  else (if a3 = 0 then gd (inb a1 9) (
      some (M (k0 + 2) a1.toNatClampNeg))
    else some a2).bind (fun t1 : Int32 =>
    gd (inb a1 9) (
    lt (up M (k0 + 2) a1.toNatClampNeg t1) (fun M5 : Mem =>
    gd (inb a1 9) (
    some ((M5 (k0 + 2) a1.toNatClampNeg), M5))))))
set_option maxHeartbeats 4000000 in
set_option maxRecDepth 100000 in
theorem c_X9_carried (l : Launch) (G : Gx) (M : Mem) (L : MemL) (k0 : Nat) (a1 : Int32) (a2 : Int32) (a3 : Int32) (hk0 : kd k0 = 20) {z : Int32 × Mem} (h : f_X9_carried M k0 a1 a2 a3 = some z) : Met l yX9_carried (.code yX9_carried cX9_carried 5 (Option.some Jvm.ClassFile.FieldType.int) :: UW) rm_X9_carried (va_Pc [.ref (ad G k0), .int a1, .int a2, .int a3] (PreG G true M L)) (Qi G z.1 z.2 L) 0 0 (gA G) := by
  refine r_in (by decide) (fun p e s m args below meth c S hr d ha ls hl => ?_) (Nat.le_of_ble_eq_true rfl)
  have S : Sx G true p s m args meth c cX9_carried 5 RX9 := S
  have hl : lv_has ls 5 [(0, .ref (ad G k0)), (1, .int a1), (2, .int a2), (3, .int a3)] := hl
  unfold f_X9_carried at h
  refine lv_iload_n S.1 S.2.1 dX9_carried_0 rfl (lv_at hl 1 rfl) ?_
  refine lv_istore (lv' := [(4, .int a1), (0, .ref (ad G k0)), (1, .int a1), (2, .int a2), (3, .int a3)]) S.1 S.2.1 dX9_carried_1 hl (by decide) rfl (fun ls hl => ?_)
  refine lv_iload S.1 S.2.1 dX9_carried_3 (lv_at hl 0 rfl) ?_
  refine lv_bipush (v := 9) S.1 S.2.1 dX9_carried_5 (by decide) ?_
  refine lv_icmp_ge (tgt := 40) S.1 S.2.1 dX9_carried_7 (by decide) (fun cc => ?_) (fun cc => ?_)
  · replace h := it_p cc h
    obtain ⟨v7, ev7, h⟩ := lt_e h
    refine lv_iinc (v := v7) (lv' := [(4, .int v7), (0, .ref (ad G k0)), (1, .int a1), (2, .int a2), (3, .int a3)]) S.1 S.2.1 dX9_carried_40 hl (k := 0) rfl (by rw [ev7]; exact congrArg (fun q : Int32 => _ + q) (by decide +kernel : Int32.ofInt (-9) = -9)) (by decide) rfl (fun ls hl => ?_)
    refine lv_iload S.1 S.2.1 dX9_carried_43 (lv_at hl 0 rfl) ?_
    refine lv_sipush (v := 135) S.1 S.2.1 dX9_carried_45 (by decide) ?_
    refine lv_icmp_ge (tgt := 81) S.1 S.2.1 dX9_carried_48 (by decide) (fun cc => ?_) (fun cc => ?_)
    · replace h := it_p cc h
      obtain ⟨v14, ev14, h⟩ := lt_e h
      refine lv_iincW (v := v14) (lv' := [(4, .int v14), (0, .ref (ad G k0)), (1, .int a1), (2, .int a2), (3, .int a3)]) S.1 S.2.1 dX9_carried_81 hl (k := 0) rfl (by rw [ev14]; exact congrArg (fun q : Int32 => _ + q) (by decide +kernel : Int32.ofInt (-135) = -135)) (by decide) rfl (fun ls hl => ?_)
      refine lv_iload S.1 S.2.1 dX9_carried_87 (lv_at hl 0 rfl) ?_
      refine lv_bipush (v := 6) S.1 S.2.1 dX9_carried_89 (by decide) ?_
      refine lv_icmp_ge (tgt := 124) S.1 S.2.1 dX9_carried_91 (by decide) (fun cc => ?_) (fun cc => ?_)
      · replace h := it_p cc h
        obtain ⟨v21, ev21, h⟩ := lt_e h
        refine lv_iinc (v := v21) (lv' := [(4, .int v21), (0, .ref (ad G k0)), (1, .int a1), (2, .int a2), (3, .int a3)]) S.1 S.2.1 dX9_carried_124 hl (k := 0) rfl (by rw [ev21]; rfl) (by decide) rfl (fun ls hl => ?_)
        refine lv_iload S.1 S.2.1 dX9_carried_127 (lv_at hl 0 rfl) ?_
        refine lv_iconst (v := 4) S.1 S.2.1 dX9_carried_129 (by decide) ?_
        refine lv_icmp_ge (tgt := 163) S.1 S.2.1 dX9_carried_130 (by decide) (fun cc => ?_) (fun cc => ?_)
        · replace h := it_p cc h
          obtain ⟨v28, ev28, h⟩ := lt_e h
          refine lv_iinc (v := v28) (lv' := [(4, .int v28), (0, .ref (ad G k0)), (1, .int a1), (2, .int a2), (3, .int a3)]) S.1 S.2.1 dX9_carried_163 hl (k := 0) rfl (by rw [ev28]; rfl) (by decide) rfl (fun ls hl => ?_)
          refine lv_iload S.1 S.2.1 dX9_carried_166 (lv_at hl 0 rfl) ?_
          refine lv_bipush (v := 36) S.1 S.2.1 dX9_carried_168 (by decide) ?_
          refine lv_icmp_ge (tgt := 203) S.1 S.2.1 dX9_carried_170 (by decide) (fun cc => ?_) (fun cc => ?_)
          · replace h := it_p cc h
            obtain ⟨v35, ev35, h⟩ := lt_e h
            refine lv_iinc (v := v35) (lv' := [(4, .int v35), (0, .ref (ad G k0)), (1, .int a1), (2, .int a2), (3, .int a3)]) S.1 S.2.1 dX9_carried_203 hl (k := 0) rfl (by rw [ev35]; exact congrArg (fun q : Int32 => _ + q) (by decide +kernel : Int32.ofInt (-36) = -36)) (by decide) rfl (fun ls hl => ?_)
            refine lv_aload_n S.1 S.2.1 dX9_carried_206 rfl (lv_at hl 1 rfl) ?_
            refine gf_20_6 S d hk0 fl_RX9_28 dX9_carried_207 ?_
            refine lv_iload S.1 S.2.1 dX9_carried_210 (lv_at hl 0 rfl) ?_
            refine lv_iload_n S.1 S.2.1 dX9_carried_212 rfl (lv_at hl 4 rfl) ?_
            obtain ⟨t36, g37, h⟩ := bd_e h
            have Jt36 : ∀ (H : Heap) (locs : List Loc), Dy G s M L H locs → W p l e rm_X9_carried s m args below meth c H locs 0 0 (MQ below (Qi G z.1 z.2 L) args s 0 0 (gA G)) (F0 m 227 ls [.int t36, .int v35, .ref (ad G (k0 + 7))]) := by
              intro H locs d
              obtain ⟨g39, h⟩ := gd_e h
              obtain ⟨M40, eM40, h⟩ := lt_e h
              refine r_iast S d eM40 (ksdM S (ch_20_6 hk0).1) (fun _ => wc_21 (ch_20_6 hk0).1) (ch_20_6 hk0).2 g39 dX9_carried_227 (fun H locs d => ?_)
              refine lv_aload_n S.1 S.2.1 dX9_carried_228 rfl (lv_at hl 1 rfl) ?_
              refine gf_20_6 S d hk0 fl_RX9_28 dX9_carried_229 ?_
              refine lv_iload S.1 S.2.1 dX9_carried_232 (lv_at hl 0 rfl) ?_
              obtain ⟨g41, h⟩ := gd_e h
              refine r_iald S d (ksdM S (ch_20_6 hk0).1) (wc_21 (ch_20_6 hk0).1) (ch_20_6 hk0).2 g41 dX9_carried_234 ?_
              obtain rfl := Option.some.inj h
              exact r_iret S d hr rfl rfl dX9_carried_235
            have h := g37
            refine lv_if_eq (tgt := 220) S.1 S.2.1 dX9_carried_213 (by decide) (fun cc => ?_) (fun cc => ?_)
            · replace h := it_p cc h
              refine lv_aload_n S.1 S.2.1 dX9_carried_220 rfl (lv_at hl 1 rfl) ?_
              refine gf_20_6 S d hk0 fl_RX9_28 dX9_carried_221 ?_
              refine lv_iload S.1 S.2.1 dX9_carried_224 (lv_at hl 0 rfl) ?_
              obtain ⟨g38, h⟩ := gd_e h
              refine r_iald S d (ksdM S (ch_20_6 hk0).1) (wc_21 (ch_20_6 hk0).1) (ch_20_6 hk0).2 g38 dX9_carried_226 ?_
              obtain ej := Option.some.inj h
              refine r_top ej.symm ?_
              exact Jt36 _ _ d
            · replace h := it_n cc h
              refine lv_iload_n S.1 S.2.1 dX9_carried_216 rfl (lv_at hl 3 rfl) ?_
              refine lv_goto (tgt := 227) S.1 S.2.1 dX9_carried_217 (by decide) ?_
              obtain ej := Option.some.inj h
              refine r_top ej.symm ?_
              exact Jt36 _ _ d
          · replace h := it_n cc h
            refine lv_aload_n S.1 S.2.1 dX9_carried_173 rfl (lv_at hl 1 rfl) ?_
            refine gf_20_5 S d hk0 fl_RX9_25 dX9_carried_174 ?_
            refine lv_iload S.1 S.2.1 dX9_carried_177 (lv_at hl 0 rfl) ?_
            refine lv_iload_n S.1 S.2.1 dX9_carried_179 rfl (lv_at hl 4 rfl) ?_
            obtain ⟨t29, g30, h⟩ := bd_e h
            have Jt29 : ∀ (H : Heap) (locs : List Loc), Dy G s M L H locs → W p l e rm_X9_carried s m args below meth c H locs 0 0 (MQ below (Qi G z.1 z.2 L) args s 0 0 (gA G)) (F0 m 194 ls [.int t29, .int v28, .ref (ad G (k0 + 6))]) := by
              intro H locs d
              obtain ⟨g32, h⟩ := gd_e h
              obtain ⟨M33, eM33, h⟩ := lt_e h
              refine r_iast S d eM33 (ksdM S (ch_20_5 hk0).1) (fun _ => wc_21 (ch_20_5 hk0).1) (ch_20_5 hk0).2 g32 dX9_carried_194 (fun H locs d => ?_)
              refine lv_aload_n S.1 S.2.1 dX9_carried_195 rfl (lv_at hl 1 rfl) ?_
              refine gf_20_5 S d hk0 fl_RX9_25 dX9_carried_196 ?_
              refine lv_iload S.1 S.2.1 dX9_carried_199 (lv_at hl 0 rfl) ?_
              obtain ⟨g34, h⟩ := gd_e h
              refine r_iald S d (ksdM S (ch_20_5 hk0).1) (wc_21 (ch_20_5 hk0).1) (ch_20_5 hk0).2 g34 dX9_carried_201 ?_
              obtain rfl := Option.some.inj h
              exact r_iret S d hr rfl rfl dX9_carried_202
            have h := g30
            refine lv_if_eq (tgt := 187) S.1 S.2.1 dX9_carried_180 (by decide) (fun cc => ?_) (fun cc => ?_)
            · replace h := it_p cc h
              refine lv_aload_n S.1 S.2.1 dX9_carried_187 rfl (lv_at hl 1 rfl) ?_
              refine gf_20_5 S d hk0 fl_RX9_25 dX9_carried_188 ?_
              refine lv_iload S.1 S.2.1 dX9_carried_191 (lv_at hl 0 rfl) ?_
              obtain ⟨g31, h⟩ := gd_e h
              refine r_iald S d (ksdM S (ch_20_5 hk0).1) (wc_21 (ch_20_5 hk0).1) (ch_20_5 hk0).2 g31 dX9_carried_193 ?_
              obtain ej := Option.some.inj h
              refine r_top ej.symm ?_
              exact Jt29 _ _ d
            · replace h := it_n cc h
              refine lv_iload_n S.1 S.2.1 dX9_carried_183 rfl (lv_at hl 3 rfl) ?_
              refine lv_goto (tgt := 194) S.1 S.2.1 dX9_carried_184 (by decide) ?_
              obtain ej := Option.some.inj h
              refine r_top ej.symm ?_
              exact Jt29 _ _ d
        · replace h := it_n cc h
          refine lv_aload_n S.1 S.2.1 dX9_carried_133 rfl (lv_at hl 1 rfl) ?_
          refine gf_20_4 S d hk0 fl_RX9_22 dX9_carried_134 ?_
          refine lv_iload S.1 S.2.1 dX9_carried_137 (lv_at hl 0 rfl) ?_
          refine lv_iload_n S.1 S.2.1 dX9_carried_139 rfl (lv_at hl 4 rfl) ?_
          obtain ⟨t22, g23, h⟩ := bd_e h
          have Jt22 : ∀ (H : Heap) (locs : List Loc), Dy G s M L H locs → W p l e rm_X9_carried s m args below meth c H locs 0 0 (MQ below (Qi G z.1 z.2 L) args s 0 0 (gA G)) (F0 m 154 ls [.int t22, .int v21, .ref (ad G (k0 + 5))]) := by
            intro H locs d
            obtain ⟨g25, h⟩ := gd_e h
            obtain ⟨M26, eM26, h⟩ := lt_e h
            refine r_iast S d eM26 (ksdM S (ch_20_4 hk0).1) (fun _ => wc_21 (ch_20_4 hk0).1) (ch_20_4 hk0).2 g25 dX9_carried_154 (fun H locs d => ?_)
            refine lv_aload_n S.1 S.2.1 dX9_carried_155 rfl (lv_at hl 1 rfl) ?_
            refine gf_20_4 S d hk0 fl_RX9_22 dX9_carried_156 ?_
            refine lv_iload S.1 S.2.1 dX9_carried_159 (lv_at hl 0 rfl) ?_
            obtain ⟨g27, h⟩ := gd_e h
            refine r_iald S d (ksdM S (ch_20_4 hk0).1) (wc_21 (ch_20_4 hk0).1) (ch_20_4 hk0).2 g27 dX9_carried_161 ?_
            obtain rfl := Option.some.inj h
            exact r_iret S d hr rfl rfl dX9_carried_162
          have h := g23
          refine lv_if_eq (tgt := 147) S.1 S.2.1 dX9_carried_140 (by decide) (fun cc => ?_) (fun cc => ?_)
          · replace h := it_p cc h
            refine lv_aload_n S.1 S.2.1 dX9_carried_147 rfl (lv_at hl 1 rfl) ?_
            refine gf_20_4 S d hk0 fl_RX9_22 dX9_carried_148 ?_
            refine lv_iload S.1 S.2.1 dX9_carried_151 (lv_at hl 0 rfl) ?_
            obtain ⟨g24, h⟩ := gd_e h
            refine r_iald S d (ksdM S (ch_20_4 hk0).1) (wc_21 (ch_20_4 hk0).1) (ch_20_4 hk0).2 g24 dX9_carried_153 ?_
            obtain ej := Option.some.inj h
            refine r_top ej.symm ?_
            exact Jt22 _ _ d
          · replace h := it_n cc h
            refine lv_iload_n S.1 S.2.1 dX9_carried_143 rfl (lv_at hl 3 rfl) ?_
            refine lv_goto (tgt := 154) S.1 S.2.1 dX9_carried_144 (by decide) ?_
            obtain ej := Option.some.inj h
            refine r_top ej.symm ?_
            exact Jt22 _ _ d
      · replace h := it_n cc h
        refine lv_aload_n S.1 S.2.1 dX9_carried_94 rfl (lv_at hl 1 rfl) ?_
        refine gf_20_3 S d hk0 fl_RX9_19 dX9_carried_95 ?_
        refine lv_iload S.1 S.2.1 dX9_carried_98 (lv_at hl 0 rfl) ?_
        refine lv_iload_n S.1 S.2.1 dX9_carried_100 rfl (lv_at hl 4 rfl) ?_
        obtain ⟨t15, g16, h⟩ := bd_e h
        have Jt15 : ∀ (H : Heap) (locs : List Loc), Dy G s M L H locs → W p l e rm_X9_carried s m args below meth c H locs 0 0 (MQ below (Qi G z.1 z.2 L) args s 0 0 (gA G)) (F0 m 115 ls [.int t15, .int v14, .ref (ad G (k0 + 4))]) := by
          intro H locs d
          obtain ⟨g18, h⟩ := gd_e h
          obtain ⟨M19, eM19, h⟩ := lt_e h
          refine r_iast S d eM19 (ksdM S (ch_20_3 hk0).1) (fun _ => wc_21 (ch_20_3 hk0).1) (ch_20_3 hk0).2 g18 dX9_carried_115 (fun H locs d => ?_)
          refine lv_aload_n S.1 S.2.1 dX9_carried_116 rfl (lv_at hl 1 rfl) ?_
          refine gf_20_3 S d hk0 fl_RX9_19 dX9_carried_117 ?_
          refine lv_iload S.1 S.2.1 dX9_carried_120 (lv_at hl 0 rfl) ?_
          obtain ⟨g20, h⟩ := gd_e h
          refine r_iald S d (ksdM S (ch_20_3 hk0).1) (wc_21 (ch_20_3 hk0).1) (ch_20_3 hk0).2 g20 dX9_carried_122 ?_
          obtain rfl := Option.some.inj h
          exact r_iret S d hr rfl rfl dX9_carried_123
        have h := g16
        refine lv_if_eq (tgt := 108) S.1 S.2.1 dX9_carried_101 (by decide) (fun cc => ?_) (fun cc => ?_)
        · replace h := it_p cc h
          refine lv_aload_n S.1 S.2.1 dX9_carried_108 rfl (lv_at hl 1 rfl) ?_
          refine gf_20_3 S d hk0 fl_RX9_19 dX9_carried_109 ?_
          refine lv_iload S.1 S.2.1 dX9_carried_112 (lv_at hl 0 rfl) ?_
          obtain ⟨g17, h⟩ := gd_e h
          refine r_iald S d (ksdM S (ch_20_3 hk0).1) (wc_21 (ch_20_3 hk0).1) (ch_20_3 hk0).2 g17 dX9_carried_114 ?_
          obtain ej := Option.some.inj h
          refine r_top ej.symm ?_
          exact Jt15 _ _ d
        · replace h := it_n cc h
          refine lv_iload_n S.1 S.2.1 dX9_carried_104 rfl (lv_at hl 3 rfl) ?_
          refine lv_goto (tgt := 115) S.1 S.2.1 dX9_carried_105 (by decide) ?_
          obtain ej := Option.some.inj h
          refine r_top ej.symm ?_
          exact Jt15 _ _ d
    · replace h := it_n cc h
      refine lv_aload_n S.1 S.2.1 dX9_carried_51 rfl (lv_at hl 1 rfl) ?_
      refine gf_20_2 S d hk0 fl_RX9_16 dX9_carried_52 ?_
      refine lv_iload S.1 S.2.1 dX9_carried_55 (lv_at hl 0 rfl) ?_
      refine lv_iload_n S.1 S.2.1 dX9_carried_57 rfl (lv_at hl 4 rfl) ?_
      obtain ⟨t8, g9, h⟩ := bd_e h
      have Jt8 : ∀ (H : Heap) (locs : List Loc), Dy G s M L H locs → W p l e rm_X9_carried s m args below meth c H locs 0 0 (MQ below (Qi G z.1 z.2 L) args s 0 0 (gA G)) (F0 m 72 ls [.int t8, .int v7, .ref (ad G (k0 + 3))]) := by
        intro H locs d
        obtain ⟨g11, h⟩ := gd_e h
        obtain ⟨M12, eM12, h⟩ := lt_e h
        refine r_iast S d eM12 (ksdM S (ch_20_2 hk0).1) (fun _ => wc_21 (ch_20_2 hk0).1) (ch_20_2 hk0).2 g11 dX9_carried_72 (fun H locs d => ?_)
        refine lv_aload_n S.1 S.2.1 dX9_carried_73 rfl (lv_at hl 1 rfl) ?_
        refine gf_20_2 S d hk0 fl_RX9_16 dX9_carried_74 ?_
        refine lv_iload S.1 S.2.1 dX9_carried_77 (lv_at hl 0 rfl) ?_
        obtain ⟨g13, h⟩ := gd_e h
        refine r_iald S d (ksdM S (ch_20_2 hk0).1) (wc_21 (ch_20_2 hk0).1) (ch_20_2 hk0).2 g13 dX9_carried_79 ?_
        obtain rfl := Option.some.inj h
        exact r_iret S d hr rfl rfl dX9_carried_80
      have h := g9
      refine lv_if_eq (tgt := 65) S.1 S.2.1 dX9_carried_58 (by decide) (fun cc => ?_) (fun cc => ?_)
      · replace h := it_p cc h
        refine lv_aload_n S.1 S.2.1 dX9_carried_65 rfl (lv_at hl 1 rfl) ?_
        refine gf_20_2 S d hk0 fl_RX9_16 dX9_carried_66 ?_
        refine lv_iload S.1 S.2.1 dX9_carried_69 (lv_at hl 0 rfl) ?_
        obtain ⟨g10, h⟩ := gd_e h
        refine r_iald S d (ksdM S (ch_20_2 hk0).1) (wc_21 (ch_20_2 hk0).1) (ch_20_2 hk0).2 g10 dX9_carried_71 ?_
        obtain ej := Option.some.inj h
        refine r_top ej.symm ?_
        exact Jt8 _ _ d
      · replace h := it_n cc h
        refine lv_iload_n S.1 S.2.1 dX9_carried_61 rfl (lv_at hl 3 rfl) ?_
        refine lv_goto (tgt := 72) S.1 S.2.1 dX9_carried_62 (by decide) ?_
        obtain ej := Option.some.inj h
        refine r_top ej.symm ?_
        exact Jt8 _ _ d
  · replace h := it_n cc h
    refine lv_aload_n S.1 S.2.1 dX9_carried_10 rfl (lv_at hl 1 rfl) ?_
    refine gf_20_1 S d hk0 fl_RX9_13 dX9_carried_11 ?_
    refine lv_iload S.1 S.2.1 dX9_carried_14 (lv_at hl 0 rfl) ?_
    refine lv_iload_n S.1 S.2.1 dX9_carried_16 rfl (lv_at hl 4 rfl) ?_
    obtain ⟨t1, g2, h⟩ := bd_e h
    have Jt1 : ∀ (H : Heap) (locs : List Loc), Dy G s M L H locs → W p l e rm_X9_carried s m args below meth c H locs 0 0 (MQ below (Qi G z.1 z.2 L) args s 0 0 (gA G)) (F0 m 31 ls [.int t1, .int a1, .ref (ad G (k0 + 2))]) := by
      intro H locs d
      obtain ⟨g4, h⟩ := gd_e h
      obtain ⟨M5, eM5, h⟩ := lt_e h
      refine r_iast S d eM5 (ksdM S (ch_20_1 hk0).1) (fun _ => wc_21 (ch_20_1 hk0).1) (ch_20_1 hk0).2 g4 dX9_carried_31 (fun H locs d => ?_)
      refine lv_aload_n S.1 S.2.1 dX9_carried_32 rfl (lv_at hl 1 rfl) ?_
      refine gf_20_1 S d hk0 fl_RX9_13 dX9_carried_33 ?_
      refine lv_iload S.1 S.2.1 dX9_carried_36 (lv_at hl 0 rfl) ?_
      obtain ⟨g6, h⟩ := gd_e h
      refine r_iald S d (ksdM S (ch_20_1 hk0).1) (wc_21 (ch_20_1 hk0).1) (ch_20_1 hk0).2 g6 dX9_carried_38 ?_
      obtain rfl := Option.some.inj h
      exact r_iret S d hr rfl rfl dX9_carried_39
    have h := g2
    refine lv_if_eq (tgt := 24) S.1 S.2.1 dX9_carried_17 (by decide) (fun cc => ?_) (fun cc => ?_)
    · replace h := it_p cc h
      refine lv_aload_n S.1 S.2.1 dX9_carried_24 rfl (lv_at hl 1 rfl) ?_
      refine gf_20_1 S d hk0 fl_RX9_13 dX9_carried_25 ?_
      refine lv_iload S.1 S.2.1 dX9_carried_28 (lv_at hl 0 rfl) ?_
      obtain ⟨g3, h⟩ := gd_e h
      refine r_iald S d (ksdM S (ch_20_1 hk0).1) (wc_21 (ch_20_1 hk0).1) (ch_20_1 hk0).2 g3 dX9_carried_30 ?_
      obtain ej := Option.some.inj h
      refine r_top ej.symm ?_
      exact Jt1 _ _ d
    · replace h := it_n cc h
      refine lv_iload_n S.1 S.2.1 dX9_carried_20 rfl (lv_at hl 3 rfl) ?_
      refine lv_goto (tgt := 31) S.1 S.2.1 dX9_carried_21 (by decide) ?_
      obtain ej := Option.some.inj h
      refine r_top ej.symm ?_
      exact Jt1 _ _ d
theorem hyV_X9_image : yX9_image.cls = RX9 ∧ yX9_image.cls ≠ "java/lang/invoke/MethodHandle" ∧ yX9_image.cls ≠ "java/lang/invoke/VarHandle" ∧ (parseMethodDescriptor yX9_image.desc).map (fun d => d.parameters.length) = some 0 := by decide +kernel
abbrev rm_X9_image : Room := { frames := 1, cells := 0, slots := 0, locals := 24 }
def lp_X9_image_2 (fu : Nat) (b0 : Nat) (K : Mem → Option (Int32 × Mem)) : Nat → Int32 → Mem → Option (Int32 × Mem)
  | 0, _, _ => none
  | n + 1, x1, Mx =>
    (if (270 : Int32) ≤ x1 then (K Mx)
    else (f_X9_carried Mx b0 x1 (0 : Int32) (0 : Int32)).bind (fun u1 =>
      gd (inb x1 270) (
      lt (up u1.2 (b0 + 16) x1.toNatClampNeg u1.1) (fun M3 : Mem =>
      lt (x1 + 1) (fun v4 : Int32 =>
      (lp_X9_image_2 fu b0 K n v4 M3))))))
def f_X9_image (fu : Nat) (M : Mem) (k0 : Nat) : Option (Int32 × Mem) :=
  (lp_X9_image_2 fu k0 (fun (M5 : Mem) =>
    gd (inb (0 : Int32) 2) (
    lt (up M5 (k0 + 17) (0 : Int32).toNatClampNeg (M5 k0 7)) (fun M7 : Mem =>
    gd (inb (1 : Int32) 2) (
    lt (up M7 (k0 + 17) (1 : Int32).toNatClampNeg (M7 k0 8)) (fun M9 : Mem =>
    lt (up M9 k0 21 (1 : Int32)) (fun M10 : Mem =>
    some ((1 : Int32), M10))))))) fu (0 : Int32) M)
set_option maxHeartbeats 4000000 in
set_option maxRecDepth 100000 in
theorem lc_X9_image_2 {p : Program} {l : Launch} {e : Env} {s : State} {m : MethodId} {args : Array Value} {below : List Frame} {meth : Method} {c : Code} {G : Gx} {L : MemL} {fu : Nat} {b0 : Nat} {z : Int32 × Mem} (S : Sx G true p s m args meth c cX9_image 2 RX9) (hr : meth.sig.returnType = (Option.some Jvm.ClassFile.FieldType.int)) (hb0 : kd b0 = 20) (K : Mem → Option (Int32 × Mem)) (hK : ∀ (My : Mem) (H : Heap) (locs : List Loc), Dy G s My L H locs → ∀ ls : Array Slot, lv_has ls 2 [(0, .ref (ad G b0))] → K My = some z → W p l e rm_X9_image s m args below meth c H locs 0 0 (MQ below (Qi G z.1 z.2 L) args s 0 0 (gA G)) (F0 m 28 ls [])) :
    ∀ (n : Nat) (x1 : Int32) (Mx : Mem), lp_X9_image_2 fu b0 K n x1 Mx = some z → ∀ (H : Heap) (locs : List Loc), Dy G s Mx L H locs → ∀ ls : Array Slot, lv_has ls 2 [(0, .ref (ad G b0)), (1, .int x1)] → W p l e rm_X9_image s m args below meth c H locs 0 0 (MQ below (Qi G z.1 z.2 L) args s 0 0 (gA G)) (F0 m 2 ls []) := by
  intro n
  induction n with
  | zero =>
    intro x1 Mx h
    have h : (none : Option (Int32 × Mem)) = some z := h
    cases h
  | succ n ih =>
    intro x1 Mx h H locs d ls hl
    rw [lp_X9_image_2] at h
    refine lv_iload_n S.1 S.2.1 dX9_image_2 rfl (lv_at hl 1 rfl) ?_
    refine lv_sipush (v := 270) S.1 S.2.1 dX9_image_3 (by decide) ?_
    refine lv_icmp_ge (tgt := 28) S.1 S.2.1 dX9_image_6 (by decide) (fun cc => ?_) (fun cc => ?_)
    · replace h := it_p cc h
      exact hK _ _ _ d _ (lv_sub hl [0] rfl) h
    · replace h := it_n cc h
      refine lv_aload_n S.1 S.2.1 dX9_image_9 rfl (lv_at hl 0 rfl) ?_
      refine gf_20_22 S d hb0 fl_RX9_56 dX9_image_10 ?_
      refine lv_iload_n S.1 S.2.1 dX9_image_13 rfl (lv_at hl 1 rfl) ?_
      refine lv_aload_n S.1 S.2.1 dX9_image_14 rfl (lv_at hl 0 rfl) ?_
      refine lv_iload_n S.1 S.2.1 dX9_image_15 rfl (lv_at hl 1 rfl) ?_
      refine lv_iconst (v := 0) S.1 S.2.1 dX9_image_16 (by decide) ?_
      refine lv_iconst (v := 0) S.1 S.2.1 dX9_image_17 (by decide) ?_
      obtain ⟨u1, hu1, h⟩ := bd_e h
      refine r_ri d (r_cV (As := [.int x1, .int (0 : Int32), .int (0 : Int32)]) (rest := [.int x1, .ref (ad G (b0 + 16))]) S d (c_X9_carried l G Mx L b0 x1 (0 : Int32) (0 : Int32) hb0 hu1) (ksdM S hb0) (wc_20 hb0) rfl ml_RX9_231 im_yX9_carried se_yX9_carried in_RX9 co_yX9_carried hyV_X9_carried ⟨rfl, rfl⟩ ⟨by decide, by decide⟩ rfl hl rfl (Nat.le_of_ble_eq_true rfl) dX9_image_18 ⟨Nat.zero_le _, Nat.zero_le _⟩) (fun H locs d => ?_)
      obtain ⟨g2, h⟩ := gd_e h
      obtain ⟨M3, eM3, h⟩ := lt_e h
      refine r_iast S d eM3 (ksdM S (ch_20_22 hb0).1) (fun _ => wc_21 (ch_20_22 hb0).1) (ch_20_22 hb0).2 g2 dX9_image_21 (fun H locs d => ?_)
      obtain ⟨v4, ev4, h⟩ := lt_e h
      refine lv_iinc (v := v4) (lv' := [(1, .int v4), (0, .ref (ad G b0))]) S.1 S.2.1 dX9_image_22 hl (k := 1) rfl (by rw [ev4]; rfl) (by decide) rfl (fun ls hl => ?_)
      refine lv_goto (tgt := 2) S.1 S.2.1 dX9_image_25 (by decide) ?_
      exact ih _ _ h _ _ d _ (lv_sub hl [1, 0] rfl)
set_option maxHeartbeats 4000000 in
set_option maxRecDepth 100000 in
theorem c_X9_image (l : Launch) (G : Gx) (M : Mem) (L : MemL) (fu : Nat) (k0 : Nat) (hk0 : kd k0 = 20) {z : Int32 × Mem} (h : f_X9_image fu M k0 = some z) : Met l yX9_image (.code yX9_image cX9_image 2 (Option.some Jvm.ClassFile.FieldType.int) :: UW) rm_X9_image (va_Pc [.ref (ad G k0)] (PreG G true M L)) (Qi G z.1 z.2 L) 0 0 (gA G) := by
  refine r_in (by decide) (fun p e s m args below meth c S hr d ha ls hl => ?_) (Nat.le_of_ble_eq_true rfl)
  have S : Sx G true p s m args meth c cX9_image 2 RX9 := S
  have hl : lv_has ls 2 [(0, .ref (ad G k0))] := hl
  unfold f_X9_image at h
  refine lv_iconst (v := 0) S.1 S.2.1 dX9_image_0 (by decide) ?_
  refine lv_istore_n (lv' := [(1, .int (0 : Int32)), (0, .ref (ad G k0))]) S.1 S.2.1 dX9_image_1 rfl hl (by decide) rfl (fun ls hl => ?_)
  refine lc_X9_image_2 S hr hk0 _ (fun M5 H locs d ls hl h => ?_) _ _ _  h _ _ d _ (lv_sub hl [1, 0] rfl)
  refine lv_aload_n S.1 S.2.1 dX9_image_28 rfl (lv_at hl 0 rfl) ?_
  refine gf_20_23 S d hk0 fl_RX9_59 dX9_image_29 ?_
  refine lv_iconst (v := 0) S.1 S.2.1 dX9_image_32 (by decide) ?_
  refine lv_aload_n S.1 S.2.1 dX9_image_33 rfl (lv_at hl 0 rfl) ?_
  refine gf_20_7 S d hk0 fl_RX9_71 dX9_image_34 ?_
  obtain ⟨g6, h⟩ := gd_e h
  obtain ⟨M7, eM7, h⟩ := lt_e h
  refine r_iast S d eM7 (ksdM S (ch_20_23 hk0).1) (fun _ => wc_21 (ch_20_23 hk0).1) (ch_20_23 hk0).2 g6 dX9_image_37 (fun H locs d => ?_)
  refine lv_aload_n S.1 S.2.1 dX9_image_38 rfl (lv_at hl 0 rfl) ?_
  refine gf_20_23 S d hk0 fl_RX9_59 dX9_image_39 ?_
  refine lv_iconst (v := 1) S.1 S.2.1 dX9_image_42 (by decide) ?_
  refine lv_aload_n S.1 S.2.1 dX9_image_43 rfl (lv_at hl 0 rfl) ?_
  refine gf_20_8 S d hk0 fl_RX9_83 dX9_image_44 ?_
  obtain ⟨g8, h⟩ := gd_e h
  obtain ⟨M9, eM9, h⟩ := lt_e h
  refine r_iast S d eM9 (ksdM S (ch_20_23 hk0).1) (fun _ => wc_21 (ch_20_23 hk0).1) (ch_20_23 hk0).2 g8 dX9_image_47 (fun H locs d => ?_)
  refine lv_aload_n S.1 S.2.1 dX9_image_48 rfl (lv_at hl 0 rfl) ?_
  refine lv_iconst (v := 1) S.1 S.2.1 dX9_image_49 (by decide) ?_
  obtain ⟨M10, eM10, h⟩ := lt_e h
  refine pf_20_21 S d eM10 (by decide) hk0 fl_RX9_235 dX9_image_50 (fun H locs d => ?_)
  refine lv_iconst (v := 1) S.1 S.2.1 dX9_image_53 (by decide) ?_
  obtain rfl := Option.some.inj h
  exact r_iret S d hr rfl rfl dX9_image_54
theorem hyV_X9_restore : yX9_restore.cls = RX9 ∧ yX9_restore.cls ≠ "java/lang/invoke/MethodHandle" ∧ yX9_restore.cls ≠ "java/lang/invoke/VarHandle" ∧ (parseMethodDescriptor yX9_restore.desc).map (fun d => d.parameters.length) = some 0 := by decide +kernel
abbrev rm_X9_restore : Room := { frames := 1, cells := 0, slots := 0, locals := 24 }
def lp_X9_restore_12 (fu : Nat) (b0 : Nat) (K : Mem → Option (Int32 × Mem)) : Nat → Int32 → Mem → Option (Int32 × Mem)
  | 0, _, _ => none
  | n + 1, x1, Mx =>
    (if (270 : Int32) ≤ x1 then (K Mx)
    else gd (inb x1 270) (
      (f_X9_carried Mx b0 x1 (Mx (b0 + 16) x1.toNatClampNeg) (1 : Int32)).bind (fun u2 =>
      lt (x1 + 1) (fun v3 : Int32 =>
      (lp_X9_restore_12 fu b0 K n v3 u2.2)))))
def f_X9_restore (fu : Nat) (M : Mem) (k0 : Nat) : Option (Int32 × Mem) :=
  (if (M k0 21) = 0 then some ((-4 : Int32), M)
  else (lp_X9_restore_12 fu k0 (fun (M4 : Mem) =>
      gd (inb (0 : Int32) 2) (
      lt (up M4 k0 7 (M4 (k0 + 17) (0 : Int32).toNatClampNeg)) (fun M6 : Mem =>
      gd (inb (1 : Int32) 2) (
      lt (up M6 k0 8 (M6 (k0 + 17) (1 : Int32).toNatClampNeg)) (fun M8 : Mem =>
      some ((1 : Int32), M8)))))) fu (0 : Int32) M))
set_option maxHeartbeats 4000000 in
set_option maxRecDepth 100000 in
theorem lc_X9_restore_12 {p : Program} {l : Launch} {e : Env} {s : State} {m : MethodId} {args : Array Value} {below : List Frame} {meth : Method} {c : Code} {G : Gx} {L : MemL} {fu : Nat} {b0 : Nat} {z : Int32 × Mem} (S : Sx G true p s m args meth c cX9_restore 2 RX9) (hr : meth.sig.returnType = (Option.some Jvm.ClassFile.FieldType.int)) (hb0 : kd b0 = 20) (K : Mem → Option (Int32 × Mem)) (hK : ∀ (My : Mem) (H : Heap) (locs : List Loc), Dy G s My L H locs → ∀ ls : Array Slot, lv_has ls 2 [(0, .ref (ad G b0))] → K My = some z → W p l e rm_X9_restore s m args below meth c H locs 0 0 (MQ below (Qi G z.1 z.2 L) args s 0 0 (gA G)) (F0 m 38 ls [])) :
    ∀ (n : Nat) (x1 : Int32) (Mx : Mem), lp_X9_restore_12 fu b0 K n x1 Mx = some z → ∀ (H : Heap) (locs : List Loc), Dy G s Mx L H locs → ∀ ls : Array Slot, lv_has ls 2 [(0, .ref (ad G b0)), (1, .int x1)] → W p l e rm_X9_restore s m args below meth c H locs 0 0 (MQ below (Qi G z.1 z.2 L) args s 0 0 (gA G)) (F0 m 12 ls []) := by
  intro n
  induction n with
  | zero =>
    intro x1 Mx h
    have h : (none : Option (Int32 × Mem)) = some z := h
    cases h
  | succ n ih =>
    intro x1 Mx h H locs d ls hl
    rw [lp_X9_restore_12] at h
    refine lv_iload_n S.1 S.2.1 dX9_restore_12 rfl (lv_at hl 1 rfl) ?_
    refine lv_sipush (v := 270) S.1 S.2.1 dX9_restore_13 (by decide) ?_
    refine lv_icmp_ge (tgt := 38) S.1 S.2.1 dX9_restore_16 (by decide) (fun cc => ?_) (fun cc => ?_)
    · replace h := it_p cc h
      exact hK _ _ _ d _ (lv_sub hl [0] rfl) h
    · replace h := it_n cc h
      refine lv_aload_n S.1 S.2.1 dX9_restore_19 rfl (lv_at hl 0 rfl) ?_
      refine lv_iload_n S.1 S.2.1 dX9_restore_20 rfl (lv_at hl 1 rfl) ?_
      refine lv_aload_n S.1 S.2.1 dX9_restore_21 rfl (lv_at hl 0 rfl) ?_
      refine gf_20_22 S d hb0 fl_RX9_56 dX9_restore_22 ?_
      refine lv_iload_n S.1 S.2.1 dX9_restore_25 rfl (lv_at hl 1 rfl) ?_
      obtain ⟨g1, h⟩ := gd_e h
      refine r_iald S d (ksdM S (ch_20_22 hb0).1) (wc_21 (ch_20_22 hb0).1) (ch_20_22 hb0).2 g1 dX9_restore_26 ?_
      refine lv_iconst (v := 1) S.1 S.2.1 dX9_restore_27 (by decide) ?_
      obtain ⟨u2, hu2, h⟩ := bd_e h
      refine r_ri d (r_cV (As := [.int x1, .int (Mx (b0 + 16) x1.toNatClampNeg), .int (1 : Int32)]) (rest := []) S d (c_X9_carried l G Mx L b0 x1 (Mx (b0 + 16) x1.toNatClampNeg) (1 : Int32) hb0 hu2) (ksdM S hb0) (wc_20 hb0) rfl ml_RX9_231 im_yX9_carried se_yX9_carried in_RX9 co_yX9_carried hyV_X9_carried ⟨rfl, rfl⟩ ⟨by decide, by decide⟩ rfl hl rfl (Nat.le_of_ble_eq_true rfl) dX9_restore_28 ⟨Nat.zero_le _, Nat.zero_le _⟩) (fun H locs d => ?_)
      refine lv_pop S.1 S.2.1 dX9_restore_31 rfl ?_
      obtain ⟨v3, ev3, h⟩ := lt_e h
      refine lv_iinc (v := v3) (lv' := [(1, .int v3), (0, .ref (ad G b0))]) S.1 S.2.1 dX9_restore_32 hl (k := 1) rfl (by rw [ev3]; rfl) (by decide) rfl (fun ls hl => ?_)
      refine lv_goto (tgt := 12) S.1 S.2.1 dX9_restore_35 (by decide) ?_
      exact ih _ _ h _ _ d _ (lv_sub hl [1, 0] rfl)
set_option maxHeartbeats 4000000 in
set_option maxRecDepth 100000 in
theorem c_X9_restore (l : Launch) (G : Gx) (M : Mem) (L : MemL) (fu : Nat) (k0 : Nat) (hk0 : kd k0 = 20) {z : Int32 × Mem} (h : f_X9_restore fu M k0 = some z) : Met l yX9_restore (.code yX9_restore cX9_restore 2 (Option.some Jvm.ClassFile.FieldType.int) :: UW) rm_X9_restore (va_Pc [.ref (ad G k0)] (PreG G true M L)) (Qi G z.1 z.2 L) 0 0 (gA G) := by
  refine r_in (by decide) (fun p e s m args below meth c S hr d ha ls hl => ?_) (Nat.le_of_ble_eq_true rfl)
  have S : Sx G true p s m args meth c cX9_restore 2 RX9 := S
  have hl : lv_has ls 2 [(0, .ref (ad G k0))] := hl
  unfold f_X9_restore at h
  refine lv_aload_n S.1 S.2.1 dX9_restore_0 rfl (lv_at hl 0 rfl) ?_
  refine gf_20_21 S d hk0 fl_RX9_235 dX9_restore_1 ?_
  refine lv_if_ne (tgt := 10) S.1 S.2.1 dX9_restore_4 (by decide) (fun cc => ?_) (fun cc => ?_)
  · replace h := it_n cc h
    refine lv_iconst (v := 0) S.1 S.2.1 dX9_restore_10 (by decide) ?_
    refine lv_istore_n (lv' := [(1, .int (0 : Int32)), (0, .ref (ad G k0))]) S.1 S.2.1 dX9_restore_11 rfl hl (by decide) rfl (fun ls hl => ?_)
    refine lc_X9_restore_12 S hr hk0 _ (fun M4 H locs d ls hl h => ?_) _ _ _  h _ _ d _ (lv_sub hl [1, 0] rfl)
    refine lv_aload_n S.1 S.2.1 dX9_restore_38 rfl (lv_at hl 0 rfl) ?_
    refine lv_aload_n S.1 S.2.1 dX9_restore_39 rfl (lv_at hl 0 rfl) ?_
    refine gf_20_23 S d hk0 fl_RX9_59 dX9_restore_40 ?_
    refine lv_iconst (v := 0) S.1 S.2.1 dX9_restore_43 (by decide) ?_
    obtain ⟨g5, h⟩ := gd_e h
    refine r_iald S d (ksdM S (ch_20_23 hk0).1) (wc_21 (ch_20_23 hk0).1) (ch_20_23 hk0).2 g5 dX9_restore_44 ?_
    obtain ⟨M6, eM6, h⟩ := lt_e h
    refine pf_20_7 S d eM6 hk0 fl_RX9_71 dX9_restore_45 (fun H locs d => ?_)
    refine lv_aload_n S.1 S.2.1 dX9_restore_48 rfl (lv_at hl 0 rfl) ?_
    refine lv_aload_n S.1 S.2.1 dX9_restore_49 rfl (lv_at hl 0 rfl) ?_
    refine gf_20_23 S d hk0 fl_RX9_59 dX9_restore_50 ?_
    refine lv_iconst (v := 1) S.1 S.2.1 dX9_restore_53 (by decide) ?_
    obtain ⟨g7, h⟩ := gd_e h
    refine r_iald S d (ksdM S (ch_20_23 hk0).1) (wc_21 (ch_20_23 hk0).1) (ch_20_23 hk0).2 g7 dX9_restore_54 ?_
    obtain ⟨M8, eM8, h⟩ := lt_e h
    refine pf_20_8 S d eM8 hk0 fl_RX9_83 dX9_restore_55 (fun H locs d => ?_)
    refine lv_iconst (v := 1) S.1 S.2.1 dX9_restore_58 (by decide) ?_
    obtain rfl := Option.some.inj h
    exact r_iret S d hr rfl rfl dX9_restore_59
  · replace h := it_p cc h
    refine lv_bipush (v := (-4)) S.1 S.2.1 dX9_restore_7 (by decide) ?_
    obtain rfl := Option.some.inj h
    exact r_iret S d hr rfl rfl dX9_restore_9
theorem hyS_X9_isSheet : yX9_isSheet.cls ≠ "java/lang/invoke/MethodHandle" ∧ yX9_isSheet.cls ≠ "java/lang/invoke/VarHandle" ∧ (parseMethodDescriptor yX9_isSheet.desc).map (fun d => d.parameters.length) = some 2 := by decide +kernel
abbrev rm_X9_isSheet : Room := { frames := 1, cells := 0, slots := 0, locals := 25 }
def f_X9_isSheet (a0 : Int32) (a1 : Int32) : Option (Int32) :=
  (f_X9_in ((a0).toInt64) (0 : Int64) (3 : Int64)).bind (fun u1 =>
  (if u1 = 0 then some ((0 : Int32))
  else (f_X9_in ((a1).toInt64) (0 : Int64) (2 : Int64)).bind (fun u2 =>
    (if u2 = 0 then some ((0 : Int32))
    else some ((1 : Int32))))))
set_option maxHeartbeats 4000000 in
set_option maxRecDepth 100000 in
theorem c_X9_isSheet (l : Launch) (G : Gx) (M : Mem) (L : MemL) (a0 : Int32) (a1 : Int32) {z : Int32} (h : f_X9_isSheet a0 a1 = some z) : Met l yX9_isSheet (.code yX9_isSheet cX9_isSheet 2 (Option.some Jvm.ClassFile.FieldType.boolean) :: UW) rm_X9_isSheet (va_Pc [.int a0, .int a1] (PreG G true M L)) (Qi G z M L) 0 0 (gA G) := by
  refine r_in (by decide) (fun p e s m args below meth c S hr d ha ls hl => ?_) (Nat.le_of_ble_eq_true rfl)
  have S : Sx G true p s m args meth c cX9_isSheet 2 RX9 := S
  have hl : lv_has ls 2 [(0, .int a0), (1, .int a1)] := hl
  unfold f_X9_isSheet at h
  refine lv_iload_n S.1 S.2.1 dX9_isSheet_0 rfl (lv_at hl 0 rfl) ?_
  refine lv_i2l S.1 S.2.1 dX9_isSheet_1 rfl ?_
  refine lv_lconst (v := 0) S.1 S.2.1 dX9_isSheet_2 (by decide) ?_
  refine lv_ldc2 (v := 3) S.1 S.2.1 S.2.2.2.1 (S.uw cn_RX9_92) dX9_isSheet_3 ?_
  obtain ⟨u1, hu1, h⟩ := bd_e h
  refine r_ri d (r_cS (As := [.long ((a0).toInt64), .long (0 : Int64), .long (3 : Int64)]) (rest := []) S d (c_X9_in l G M L ((a0).toInt64) (0 : Int64) (3 : Int64) hu1) ml_RX9_75 sm_yX9_in in_RX9 co_yX9_in hyS_X9_in ⟨rfl, rfl⟩ ⟨by decide, by decide⟩ rfl hl rfl (Nat.le_of_ble_eq_true rfl) dX9_isSheet_6 ⟨Nat.zero_le _, Nat.zero_le _⟩) (fun H locs d => ?_)
  refine lv_if_eq (tgt := 28) S.1 S.2.1 dX9_isSheet_9 (by decide) (fun cc => ?_) (fun cc => ?_)
  · replace h := it_p cc h
    refine lv_iconst (v := 0) S.1 S.2.1 dX9_isSheet_28 (by decide) ?_
    obtain rfl := Option.some.inj h
    exact r_iret S d hr rfl rfl dX9_isSheet_29
  · replace h := it_n cc h
    refine lv_iload_n S.1 S.2.1 dX9_isSheet_12 rfl (lv_at hl 1 rfl) ?_
    refine lv_i2l S.1 S.2.1 dX9_isSheet_13 rfl ?_
    refine lv_lconst (v := 0) S.1 S.2.1 dX9_isSheet_14 (by decide) ?_
    refine lv_ldc2 (v := 2) S.1 S.2.1 S.2.2.2.1 (S.uw cn_RX9_239) dX9_isSheet_15 ?_
    obtain ⟨u2, hu2, h⟩ := bd_e h
    refine r_ri d (r_cS (As := [.long ((a1).toInt64), .long (0 : Int64), .long (2 : Int64)]) (rest := []) S d (c_X9_in l G M L ((a1).toInt64) (0 : Int64) (2 : Int64) hu2) ml_RX9_75 sm_yX9_in in_RX9 co_yX9_in hyS_X9_in ⟨rfl, rfl⟩ ⟨by decide, by decide⟩ rfl hl rfl (Nat.le_of_ble_eq_true rfl) dX9_isSheet_18 ⟨Nat.zero_le _, Nat.zero_le _⟩) (fun H locs d => ?_)
    refine lv_if_eq (tgt := 28) S.1 S.2.1 dX9_isSheet_21 (by decide) (fun cc => ?_) (fun cc => ?_)
    · replace h := it_p cc h
      refine lv_iconst (v := 0) S.1 S.2.1 dX9_isSheet_28 (by decide) ?_
      obtain rfl := Option.some.inj h
      exact r_iret S d hr rfl rfl dX9_isSheet_29
    · replace h := it_n cc h
      refine lv_iconst (v := 1) S.1 S.2.1 dX9_isSheet_24 (by decide) ?_
      refine lv_goto (tgt := 29) S.1 S.2.1 dX9_isSheet_25 (by decide) ?_
      obtain rfl := Option.some.inj h
      exact r_iret S d hr rfl rfl dX9_isSheet_29
theorem hyV_X9_sheet : yX9_sheet.cls = RX9 ∧ yX9_sheet.cls ≠ "java/lang/invoke/MethodHandle" ∧ yX9_sheet.cls ≠ "java/lang/invoke/VarHandle" ∧ (parseMethodDescriptor yX9_sheet.desc).map (fun d => d.parameters.length) = some 3 := by decide +kernel
abbrev rm_X9_sheet : Room := { frames := 2, cells := 0, slots := 0, locals := 46 }
def lp_X9_sheet_40 (fu : Nat) (b0 : Nat) (b1 : Int32) (b3 : Int32) (K : Mem → Option (Int32 × Mem)) : Nat → Int32 → Mem → Option (Int32 × Mem)
  | 0, _, _ => none
  | n + 1, x4, Mx =>
    (if (24 : Int32) ≤ x4 then (K Mx)
    else gd (inb (((24 : Int32) * b1) + x4) 96) (
      lt (up Mx (b0 + 20) (((24 : Int32) * b1) + x4).toNatClampNeg (0 : Int32)) (fun M7 : Mem =>
      lt (x4 + 1) (fun v8 : Int32 =>
      (lp_X9_sheet_40 fu b0 b1 b3 K n v8 M7)))))
def f_X9_sheet (fu : Nat) (M : Mem) (k0 : Nat) (a1 : Int32) (a2 : Int32) (a3 : Int32) : Option (Int32 × Mem) :=
  (f_X9_isSheet a1 a2).bind (fun u1 =>
  (if u1 = 0 then some ((-1 : Int32), M)
  else (if a3 ≤ (24 : Int32) then (if 0 ≤ a3 then gd (inb a1 4) (
        lt (up M (k0 + 18) a1.toNatClampNeg a2) (fun M3 : Mem =>
        gd (inb a1 4) (
        lt (up M3 (k0 + 19) a1.toNatClampNeg a3) (fun M5 : Mem =>
        (lp_X9_sheet_40 fu k0 a1 a3 (fun (M9 : Mem) =>
          some (a3, M9)) fu (0 : Int32) M5)))))
      else some ((-14 : Int32), M))
    else some ((-1 : Int32), M))))
set_option maxHeartbeats 4000000 in
set_option maxRecDepth 100000 in
theorem lc_X9_sheet_40 {p : Program} {l : Launch} {e : Env} {s : State} {m : MethodId} {args : Array Value} {below : List Frame} {meth : Method} {c : Code} {G : Gx} {L : MemL} {fu : Nat} {b0 : Nat} {b1 : Int32} {b3 : Int32} {z : Int32 × Mem} (S : Sx G true p s m args meth c cX9_sheet 5 RX9) (hr : meth.sig.returnType = (Option.some Jvm.ClassFile.FieldType.int)) (hb0 : kd b0 = 20) (K : Mem → Option (Int32 × Mem)) (hK : ∀ (My : Mem) (H : Heap) (locs : List Loc), Dy G s My L H locs → ∀ ls : Array Slot, lv_has ls 5 [(3, .int b3)] → K My = some z → W p l e rm_X9_sheet s m args below meth c H locs 0 0 (MQ below (Qi G z.1 z.2 L) args s 0 0 (gA G)) (F0 m 66 ls [])) :
    ∀ (n : Nat) (x4 : Int32) (Mx : Mem), lp_X9_sheet_40 fu b0 b1 b3 K n x4 Mx = some z → ∀ (H : Heap) (locs : List Loc), Dy G s Mx L H locs → ∀ ls : Array Slot, lv_has ls 5 [(0, .ref (ad G b0)), (1, .int b1), (3, .int b3), (4, .int x4)] → W p l e rm_X9_sheet s m args below meth c H locs 0 0 (MQ below (Qi G z.1 z.2 L) args s 0 0 (gA G)) (F0 m 40 ls []) := by
  intro n
  induction n with
  | zero =>
    intro x4 Mx h
    have h : (none : Option (Int32 × Mem)) = some z := h
    cases h
  | succ n ih =>
    intro x4 Mx h H locs d ls hl
    rw [lp_X9_sheet_40] at h
    refine lv_iload S.1 S.2.1 dX9_sheet_40 (lv_at hl 3 rfl) ?_
    refine lv_bipush (v := 24) S.1 S.2.1 dX9_sheet_42 (by decide) ?_
    refine lv_icmp_ge (tgt := 66) S.1 S.2.1 dX9_sheet_44 (by decide) (fun cc => ?_) (fun cc => ?_)
    · replace h := it_p cc h
      exact hK _ _ _ d _ (lv_sub hl [2] rfl) h
    · replace h := it_n cc h
      refine lv_aload_n S.1 S.2.1 dX9_sheet_47 rfl (lv_at hl 0 rfl) ?_
      refine gf_20_26 S d hb0 fl_RX9_68 dX9_sheet_48 ?_
      refine lv_bipush (v := 24) S.1 S.2.1 dX9_sheet_51 (by decide) ?_
      refine lv_iload_n S.1 S.2.1 dX9_sheet_53 rfl (lv_at hl 1 rfl) ?_
      refine lv_imul S.1 S.2.1 dX9_sheet_54 ?_
      refine lv_iload S.1 S.2.1 dX9_sheet_55 (lv_at hl 3 rfl) ?_
      refine lv_iadd S.1 S.2.1 dX9_sheet_57 ?_
      refine lv_iconst (v := 0) S.1 S.2.1 dX9_sheet_58 (by decide) ?_
      obtain ⟨g6, h⟩ := gd_e h
      obtain ⟨M7, eM7, h⟩ := lt_e h
      refine r_iast S d eM7 (ksdM S (ch_20_26 hb0).1) (fun _ => wc_21 (ch_20_26 hb0).1) (ch_20_26 hb0).2 g6 dX9_sheet_59 (fun H locs d => ?_)
      obtain ⟨v8, ev8, h⟩ := lt_e h
      refine lv_iinc (v := v8) (lv' := [(4, .int v8), (0, .ref (ad G b0)), (1, .int b1), (3, .int b3)]) S.1 S.2.1 dX9_sheet_60 hl (k := 3) rfl (by rw [ev8]; rfl) (by decide) rfl (fun ls hl => ?_)
      refine lv_goto (tgt := 40) S.1 S.2.1 dX9_sheet_63 (by decide) ?_
      exact ih _ _ h _ _ d _ (lv_sub hl [1, 2, 3, 0] rfl)
set_option maxHeartbeats 4000000 in
set_option maxRecDepth 100000 in
theorem c_X9_sheet (l : Launch) (G : Gx) (M : Mem) (L : MemL) (fu : Nat) (k0 : Nat) (a1 : Int32) (a2 : Int32) (a3 : Int32) (hk0 : kd k0 = 20) {z : Int32 × Mem} (h : f_X9_sheet fu M k0 a1 a2 a3 = some z) : Met l yX9_sheet (.code yX9_sheet cX9_sheet 5 (Option.some Jvm.ClassFile.FieldType.int) :: UW) rm_X9_sheet (va_Pc [.ref (ad G k0), .int a1, .int a2, .int a3] (PreG G true M L)) (Qi G z.1 z.2 L) 0 0 (gA G) := by
  refine r_in (by decide) (fun p e s m args below meth c S hr d ha ls hl => ?_) (Nat.le_of_ble_eq_true rfl)
  have S : Sx G true p s m args meth c cX9_sheet 5 RX9 := S
  have hl : lv_has ls 5 [(0, .ref (ad G k0)), (1, .int a1), (2, .int a2), (3, .int a3)] := hl
  unfold f_X9_sheet at h
  refine lv_iload_n S.1 S.2.1 dX9_sheet_0 rfl (lv_at hl 1 rfl) ?_
  refine lv_iload_n S.1 S.2.1 dX9_sheet_1 rfl (lv_at hl 2 rfl) ?_
  obtain ⟨u1, hu1, h⟩ := bd_e h
  refine r_ri d (r_cS (As := [.int a1, .int a2]) (rest := []) S d (c_X9_isSheet l G M L a1 a2 hu1) ml_RX9_241 sm_yX9_isSheet in_RX9 co_yX9_isSheet hyS_X9_isSheet ⟨rfl, rfl⟩ ⟨by decide, by decide⟩ rfl hl rfl (Nat.le_of_ble_eq_true rfl) dX9_sheet_2 ⟨Nat.zero_le _, Nat.zero_le _⟩) (fun H locs d => ?_)
  refine lv_if_eq (tgt := 14) S.1 S.2.1 dX9_sheet_5 (by decide) (fun cc => ?_) (fun cc => ?_)
  · replace h := it_p cc h
    refine lv_iconst (v := (-1)) S.1 S.2.1 dX9_sheet_14 (by decide) ?_
    obtain rfl := Option.some.inj h
    exact r_iret S d hr rfl rfl dX9_sheet_15
  · replace h := it_n cc h
    refine lv_iload_n S.1 S.2.1 dX9_sheet_8 rfl (lv_at hl 3 rfl) ?_
    refine lv_bipush (v := 24) S.1 S.2.1 dX9_sheet_9 (by decide) ?_
    refine lv_icmp_le (tgt := 16) S.1 S.2.1 dX9_sheet_11 (by decide) (fun cc => ?_) (fun cc => ?_)
    · replace h := it_p cc h
      refine lv_iload_n S.1 S.2.1 dX9_sheet_16 rfl (lv_at hl 3 rfl) ?_
      refine lv_if_ge (tgt := 23) S.1 S.2.1 dX9_sheet_17 (by decide) (fun cc => ?_) (fun cc => ?_)
      · replace h := it_p cc h
        refine lv_aload_n S.1 S.2.1 dX9_sheet_23 rfl (lv_at hl 0 rfl) ?_
        refine gf_20_24 S d hk0 fl_RX9_62 dX9_sheet_24 ?_
        refine lv_iload_n S.1 S.2.1 dX9_sheet_27 rfl (lv_at hl 1 rfl) ?_
        refine lv_iload_n S.1 S.2.1 dX9_sheet_28 rfl (lv_at hl 2 rfl) ?_
        obtain ⟨g2, h⟩ := gd_e h
        obtain ⟨M3, eM3, h⟩ := lt_e h
        refine r_iast S d eM3 (ksdM S (ch_20_24 hk0).1) (fun _ => wc_21 (ch_20_24 hk0).1) (ch_20_24 hk0).2 g2 dX9_sheet_29 (fun H locs d => ?_)
        refine lv_aload_n S.1 S.2.1 dX9_sheet_30 rfl (lv_at hl 0 rfl) ?_
        refine gf_20_25 S d hk0 fl_RX9_65 dX9_sheet_31 ?_
        refine lv_iload_n S.1 S.2.1 dX9_sheet_34 rfl (lv_at hl 1 rfl) ?_
        refine lv_iload_n S.1 S.2.1 dX9_sheet_35 rfl (lv_at hl 3 rfl) ?_
        obtain ⟨g4, h⟩ := gd_e h
        obtain ⟨M5, eM5, h⟩ := lt_e h
        refine r_iast S d eM5 (ksdM S (ch_20_25 hk0).1) (fun _ => wc_21 (ch_20_25 hk0).1) (ch_20_25 hk0).2 g4 dX9_sheet_36 (fun H locs d => ?_)
        refine lv_iconst (v := 0) S.1 S.2.1 dX9_sheet_37 (by decide) ?_
        refine lv_istore (lv' := [(4, .int (0 : Int32)), (0, .ref (ad G k0)), (1, .int a1), (2, .int a2), (3, .int a3)]) S.1 S.2.1 dX9_sheet_38 hl (by decide) rfl (fun ls hl => ?_)
        refine lc_X9_sheet_40 S hr hk0 _ (fun M9 H locs d ls hl h => ?_) _ _ _  h _ _ d _ (lv_sub hl [1, 2, 4, 0] rfl)
        refine lv_iload_n S.1 S.2.1 dX9_sheet_66 rfl (lv_at hl 0 rfl) ?_
        obtain rfl := Option.some.inj h
        exact r_iret S d hr rfl rfl dX9_sheet_67
      · replace h := it_n cc h
        refine lv_bipush (v := (-14)) S.1 S.2.1 dX9_sheet_20 (by decide) ?_
        obtain rfl := Option.some.inj h
        exact r_iret S d hr rfl rfl dX9_sheet_22
    · replace h := it_n cc h
      refine lv_iconst (v := (-1)) S.1 S.2.1 dX9_sheet_14 (by decide) ?_
      obtain rfl := Option.some.inj h
      exact r_iret S d hr rfl rfl dX9_sheet_15
theorem hyV_X9_drop : yX9_drop.cls = RX9 ∧ yX9_drop.cls ≠ "java/lang/invoke/MethodHandle" ∧ yX9_drop.cls ≠ "java/lang/invoke/VarHandle" ∧ (parseMethodDescriptor yX9_drop.desc).map (fun d => d.parameters.length) = some 1 := by decide +kernel
abbrev rm_X9_drop : Room := { frames := 1, cells := 0, slots := 0, locals := 25 }
def f_X9_drop (M : Mem) (k0 : Nat) (a1 : Int32) : Option (Int32 × Mem) :=
  (f_X9_in ((a1).toInt64) (0 : Int64) (3 : Int64)).bind (fun u1 =>
  (if u1 = 0 then some ((-1 : Int32), M)
  else gd (inb a1 4) (
    (if 0 ≤ (M (k0 + 18) a1.toNatClampNeg) then gd (inb a1 4) (
      lt (up M (k0 + 18) a1.toNatClampNeg (-1 : Int32)) (fun M4 : Mem =>
      gd (inb a1 4) (
      some ((M4 (k0 + 19) a1.toNatClampNeg), M4))))
    else some ((-11 : Int32), M)))))
set_option maxHeartbeats 4000000 in
set_option maxRecDepth 100000 in
theorem c_X9_drop (l : Launch) (G : Gx) (M : Mem) (L : MemL) (k0 : Nat) (a1 : Int32) (hk0 : kd k0 = 20) {z : Int32 × Mem} (h : f_X9_drop M k0 a1 = some z) : Met l yX9_drop (.code yX9_drop cX9_drop 2 (Option.some Jvm.ClassFile.FieldType.int) :: UW) rm_X9_drop (va_Pc [.ref (ad G k0), .int a1] (PreG G true M L)) (Qi G z.1 z.2 L) 0 0 (gA G) := by
  refine r_in (by decide) (fun p e s m args below meth c S hr d ha ls hl => ?_) (Nat.le_of_ble_eq_true rfl)
  have S : Sx G true p s m args meth c cX9_drop 2 RX9 := S
  have hl : lv_has ls 2 [(0, .ref (ad G k0)), (1, .int a1)] := hl
  unfold f_X9_drop at h
  refine lv_iload_n S.1 S.2.1 dX9_drop_0 rfl (lv_at hl 1 rfl) ?_
  refine lv_i2l S.1 S.2.1 dX9_drop_1 rfl ?_
  refine lv_lconst (v := 0) S.1 S.2.1 dX9_drop_2 (by decide) ?_
  refine lv_ldc2 (v := 3) S.1 S.2.1 S.2.2.2.1 (S.uw cn_RX9_92) dX9_drop_3 ?_
  obtain ⟨u1, hu1, h⟩ := bd_e h
  refine r_ri d (r_cS (As := [.long ((a1).toInt64), .long (0 : Int64), .long (3 : Int64)]) (rest := []) S d (c_X9_in l G M L ((a1).toInt64) (0 : Int64) (3 : Int64) hu1) ml_RX9_75 sm_yX9_in in_RX9 co_yX9_in hyS_X9_in ⟨rfl, rfl⟩ ⟨by decide, by decide⟩ rfl hl rfl (Nat.le_of_ble_eq_true rfl) dX9_drop_6 ⟨Nat.zero_le _, Nat.zero_le _⟩) (fun H locs d => ?_)
  refine lv_if_ne (tgt := 14) S.1 S.2.1 dX9_drop_9 (by decide) (fun cc => ?_) (fun cc => ?_)
  · replace h := it_n cc h
    refine lv_aload_n S.1 S.2.1 dX9_drop_14 rfl (lv_at hl 0 rfl) ?_
    refine gf_20_24 S d hk0 fl_RX9_62 dX9_drop_15 ?_
    refine lv_iload_n S.1 S.2.1 dX9_drop_18 rfl (lv_at hl 1 rfl) ?_
    obtain ⟨g2, h⟩ := gd_e h
    refine r_iald S d (ksdM S (ch_20_24 hk0).1) (wc_21 (ch_20_24 hk0).1) (ch_20_24 hk0).2 g2 dX9_drop_19 ?_
    refine lv_if_ge (tgt := 26) S.1 S.2.1 dX9_drop_20 (by decide) (fun cc => ?_) (fun cc => ?_)
    · replace h := it_p cc h
      refine lv_aload_n S.1 S.2.1 dX9_drop_26 rfl (lv_at hl 0 rfl) ?_
      refine gf_20_24 S d hk0 fl_RX9_62 dX9_drop_27 ?_
      refine lv_iload_n S.1 S.2.1 dX9_drop_30 rfl (lv_at hl 1 rfl) ?_
      refine lv_iconst (v := (-1)) S.1 S.2.1 dX9_drop_31 (by decide) ?_
      obtain ⟨g3, h⟩ := gd_e h
      obtain ⟨M4, eM4, h⟩ := lt_e h
      refine r_iast S d eM4 (ksdM S (ch_20_24 hk0).1) (fun _ => wc_21 (ch_20_24 hk0).1) (ch_20_24 hk0).2 g3 dX9_drop_32 (fun H locs d => ?_)
      refine lv_aload_n S.1 S.2.1 dX9_drop_33 rfl (lv_at hl 0 rfl) ?_
      refine gf_20_25 S d hk0 fl_RX9_65 dX9_drop_34 ?_
      refine lv_iload_n S.1 S.2.1 dX9_drop_37 rfl (lv_at hl 1 rfl) ?_
      obtain ⟨g5, h⟩ := gd_e h
      refine r_iald S d (ksdM S (ch_20_25 hk0).1) (wc_21 (ch_20_25 hk0).1) (ch_20_25 hk0).2 g5 dX9_drop_38 ?_
      obtain rfl := Option.some.inj h
      exact r_iret S d hr rfl rfl dX9_drop_39
    · replace h := it_n cc h
      refine lv_bipush (v := (-11)) S.1 S.2.1 dX9_drop_23 (by decide) ?_
      obtain rfl := Option.some.inj h
      exact r_iret S d hr rfl rfl dX9_drop_25
  · replace h := it_p cc h
    refine lv_iconst (v := (-1)) S.1 S.2.1 dX9_drop_12 (by decide) ?_
    obtain rfl := Option.some.inj h
    exact r_iret S d hr rfl rfl dX9_drop_13
theorem hyV_X9_lacksRow : yX9_lacksRow.cls = RX9 ∧ yX9_lacksRow.cls ≠ "java/lang/invoke/MethodHandle" ∧ yX9_lacksRow.cls ≠ "java/lang/invoke/VarHandle" ∧ (parseMethodDescriptor yX9_lacksRow.desc).map (fun d => d.parameters.length) = some 4 := by decide +kernel
abbrev rm_X9_lacksRow : Room := { frames := 1, cells := 0, slots := 0, locals := 25 }
def f_X9_lacksRow (M : Mem) (k0 : Nat) (a1 : Int32) (a2 : Int32) (a3 : Int32) (a4 : Int32) : Option (Int32) :=
  gd (inb a1 4) (
  (if (M (k0 + 18) a1.toNatClampNeg) = a2 then gd (inb a1 4) (
    (f_X9_in ((a3).toInt64) (0 : Int64) ((((M (k0 + 19) a1.toNatClampNeg) - a4)).toInt64)).bind (fun u4 =>
    (if u4 = 0 then some ((-13 : Int32))
    else some ((0 : Int32)))))
  else gd (inb a1 4) (
    (if 0 ≤ (M (k0 + 18) a1.toNatClampNeg) then some ((-12 : Int32))
    else some ((-11 : Int32))))))
set_option maxHeartbeats 4000000 in
set_option maxRecDepth 100000 in
theorem c_X9_lacksRow (l : Launch) (G : Gx) (M : Mem) (L : MemL) (k0 : Nat) (a1 : Int32) (a2 : Int32) (a3 : Int32) (a4 : Int32) (hk0 : kd k0 = 20) {z : Int32} (h : f_X9_lacksRow M k0 a1 a2 a3 a4 = some z) : Met l yX9_lacksRow (.code yX9_lacksRow cX9_lacksRow 5 (Option.some Jvm.ClassFile.FieldType.int) :: UW) rm_X9_lacksRow (va_Pc [.ref (ad G k0), .int a1, .int a2, .int a3, .int a4] (PreG G true M L)) (Qi G z M L) 0 0 (gA G) := by
  refine r_in (by decide) (fun p e s m args below meth c S hr d ha ls hl => ?_) (Nat.le_of_ble_eq_true rfl)
  have S : Sx G true p s m args meth c cX9_lacksRow 5 RX9 := S
  have hl : lv_has ls 5 [(0, .ref (ad G k0)), (1, .int a1), (2, .int a2), (3, .int a3), (4, .int a4)] := hl
  unfold f_X9_lacksRow at h
  refine lv_aload_n S.1 S.2.1 dX9_lacksRow_0 rfl (lv_at hl 0 rfl) ?_
  refine gf_20_24 S d hk0 fl_RX9_62 dX9_lacksRow_1 ?_
  refine lv_iload_n S.1 S.2.1 dX9_lacksRow_4 rfl (lv_at hl 1 rfl) ?_
  obtain ⟨g1, h⟩ := gd_e h
  refine r_iald S d (ksdM S (ch_20_24 hk0).1) (wc_21 (ch_20_24 hk0).1) (ch_20_24 hk0).2 g1 dX9_lacksRow_5 ?_
  refine lv_iload_n S.1 S.2.1 dX9_lacksRow_6 rfl (lv_at hl 2 rfl) ?_
  refine lv_icmp_eq (tgt := 27) S.1 S.2.1 dX9_lacksRow_7 (by decide) (fun cc => ?_) (fun cc => ?_)
  · replace h := it_p cc h
    refine lv_iload_n S.1 S.2.1 dX9_lacksRow_27 rfl (lv_at hl 3 rfl) ?_
    refine lv_i2l S.1 S.2.1 dX9_lacksRow_28 rfl ?_
    refine lv_lconst (v := 0) S.1 S.2.1 dX9_lacksRow_29 (by decide) ?_
    refine lv_aload_n S.1 S.2.1 dX9_lacksRow_30 rfl (lv_at hl 0 rfl) ?_
    refine gf_20_25 S d hk0 fl_RX9_65 dX9_lacksRow_31 ?_
    refine lv_iload_n S.1 S.2.1 dX9_lacksRow_34 rfl (lv_at hl 1 rfl) ?_
    obtain ⟨g3, h⟩ := gd_e h
    refine r_iald S d (ksdM S (ch_20_25 hk0).1) (wc_21 (ch_20_25 hk0).1) (ch_20_25 hk0).2 g3 dX9_lacksRow_35 ?_
    refine lv_iload S.1 S.2.1 dX9_lacksRow_36 (lv_at hl 4 rfl) ?_
    refine lv_isub S.1 S.2.1 dX9_lacksRow_38 ?_
    refine lv_i2l S.1 S.2.1 dX9_lacksRow_39 rfl ?_
    obtain ⟨u4, hu4, h⟩ := bd_e h
    refine r_ri d (r_cS (As := [.long ((a3).toInt64), .long (0 : Int64), .long ((((M (k0 + 19) a1.toNatClampNeg) - a4)).toInt64)]) (rest := []) S d (c_X9_in l G M L ((a3).toInt64) (0 : Int64) ((((M (k0 + 19) a1.toNatClampNeg) - a4)).toInt64) hu4) ml_RX9_75 sm_yX9_in in_RX9 co_yX9_in hyS_X9_in ⟨rfl, rfl⟩ ⟨by decide, by decide⟩ rfl hl rfl (Nat.le_of_ble_eq_true rfl) dX9_lacksRow_40 ⟨Nat.zero_le _, Nat.zero_le _⟩) (fun H locs d => ?_)
    refine lv_if_eq (tgt := 50) S.1 S.2.1 dX9_lacksRow_43 (by decide) (fun cc => ?_) (fun cc => ?_)
    · replace h := it_p cc h
      refine lv_bipush (v := (-13)) S.1 S.2.1 dX9_lacksRow_50 (by decide) ?_
      obtain rfl := Option.some.inj h
      exact r_iret S d hr rfl rfl dX9_lacksRow_52
    · replace h := it_n cc h
      refine lv_iconst (v := 0) S.1 S.2.1 dX9_lacksRow_46 (by decide) ?_
      refine lv_goto (tgt := 52) S.1 S.2.1 dX9_lacksRow_47 (by decide) ?_
      obtain rfl := Option.some.inj h
      exact r_iret S d hr rfl rfl dX9_lacksRow_52
  · replace h := it_n cc h
    refine lv_aload_n S.1 S.2.1 dX9_lacksRow_10 rfl (lv_at hl 0 rfl) ?_
    refine gf_20_24 S d hk0 fl_RX9_62 dX9_lacksRow_11 ?_
    refine lv_iload_n S.1 S.2.1 dX9_lacksRow_14 rfl (lv_at hl 1 rfl) ?_
    obtain ⟨g2, h⟩ := gd_e h
    refine r_iald S d (ksdM S (ch_20_24 hk0).1) (wc_21 (ch_20_24 hk0).1) (ch_20_24 hk0).2 g2 dX9_lacksRow_15 ?_
    refine lv_if_ge (tgt := 24) S.1 S.2.1 dX9_lacksRow_16 (by decide) (fun cc => ?_) (fun cc => ?_)
    · replace h := it_p cc h
      refine lv_bipush (v := (-12)) S.1 S.2.1 dX9_lacksRow_24 (by decide) ?_
      obtain rfl := Option.some.inj h
      exact r_iret S d hr rfl rfl dX9_lacksRow_26
    · replace h := it_n cc h
      refine lv_bipush (v := (-11)) S.1 S.2.1 dX9_lacksRow_19 (by decide) ?_
      refine lv_goto (tgt := 26) S.1 S.2.1 dX9_lacksRow_21 (by decide) ?_
      obtain rfl := Option.some.inj h
      exact r_iret S d hr rfl rfl dX9_lacksRow_26
theorem hyV_X9_item : yX9_item.cls = RX9 ∧ yX9_item.cls ≠ "java/lang/invoke/MethodHandle" ∧ yX9_item.cls ≠ "java/lang/invoke/VarHandle" ∧ (parseMethodDescriptor yX9_item.desc).map (fun d => d.parameters.length) = some 4 := by decide +kernel
abbrev rm_X9_item : Room := { frames := 2, cells := 0, slots := 0, locals := 49 }
def f_X9_item (M : Mem) (k0 : Nat) (a1 : Int32) (a2 : Int32) (a3 : Int32) (a4 : Int32) : Option (Int32 × Mem) :=
  (f_X9_isSheet a1 a2).bind (fun u1 =>
  (if u1 = 0 then some ((-1 : Int32), M)
  else (f_X9_lacksRow M k0 a1 a2 a3 (1 : Int32)).bind (fun u2 =>
    (if 0 ≤ u2 then (if a2 = 0 then some ((a4 <<< ((24 : Int32) &&& 31)) >>> ((24 : Int32) &&& 31))
      else (if a2 = (1 : Int32) then some ((a4 <<< ((16 : Int32) &&& 31)) >>> ((16 : Int32) &&& 31))
        else some a4)).bind (fun t3 : Int32 =>
      gd (inb (((24 : Int32) * a1) + a3) 96) (
      lt (up M (k0 + 20) (((24 : Int32) * a1) + a3).toNatClampNeg t3) (fun M6 : Mem =>
      some ((1 : Int32), M6))))
    else some (u2, M)))))
set_option maxHeartbeats 4000000 in
set_option maxRecDepth 100000 in
theorem c_X9_item (l : Launch) (G : Gx) (M : Mem) (L : MemL) (k0 : Nat) (a1 : Int32) (a2 : Int32) (a3 : Int32) (a4 : Int32) (hk0 : kd k0 = 20) {z : Int32 × Mem} (h : f_X9_item M k0 a1 a2 a3 a4 = some z) : Met l yX9_item (.code yX9_item cX9_item 6 (Option.some Jvm.ClassFile.FieldType.int) :: UW) rm_X9_item (va_Pc [.ref (ad G k0), .int a1, .int a2, .int a3, .int a4] (PreG G true M L)) (Qi G z.1 z.2 L) 0 0 (gA G) := by
  refine r_in (by decide) (fun p e s m args below meth c S hr d ha ls hl => ?_) (Nat.le_of_ble_eq_true rfl)
  have S : Sx G true p s m args meth c cX9_item 6 RX9 := S
  have hl : lv_has ls 6 [(0, .ref (ad G k0)), (1, .int a1), (2, .int a2), (3, .int a3), (4, .int a4)] := hl
  unfold f_X9_item at h
  refine lv_iload_n S.1 S.2.1 dX9_item_0 rfl (lv_at hl 1 rfl) ?_
  refine lv_iload_n S.1 S.2.1 dX9_item_1 rfl (lv_at hl 2 rfl) ?_
  obtain ⟨u1, hu1, h⟩ := bd_e h
  refine r_ri d (r_cS (As := [.int a1, .int a2]) (rest := []) S d (c_X9_isSheet l G M L a1 a2 hu1) ml_RX9_241 sm_yX9_isSheet in_RX9 co_yX9_isSheet hyS_X9_isSheet ⟨rfl, rfl⟩ ⟨by decide, by decide⟩ rfl hl rfl (Nat.le_of_ble_eq_true rfl) dX9_item_2 ⟨Nat.zero_le _, Nat.zero_le _⟩) (fun H locs d => ?_)
  refine lv_if_ne (tgt := 10) S.1 S.2.1 dX9_item_5 (by decide) (fun cc => ?_) (fun cc => ?_)
  · replace h := it_n cc h
    refine lv_aload_n S.1 S.2.1 dX9_item_10 rfl (lv_at hl 0 rfl) ?_
    refine lv_iload_n S.1 S.2.1 dX9_item_11 rfl (lv_at hl 1 rfl) ?_
    refine lv_iload_n S.1 S.2.1 dX9_item_12 rfl (lv_at hl 2 rfl) ?_
    refine lv_iload_n S.1 S.2.1 dX9_item_13 rfl (lv_at hl 3 rfl) ?_
    refine lv_iconst (v := 1) S.1 S.2.1 dX9_item_14 (by decide) ?_
    obtain ⟨u2, hu2, h⟩ := bd_e h
    refine r_ri d (r_cV (As := [.int a1, .int a2, .int a3, .int (1 : Int32)]) (rest := []) S d (c_X9_lacksRow l G M L k0 a1 a2 a3 (1 : Int32) hk0 hu2) (ksdM S hk0) (wc_20 hk0) rfl ml_RX9_244 im_yX9_lacksRow se_yX9_lacksRow in_RX9 co_yX9_lacksRow hyV_X9_lacksRow ⟨rfl, rfl⟩ ⟨by decide, by decide⟩ rfl hl rfl (Nat.le_of_ble_eq_true rfl) dX9_item_15 ⟨Nat.zero_le _, Nat.zero_le _⟩) (fun H locs d => ?_)
    refine lv_istore (lv' := [(5, .int u2), (0, .ref (ad G k0)), (1, .int a1), (2, .int a2), (3, .int a3), (4, .int a4)]) S.1 S.2.1 dX9_item_18 hl (by decide) rfl (fun ls hl => ?_)
    refine lv_iload S.1 S.2.1 dX9_item_20 (lv_at hl 0 rfl) ?_
    refine lv_if_ge (tgt := 28) S.1 S.2.1 dX9_item_22 (by decide) (fun cc => ?_) (fun cc => ?_)
    · replace h := it_p cc h
      refine lv_aload_n S.1 S.2.1 dX9_item_28 rfl (lv_at hl 1 rfl) ?_
      refine gf_20_26 S d hk0 fl_RX9_68 dX9_item_29 ?_
      refine lv_bipush (v := 24) S.1 S.2.1 dX9_item_32 (by decide) ?_
      refine lv_iload_n S.1 S.2.1 dX9_item_34 rfl (lv_at hl 2 rfl) ?_
      refine lv_imul S.1 S.2.1 dX9_item_35 ?_
      refine lv_iload_n S.1 S.2.1 dX9_item_36 rfl (lv_at hl 4 rfl) ?_
      refine lv_iadd S.1 S.2.1 dX9_item_37 ?_
      refine lv_iload_n S.1 S.2.1 dX9_item_38 rfl (lv_at hl 3 rfl) ?_
      obtain ⟨t3, g4, h⟩ := bd_e h
      have Jt3 : ∀ (H : Heap) (locs : List Loc), Dy G s M L H locs → W p l e rm_X9_item s m args below meth c H locs 0 0 (MQ below (Qi G z.1 z.2 L) args s 0 0 (gA G)) (F0 m 71 ls [.int t3, .int (((24 : Int32) * a1) + a3), .ref (ad G (k0 + 20))]) := by
        intro H locs d
        obtain ⟨g5, h⟩ := gd_e h
        obtain ⟨M6, eM6, h⟩ := lt_e h
        refine r_iast S d eM6 (ksdM S (ch_20_26 hk0).1) (fun _ => wc_21 (ch_20_26 hk0).1) (ch_20_26 hk0).2 g5 dX9_item_71 (fun H locs d => ?_)
        refine lv_iconst (v := 1) S.1 S.2.1 dX9_item_72 (by decide) ?_
        obtain rfl := Option.some.inj h
        exact r_iret S d hr rfl rfl dX9_item_73
      have h := g4
      refine lv_if_ne (tgt := 53) S.1 S.2.1 dX9_item_39 (by decide) (fun cc => ?_) (fun cc => ?_)
      · replace h := it_n cc h
        refine lv_iload_n S.1 S.2.1 dX9_item_53 rfl (lv_at hl 3 rfl) ?_
        refine lv_iconst (v := 1) S.1 S.2.1 dX9_item_54 (by decide) ?_
        refine lv_icmp_ne (tgt := 69) S.1 S.2.1 dX9_item_55 (by decide) (fun cc => ?_) (fun cc => ?_)
        · replace h := it_n cc h
          refine lv_iload S.1 S.2.1 dX9_item_69 (lv_at hl 5 rfl) ?_
          obtain ej := Option.some.inj h
          refine r_top ej.symm ?_
          exact Jt3 _ _ d
        · replace h := it_p cc h
          refine lv_iload S.1 S.2.1 dX9_item_58 (lv_at hl 5 rfl) ?_
          refine lv_bipush (v := 16) S.1 S.2.1 dX9_item_60 (by decide) ?_
          refine lv_ishl S.1 S.2.1 dX9_item_62 ?_
          refine lv_bipush (v := 16) S.1 S.2.1 dX9_item_63 (by decide) ?_
          refine lv_ishr S.1 S.2.1 dX9_item_65 ?_
          refine lv_goto (tgt := 71) S.1 S.2.1 dX9_item_66 (by decide) ?_
          obtain ej := Option.some.inj h
          refine r_top ej.symm ?_
          exact Jt3 _ _ d
      · replace h := it_p cc h
        refine lv_iload S.1 S.2.1 dX9_item_42 (lv_at hl 5 rfl) ?_
        refine lv_bipush (v := 24) S.1 S.2.1 dX9_item_44 (by decide) ?_
        refine lv_ishl S.1 S.2.1 dX9_item_46 ?_
        refine lv_bipush (v := 24) S.1 S.2.1 dX9_item_47 (by decide) ?_
        refine lv_ishr S.1 S.2.1 dX9_item_49 ?_
        refine lv_goto (tgt := 71) S.1 S.2.1 dX9_item_50 (by decide) ?_
        obtain ej := Option.some.inj h
        refine r_top ej.symm ?_
        exact Jt3 _ _ d
    · replace h := it_n cc h
      refine lv_iload S.1 S.2.1 dX9_item_25 (lv_at hl 0 rfl) ?_
      obtain rfl := Option.some.inj h
      exact r_iret S d hr rfl rfl dX9_item_27
  · replace h := it_p cc h
    refine lv_iconst (v := (-1)) S.1 S.2.1 dX9_item_8 (by decide) ?_
    obtain rfl := Option.some.inj h
    exact r_iret S d hr rfl rfl dX9_item_9
theorem hyV_X9_sow : yX9_sow.cls = RX9 ∧ yX9_sow.cls ≠ "java/lang/invoke/MethodHandle" ∧ yX9_sow.cls ≠ "java/lang/invoke/VarHandle" ∧ (parseMethodDescriptor yX9_sow.desc).map (fun d => d.parameters.length) = some 4 := by decide +kernel
abbrev rm_X9_sow : Room := { frames := 2, cells := 0, slots := 0, locals := 49 }
def lp_X9_sow_50 (fu : Nat) (M : Mem) (b0 : Nat) (b1 : Int32) (b6 : Int32) (K : Unit → Option (Int32 × Mem)) : Nat → Int32 → Option (Int32 × Mem)
  | 0, _ => none
  | n + 1, x7 =>
    (if (15 : Int32) ≤ x7 then (K ())
    else gd (inb (b6 + x7) 96) (
      (f_X9_in (((M (b0 + 20) (b6 + x7).toNatClampNeg)).toInt64) (0 : Int64) (9 : Int64)).bind (fun u6 =>
      (if u6 = 0 then some ((-2 : Int32), M)
      else lt (x7 + 1) (fun v7 : Int32 =>
        (lp_X9_sow_50 fu M b0 b1 b6 K n v7))))))
def lp_X9_sow_93 (fu : Nat) (b0 : Nat) (b1 : Int32) (b6 : Int32) (K : Int32 → Mem → Option (Int32 × Mem)) : Nat → Int32 → Int32 → Mem → Option (Int32 × Mem)
  | 0, _, _, _ => none
  | n + 1, x7, x8, Mx =>
    (if (15 : Int32) ≤ x8 then (K x7 Mx)
    else gd (inb (b6 + x8) 96) (
      gd (inb (((15 : Int32) * b1) + x8) 135) (
      lt (up Mx (b0 + 3) (((15 : Int32) * b1) + x8).toNatClampNeg (Mx (b0 + 20) (b6 + x8).toNatClampNeg)) (fun M10 : Mem =>
      gd (inb (b6 + x8) 96) (
      lt ((x7 + (M10 (b0 + 20) (b6 + x8).toNatClampNeg))) (fun v12 : Int32 =>
      lt (x8 + 1) (fun v13 : Int32 =>
      (lp_X9_sow_93 fu b0 b1 b6 K n v12 v13 M10))))))))
def f_X9_sow (fu : Nat) (M : Mem) (k0 : Nat) (a1 : Int32) (a2 : Int32) (a3 : Int32) (a4 : Int32) : Option (Int32 × Mem) :=
  (f_X9_isStrip M k0 a1).bind (fun u1 =>
  (if u1 = 0 then some ((-1 : Int32), M)
  else (f_X9_isSheet a2 a3).bind (fun u2 =>
    (if u2 = 0 then some ((-1 : Int32), M)
    else (f_X9_lacksRow M k0 a2 a3 a4 (15 : Int32)).bind (fun u3 =>
      (if 0 ≤ u3 then lt ((((24 : Int32) * a2) + a4)) (fun v4 : Int32 =>
        (lp_X9_sow_50 fu M k0 a1 v4 (fun (_ : Unit) =>
          (lp_X9_sow_93 fu k0 a1 v4 (fun (v14 : Int32) (M15 : Mem) =>
            some (v14, M15)) fu (0 : Int32) (0 : Int32) M)) fu (0 : Int32)))
      else some (u3, M)))))))
set_option maxHeartbeats 4000000 in
set_option maxRecDepth 100000 in
theorem lc_X9_sow_50 {p : Program} {l : Launch} {e : Env} {s : State} {m : MethodId} {args : Array Value} {below : List Frame} {meth : Method} {c : Code} {G : Gx} {M : Mem} {L : MemL} {fu : Nat} {b0 : Nat} {b1 : Int32} {b6 : Int32} {z : Int32 × Mem} (S : Sx G true p s m args meth c cX9_sow 9 RX9) (hr : meth.sig.returnType = (Option.some Jvm.ClassFile.FieldType.int)) (hb0 : kd b0 = 20) (K : Unit → Option (Int32 × Mem)) (hK : ∀ (_ : Unit) (H : Heap) (locs : List Loc), Dy G s M L H locs → ∀ ls : Array Slot, lv_has ls 9 [(0, .ref (ad G b0)), (1, .int b1), (6, .int b6)] → K () = some z → W p l e rm_X9_sow s m args below meth c H locs 0 0 (MQ below (Qi G z.1 z.2 L) args s 0 0 (gA G)) (F0 m 87 ls [])) :
    ∀ (n : Nat) (x7 : Int32), lp_X9_sow_50 fu M b0 b1 b6 K n x7 = some z → ∀ (H : Heap) (locs : List Loc), Dy G s M L H locs → ∀ ls : Array Slot, lv_has ls 9 [(0, .ref (ad G b0)), (1, .int b1), (6, .int b6), (7, .int x7)] → W p l e rm_X9_sow s m args below meth c H locs 0 0 (MQ below (Qi G z.1 z.2 L) args s 0 0 (gA G)) (F0 m 50 ls []) := by
  intro n
  induction n with
  | zero =>
    intro x7 h
    have h : (none : Option (Int32 × Mem)) = some z := h
    cases h
  | succ n ih =>
    intro x7 h H locs d ls hl
    rw [lp_X9_sow_50] at h
    refine lv_iload S.1 S.2.1 dX9_sow_50 (lv_at hl 3 rfl) ?_
    refine lv_bipush (v := 15) S.1 S.2.1 dX9_sow_52 (by decide) ?_
    refine lv_icmp_ge (tgt := 87) S.1 S.2.1 dX9_sow_54 (by decide) (fun cc => ?_) (fun cc => ?_)
    · replace h := it_p cc h
      exact hK () _ _ d _ (lv_sub hl [0, 1, 2] rfl) h
    · replace h := it_n cc h
      refine lv_aload_n S.1 S.2.1 dX9_sow_57 rfl (lv_at hl 0 rfl) ?_
      refine gf_20_26 S d hb0 fl_RX9_68 dX9_sow_58 ?_
      refine lv_iload S.1 S.2.1 dX9_sow_61 (lv_at hl 2 rfl) ?_
      refine lv_iload S.1 S.2.1 dX9_sow_63 (lv_at hl 3 rfl) ?_
      refine lv_iadd S.1 S.2.1 dX9_sow_65 ?_
      obtain ⟨g5, h⟩ := gd_e h
      refine r_iald S d (ksdM S (ch_20_26 hb0).1) (wc_21 (ch_20_26 hb0).1) (ch_20_26 hb0).2 g5 dX9_sow_66 ?_
      refine lv_i2l S.1 S.2.1 dX9_sow_67 rfl ?_
      refine lv_lconst (v := 0) S.1 S.2.1 dX9_sow_68 (by decide) ?_
      refine lv_ldc2 (v := 9) S.1 S.2.1 S.2.2.2.1 (S.uw cn_RX9_248) dX9_sow_69 ?_
      obtain ⟨u6, hu6, h⟩ := bd_e h
      refine r_ri d (r_cS (As := [.long (((M (b0 + 20) (b6 + x7).toNatClampNeg)).toInt64), .long (0 : Int64), .long (9 : Int64)]) (rest := []) S d (c_X9_in l G M L (((M (b0 + 20) (b6 + x7).toNatClampNeg)).toInt64) (0 : Int64) (9 : Int64) hu6) ml_RX9_75 sm_yX9_in in_RX9 co_yX9_in hyS_X9_in ⟨rfl, rfl⟩ ⟨by decide, by decide⟩ rfl hl rfl (Nat.le_of_ble_eq_true rfl) dX9_sow_72 ⟨Nat.zero_le _, Nat.zero_le _⟩) (fun H locs d => ?_)
      refine lv_if_ne (tgt := 81) S.1 S.2.1 dX9_sow_75 (by decide) (fun cc => ?_) (fun cc => ?_)
      · replace h := it_n cc h
        obtain ⟨v7, ev7, h⟩ := lt_e h
        refine lv_iinc (v := v7) (lv' := [(7, .int v7), (0, .ref (ad G b0)), (1, .int b1), (6, .int b6)]) S.1 S.2.1 dX9_sow_81 hl (k := 3) rfl (by rw [ev7]; rfl) (by decide) rfl (fun ls hl => ?_)
        refine lv_goto (tgt := 50) S.1 S.2.1 dX9_sow_84 (by decide) ?_
        exact ih _ h _ _ d _ (lv_sub hl [1, 2, 3, 0] rfl)
      · replace h := it_p cc h
        refine lv_bipush (v := (-2)) S.1 S.2.1 dX9_sow_78 (by decide) ?_
        obtain rfl := Option.some.inj h
        exact r_iret S d hr rfl rfl dX9_sow_80
set_option maxHeartbeats 4000000 in
set_option maxRecDepth 100000 in
theorem lc_X9_sow_93 {p : Program} {l : Launch} {e : Env} {s : State} {m : MethodId} {args : Array Value} {below : List Frame} {meth : Method} {c : Code} {G : Gx} {L : MemL} {fu : Nat} {b0 : Nat} {b1 : Int32} {b6 : Int32} {z : Int32 × Mem} (S : Sx G true p s m args meth c cX9_sow 9 RX9) (hr : meth.sig.returnType = (Option.some Jvm.ClassFile.FieldType.int)) (hb0 : kd b0 = 20) (K : Int32 → Mem → Option (Int32 × Mem)) (hK : ∀ (y7 : Int32) (My : Mem) (H : Heap) (locs : List Loc), Dy G s My L H locs → ∀ ls : Array Slot, lv_has ls 9 [(7, .int y7)] → K y7 My = some z → W p l e rm_X9_sow s m args below meth c H locs 0 0 (MQ below (Qi G z.1 z.2 L) args s 0 0 (gA G)) (F0 m 143 ls [])) :
    ∀ (n : Nat) (x7 : Int32) (x8 : Int32) (Mx : Mem), lp_X9_sow_93 fu b0 b1 b6 K n x7 x8 Mx = some z → ∀ (H : Heap) (locs : List Loc), Dy G s Mx L H locs → ∀ ls : Array Slot, lv_has ls 9 [(0, .ref (ad G b0)), (1, .int b1), (6, .int b6), (7, .int x7), (8, .int x8)] → W p l e rm_X9_sow s m args below meth c H locs 0 0 (MQ below (Qi G z.1 z.2 L) args s 0 0 (gA G)) (F0 m 93 ls []) := by
  intro n
  induction n with
  | zero =>
    intro x7 x8 Mx h
    have h : (none : Option (Int32 × Mem)) = some z := h
    cases h
  | succ n ih =>
    intro x7 x8 Mx h H locs d ls hl
    rw [lp_X9_sow_93] at h
    refine lv_iload S.1 S.2.1 dX9_sow_93 (lv_at hl 4 rfl) ?_
    refine lv_bipush (v := 15) S.1 S.2.1 dX9_sow_95 (by decide) ?_
    refine lv_icmp_ge (tgt := 143) S.1 S.2.1 dX9_sow_97 (by decide) (fun cc => ?_) (fun cc => ?_)
    · replace h := it_p cc h
      exact hK _ _ _ _ d _ (lv_sub hl [3] rfl) h
    · replace h := it_n cc h
      refine lv_aload_n S.1 S.2.1 dX9_sow_100 rfl (lv_at hl 0 rfl) ?_
      refine gf_20_2 S d hb0 fl_RX9_16 dX9_sow_101 ?_
      refine lv_bipush (v := 15) S.1 S.2.1 dX9_sow_104 (by decide) ?_
      refine lv_iload_n S.1 S.2.1 dX9_sow_106 rfl (lv_at hl 1 rfl) ?_
      refine lv_imul S.1 S.2.1 dX9_sow_107 ?_
      refine lv_iload S.1 S.2.1 dX9_sow_108 (lv_at hl 4 rfl) ?_
      refine lv_iadd S.1 S.2.1 dX9_sow_110 ?_
      refine lv_aload_n S.1 S.2.1 dX9_sow_111 rfl (lv_at hl 0 rfl) ?_
      refine gf_20_26 S d hb0 fl_RX9_68 dX9_sow_112 ?_
      refine lv_iload S.1 S.2.1 dX9_sow_115 (lv_at hl 2 rfl) ?_
      refine lv_iload S.1 S.2.1 dX9_sow_117 (lv_at hl 4 rfl) ?_
      refine lv_iadd S.1 S.2.1 dX9_sow_119 ?_
      obtain ⟨g8, h⟩ := gd_e h
      refine r_iald S d (ksdM S (ch_20_26 hb0).1) (wc_21 (ch_20_26 hb0).1) (ch_20_26 hb0).2 g8 dX9_sow_120 ?_
      obtain ⟨g9, h⟩ := gd_e h
      obtain ⟨M10, eM10, h⟩ := lt_e h
      refine r_iast S d eM10 (ksdM S (ch_20_2 hb0).1) (fun _ => wc_21 (ch_20_2 hb0).1) (ch_20_2 hb0).2 g9 dX9_sow_121 (fun H locs d => ?_)
      refine lv_iload S.1 S.2.1 dX9_sow_122 (lv_at hl 3 rfl) ?_
      refine lv_aload_n S.1 S.2.1 dX9_sow_124 rfl (lv_at hl 0 rfl) ?_
      refine gf_20_26 S d hb0 fl_RX9_68 dX9_sow_125 ?_
      refine lv_iload S.1 S.2.1 dX9_sow_128 (lv_at hl 2 rfl) ?_
      refine lv_iload S.1 S.2.1 dX9_sow_130 (lv_at hl 4 rfl) ?_
      refine lv_iadd S.1 S.2.1 dX9_sow_132 ?_
      obtain ⟨g11, h⟩ := gd_e h
      refine r_iald S d (ksdM S (ch_20_26 hb0).1) (wc_21 (ch_20_26 hb0).1) (ch_20_26 hb0).2 g11 dX9_sow_133 ?_
      refine lv_iadd S.1 S.2.1 dX9_sow_134 ?_
      obtain ⟨v12, ev12, h⟩ := lt_e h
      refine r_top ev12 ?_
      refine lv_istore (lv' := [(7, .int v12), (0, .ref (ad G b0)), (1, .int b1), (6, .int b6), (8, .int x8)]) S.1 S.2.1 dX9_sow_135 hl (by decide) rfl (fun ls hl => ?_)
      obtain ⟨v13, ev13, h⟩ := lt_e h
      refine lv_iinc (v := v13) (lv' := [(8, .int v13), (7, .int v12), (0, .ref (ad G b0)), (1, .int b1), (6, .int b6)]) S.1 S.2.1 dX9_sow_137 hl (k := 4) rfl (by rw [ev13]; rfl) (by decide) rfl (fun ls hl => ?_)
      refine lv_goto (tgt := 93) S.1 S.2.1 dX9_sow_140 (by decide) ?_
      exact ih _ _ _ h _ _ d _ (lv_sub hl [2, 3, 4, 1, 0] rfl)
set_option maxHeartbeats 4000000 in
set_option maxRecDepth 100000 in
theorem c_X9_sow (l : Launch) (G : Gx) (M : Mem) (L : MemL) (fu : Nat) (k0 : Nat) (a1 : Int32) (a2 : Int32) (a3 : Int32) (a4 : Int32) (hk0 : kd k0 = 20) {z : Int32 × Mem} (h : f_X9_sow fu M k0 a1 a2 a3 a4 = some z) : Met l yX9_sow (.code yX9_sow cX9_sow 9 (Option.some Jvm.ClassFile.FieldType.int) :: UW) rm_X9_sow (va_Pc [.ref (ad G k0), .int a1, .int a2, .int a3, .int a4] (PreG G true M L)) (Qi G z.1 z.2 L) 0 0 (gA G) := by
  refine r_in (by decide) (fun p e s m args below meth c S hr d ha ls hl => ?_) (Nat.le_of_ble_eq_true rfl)
  have S : Sx G true p s m args meth c cX9_sow 9 RX9 := S
  have hl : lv_has ls 9 [(0, .ref (ad G k0)), (1, .int a1), (2, .int a2), (3, .int a3), (4, .int a4)] := hl
  unfold f_X9_sow at h
  refine lv_aload_n S.1 S.2.1 dX9_sow_0 rfl (lv_at hl 0 rfl) ?_
  refine lv_iload_n S.1 S.2.1 dX9_sow_1 rfl (lv_at hl 1 rfl) ?_
  obtain ⟨u1, hu1, h⟩ := bd_e h
  refine r_ri d (r_cV (As := [.int a1]) (rest := []) S d (c_X9_isStrip l G M L k0 a1 hk0 hu1) (ksdM S hk0) (wc_20 hk0) rfl ml_RX9_94 im_yX9_isStrip se_yX9_isStrip in_RX9 co_yX9_isStrip hyV_X9_isStrip ⟨rfl, rfl⟩ ⟨by decide, by decide⟩ rfl hl rfl (Nat.le_of_ble_eq_true rfl) dX9_sow_2 ⟨Nat.zero_le _, Nat.zero_le _⟩) (fun H locs d => ?_)
  refine lv_if_eq (tgt := 16) S.1 S.2.1 dX9_sow_5 (by decide) (fun cc => ?_) (fun cc => ?_)
  · replace h := it_p cc h
    refine lv_iconst (v := (-1)) S.1 S.2.1 dX9_sow_16 (by decide) ?_
    obtain rfl := Option.some.inj h
    exact r_iret S d hr rfl rfl dX9_sow_17
  · replace h := it_n cc h
    refine lv_iload_n S.1 S.2.1 dX9_sow_8 rfl (lv_at hl 2 rfl) ?_
    refine lv_iload_n S.1 S.2.1 dX9_sow_9 rfl (lv_at hl 3 rfl) ?_
    obtain ⟨u2, hu2, h⟩ := bd_e h
    refine r_ri d (r_cS (As := [.int a2, .int a3]) (rest := []) S d (c_X9_isSheet l G M L a2 a3 hu2) ml_RX9_241 sm_yX9_isSheet in_RX9 co_yX9_isSheet hyS_X9_isSheet ⟨rfl, rfl⟩ ⟨by decide, by decide⟩ rfl hl rfl (Nat.le_of_ble_eq_true rfl) dX9_sow_10 ⟨Nat.zero_le _, Nat.zero_le _⟩) (fun H locs d => ?_)
    refine lv_if_ne (tgt := 18) S.1 S.2.1 dX9_sow_13 (by decide) (fun cc => ?_) (fun cc => ?_)
    · replace h := it_n cc h
      refine lv_aload_n S.1 S.2.1 dX9_sow_18 rfl (lv_at hl 0 rfl) ?_
      refine lv_iload_n S.1 S.2.1 dX9_sow_19 rfl (lv_at hl 2 rfl) ?_
      refine lv_iload_n S.1 S.2.1 dX9_sow_20 rfl (lv_at hl 3 rfl) ?_
      refine lv_iload S.1 S.2.1 dX9_sow_21 (lv_at hl 4 rfl) ?_
      refine lv_bipush (v := 15) S.1 S.2.1 dX9_sow_23 (by decide) ?_
      obtain ⟨u3, hu3, h⟩ := bd_e h
      refine r_ri d (r_cV (As := [.int a2, .int a3, .int a4, .int (15 : Int32)]) (rest := []) S d (c_X9_lacksRow l G M L k0 a2 a3 a4 (15 : Int32) hk0 hu3) (ksdM S hk0) (wc_20 hk0) rfl ml_RX9_244 im_yX9_lacksRow se_yX9_lacksRow in_RX9 co_yX9_lacksRow hyV_X9_lacksRow ⟨rfl, rfl⟩ ⟨by decide, by decide⟩ rfl hl rfl (Nat.le_of_ble_eq_true rfl) dX9_sow_25 ⟨Nat.zero_le _, Nat.zero_le _⟩) (fun H locs d => ?_)
      refine lv_istore (lv' := [(5, .int u3), (0, .ref (ad G k0)), (1, .int a1), (2, .int a2), (3, .int a3), (4, .int a4)]) S.1 S.2.1 dX9_sow_28 hl (by decide) rfl (fun ls hl => ?_)
      refine lv_iload S.1 S.2.1 dX9_sow_30 (lv_at hl 0 rfl) ?_
      refine lv_if_ge (tgt := 38) S.1 S.2.1 dX9_sow_32 (by decide) (fun cc => ?_) (fun cc => ?_)
      · replace h := it_p cc h
        refine lv_bipush (v := 24) S.1 S.2.1 dX9_sow_38 (by decide) ?_
        refine lv_iload_n S.1 S.2.1 dX9_sow_40 rfl (lv_at hl 3 rfl) ?_
        refine lv_imul S.1 S.2.1 dX9_sow_41 ?_
        refine lv_iload S.1 S.2.1 dX9_sow_42 (lv_at hl 5 rfl) ?_
        refine lv_iadd S.1 S.2.1 dX9_sow_44 ?_
        obtain ⟨v4, ev4, h⟩ := lt_e h
        refine r_top ev4 ?_
        refine lv_istore (lv' := [(6, .int v4), (5, .int u3), (0, .ref (ad G k0)), (1, .int a1), (2, .int a2), (3, .int a3), (4, .int a4)]) S.1 S.2.1 dX9_sow_45 hl (by decide) rfl (fun ls hl => ?_)
        refine lv_iconst (v := 0) S.1 S.2.1 dX9_sow_47 (by decide) ?_
        refine lv_istore (lv' := [(7, .int (0 : Int32)), (6, .int v4), (5, .int u3), (0, .ref (ad G k0)), (1, .int a1), (2, .int a2), (3, .int a3), (4, .int a4)]) S.1 S.2.1 dX9_sow_48 hl (by decide) rfl (fun ls hl => ?_)
        refine lc_X9_sow_50 S hr hk0 _ (fun _ H locs d ls hl h => ?_) _ _  h _ _ d _ (lv_sub hl [3, 4, 1, 0] rfl)
        refine lv_iconst (v := 0) S.1 S.2.1 dX9_sow_87 (by decide) ?_
        refine lv_istore (lv' := [(7, .int (0 : Int32)), (0, .ref (ad G k0)), (1, .int a1), (6, .int v4)]) S.1 S.2.1 dX9_sow_88 hl (by decide) rfl (fun ls hl => ?_)
        refine lv_iconst (v := 0) S.1 S.2.1 dX9_sow_90 (by decide) ?_
        refine lv_istore (lv' := [(8, .int (0 : Int32)), (7, .int (0 : Int32)), (0, .ref (ad G k0)), (1, .int a1), (6, .int v4)]) S.1 S.2.1 dX9_sow_91 hl (by decide) rfl (fun ls hl => ?_)
        refine lc_X9_sow_93 S hr hk0 _ (fun v14 M15 H locs d ls hl h => ?_) _ _ _ _  h _ _ d _ (lv_sub hl [2, 3, 4, 1, 0] rfl)
        refine lv_iload S.1 S.2.1 dX9_sow_143 (lv_at hl 0 rfl) ?_
        obtain rfl := Option.some.inj h
        exact r_iret S d hr rfl rfl dX9_sow_145
      · replace h := it_n cc h
        refine lv_iload S.1 S.2.1 dX9_sow_35 (lv_at hl 0 rfl) ?_
        obtain rfl := Option.some.inj h
        exact r_iret S d hr rfl rfl dX9_sow_37
    · replace h := it_p cc h
      refine lv_iconst (v := (-1)) S.1 S.2.1 dX9_sow_16 (by decide) ?_
      obtain rfl := Option.some.inj h
      exact r_iret S d hr rfl rfl dX9_sow_17
theorem hyV_X9_film : yX9_film.cls = RX9 ∧ yX9_film.cls ≠ "java/lang/invoke/MethodHandle" ∧ yX9_film.cls ≠ "java/lang/invoke/VarHandle" ∧ (parseMethodDescriptor yX9_film.desc).map (fun d => d.parameters.length) = some 3 := by decide +kernel
abbrev rm_X9_film : Room := { frames := 3, cells := 0, slots := 0, locals := 67 }
def lp_X9_film_34 (fu : Nat) (b0 : Nat) (b1 : Int32) (b3 : Int32) (K : Mem → Option (Int32 × Mem)) : Nat → Int32 → Mem → Option (Int32 × Mem)
  | 0, _, _ => none
  | n + 1, x5, Mx =>
    (if (Mx b0 7) ≤ x5 then (K Mx)
    else (f_X9_seenOf fu Mx b0 x5).bind (fun u3 =>
      (f_X9_readsAs fu Mx b0 u3).bind (fun u4 =>
      gd (inb ((((24 : Int32) * b1) + b3) + x5) 96) (
      lt (up Mx (b0 + 20) ((((24 : Int32) * b1) + b3) + x5).toNatClampNeg u4) (fun M6 : Mem =>
      lt (x5 + 1) (fun v7 : Int32 =>
      (lp_X9_film_34 fu b0 b1 b3 K n v7 M6)))))))
def f_X9_film (fu : Nat) (M : Mem) (k0 : Nat) (a1 : Int32) (a2 : Int32) (a3 : Int32) : Option (Int32 × Mem) :=
  (f_X9_isSheet a1 a2).bind (fun u1 =>
  (if u1 = 0 then some ((-1 : Int32), M)
  else (f_X9_lacksRow M k0 a1 a2 a3 (M k0 7)).bind (fun u2 =>
    (if 0 ≤ u2 then (lp_X9_film_34 fu k0 a1 a3 (fun (M8 : Mem) =>
        some ((M8 k0 7), M8)) fu (0 : Int32) M)
    else some (u2, M)))))
set_option maxHeartbeats 4000000 in
set_option maxRecDepth 100000 in
theorem lc_X9_film_34 {p : Program} {l : Launch} {e : Env} {s : State} {m : MethodId} {args : Array Value} {below : List Frame} {meth : Method} {c : Code} {G : Gx} {L : MemL} {fu : Nat} {b0 : Nat} {b1 : Int32} {b3 : Int32} {z : Int32 × Mem} (S : Sx G true p s m args meth c cX9_film 6 RX9) (hr : meth.sig.returnType = (Option.some Jvm.ClassFile.FieldType.int)) (hb0 : kd b0 = 20) (K : Mem → Option (Int32 × Mem)) (hK : ∀ (My : Mem) (H : Heap) (locs : List Loc), Dy G s My L H locs → ∀ ls : Array Slot, lv_has ls 6 [(0, .ref (ad G b0))] → K My = some z → W p l e rm_X9_film s m args below meth c H locs 0 0 (MQ below (Qi G z.1 z.2 L) args s 0 0 (gA G)) (F0 m 73 ls [])) :
    ∀ (n : Nat) (x5 : Int32) (Mx : Mem), lp_X9_film_34 fu b0 b1 b3 K n x5 Mx = some z → ∀ (H : Heap) (locs : List Loc), Dy G s Mx L H locs → ∀ ls : Array Slot, lv_has ls 6 [(0, .ref (ad G b0)), (1, .int b1), (3, .int b3), (5, .int x5)] → W p l e rm_X9_film s m args below meth c H locs 0 0 (MQ below (Qi G z.1 z.2 L) args s 0 0 (gA G)) (F0 m 34 ls []) := by
  intro n
  induction n with
  | zero =>
    intro x5 Mx h
    have h : (none : Option (Int32 × Mem)) = some z := h
    cases h
  | succ n ih =>
    intro x5 Mx h H locs d ls hl
    rw [lp_X9_film_34] at h
    refine lv_iload S.1 S.2.1 dX9_film_34 (lv_at hl 3 rfl) ?_
    refine lv_aload_n S.1 S.2.1 dX9_film_36 rfl (lv_at hl 0 rfl) ?_
    refine gf_20_7 S d hb0 fl_RX9_71 dX9_film_37 ?_
    refine lv_icmp_ge (tgt := 73) S.1 S.2.1 dX9_film_40 (by decide) (fun cc => ?_) (fun cc => ?_)
    · replace h := it_p cc h
      exact hK _ _ _ d _ (lv_sub hl [0] rfl) h
    · replace h := it_n cc h
      refine lv_aload_n S.1 S.2.1 dX9_film_43 rfl (lv_at hl 0 rfl) ?_
      refine gf_20_26 S d hb0 fl_RX9_68 dX9_film_44 ?_
      refine lv_bipush (v := 24) S.1 S.2.1 dX9_film_47 (by decide) ?_
      refine lv_iload_n S.1 S.2.1 dX9_film_49 rfl (lv_at hl 1 rfl) ?_
      refine lv_imul S.1 S.2.1 dX9_film_50 ?_
      refine lv_iload_n S.1 S.2.1 dX9_film_51 rfl (lv_at hl 2 rfl) ?_
      refine lv_iadd S.1 S.2.1 dX9_film_52 ?_
      refine lv_iload S.1 S.2.1 dX9_film_53 (lv_at hl 3 rfl) ?_
      refine lv_iadd S.1 S.2.1 dX9_film_55 ?_
      refine lv_aload_n S.1 S.2.1 dX9_film_56 rfl (lv_at hl 0 rfl) ?_
      refine lv_aload_n S.1 S.2.1 dX9_film_57 rfl (lv_at hl 0 rfl) ?_
      refine lv_iload S.1 S.2.1 dX9_film_58 (lv_at hl 3 rfl) ?_
      obtain ⟨u3, hu3, h⟩ := bd_e h
      refine r_ri d (r_cV (As := [.int x5]) (rest := [.ref (ad G b0), .int ((((24 : Int32) * b1) + b3) + x5), .ref (ad G (b0 + 20))]) S d (c_X9_seenOf l G Mx L fu b0 x5 hb0 hu3) (ksdM S hb0) (wc_20 hb0) rfl ml_RX9_104 im_yX9_seenOf se_yX9_seenOf in_RX9 co_yX9_seenOf hyV_X9_seenOf ⟨rfl, rfl⟩ ⟨by decide, by decide⟩ rfl hl rfl (Nat.le_of_ble_eq_true rfl) dX9_film_60 ⟨Nat.zero_le _, Nat.zero_le _⟩) (fun H locs d => ?_)
      obtain ⟨u4, hu4, h⟩ := bd_e h
      refine r_ri d (r_cV (As := [.int u3]) (rest := [.int ((((24 : Int32) * b1) + b3) + x5), .ref (ad G (b0 + 20))]) S d (c_X9_readsAs l G Mx L fu b0 u3 hb0 hu4) (ksdM S hb0) (wc_20 hb0) rfl ml_RX9_114 im_yX9_readsAs se_yX9_readsAs in_RX9 co_yX9_readsAs hyV_X9_readsAs ⟨rfl, rfl⟩ ⟨by decide, by decide⟩ rfl hl rfl (Nat.le_of_ble_eq_true rfl) dX9_film_63 ⟨Nat.zero_le _, Nat.zero_le _⟩) (fun H locs d => ?_)
      obtain ⟨g5, h⟩ := gd_e h
      obtain ⟨M6, eM6, h⟩ := lt_e h
      refine r_iast S d eM6 (ksdM S (ch_20_26 hb0).1) (fun _ => wc_21 (ch_20_26 hb0).1) (ch_20_26 hb0).2 g5 dX9_film_66 (fun H locs d => ?_)
      obtain ⟨v7, ev7, h⟩ := lt_e h
      refine lv_iinc (v := v7) (lv' := [(5, .int v7), (0, .ref (ad G b0)), (1, .int b1), (3, .int b3)]) S.1 S.2.1 dX9_film_67 hl (k := 3) rfl (by rw [ev7]; rfl) (by decide) rfl (fun ls hl => ?_)
      refine lv_goto (tgt := 34) S.1 S.2.1 dX9_film_70 (by decide) ?_
      exact ih _ _ h _ _ d _ (lv_sub hl [1, 2, 3, 0] rfl)
set_option maxHeartbeats 4000000 in
set_option maxRecDepth 100000 in
theorem c_X9_film (l : Launch) (G : Gx) (M : Mem) (L : MemL) (fu : Nat) (k0 : Nat) (a1 : Int32) (a2 : Int32) (a3 : Int32) (hk0 : kd k0 = 20) {z : Int32 × Mem} (h : f_X9_film fu M k0 a1 a2 a3 = some z) : Met l yX9_film (.code yX9_film cX9_film 6 (Option.some Jvm.ClassFile.FieldType.int) :: UW) rm_X9_film (va_Pc [.ref (ad G k0), .int a1, .int a2, .int a3] (PreG G true M L)) (Qi G z.1 z.2 L) 0 0 (gA G) := by
  refine r_in (by decide) (fun p e s m args below meth c S hr d ha ls hl => ?_) (Nat.le_of_ble_eq_true rfl)
  have S : Sx G true p s m args meth c cX9_film 6 RX9 := S
  have hl : lv_has ls 6 [(0, .ref (ad G k0)), (1, .int a1), (2, .int a2), (3, .int a3)] := hl
  unfold f_X9_film at h
  refine lv_iload_n S.1 S.2.1 dX9_film_0 rfl (lv_at hl 1 rfl) ?_
  refine lv_iload_n S.1 S.2.1 dX9_film_1 rfl (lv_at hl 2 rfl) ?_
  obtain ⟨u1, hu1, h⟩ := bd_e h
  refine r_ri d (r_cS (As := [.int a1, .int a2]) (rest := []) S d (c_X9_isSheet l G M L a1 a2 hu1) ml_RX9_241 sm_yX9_isSheet in_RX9 co_yX9_isSheet hyS_X9_isSheet ⟨rfl, rfl⟩ ⟨by decide, by decide⟩ rfl hl rfl (Nat.le_of_ble_eq_true rfl) dX9_film_2 ⟨Nat.zero_le _, Nat.zero_le _⟩) (fun H locs d => ?_)
  refine lv_if_ne (tgt := 10) S.1 S.2.1 dX9_film_5 (by decide) (fun cc => ?_) (fun cc => ?_)
  · replace h := it_n cc h
    refine lv_aload_n S.1 S.2.1 dX9_film_10 rfl (lv_at hl 0 rfl) ?_
    refine lv_iload_n S.1 S.2.1 dX9_film_11 rfl (lv_at hl 1 rfl) ?_
    refine lv_iload_n S.1 S.2.1 dX9_film_12 rfl (lv_at hl 2 rfl) ?_
    refine lv_iload_n S.1 S.2.1 dX9_film_13 rfl (lv_at hl 3 rfl) ?_
    refine lv_aload_n S.1 S.2.1 dX9_film_14 rfl (lv_at hl 0 rfl) ?_
    refine gf_20_7 S d hk0 fl_RX9_71 dX9_film_15 ?_
    obtain ⟨u2, hu2, h⟩ := bd_e h
    refine r_ri d (r_cV (As := [.int a1, .int a2, .int a3, .int (M k0 7)]) (rest := []) S d (c_X9_lacksRow l G M L k0 a1 a2 a3 (M k0 7) hk0 hu2) (ksdM S hk0) (wc_20 hk0) rfl ml_RX9_244 im_yX9_lacksRow se_yX9_lacksRow in_RX9 co_yX9_lacksRow hyV_X9_lacksRow ⟨rfl, rfl⟩ ⟨by decide, by decide⟩ rfl hl rfl (Nat.le_of_ble_eq_true rfl) dX9_film_18 ⟨Nat.zero_le _, Nat.zero_le _⟩) (fun H locs d => ?_)
    refine lv_istore (lv' := [(4, .int u2), (0, .ref (ad G k0)), (1, .int a1), (2, .int a2), (3, .int a3)]) S.1 S.2.1 dX9_film_21 hl (by decide) rfl (fun ls hl => ?_)
    refine lv_iload S.1 S.2.1 dX9_film_23 (lv_at hl 0 rfl) ?_
    refine lv_if_ge (tgt := 31) S.1 S.2.1 dX9_film_25 (by decide) (fun cc => ?_) (fun cc => ?_)
    · replace h := it_p cc h
      refine lv_iconst (v := 0) S.1 S.2.1 dX9_film_31 (by decide) ?_
      refine lv_istore (lv' := [(5, .int (0 : Int32)), (4, .int u2), (0, .ref (ad G k0)), (1, .int a1), (2, .int a2), (3, .int a3)]) S.1 S.2.1 dX9_film_32 hl (by decide) rfl (fun ls hl => ?_)
      refine lc_X9_film_34 S hr hk0 _ (fun M8 H locs d ls hl h => ?_) _ _ _  h _ _ d _ (lv_sub hl [2, 3, 5, 0] rfl)
      refine lv_aload_n S.1 S.2.1 dX9_film_73 rfl (lv_at hl 0 rfl) ?_
      refine gf_20_7 S d hk0 fl_RX9_71 dX9_film_74 ?_
      obtain rfl := Option.some.inj h
      exact r_iret S d hr rfl rfl dX9_film_77
    · replace h := it_n cc h
      refine lv_iload S.1 S.2.1 dX9_film_28 (lv_at hl 0 rfl) ?_
      obtain rfl := Option.some.inj h
      exact r_iret S d hr rfl rfl dX9_film_30
  · replace h := it_p cc h
    refine lv_iconst (v := (-1)) S.1 S.2.1 dX9_film_8 (by decide) ?_
    obtain rfl := Option.some.inj h
    exact r_iret S d hr rfl rfl dX9_film_9
