section LAW2
variable {p : Program} {l : Launch} {e : Env} {s : State} {m : MethodId} {args : Array Value} {below : List Frame} {meth : Method} {c : Code} {H : Heap} {locs : List Loc} {Q : State → Prop}
variable {ls : Array Slot} {D : va_G} {cid : Nat → ClassId} {A : Nat → Prop} {a : Nat → Nat} {b Ln i : Nat} {xs : Nat → Int32} {M M' : Mem} {L L' : MemL} {Z : Sg}
set_option maxRecDepth 100000 in
theorem lc_26 (X : LC D cid A a b Ln xs p s m args meth c) (I : LI Z M L M') (d : Hw D cid A a s M L M' L' H locs) (hl : lv_has ls 4 (lvL i a b)) (hi : i + 5 ≤ Ln) (hb : Ln ≤ 2560) (kk : ∀ (Z : Sg) (M : Mem) (L : MemL) (M' : Mem) (L' : MemL) (H : Heap) (locs : List Loc), LI Z M L M' → Hw D cid A a s M L M' L' H locs → W p l e room_1 s m args below meth c H locs 600000 7302250 Q (F0 m 1380 ls [])) : W p l e room_1 s m args below meth c H locs 600000 7302250 Q (F0 m 974 ls []) := by
  obtain ⟨hC, hg, hM⟩ := I
  refine lv_aload_n X.1.1 X.1.2.1 dL_law_974 rfl (lv_at hl 2 rfl) ?_
  refine lw_arg (k := 1) X d hl hi hb (by decide) (by decide) dL_law_975 dL_law_976 dL_law_977 dL_law_978 dL_law_979 ?_
  refine lw_arg (k := 2) X d hl hi hb (by decide) (by decide) dL_law_980 dL_law_981 dL_law_982 dL_law_983 dL_law_984 ?_
  refine lw_arg (k := 3) X d hl hi hb (by decide) (by decide) dL_law_985 dL_law_986 dL_law_987 dL_law_988 dL_law_989 ?_
  refine lw_c7 (As := [.int (xs (i + 1)), .int (xs (i + 2)), .int (xs (i + 3))]) X d hl (c_X7_share l (G7 D cid A a M' L') M L 40000 0 (xs (i + 1)) (xs (i + 2)) (xs (i + 3)) (by decide +kernel) (X7_share_ (fu := 40000) (by decide) hC (xs (i + 1)) (xs (i + 2)) (xs (i + 3)))) ml_RL_125 im_yX7_share se_yX7_share co_yX7_share hyV_X7_share ⟨rfl, rfl⟩ ⟨by decide, by decide⟩ rfl rfl dL_law_990 (fun H locs d => ?_)
  refine lv_aload_n X.1.1 X.1.2.1 dL_law_993 rfl (lv_at hl 1 rfl) ?_
  refine lw_arg (k := 1) X d hl hi hb (by decide) (by decide) dL_law_994 dL_law_995 dL_law_996 dL_law_997 dL_law_998 ?_
  refine lw_arg (k := 2) X d hl hi hb (by decide) (by decide) dL_law_999 dL_law_1000 dL_law_1001 dL_law_1002 dL_law_1003 ?_
  refine lw_arg (k := 3) X d hl hi hb (by decide) (by decide) dL_law_1004 dL_law_1005 dL_law_1006 dL_law_1007 dL_law_1008 ?_
  refine lw_c8 (As := [.int (xs (i + 1)), .int (xs (i + 2)), .int (xs (i + 3))]) X d hl (c_X8_share l (G8 D cid A a M L) M' L' 40000 179 (xs (i + 1)) (xs (i + 2)) (xs (i + 3)) (by decide +kernel) (X8_share_ (fu := 40000) (by decide) hM (xs (i + 1)) (xs (i + 2)) (xs (i + 3)))) ml_RL_128 im_yX8_share se_yX8_share co_yX8_share hyV_X8_share ⟨rfl, rfl⟩ ⟨by decide, by decide⟩ rfl rfl dL_law_1009 (fun H locs d => ?_)
  exact lv_icmp_eq (tgt := 1380) X.1.1 X.1.2.1 dL_law_1012 (by decide) (fun _ => kk _ _ _ _ _ _ _ ⟨hC, hg, hM⟩ d) (fun hq => absurd rfl hq)
set_option maxRecDepth 100000 in
theorem lc_27 (X : LC D cid A a b Ln xs p s m args meth c) (I : LI Z M L M') (d : Hw D cid A a s M L M' L' H locs) (hl : lv_has ls 4 (lvL i a b)) (hi : i + 5 ≤ Ln) (hb : Ln ≤ 2560) (kk : ∀ (Z : Sg) (M : Mem) (L : MemL) (M' : Mem) (L' : MemL) (H : Heap) (locs : List Loc), LI Z M L M' → Hw D cid A a s M L M' L' H locs → W p l e room_1 s m args below meth c H locs 600000 7302250 Q (F0 m 1380 ls [])) : W p l e room_1 s m args below meth c H locs 600000 7302250 Q (F0 m 1017 ls []) := by
  obtain ⟨hC, hg, hM⟩ := I
  refine lv_aload_n X.1.1 X.1.2.1 dL_law_1017 rfl (lv_at hl 2 rfl) ?_
  refine lw_arg (k := 1) X d hl hi hb (by decide) (by decide) dL_law_1018 dL_law_1019 dL_law_1020 dL_law_1021 dL_law_1022 ?_
  refine lw_arg (k := 2) X d hl hi hb (by decide) (by decide) dL_law_1023 dL_law_1024 dL_law_1025 dL_law_1026 dL_law_1027 ?_
  obtain ⟨M1, L1, eX7, rX7, gX7⟩ := X7_sure_ (fu := 40000) (by decide) (by decide +kernel) hC hg (xs (i + 1)) (xs (i + 2))
  refine lw_c7 (As := [.int (xs (i + 1)), .int (xs (i + 2))]) X d hl (c_X7_sure l (G7 D cid A a M' L') M L 40000 0 (xs (i + 1)) (xs (i + 2)) (by decide +kernel) eX7) ml_RL_129 im_yX7_sure se_yX7_sure co_yX7_sure hyV_X7_sure ⟨rfl, rfl⟩ ⟨by decide, by decide⟩ rfl rfl dL_law_1028 (fun H locs d => ?_)
  refine lv_aload_n X.1.1 X.1.2.1 dL_law_1031 rfl (lv_at hl 1 rfl) ?_
  refine lw_arg (k := 1) X d hl hi hb (by decide) (by decide) dL_law_1032 dL_law_1033 dL_law_1034 dL_law_1035 dL_law_1036 ?_
  refine lw_arg (k := 2) X d hl hi hb (by decide) (by decide) dL_law_1037 dL_law_1038 dL_law_1039 dL_law_1040 dL_law_1041 ?_
  obtain ⟨L2, eX8, -⟩ := X8_sure_ (fu := 40000) (by decide) hM (xs (i + 1)) (xs (i + 2))
  refine lw_c8 (As := [.int (xs (i + 1)), .int (xs (i + 2))]) X d hl (c_X8_sure l (G8 D cid A a M1 L1) M' L' 40000 179 (xs (i + 1)) (xs (i + 2)) (by decide +kernel) eX8) ml_RL_132 im_yX8_sure se_yX8_sure co_yX8_sure hyV_X8_sure ⟨rfl, rfl⟩ ⟨by decide, by decide⟩ rfl rfl dL_law_1042 (fun H locs d => ?_)
  exact lv_icmp_eq (tgt := 1380) X.1.1 X.1.2.1 dL_law_1045 (by decide) (fun _ => kk _ _ _ _ _ _ _ ⟨rX7, gX7, hM⟩ d) (fun hq => absurd rfl hq)
set_option maxRecDepth 100000 in
theorem lc_28 (X : LC D cid A a b Ln xs p s m args meth c) (I : LI Z M L M') (d : Hw D cid A a s M L M' L' H locs) (hl : lv_has ls 4 (lvL i a b)) (hi : i + 5 ≤ Ln) (hb : Ln ≤ 2560) (kk : ∀ (Z : Sg) (M : Mem) (L : MemL) (M' : Mem) (L' : MemL) (H : Heap) (locs : List Loc), LI Z M L M' → Hw D cid A a s M L M' L' H locs → W p l e room_1 s m args below meth c H locs 600000 7302250 Q (F0 m 1380 ls [])) : W p l e room_1 s m args below meth c H locs 600000 7302250 Q (F0 m 1050 ls []) := by
  obtain ⟨hC, hg, hM⟩ := I
  refine lv_aload_n X.1.1 X.1.2.1 dL_law_1050 rfl (lv_at hl 2 rfl) ?_
  refine lw_arg (k := 1) X d hl hi hb (by decide) (by decide) dL_law_1051 dL_law_1052 dL_law_1053 dL_law_1054 dL_law_1055 ?_
  refine lw_arg (k := 2) X d hl hi hb (by decide) (by decide) dL_law_1056 dL_law_1057 dL_law_1058 dL_law_1059 dL_law_1060 ?_
  obtain ⟨M1, L1, eX7, rX7, gX7⟩ := X7_taken_ (fu := 40000) (by decide) (by decide +kernel) hC hg (xs (i + 1)) (xs (i + 2))
  refine lw_c7 (As := [.int (xs (i + 1)), .int (xs (i + 2))]) X d hl (c_X7_taken l (G7 D cid A a M' L') M L 40000 0 (xs (i + 1)) (xs (i + 2)) (by decide +kernel) eX7) ml_RL_133 im_yX7_taken se_yX7_taken co_yX7_taken hyV_X7_taken ⟨rfl, rfl⟩ ⟨by decide, by decide⟩ rfl rfl dL_law_1061 (fun H locs d => ?_)
  refine lv_aload_n X.1.1 X.1.2.1 dL_law_1064 rfl (lv_at hl 1 rfl) ?_
  refine lw_arg (k := 1) X d hl hi hb (by decide) (by decide) dL_law_1065 dL_law_1066 dL_law_1067 dL_law_1068 dL_law_1069 ?_
  refine lw_arg (k := 2) X d hl hi hb (by decide) (by decide) dL_law_1070 dL_law_1071 dL_law_1072 dL_law_1073 dL_law_1074 ?_
  obtain ⟨L2, eX8, -⟩ := X8_taken_ (fu := 40000) (by decide) hM (xs (i + 1)) (xs (i + 2))
  refine lw_c8 (As := [.int (xs (i + 1)), .int (xs (i + 2))]) X d hl (c_X8_taken l (G8 D cid A a M1 L1) M' L' 40000 179 (xs (i + 1)) (xs (i + 2)) (by decide +kernel) eX8) ml_RL_136 im_yX8_taken se_yX8_taken co_yX8_taken hyV_X8_taken ⟨rfl, rfl⟩ ⟨by decide, by decide⟩ rfl rfl dL_law_1075 (fun H locs d => ?_)
  exact lv_icmp_eq (tgt := 1380) X.1.1 X.1.2.1 dL_law_1078 (by decide) (fun _ => kk _ _ _ _ _ _ _ ⟨rX7, gX7, hM⟩ d) (fun hq => absurd rfl hq)
set_option maxRecDepth 100000 in
theorem lc_29 (X : LC D cid A a b Ln xs p s m args meth c) (I : LI Z M L M') (d : Hw D cid A a s M L M' L' H locs) (hl : lv_has ls 4 (lvL i a b)) (hi : i + 5 ≤ Ln) (hb : Ln ≤ 2560) (kk : ∀ (Z : Sg) (M : Mem) (L : MemL) (M' : Mem) (L' : MemL) (H : Heap) (locs : List Loc), LI Z M L M' → Hw D cid A a s M L M' L' H locs → W p l e room_1 s m args below meth c H locs 600000 7302250 Q (F0 m 1380 ls [])) : W p l e room_1 s m args below meth c H locs 600000 7302250 Q (F0 m 1083 ls []) := by
  obtain ⟨hC, hg, hM⟩ := I
  refine lv_aload_n X.1.1 X.1.2.1 dL_law_1083 rfl (lv_at hl 2 rfl) ?_
  refine lw_arg (k := 1) X d hl hi hb (by decide) (by decide) dL_law_1084 dL_law_1085 dL_law_1086 dL_law_1087 dL_law_1088 ?_
  refine lw_arg (k := 2) X d hl hi hb (by decide) (by decide) dL_law_1089 dL_law_1090 dL_law_1091 dL_law_1092 dL_law_1093 ?_
  refine lw_c7 (As := [.int (xs (i + 1)), .int (xs (i + 2))]) X d hl (c_X7_fades l (G7 D cid A a M' L') M L 40000 0 (xs (i + 1)) (xs (i + 2)) (by decide +kernel) (X7_fades_ (fu := 40000) (by decide) hC (xs (i + 1)) (xs (i + 2)))) ml_RL_137 im_yX7_fades se_yX7_fades co_yX7_fades hyV_X7_fades ⟨rfl, rfl⟩ ⟨by decide, by decide⟩ rfl rfl dL_law_1094 (fun H locs d => ?_)
  refine lv_aload_n X.1.1 X.1.2.1 dL_law_1097 rfl (lv_at hl 1 rfl) ?_
  refine lw_arg (k := 1) X d hl hi hb (by decide) (by decide) dL_law_1098 dL_law_1099 dL_law_1100 dL_law_1101 dL_law_1102 ?_
  refine lw_arg (k := 2) X d hl hi hb (by decide) (by decide) dL_law_1103 dL_law_1104 dL_law_1105 dL_law_1106 dL_law_1107 ?_
  obtain ⟨M2, eX8, rX8⟩ := X8_fades_ (fu := 40000) (by decide) hM (xs (i + 1)) (xs (i + 2))
  refine lw_c8 (As := [.int (xs (i + 1)), .int (xs (i + 2))]) X d hl (c_X8_fades l (G8 D cid A a M L) M' L' 40000 179 (xs (i + 1)) (xs (i + 2)) (by decide +kernel) eX8) ml_RL_140 im_yX8_fades se_yX8_fades co_yX8_fades hyV_X8_fades ⟨rfl, rfl⟩ ⟨by decide, by decide⟩ rfl rfl dL_law_1108 (fun H locs d => ?_)
  exact lv_icmp_eq (tgt := 1380) X.1.1 X.1.2.1 dL_law_1111 (by decide) (fun _ => kk _ _ _ _ _ _ _ ⟨hC, hg, rX8⟩ d) (fun hq => absurd rfl hq)
set_option maxRecDepth 100000 in
theorem lc_30 (X : LC D cid A a b Ln xs p s m args meth c) (I : LI Z M L M') (d : Hw D cid A a s M L M' L' H locs) (hl : lv_has ls 4 (lvL i a b)) (hi : i + 5 ≤ Ln) (hb : Ln ≤ 2560) (kk : ∀ (Z : Sg) (M : Mem) (L : MemL) (M' : Mem) (L' : MemL) (H : Heap) (locs : List Loc), LI Z M L M' → Hw D cid A a s M L M' L' H locs → W p l e room_1 s m args below meth c H locs 600000 7302250 Q (F0 m 1380 ls [])) : W p l e room_1 s m args below meth c H locs 600000 7302250 Q (F0 m 1116 ls []) := by
  obtain ⟨hC, hg, hM⟩ := I
  refine lv_aload_n X.1.1 X.1.2.1 dL_law_1116 rfl (lv_at hl 2 rfl) ?_
  refine lw_arg (k := 1) X d hl hi hb (by decide) (by decide) dL_law_1117 dL_law_1118 dL_law_1119 dL_law_1120 dL_law_1121 ?_
  refine lw_c7 (As := [.int (xs (i + 1))]) X d hl (c_X7_brief l (G7 D cid A a M' L') M L 40000 0 (xs (i + 1)) (by decide +kernel) (X7_brief_ (fu := 40000) (by decide) hC (xs (i + 1)))) ml_RL_141 im_yX7_brief se_yX7_brief co_yX7_brief hyV_X7_brief ⟨rfl, rfl⟩ ⟨by decide, by decide⟩ rfl rfl dL_law_1122 (fun H locs d => ?_)
  refine lv_aload_n X.1.1 X.1.2.1 dL_law_1125 rfl (lv_at hl 1 rfl) ?_
  refine lw_arg (k := 1) X d hl hi hb (by decide) (by decide) dL_law_1126 dL_law_1127 dL_law_1128 dL_law_1129 dL_law_1130 ?_
  refine lw_c8 (As := [.int (xs (i + 1))]) X d hl (c_X8_brief l (G8 D cid A a M L) M' L' 40000 179 (xs (i + 1)) (by decide +kernel) (X8_brief_ (fu := 40000) (by decide) hM (xs (i + 1)))) ml_RL_144 im_yX8_brief se_yX8_brief co_yX8_brief hyV_X8_brief ⟨rfl, rfl⟩ ⟨by decide, by decide⟩ rfl rfl dL_law_1131 (fun H locs d => ?_)
  exact lv_icmp_eq (tgt := 1380) X.1.1 X.1.2.1 dL_law_1134 (by decide) (fun _ => kk _ _ _ _ _ _ _ ⟨hC, hg, hM⟩ d) (fun hq => absurd rfl hq)
set_option maxRecDepth 100000 in
theorem lc_31 (X : LC D cid A a b Ln xs p s m args meth c) (I : LI Z M L M') (d : Hw D cid A a s M L M' L' H locs) (hl : lv_has ls 4 (lvL i a b)) (hi : i + 5 ≤ Ln) (hb : Ln ≤ 2560) (kk : ∀ (Z : Sg) (M : Mem) (L : MemL) (M' : Mem) (L' : MemL) (H : Heap) (locs : List Loc), LI Z M L M' → Hw D cid A a s M L M' L' H locs → W p l e room_1 s m args below meth c H locs 600000 7302250 Q (F0 m 1380 ls [])) : W p l e room_1 s m args below meth c H locs 600000 7302250 Q (F0 m 1139 ls []) := by
  obtain ⟨hC, hg, hM⟩ := I
  refine lv_aload_n X.1.1 X.1.2.1 dL_law_1139 rfl (lv_at hl 2 rfl) ?_
  obtain ⟨M1, eX7, rX7⟩ := X7_image_ (fu := 40000) (by decide) hC
  refine lw_c7 (As := []) X d hl (c_X7_image l (G7 D cid A a M' L') M L 40000 0  (by decide +kernel) eX7) ml_RL_145 im_yX7_image se_yX7_image co_yX7_image hyV_X7_image ⟨rfl, rfl⟩ ⟨by decide, by decide⟩ rfl rfl dL_law_1140 (fun H locs d => ?_)
  refine lv_aload_n X.1.1 X.1.2.1 dL_law_1143 rfl (lv_at hl 1 rfl) ?_
  obtain ⟨M2, eX8, rX8⟩ := X8_image_ (fu := 40000) (by decide) hM
  refine lw_c8 (As := []) X d hl (c_X8_image l (G8 D cid A a M1 L) M' L' 40000 179  (by decide +kernel) eX8) ml_RL_148 im_yX8_image se_yX8_image co_yX8_image hyV_X8_image ⟨rfl, rfl⟩ ⟨by decide, by decide⟩ rfl rfl dL_law_1144 (fun H locs d => ?_)
  exact lv_icmp_eq (tgt := 1380) X.1.1 X.1.2.1 dL_law_1147 (by decide) (fun _ => kk _ _ _ _ _ _ _ ⟨rX7, hg, rX8⟩ d) (fun hq => absurd rfl hq)
set_option maxRecDepth 100000 in
theorem lc_32 (X : LC D cid A a b Ln xs p s m args meth c) (I : LI Z M L M') (d : Hw D cid A a s M L M' L' H locs) (hl : lv_has ls 4 (lvL i a b)) (hi : i + 5 ≤ Ln) (hb : Ln ≤ 2560) (kk : ∀ (Z : Sg) (M : Mem) (L : MemL) (M' : Mem) (L' : MemL) (H : Heap) (locs : List Loc), LI Z M L M' → Hw D cid A a s M L M' L' H locs → W p l e room_1 s m args below meth c H locs 600000 7302250 Q (F0 m 1380 ls [])) : W p l e room_1 s m args below meth c H locs 600000 7302250 Q (F0 m 1152 ls []) := by
  obtain ⟨hC, hg, hM⟩ := I
  refine lv_aload_n X.1.1 X.1.2.1 dL_law_1152 rfl (lv_at hl 2 rfl) ?_
  obtain ⟨M1, eX7, rX7⟩ := X7_restore_ (fu := 40000) (by decide) hC
  refine lw_c7 (As := []) X d hl (c_X7_restore l (G7 D cid A a M' L') M L 40000 0  (by decide +kernel) eX7) ml_RL_149 im_yX7_restore se_yX7_restore co_yX7_restore hyV_X7_restore ⟨rfl, rfl⟩ ⟨by decide, by decide⟩ rfl rfl dL_law_1153 (fun H locs d => ?_)
  refine lv_aload_n X.1.1 X.1.2.1 dL_law_1156 rfl (lv_at hl 1 rfl) ?_
  obtain ⟨M2, eX8, rX8⟩ := X8_restore_ (fu := 40000) (by decide) hM
  refine lw_c8 (As := []) X d hl (c_X8_restore l (G8 D cid A a M1 L) M' L' 40000 179  (by decide +kernel) eX8) ml_RL_152 im_yX8_restore se_yX8_restore co_yX8_restore hyV_X8_restore ⟨rfl, rfl⟩ ⟨by decide, by decide⟩ rfl rfl dL_law_1157 (fun H locs d => ?_)
  exact lv_icmp_eq (tgt := 1380) X.1.1 X.1.2.1 dL_law_1160 (by decide) (fun _ => kk _ _ _ _ _ _ _ ⟨rX7, hg, rX8⟩ d) (fun hq => absurd rfl hq)
set_option maxRecDepth 100000 in
theorem lc_33 (X : LC D cid A a b Ln xs p s m args meth c) (I : LI Z M L M') (d : Hw D cid A a s M L M' L' H locs) (hl : lv_has ls 4 (lvL i a b)) (hi : i + 5 ≤ Ln) (hb : Ln ≤ 2560) (kk : ∀ (Z : Sg) (M : Mem) (L : MemL) (M' : Mem) (L' : MemL) (H : Heap) (locs : List Loc), LI Z M L M' → Hw D cid A a s M L M' L' H locs → W p l e room_1 s m args below meth c H locs 600000 7302250 Q (F0 m 1380 ls [])) : W p l e room_1 s m args below meth c H locs 600000 7302250 Q (F0 m 1165 ls []) := by
  obtain ⟨hC, hg, hM⟩ := I
  refine lv_aload_n X.1.1 X.1.2.1 dL_law_1165 rfl (lv_at hl 2 rfl) ?_
  refine lw_arg (k := 1) X d hl hi hb (by decide) (by decide) dL_law_1166 dL_law_1167 dL_law_1168 dL_law_1169 dL_law_1170 ?_
  refine lw_arg (k := 2) X d hl hi hb (by decide) (by decide) dL_law_1171 dL_law_1172 dL_law_1173 dL_law_1174 dL_law_1175 ?_
  refine lw_arg (k := 3) X d hl hi hb (by decide) (by decide) dL_law_1176 dL_law_1177 dL_law_1178 dL_law_1179 dL_law_1180 ?_
  refine lw_arg (k := 4) X d hl hi hb (by decide) (by decide) dL_law_1181 dL_law_1182 dL_law_1183 dL_law_1184 dL_law_1185 ?_
  obtain ⟨M1, eX7, rX7⟩ := X7_sow_ (fu := 40000) (by decide) (by decide +kernel) hC (xs (i + 1)) (xs (i + 2)) (xs (i + 3)) (xs (i + 4))
  refine lw_c7 (As := [.int (xs (i + 1)), .int (xs (i + 2)), .int (xs (i + 3)), .int (xs (i + 4))]) X d hl (c_X7_sow l (G7 D cid A a M' L') M L 40000 0 (xs (i + 1)) (xs (i + 2)) (xs (i + 3)) (xs (i + 4)) (by decide +kernel) eX7) ml_RL_153 im_yX7_sow se_yX7_sow co_yX7_sow hyV_X7_sow ⟨rfl, rfl⟩ ⟨by decide, by decide⟩ rfl rfl dL_law_1186 (fun H locs d => ?_)
  refine lv_aload_n X.1.1 X.1.2.1 dL_law_1189 rfl (lv_at hl 1 rfl) ?_
  refine lw_arg (k := 1) X d hl hi hb (by decide) (by decide) dL_law_1190 dL_law_1191 dL_law_1192 dL_law_1193 dL_law_1194 ?_
  refine lw_arg (k := 2) X d hl hi hb (by decide) (by decide) dL_law_1195 dL_law_1196 dL_law_1197 dL_law_1198 dL_law_1199 ?_
  refine lw_arg (k := 3) X d hl hi hb (by decide) (by decide) dL_law_1200 dL_law_1201 dL_law_1202 dL_law_1203 dL_law_1204 ?_
  refine lw_arg (k := 4) X d hl hi hb (by decide) (by decide) dL_law_1205 dL_law_1206 dL_law_1207 dL_law_1208 dL_law_1209 ?_
  obtain ⟨M2, eX8, rX8⟩ := X8_sow_ (fu := 40000) (by decide) hM (xs (i + 1)) (xs (i + 2)) (xs (i + 3)) (xs (i + 4))
  refine lw_c8 (As := [.int (xs (i + 1)), .int (xs (i + 2)), .int (xs (i + 3)), .int (xs (i + 4))]) X d hl (c_X8_sow l (G8 D cid A a M1 L) M' L' 40000 179 (xs (i + 1)) (xs (i + 2)) (xs (i + 3)) (xs (i + 4)) (by decide +kernel) eX8) ml_RL_157 im_yX8_sow se_yX8_sow co_yX8_sow hyV_X8_sow ⟨rfl, rfl⟩ ⟨by decide, by decide⟩ rfl rfl dL_law_1210 (fun H locs d => ?_)
  exact lv_icmp_eq (tgt := 1380) X.1.1 X.1.2.1 dL_law_1213 (by decide) (fun _ => kk _ _ _ _ _ _ _ ⟨rX7, hg, rX8⟩ d) (fun hq => absurd rfl hq)
set_option maxRecDepth 100000 in
theorem lc_34 (X : LC D cid A a b Ln xs p s m args meth c) (I : LI Z M L M') (d : Hw D cid A a s M L M' L' H locs) (hl : lv_has ls 4 (lvL i a b)) (hi : i + 5 ≤ Ln) (hb : Ln ≤ 2560) (kk : ∀ (Z : Sg) (M : Mem) (L : MemL) (M' : Mem) (L' : MemL) (H : Heap) (locs : List Loc), LI Z M L M' → Hw D cid A a s M L M' L' H locs → W p l e room_1 s m args below meth c H locs 600000 7302250 Q (F0 m 1380 ls [])) : W p l e room_1 s m args below meth c H locs 600000 7302250 Q (F0 m 1218 ls []) := by
  obtain ⟨hC, hg, hM⟩ := I
  refine lv_aload_n X.1.1 X.1.2.1 dL_law_1218 rfl (lv_at hl 2 rfl) ?_
  refine lw_arg (k := 1) X d hl hi hb (by decide) (by decide) dL_law_1219 dL_law_1220 dL_law_1221 dL_law_1222 dL_law_1223 ?_
  refine lw_arg (k := 2) X d hl hi hb (by decide) (by decide) dL_law_1224 dL_law_1225 dL_law_1226 dL_law_1227 dL_law_1228 ?_
  refine lw_arg (k := 3) X d hl hi hb (by decide) (by decide) dL_law_1229 dL_law_1230 dL_law_1231 dL_law_1232 dL_law_1233 ?_
  obtain ⟨M1, eX7, rX7⟩ := X7_sheet_ (fu := 40000) (by decide) (by decide +kernel) hC (xs (i + 1)) (xs (i + 2)) (xs (i + 3))
  refine lw_c7 (As := [.int (xs (i + 1)), .int (xs (i + 2)), .int (xs (i + 3))]) X d hl (c_X7_sheet l (G7 D cid A a M' L') M L 40000 0 (xs (i + 1)) (xs (i + 2)) (xs (i + 3)) (by decide +kernel) eX7) ml_RL_158 im_yX7_sheet se_yX7_sheet co_yX7_sheet hyV_X7_sheet ⟨rfl, rfl⟩ ⟨by decide, by decide⟩ rfl rfl dL_law_1234 (fun H locs d => ?_)
  refine lv_aload_n X.1.1 X.1.2.1 dL_law_1237 rfl (lv_at hl 1 rfl) ?_
  refine lw_arg (k := 1) X d hl hi hb (by decide) (by decide) dL_law_1238 dL_law_1239 dL_law_1240 dL_law_1241 dL_law_1242 ?_
  refine lw_arg (k := 2) X d hl hi hb (by decide) (by decide) dL_law_1243 dL_law_1244 dL_law_1245 dL_law_1246 dL_law_1247 ?_
  refine lw_arg (k := 3) X d hl hi hb (by decide) (by decide) dL_law_1248 dL_law_1249 dL_law_1250 dL_law_1251 dL_law_1252 ?_
  obtain ⟨M2, eX8, rX8⟩ := X8_sheet_ (fu := 40000) (by decide) hM (xs (i + 1)) (xs (i + 2)) (xs (i + 3))
  refine lw_c8 (As := [.int (xs (i + 1)), .int (xs (i + 2)), .int (xs (i + 3))]) X d hl (c_X8_sheet l (G8 D cid A a M1 L) M' L' 40000 179 (xs (i + 1)) (xs (i + 2)) (xs (i + 3)) (by decide +kernel) eX8) ml_RL_161 im_yX8_sheet se_yX8_sheet co_yX8_sheet hyV_X8_sheet ⟨rfl, rfl⟩ ⟨by decide, by decide⟩ rfl rfl dL_law_1253 (fun H locs d => ?_)
  exact lv_icmp_eq (tgt := 1380) X.1.1 X.1.2.1 dL_law_1256 (by decide) (fun _ => kk _ _ _ _ _ _ _ ⟨rX7, hg, rX8⟩ d) (fun hq => absurd rfl hq)
set_option maxRecDepth 100000 in
theorem lc_35 (X : LC D cid A a b Ln xs p s m args meth c) (I : LI Z M L M') (d : Hw D cid A a s M L M' L' H locs) (hl : lv_has ls 4 (lvL i a b)) (hi : i + 5 ≤ Ln) (hb : Ln ≤ 2560) (kk : ∀ (Z : Sg) (M : Mem) (L : MemL) (M' : Mem) (L' : MemL) (H : Heap) (locs : List Loc), LI Z M L M' → Hw D cid A a s M L M' L' H locs → W p l e room_1 s m args below meth c H locs 600000 7302250 Q (F0 m 1380 ls [])) : W p l e room_1 s m args below meth c H locs 600000 7302250 Q (F0 m 1261 ls []) := by
  obtain ⟨hC, hg, hM⟩ := I
  refine lv_aload_n X.1.1 X.1.2.1 dL_law_1261 rfl (lv_at hl 2 rfl) ?_
  refine lw_arg (k := 1) X d hl hi hb (by decide) (by decide) dL_law_1262 dL_law_1263 dL_law_1264 dL_law_1265 dL_law_1266 ?_
  obtain ⟨M1, eX7, rX7⟩ := X7_drop_ hC (xs (i + 1))
  refine lw_c7 (As := [.int (xs (i + 1))]) X d hl (c_X7_drop l (G7 D cid A a M' L') M L 0 (xs (i + 1)) (by decide +kernel) eX7) ml_RL_162 im_yX7_drop se_yX7_drop co_yX7_drop hyV_X7_drop ⟨rfl, rfl⟩ ⟨by decide, by decide⟩ rfl rfl dL_law_1267 (fun H locs d => ?_)
  refine lv_aload_n X.1.1 X.1.2.1 dL_law_1270 rfl (lv_at hl 1 rfl) ?_
  refine lw_arg (k := 1) X d hl hi hb (by decide) (by decide) dL_law_1271 dL_law_1272 dL_law_1273 dL_law_1274 dL_law_1275 ?_
  obtain ⟨M2, eX8, rX8⟩ := X8_drop_ hM (xs (i + 1))
  refine lw_c8 (As := [.int (xs (i + 1))]) X d hl (c_X8_drop l (G8 D cid A a M1 L) M' L' 179 (xs (i + 1)) (by decide +kernel) eX8) ml_RL_165 im_yX8_drop se_yX8_drop co_yX8_drop hyV_X8_drop ⟨rfl, rfl⟩ ⟨by decide, by decide⟩ rfl rfl dL_law_1276 (fun H locs d => ?_)
  exact lv_icmp_eq (tgt := 1380) X.1.1 X.1.2.1 dL_law_1279 (by decide) (fun _ => kk _ _ _ _ _ _ _ ⟨rX7, hg, rX8⟩ d) (fun hq => absurd rfl hq)
set_option maxRecDepth 100000 in
theorem lc_36 (X : LC D cid A a b Ln xs p s m args meth c) (I : LI Z M L M') (d : Hw D cid A a s M L M' L' H locs) (hl : lv_has ls 4 (lvL i a b)) (hi : i + 5 ≤ Ln) (hb : Ln ≤ 2560) (kk : ∀ (Z : Sg) (M : Mem) (L : MemL) (M' : Mem) (L' : MemL) (H : Heap) (locs : List Loc), LI Z M L M' → Hw D cid A a s M L M' L' H locs → W p l e room_1 s m args below meth c H locs 600000 7302250 Q (F0 m 1380 ls [])) : W p l e room_1 s m args below meth c H locs 600000 7302250 Q (F0 m 1284 ls []) := by
  obtain ⟨hC, hg, hM⟩ := I
  refine lv_aload_n X.1.1 X.1.2.1 dL_law_1284 rfl (lv_at hl 2 rfl) ?_
  refine lw_arg (k := 1) X d hl hi hb (by decide) (by decide) dL_law_1285 dL_law_1286 dL_law_1287 dL_law_1288 dL_law_1289 ?_
  refine lw_arg (k := 2) X d hl hi hb (by decide) (by decide) dL_law_1290 dL_law_1291 dL_law_1292 dL_law_1293 dL_law_1294 ?_
  refine lw_arg (k := 3) X d hl hi hb (by decide) (by decide) dL_law_1295 dL_law_1296 dL_law_1297 dL_law_1298 dL_law_1299 ?_
  refine lw_arg (k := 4) X d hl hi hb (by decide) (by decide) dL_law_1300 dL_law_1301 dL_law_1302 dL_law_1303 dL_law_1304 ?_
  obtain ⟨M1, eX7, rX7⟩ := X7_item_ hC (xs (i + 1)) (xs (i + 2)) (xs (i + 3)) (xs (i + 4))
  refine lw_c7 (As := [.int (xs (i + 1)), .int (xs (i + 2)), .int (xs (i + 3)), .int (xs (i + 4))]) X d hl (c_X7_item l (G7 D cid A a M' L') M L 0 (xs (i + 1)) (xs (i + 2)) (xs (i + 3)) (xs (i + 4)) (by decide +kernel) eX7) ml_RL_166 im_yX7_item se_yX7_item co_yX7_item hyV_X7_item ⟨rfl, rfl⟩ ⟨by decide, by decide⟩ rfl rfl dL_law_1305 (fun H locs d => ?_)
  refine lv_aload_n X.1.1 X.1.2.1 dL_law_1308 rfl (lv_at hl 1 rfl) ?_
  refine lw_arg (k := 1) X d hl hi hb (by decide) (by decide) dL_law_1309 dL_law_1310 dL_law_1311 dL_law_1312 dL_law_1313 ?_
  refine lw_arg (k := 2) X d hl hi hb (by decide) (by decide) dL_law_1314 dL_law_1315 dL_law_1316 dL_law_1317 dL_law_1318 ?_
  refine lw_arg (k := 3) X d hl hi hb (by decide) (by decide) dL_law_1319 dL_law_1320 dL_law_1321 dL_law_1322 dL_law_1323 ?_
  refine lw_arg (k := 4) X d hl hi hb (by decide) (by decide) dL_law_1324 dL_law_1325 dL_law_1326 dL_law_1327 dL_law_1328 ?_
  obtain ⟨M2, eX8, rX8⟩ := X8_item_ hM (xs (i + 1)) (xs (i + 2)) (xs (i + 3)) (xs (i + 4))
  refine lw_c8 (As := [.int (xs (i + 1)), .int (xs (i + 2)), .int (xs (i + 3)), .int (xs (i + 4))]) X d hl (c_X8_item l (G8 D cid A a M1 L) M' L' 179 (xs (i + 1)) (xs (i + 2)) (xs (i + 3)) (xs (i + 4)) (by decide +kernel) eX8) ml_RL_169 im_yX8_item se_yX8_item co_yX8_item hyV_X8_item ⟨rfl, rfl⟩ ⟨by decide, by decide⟩ rfl rfl dL_law_1329 (fun H locs d => ?_)
  exact lv_icmp_eq (tgt := 1380) X.1.1 X.1.2.1 dL_law_1332 (by decide) (fun _ => kk _ _ _ _ _ _ _ ⟨rX7, hg, rX8⟩ d) (fun hq => absurd rfl hq)
set_option maxRecDepth 100000 in
theorem lc_37 (X : LC D cid A a b Ln xs p s m args meth c) (I : LI Z M L M') (d : Hw D cid A a s M L M' L' H locs) (hl : lv_has ls 4 (lvL i a b)) (hi : i + 5 ≤ Ln) (hb : Ln ≤ 2560) (kk : ∀ (Z : Sg) (M : Mem) (L : MemL) (M' : Mem) (L' : MemL) (H : Heap) (locs : List Loc), LI Z M L M' → Hw D cid A a s M L M' L' H locs → W p l e room_1 s m args below meth c H locs 600000 7302250 Q (F0 m 1380 ls [])) : W p l e room_1 s m args below meth c H locs 600000 7302250 Q (F0 m 1337 ls []) := by
  obtain ⟨hC, hg, hM⟩ := I
  refine lv_aload_n X.1.1 X.1.2.1 dL_law_1337 rfl (lv_at hl 2 rfl) ?_
  refine lw_arg (k := 1) X d hl hi hb (by decide) (by decide) dL_law_1338 dL_law_1339 dL_law_1340 dL_law_1341 dL_law_1342 ?_
  refine lw_arg (k := 2) X d hl hi hb (by decide) (by decide) dL_law_1343 dL_law_1344 dL_law_1345 dL_law_1346 dL_law_1347 ?_
  refine lw_arg (k := 3) X d hl hi hb (by decide) (by decide) dL_law_1348 dL_law_1349 dL_law_1350 dL_law_1351 dL_law_1352 ?_
  obtain ⟨M1, eX7, rX7⟩ := X7_film_ (fu := 40000) (by decide) hC (xs (i + 1)) (xs (i + 2)) (xs (i + 3))
  refine lw_c7 (As := [.int (xs (i + 1)), .int (xs (i + 2)), .int (xs (i + 3))]) X d hl (c_X7_film l (G7 D cid A a M' L') M L 40000 0 (xs (i + 1)) (xs (i + 2)) (xs (i + 3)) (by decide +kernel) eX7) ml_RL_170 im_yX7_film se_yX7_film co_yX7_film hyV_X7_film ⟨rfl, rfl⟩ ⟨by decide, by decide⟩ rfl rfl dL_law_1353 (fun H locs d => ?_)
  refine lv_aload_n X.1.1 X.1.2.1 dL_law_1356 rfl (lv_at hl 1 rfl) ?_
  refine lw_arg (k := 1) X d hl hi hb (by decide) (by decide) dL_law_1357 dL_law_1358 dL_law_1359 dL_law_1360 dL_law_1361 ?_
  refine lw_arg (k := 2) X d hl hi hb (by decide) (by decide) dL_law_1362 dL_law_1363 dL_law_1364 dL_law_1365 dL_law_1366 ?_
  refine lw_arg (k := 3) X d hl hi hb (by decide) (by decide) dL_law_1367 dL_law_1368 dL_law_1369 dL_law_1370 dL_law_1371 ?_
  obtain ⟨M2, eX8, rX8⟩ := X8_film_ (fu := 40000) (by decide) hM (xs (i + 1)) (xs (i + 2)) (xs (i + 3))
  refine lw_c8 (As := [.int (xs (i + 1)), .int (xs (i + 2)), .int (xs (i + 3))]) X d hl (c_X8_film l (G8 D cid A a M1 L) M' L' 40000 179 (xs (i + 1)) (xs (i + 2)) (xs (i + 3)) (by decide +kernel) eX8) ml_RL_173 im_yX8_film se_yX8_film co_yX8_film hyV_X8_film ⟨rfl, rfl⟩ ⟨by decide, by decide⟩ rfl rfl dL_law_1372 (fun H locs d => ?_)
  exact lv_icmp_eq (tgt := 1380) X.1.1 X.1.2.1 dL_law_1375 (by decide) (fun _ => kk _ _ _ _ _ _ _ ⟨rX7, hg, rX8⟩ d) (fun hq => absurd rfl hq)
end LAW2
